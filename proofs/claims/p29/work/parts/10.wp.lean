/-! WHAT A RUN OF THE ABSTRACT MACHINE COMES TO: Wp; its rules -/
theorem exec_more : ∀ (n m d k pc : Nat) (L S : List Value) (h : AH) (r : Option Value × AH), exec n d k pc L S h = some r → exec (n + m) d k pc L S h = some r
  | 0, _, _, _, _, _, _, _, _, e => by cases e
  | n + 1, m, d, k, pc, L, S, h, r, e => by
    rw [Nat.add_right_comm]
    unfold exec at e ⊢
    split at e
    · cases e
    · split at e
      · cases e
      · rename_i op hop q hq
        exact exec_more n m _ _ _ _ _ _ _ e
      · exact e
      · split at e
        · cases e
        · split at e
          · cases e
          · rename_i r1 h1
            rw [exec_more n m _ _ _ _ _ _ _ h1]
            exact exec_more n m _ _ _ _ _ _ _ e
def Wp (d k pc : Nat) (L S : List Value) (h : AH) (Q : Option Value → AH → Prop) : Prop := ∃ (n : Nat) (r : Option Value) (h' : AH), exec n d k pc L S h = some (r, h') ∧ Q r h'
/-- a call -/
def Cl (d j : Nat) (args : List Value) (h : AH) (Q : Option Value → AH → Prop) : Prop := Wp d j 0 (ini (mMax j) args) [] h Q
theorem Wp.mono {d k pc : Nat} {L S : List Value} {h : AH} {Q Q' : Option Value → AH → Prop} (H : Wp d k pc L S h Q) (hQ : ∀ r h', Q r h' → Q' r h') : Wp d k pc L S h Q' := by
  obtain ⟨n, r, h', he, hq⟩ := H
  exact ⟨n, r, h', he, hQ r h' hq⟩
theorem Cl.mono {d j : Nat} {args : List Value} {h : AH} {Q Q' : Option Value → AH → Prop} (H : Cl d j args h Q) (hQ : ∀ r h', Q r h' → Q' r h') : Cl d j args h Q' := Wp.mono H hQ
theorem Wp.step {d k pc : Nat} {L S : List Value} {h : AH} {Q : Option Value → AH → Prop} {op : OpE} {pc' : Nat} {L' S' : List Value} {h' : AH} (ho : opAt k pc = some op) (ha : act k pc op L S h = some (.inl (pc', L', S', h'))) (K : Wp d k pc' L' S' h' Q) : Wp d k pc L S h Q := by
  obtain ⟨n, r, h2, he, hq⟩ := K
  refine ⟨n + 1, r, h2, ?_, hq⟩
  unfold exec
  simp only [ho, ha]
  exact he
theorem Wp.ret {d k pc : Nat} {L S : List Value} {h : AH} {Q : Option Value → AH → Prop} {op : OpE} {r : Option Value} (ho : opAt k pc = some op) (ha : act k pc op L S h = some (.inr (.inr r))) (K : Q r h) : Wp d k pc L S h Q := by
  refine ⟨1, r, h, ?_, K⟩
  unfold exec
  simp only [ho, ha]
theorem Wp.call {d k pc : Nat} {L S : List Value} {h : AH} {Q : Option Value → AH → Prop} {op : OpE} {j : Nat} {as rest : List Value} (ho : opAt k pc = some op) (ha : act k pc op L S h = some (.inr (.inl (j, as, rest)))) (K : Cl d j as h (fun r h1 => Wp (d + 1) k (pc + 3) L (r.toList ++ rest) h1 Q)) : Wp (d + 1) k pc L S h Q := by
  obtain ⟨n, r, h1, he, n2, r2, h2, he2, hq⟩ := K
  refine ⟨n + n2 + 1, r2, h2, ?_, hq⟩
  unfold exec
  simp only [ho, ha]
  rw [exec_more n n2 _ _ _ _ _ _ _ he]
  dsimp only
  rw [Nat.add_comm]
  exact exec_more n2 n _ _ _ _ _ _ _ he2
theorem Wp.callI {d k pc pc' : Nat} {L S : List Value} {h : AH} {Q : Option Value → AH → Prop} {op : OpE} {j : Nat} {as rest : List Value} (ho : opAt k pc = some op) (ha : act k pc op L S h = some (.inr (.inl (j, as, rest)))) (hp : pc + 3 = pc') (K : Cl d j as h (fun r h1 => ∃ x : Int32, r = some (.int x) ∧ Wp (d + 1) k pc' L (.int x :: rest) h1 Q)) : Wp (d + 1) k pc L S h Q := by
  refine Wp.call ho ha (K.mono ?_)
  rintro _ h1 ⟨x, rfl, K⟩
  rw [hp]
  exact K
theorem Wp.callL {d k pc pc' : Nat} {L S : List Value} {h : AH} {Q : Option Value → AH → Prop} {op : OpE} {j : Nat} {as rest : List Value} (ho : opAt k pc = some op) (ha : act k pc op L S h = some (.inr (.inl (j, as, rest)))) (hp : pc + 3 = pc') (K : Cl d j as h (fun r h1 => ∃ x : Int64, r = some (.long x) ∧ Wp (d + 1) k pc' L (.long x :: rest) h1 Q)) : Wp (d + 1) k pc L S h Q := by
  refine Wp.call ho ha (K.mono ?_)
  rintro _ h1 ⟨x, rfl, K⟩
  rw [hp]
  exact K
theorem Wp.callV {d k pc pc' : Nat} {L S : List Value} {h : AH} {Q : Option Value → AH → Prop} {op : OpE} {j : Nat} {as rest : List Value} (ho : opAt k pc = some op) (ha : act k pc op L S h = some (.inr (.inl (j, as, rest)))) (hp : pc + 3 = pc') (K : Cl d j as h (fun r h1 => r = none ∧ Wp (d + 1) k pc' L rest h1 Q)) : Wp (d + 1) k pc L S h Q := by
  refine Wp.call ho ha (K.mono ?_)
  rintro _ h1 ⟨rfl, K⟩
  rw [hp]
  exact K
theorem Wp.callR {d k pc pc' : Nat} {L S : List Value} {h : AH} {Q : Option Value → AH → Prop} {op : OpE} {j : Nat} {as rest : List Value} (ho : opAt k pc = some op) (ha : act k pc op L S h = some (.inr (.inl (j, as, rest)))) (hp : pc + 3 = pc') (K : Cl d j as h (fun r h1 => (∃ i : Nat, r = some (.ref i) ∧ Wp (d + 1) k pc' L (.ref i :: rest) h1 Q) ∨ (r = some .null ∧ Wp (d + 1) k pc' L (.null :: rest) h1 Q))) : Wp (d + 1) k pc L S h Q := by
  refine Wp.call ho ha (K.mono ?_)
  rintro _ h1 (⟨x, rfl, K⟩ | ⟨rfl, K⟩)
  · rw [hp]
    exact K
  · rw [hp]
    exact K
theorem Wp.br {d k a b : Nat} {L S : List Value} {h : AH} {Q : Option Value → AH → Prop} {c : Prop} [Decidable c] (K1 : c → Wp d k a L S h Q) (K2 : ¬ c → Wp d k b L S h Q) : Wp d k (if c then a else b) L S h Q := by
  by_cases hc : c
  · rw [if_pos hc]
    exact K1 hc
  · rw [if_neg hc]
    exact K2 hc
theorem Wp.tsw {d k v t a : Nat} {x : Int32} {r : List (Nat × Nat)} {L S : List Value} {h : AH} {Q : Option Value → AH → Prop} (K1 : x = Int32.ofNat v → Wp d k t L S h Q) (K2 : ¬ x = Int32.ofNat v → Wp d k (tsw x r a) L S h Q) : Wp d k (tsw x ((v, t) :: r) a) L S h Q := Wp.br K1 K2
/-- a stretch of instructions -/
def runB (k : Nat) : List (Nat × OpE) → Nat → List Value → List Value → AH → Option St
  | [], pc, L, S, h => some (pc, L, S, h)
  | e :: r, pc, L, S, h => match act k pc e.2 L S h with
    | some (.inl q) => bif Nat.beq e.1 pc then runB k r q.1 q.2.1 q.2.2.1 q.2.2.2 else none
    | _ => none
def incP : List (Nat × OpE) → Bool
  | [] => true
  | a :: r => (match r with
    | [] => true
    | b :: _ => Nat.blt a.1 b.1) && incP r
theorem incP_lt : ∀ (l : List (Nat × OpE)) (a : Nat × OpE), incP (a :: l) = true → ∀ e ∈ l, a.1 < e.1
  | [], _, _, e, he => by cases he
  | b :: r, a, h, e, he => by
    unfold incP at h
    rw [Bool.and_eq_true] at h
    have h1 : a.1 < b.1 := Nat.le_of_ble_eq_true h.1
    rcases List.mem_cons.mp he with rfl | he
    · exact h1
    · exact Nat.lt_trans h1 (incP_lt r b h.2 e he)
theorem incP_at : ∀ (l : List (Nat × OpE)), incP l = true → ∀ e ∈ l, l.lookup e.1 = some e.2
  | [], _, e, he => by cases he
  | a :: r, h, e, he => by
    rcases List.mem_cons.mp he with rfl | he2
    · rw [List.lookup_cons, beq_self_eq_true]
    · have h1 := incP_lt r a h e he2
      have h2 : (e.1 == a.1) = false := beq_eq_false_iff_ne.mpr (by omega)
      rw [List.lookup_cons, h2]
      have h3 : incP r = true := by
        unfold incP at h
        rw [Bool.and_eq_true] at h
        exact h.2
      exact incP_at r h3 e he2
theorem incP_all : ∀ k, k < 205 → incP (opL k) = true := by decide +kernel
theorem op_mem {k : Nat} (hk : k < 205) {e : Nat × OpE} (he : e ∈ opL k) : opAt k e.1 = some e.2 := incP_at _ (incP_all k hk) e he
theorem op_ix {k : Nat} (hk : k < 205) {l : List (Nat × OpE)} (hl : opL k = l) (i : Nat) {pc : Nat} {op : OpE} (h : l[i]? = some (pc, op)) : opAt k pc = some op := op_mem hk (by rw [hl]; exact List.mem_of_getElem? h)
theorem Wp.run {d k : Nat} {Q : Option Value → AH → Prop} (hk : k < 205) : ∀ (l : List (Nat × OpE)) (pc : Nat) (L S : List Value) (h : AH) (pc' : Nat) (L' S' : List Value) (h' : AH), (∀ e ∈ l, e ∈ opL k) → runB k l pc L S h = some (pc', L', S', h') → Wp d k pc' L' S' h' Q → Wp d k pc L S h Q
  | [], pc, L, S, h, pc', L', S', h', _, hr, K => by
    cases hr
    exact K
  | e :: r, pc, L, S, h, pc', L', S', h', hl, hr, K => by
    unfold runB at hr
    split at hr
    · rename_i q hq
      cases hb : Nat.beq e.1 pc with
      | false => rw [hb] at hr; cases hr
      | true =>
        rw [hb, cond_true] at hr
        have hu2 := op_mem hk (hl e List.mem_cons_self)
        rw [Nat.eq_of_beq_eq_true hb] at hu2
        exact Wp.step (pc' := q.1) (L' := q.2.1) (S' := q.2.2.1) (h' := q.2.2.2) hu2 hq (Wp.run hk r _ _ _ _ _ _ _ _ (fun e he => hl e (List.mem_cons_of_mem _ he)) hr K)
    · cases hr
theorem Wp.blk {d k pc : Nat} {L S : List Value} {h : AH} {Q : Option Value → AH → Prop} {pc' : Nat} {L' S' : List Value} {h' : AH} {l : List (Nat × OpE)} (hk : k < 205) (hl : opL k = l) (i n : Nat) (hr : runB k ((l.drop i).take n) pc L S h = some (pc', L', S', h')) (K : Wp d k pc' L' S' h' Q) : Wp d k pc L S h Q := by
  refine Wp.run hk _ _ _ _ _ _ _ _ _ (fun e he => ?_) hr K
  rw [hl]
  exact List.mem_of_mem_drop (List.mem_of_mem_take he)
section WPH
variable {d k pc i : Nat} {L S : List Value} {h h' : AH} {Q : Option Value → AH → Prop}
theorem Wp.getf {idx b c pc' : Nat} {v : Value} (ho : opAt k pc = some (3, .getfield idx, (0, 0, b, c, []))) (hk : okC c (AK h i).1 = true) (hv : rdf (ftg c b) h i b = v) (hp : pc + 3 = pc') (K : Wp d k pc' L (v :: S) h Q) : Wp d k pc L (.ref i :: S) h Q := by
  refine Wp.step (L' := L) (S' := v :: S) (h' := h) (pc' := pc') ho ?_ K
  unfold act
  dsimp only
  rw [if_pos hk, hv, hp]
  rfl
theorem Wp.putf {idx b c pc' : Nat} {v : Value} (ho : opAt k pc = some (3, .putfield idx, (0, 0, b, c, []))) (h2 : 2 ≤ i) (hk : okC c (AK h i).1 = true) (hw : wrf (ftg c b) h i b v = some h') (hp : pc + 3 = pc') (K : Wp d k pc' L S h' Q) : Wp d k pc L (v :: .ref i :: S) h Q := by
  refine Wp.step (L' := L) (S' := S) (h' := h') (pc' := pc') ho ?_ K
  unfold act
  dsimp only
  rw [if_pos (by rw [hk, Nat.ble_eq_true_of_le h2]; rfl), hw]
  dsimp only
  rw [hp]
  rfl
theorem Wp.iald {pc' : Nat} {x : Int32} (ho : opAt k pc = some (1, .iaload, x0)) (hk : (AK h i).1 = 20) (hi : inR h i x = true) (hp : pc + 1 = pc') (K : Wp d k pc' L (.int (AI h i x.toNatClampNeg) :: S) h Q) : Wp d k pc L (.int x :: .ref i :: S) h Q := by
  refine Wp.step (L' := L) (S' := .int (AI h i x.toNatClampNeg) :: S) (h' := h) (pc' := pc') ho ?_ K
  unfold act ald
  dsimp only
  rw [if_pos (by rw [hk, hi]; rfl), hp]
  rfl
theorem Wp.bald {pc' : Nat} {x : Int32} (ho : opAt k pc = some (1, .baload, x0)) (hk : (AK h i).1 = 22 ∨ (AK h i).1 = 23) (hi : inR h i x = true) (hp : pc + 1 = pc') (K : Wp d k pc' L (.int (AI h i x.toNatClampNeg) :: S) h Q) : Wp d k pc L (.int x :: .ref i :: S) h Q := by
  refine Wp.step (L' := L) (S' := .int (AI h i x.toNatClampNeg) :: S) (h' := h) (pc' := pc') ho ?_ K
  unfold act ald
  dsimp only
  rw [if_pos (by rcases hk with hk | hk <;> rw [hk, hi] <;> rfl), hp]
  rfl
theorem Wp.lald {pc' : Nat} {x : Int32} (ho : opAt k pc = some (1, .laload, x0)) (hk : (AK h i).1 = 21) (hi : inR h i x = true) (hp : pc + 1 = pc') (K : Wp d k pc' L (.long (AL h i x.toNatClampNeg) :: S) h Q) : Wp d k pc L (.int x :: .ref i :: S) h Q := by
  refine Wp.step (L' := L) (S' := .long (AL h i x.toNatClampNeg) :: S) (h' := h) (pc' := pc') ho ?_ K
  unfold act ald
  dsimp only
  rw [if_pos (by rw [hk, hi]; rfl), hp]
  rfl
theorem Wp.aald {pc' : Nat} {x : Int32} {v : Value} (ho : opAt k pc = some (1, .aaload, x0)) (hk : (AK h i).1 = 24) (hi : inR h i x = true) (hv : va_rf (AR h i x.toNatClampNeg) = v) (hp : pc + 1 = pc') (K : Wp d k pc' L (v :: S) h Q) : Wp d k pc L (.int x :: .ref i :: S) h Q := by
  refine Wp.step (L' := L) (S' := v :: S) (h' := h) (pc' := pc') ho ?_ K
  unfold act ald
  dsimp only
  rw [if_pos (by rw [hk, hi]; rfl), hp, hv]
  rfl
theorem Wp.iast {pc' : Nat} {x y : Int32} (ho : opAt k pc = some (1, .iastore, x0)) (h2 : 2 ≤ i) (hk : (AK h i).1 = 20) (hi : inR h i x = true) (hp : pc + 1 = pc') (K : Wp d k pc' L S (stI h i x.toNatClampNeg y) Q) : Wp d k pc L (.int y :: .int x :: .ref i :: S) h Q := by
  refine Wp.step (L' := L) (S' := S) (h' := stI h i x.toNatClampNeg y) (pc' := pc') ho ?_ K
  unfold act ast
  dsimp only
  rw [if_pos (by rw [hk, hi, Nat.ble_eq_true_of_le h2]; rfl), hp]
  rfl
theorem Wp.zast {pc' : Nat} {x y : Int32} (ho : opAt k pc = some (1, .bastore, x0)) (h2 : 2 ≤ i) (hk : (AK h i).1 = 23) (hi : inR h i x = true) (hp : pc + 1 = pc') (K : Wp d k pc' L S (stI h i x.toNatClampNeg (vp_nar .boolean y)) Q) : Wp d k pc L (.int y :: .int x :: .ref i :: S) h Q := by
  refine Wp.step (L' := L) (S' := S) (h' := stI h i x.toNatClampNeg (vp_nar .boolean y)) (pc' := pc') ho ?_ K
  unfold act ast
  dsimp only
  rw [if_pos (by rw [hk, hi, Nat.ble_eq_true_of_le h2]; rfl), hp, hk]
  rfl
theorem Wp.bast {pc' : Nat} {x y : Int32} (ho : opAt k pc = some (1, .bastore, x0)) (h2 : 2 ≤ i) (hk : (AK h i).1 = 22) (hi : inR h i x = true) (hp : pc + 1 = pc') (K : Wp d k pc' L S (stI h i x.toNatClampNeg (vp_nar .byte y)) Q) : Wp d k pc L (.int y :: .int x :: .ref i :: S) h Q := by
  refine Wp.step (L' := L) (S' := S) (h' := stI h i x.toNatClampNeg (vp_nar .byte y)) (pc' := pc') ho ?_ K
  unfold act ast
  dsimp only
  rw [if_pos (by rw [hk, hi, Nat.ble_eq_true_of_le h2]; rfl), hp, hk]
  rfl
theorem Wp.last {pc' : Nat} {x : Int32} {y : Int64} (ho : opAt k pc = some (1, .lastore, x0)) (h2 : 2 ≤ i) (hk : (AK h i).1 = 21) (hi : inR h i x = true) (hp : pc + 1 = pc') (K : Wp d k pc' L S (stL h i x.toNatClampNeg y) Q) : Wp d k pc L (.long y :: .int x :: .ref i :: S) h Q := by
  refine Wp.step (L' := L) (S' := S) (h' := stL h i x.toNatClampNeg y) (pc' := pc') ho ?_ K
  unfold act ast
  dsimp only
  rw [if_pos (by rw [hk, hi, Nat.ble_eq_true_of_le h2]; rfl), hp]
  rfl
theorem Wp.alen {pc' : Nat} (ho : opAt k pc = some (1, .arraylength, x0)) (hk : (AK h i).1 = 20 ∨ (AK h i).1 = 21 ∨ (AK h i).1 = 24) (hp : pc + 1 = pc') (K : Wp d k pc' L (.int (Int32.ofNat (AK h i).2) :: S) h Q) : Wp d k pc L (.ref i :: S) h Q := by
  refine Wp.step (L' := L) (S' := .int (Int32.ofNat (AK h i).2) :: S) (h' := h) (pc' := pc') ho ?_ K
  unfold act
  dsimp only
  rw [if_pos (by rcases hk with hk | hk | hk <;> rw [hk] <;> rfl), hp]
  rfl
theorem Wp.div {pc' : Nat} {x y : Int32} (ho : opAt k pc = some (1, .idiv, x0)) (hn : ¬ y = 0) (hp : pc + 1 = pc') (K : Wp d k pc' L (.int (x / y) :: S) h Q) : Wp d k pc L (.int y :: .int x :: S) h Q := by
  refine Wp.step (L' := L) (S' := .int (x / y) :: S) (h' := h) (pc' := pc') ho ?_ K
  unfold act
  dsimp only
  rw [if_neg hn, hp]
  rfl
theorem Wp.rem {pc' : Nat} {x y : Int32} (ho : opAt k pc = some (1, .irem, x0)) (hn : ¬ y = 0) (hp : pc + 1 = pc') (K : Wp d k pc' L (.int (x - x / y * y) :: S) h Q) : Wp d k pc L (.int y :: .int x :: S) h Q := by
  refine Wp.step (L' := L) (S' := .int (x - x / y * y) :: S) (h' := h) (pc' := pc') ho ?_ K
  unfold act
  dsimp only
  rw [if_neg hn, hp]
  rfl
theorem Wp.divL {pc' : Nat} {x y : Int64} (ho : opAt k pc = some (1, .ldiv, x0)) (hn : ¬ y = 0) (hp : pc + 1 = pc') (K : Wp d k pc' L (.long (x / y) :: S) h Q) : Wp d k pc L (.long y :: .long x :: S) h Q := by
  refine Wp.step (L' := L) (S' := .long (x / y) :: S) (h' := h) (pc' := pc') ho ?_ K
  unfold act
  dsimp only
  rw [if_neg hn, hp]
  rfl
theorem Wp.remL {pc' : Nat} {x y : Int64} (ho : opAt k pc = some (1, .lrem, x0)) (hn : ¬ y = 0) (hp : pc + 1 = pc') (K : Wp d k pc' L (.long (x - x / y * y) :: S) h Q) : Wp d k pc L (.long y :: .long x :: S) h Q := by
  refine Wp.step (L' := L) (S' := .long (x - x / y * y) :: S) (h' := h) (pc' := pc') ho ?_ K
  unfold act
  dsimp only
  rw [if_neg hn, hp]
  rfl
/-- the answer of a method whose type is boolean -/
theorem Wp.retB {x : Int32} {n : Nat} {xi : XI} (ho : opAt k pc = some (n, .ireturn, xi)) (hm : mRet k = some .boolean) (hb : x = 0 ∨ x = 1) (K : Q (some (.int x)) h) : Wp d k pc L [.int x] h Q := by
  refine Wp.ret ho ?_ K
  unfold act retI
  dsimp only
  rw [hm]
  dsimp only
  rw [if_pos (by rcases hb with rfl | rfl <;> decide)]
end WPH
/-- fewer locals known -/
def lesL : List Value → List Value → Prop
  | [], [] => True
  | a :: l, b :: l' => (a = mk0 ∨ a = b) ∧ lesL l l'
  | _, _ => False
theorem lesL_refl : ∀ l, lesL l l
  | [] => trivial
  | _ :: l => ⟨Or.inr rfl, lesL_refl l⟩
theorem lesL_len : ∀ {l l' : List Value}, lesL l l' → l.length = l'.length
  | [], [], _ => rfl
  | a :: l, b :: l', h => congrArg Nat.succ (lesL_len h.2)
  | [], _ :: _, h => h.elim
  | _ :: _, [], h => h.elim
theorem lesL_at : ∀ {l l' : List Value} {i : Nat} {v : Value}, lesL l l' → l[i]? = some v → v ≠ mk0 → l'[i]? = some v
  | [], _, _, _, _, h, _ => by simp at h
  | a :: l, [], _, _, h, _, _ => h.elim
  | a :: l, b :: l', 0, v, h, hv, hn => by
    simp at hv ⊢
    rcases h.1 with z | z
    · exact absurd (hv.symm.trans z) hn
    · exact z.symm.trans hv
  | a :: l, b :: l', i + 1, v, h, hv, hn => by
    simp at hv ⊢
    exact lesL_at h.2 hv hn
theorem lesL_set : ∀ {l l' : List Value} (i : Nat) (v : Value), lesL l l' → lesL (l.set i v) (l'.set i v)
  | [], [], _, _, _ => trivial
  | a :: l, b :: l', 0, v, h => ⟨Or.inr rfl, h.2⟩
  | a :: l, b :: l', i + 1, v, h => ⟨h.1, lesL_set i v h.2⟩
  | [], _ :: _, _, _, h => h.elim
  | _ :: _, [], _, _, h => h.elim
theorem lesL_set0 : ∀ {l l' : List Value} (i : Nat), lesL l l' → lesL (l.set i mk0) l'
  | [], [], _, _ => trivial
  | a :: l, b :: l', 0, h => ⟨Or.inl rfl, h.2⟩
  | a :: l, b :: l', i + 1, h => ⟨h.1, lesL_set0 i h.2⟩
  | [], _ :: _, _, h => h.elim
  | _ :: _, [], _, h => h.elim
theorem lesL_un : ∀ {l l' : List Value} (i : Nat), lesL l l' → (∀ v, l[i]? = some v → v = mk0) → lesL l (l'.set i mk0)
  | [], [], _, _, _ => trivial
  | a :: l, b :: l', 0, h, hv => ⟨Or.inl (hv a rfl), h.2⟩
  | a :: l, b :: l', i + 1, h, hv => ⟨h.1, lesL_un i h.2 (fun v z => hv v (by simpa using z))⟩
  | [], _ :: _, _, h, _ => h.elim
  | _ :: _, [], _, h, _ => h.elim
theorem lesL_cln {l l' : List Value} (i : Nat) (h : lesL l l') : lesL (cln l i) (cln l' i) := by
  unfold cln
  cases i with
  | zero => exact h
  | succ j =>
    dsimp only
    cases hv : l[j]? with
    | none =>
      have hl := lesL_len h
      have : l'[j]? = none := by
        rw [List.getElem?_eq_none_iff] at hv ⊢
        omega
      rw [this]
      exact h
    | some v =>
      by_cases hm : v = mk0
      · subst hm
        have e1 : isLong (some mk0) = false := rfl
        rw [e1, cond_false]
        cases isLong l'[j]? with
        | false => exact h
        | true => exact lesL_un j h (fun w hw => by rw [hv] at hw; exact (Option.some.inj hw).symm)
      · rw [lesL_at h hv hm]
        cases isLong (some v) with
        | false => exact h
        | true => exact lesL_set j mk0 h
theorem lesL_sto1 {l l' : List Value} (i : Nat) (v : Value) (h : lesL l l') : lesL (sto1 l i v) (sto1 l' i v) := lesL_set i v (lesL_cln i h)
theorem lesL_sto2 {l l' : List Value} (i : Nat) (v : Value) (h : lesL l l') : lesL (sto2 l i v) (sto2 l' i v) := lesL_set (i + 1) mk0 (lesL_set i v (lesL_cln i h))
def locI (i : Instr) : Bool := match i with
  | .iload _ | .iload_n _ | .lload _ | .lload_n _ | .aload _ | .aload_n _ | .istore _ | .istore_n _ | .lstore _ | .lstore_n _ | .astore _ | .astore_n _ | .iinc _ _ => true
  | _ => false
def ActL (L : List Value) (a : Act) : Act := match a with
  | .inl q => .inl (q.1, L, q.2.2.1, q.2.2.2)
  | .inr z => .inr z
theorem act_relab {k pc : Nat} {op : OpE} {L L1 S : List Value} {h : AH} (hn : locI op.2.1 = false) : act k pc op L1 S h = (act k pc op L S h).map (ActL L1) := by
  obtain ⟨len, ins, vi, vl, b, c2, lst⟩ := op
  cases ins
  case ifCond cn off => cases cn <;> (unfold act; dsimp only; unfold brI; split <;> rfl)
  case if_icmp cn off => cases cn <;> (unfold act; dsimp only; unfold brII; split <;> rfl)
  case invokestatic n =>
    unfold act
    dsimp only
    cases hb9 : Nat.beq b 9001 <;> cases hb8 : Nat.beq b 9002 <;> simp only [cond_true, cond_false] <;> first | (unfold cal; (repeat' split) <;> rfl) | (unfold mmx; (repeat' split) <;> rfl)
  case invokespecial n =>
    unfold act
    dsimp only
    cases hb9 : Nat.beq b 9999 <;> simp only [cond_true, cond_false] <;> first | (unfold cal; (repeat' split) <;> rfl) | ((repeat' split) <;> rfl)
  all_goals first
    | (cases hn; done)
    | rfl
    | (unfold act
       dsimp only
       first | unfold bin | unfold binL | unfold shL | unfold un1 | unfold brI | unfold brII | unfold ald | unfold ast | unfold newA | unfold retI | unfold cal | skip
       (repeat' split) <;> rfl)
theorem act_les {k pc : Nat} {op : OpE} {L L1 S : List Value} {h : AH} {a : Act} (hl : lesL L L1) (ha : act k pc op L S h = some a) : ∃ L', act k pc op L1 S h = some (ActL L' a) ∧ ∀ q, a = .inl q → lesL q.2.1 L' := by
  cases hn : locI op.2.1 with
  | false =>
    refine ⟨L1, by rw [act_relab (L := L) hn, ha]; rfl, fun q hq => ?_⟩
    subst hq
    have hLs : q.2.1 = L := by
      have h1 := act_relab (k := k) (pc := pc) (L := L) (L1 := L) (S := S) (h := h) hn
      rw [ha] at h1
      have h2 := Option.some.inj h1
      have h3 := Sum.inl.inj h2
      rw [h3]
    rw [hLs]
    exact hl
  | true =>
    have hlen := lesL_len hl
    have nxL : ∀ {q : Nat} {L2 L3 S2 : List Value} {h2 : AH}, nx q L2 S2 h2 = some a → lesL L2 L3 → ∃ L', nx q L3 S2 h2 = some (ActL L' a) ∧ ∀ q, a = .inl q → lesL q.2.1 L' := fun e hl2 => by
      unfold nx at e
      cases e
      exact ⟨_, rfl, fun q hq => by cases hq; exact hl2⟩
    obtain ⟨len, ins, vi, vl, b, c2, lst⟩ := op
    unfold act at ha ⊢
    cases ins
    case iload i =>
      dsimp only at ha ⊢
      unfold loI at ha ⊢
      split at ha
      · rename_i x hx
        rw [lesL_at hl hx (fun z => by cases z)]
        exact nxL ha hl
      · cases ha
    case iload_n i =>
      dsimp only at ha ⊢
      unfold loI at ha ⊢
      split at ha
      · rename_i x hx
        rw [lesL_at hl hx (fun z => by cases z)]
        exact nxL ha hl
      · cases ha
    case lload i =>
      dsimp only at ha ⊢
      unfold loL at ha ⊢
      split at ha
      · rename_i x hx
        rw [lesL_at hl hx (fun z => by cases z)]
        exact nxL ha hl
      · cases ha
    case lload_n i =>
      dsimp only at ha ⊢
      unfold loL at ha ⊢
      split at ha
      · rename_i x hx
        rw [lesL_at hl hx (fun z => by cases z)]
        exact nxL ha hl
      · cases ha
    case aload i =>
      dsimp only at ha ⊢
      unfold loA at ha ⊢
      split at ha
      · rename_i x hx
        rw [lesL_at hl hx (fun z => by cases z)]
        exact nxL ha hl
      · rename_i hx
        rw [lesL_at hl hx (fun z => by cases z)]
        exact nxL ha hl
      · cases ha
    case aload_n i =>
      dsimp only at ha ⊢
      unfold loA at ha ⊢
      split at ha
      · rename_i x hx
        rw [lesL_at hl hx (fun z => by cases z)]
        exact nxL ha hl
      · rename_i hx
        rw [lesL_at hl hx (fun z => by cases z)]
        exact nxL ha hl
      · cases ha
    case istore i =>
      dsimp only at ha ⊢
      unfold soI at ha ⊢
      split at ha
      · split at ha
        · rename_i hlt
          rw [← hlen, if_pos hlt]
          exact nxL ha (lesL_sto1 _ _ hl)
        · cases ha
      · cases ha
    case istore_n i =>
      dsimp only at ha ⊢
      unfold soI at ha ⊢
      split at ha
      · split at ha
        · rename_i hlt
          rw [← hlen, if_pos hlt]
          exact nxL ha (lesL_sto1 _ _ hl)
        · cases ha
      · cases ha
    case lstore i =>
      dsimp only at ha ⊢
      unfold soL at ha ⊢
      split at ha
      · split at ha
        · rename_i hlt
          rw [← hlen, if_pos hlt]
          exact nxL ha (lesL_sto2 _ _ hl)
        · cases ha
      · cases ha
    case lstore_n i =>
      dsimp only at ha ⊢
      unfold soL at ha ⊢
      split at ha
      · split at ha
        · rename_i hlt
          rw [← hlen, if_pos hlt]
          exact nxL ha (lesL_sto2 _ _ hl)
        · cases ha
      · cases ha
    case astore i =>
      dsimp only at ha ⊢
      unfold soA at ha ⊢
      split at ha
      · split at ha
        · rename_i hlt
          rw [← hlen, if_pos hlt]
          exact nxL ha (lesL_sto1 _ _ hl)
        · cases ha
      · split at ha
        · rename_i hlt
          rw [← hlen, if_pos hlt]
          exact nxL ha (lesL_sto1 _ _ hl)
        · cases ha
      · cases ha
    case astore_n i =>
      dsimp only at ha ⊢
      unfold soA at ha ⊢
      split at ha
      · split at ha
        · rename_i hlt
          rw [← hlen, if_pos hlt]
          exact nxL ha (lesL_sto1 _ _ hl)
        · cases ha
      · split at ha
        · rename_i hlt
          rw [← hlen, if_pos hlt]
          exact nxL ha (lesL_sto1 _ _ hl)
        · cases ha
      · cases ha
    case iinc i n =>
      dsimp only at ha ⊢
      split at ha
      · rename_i x hx
        rw [lesL_at hl hx (fun z => by cases z)]
        exact nxL ha (lesL_sto1 _ _ hl)
      · cases ha
    all_goals (cases hn)
theorem exec_les : ∀ (n d k pc : Nat) (L L1 S : List Value) (h : AH) (r : Option Value × AH), lesL L L1 → exec n d k pc L S h = some r → exec n d k pc L1 S h = some r
  | 0, _, _, _, _, _, _, _, _, _, e => by cases e
  | n + 1, d, k, pc, L, L1, S, h, r, hl, e => by
    unfold exec at e ⊢
    split at e
    · cases e
    · split at e
      · cases e
      · rename_i op hop q hq
        obtain ⟨L', h1, h2⟩ := act_les hl hq
        rw [h1]
        exact exec_les n _ _ _ _ _ _ _ _ (h2 q rfl) e
      · rename_i op hop v hq
        obtain ⟨L', h1, h2⟩ := act_les hl hq
        rw [h1]
        exact e
      · rename_i op hop q hq
        obtain ⟨L', h1, h2⟩ := act_les hl hq
        rw [h1]
        dsimp only [ActL]
        split at e
        · cases e
        · split at e
          · cases e
          · rename_i r1 hr1
            exact exec_les n _ _ _ _ _ _ _ _ hl e
/-- locals may be forgotten -/
theorem Wp.forget {d k pc : Nat} {L L1 S : List Value} {h : AH} {Q : Option Value → AH → Prop} (hl : lesL L L1) (K : Wp d k pc L S h Q) : Wp d k pc L1 S h Q := by
  obtain ⟨n, r, h', he, hq⟩ := K
  exact ⟨n, r, h', exec_les n _ _ _ _ _ _ _ _ hl he, hq⟩
theorem ol_0 : opL 0 = op_0 := rfl
theorem ol_1 : opL 1 = op_1 := rfl
theorem ol_2 : opL 2 = op_2 := rfl
theorem ol_3 : opL 3 = op_3 := rfl
theorem ol_4 : opL 4 = op_4 := rfl
theorem ol_5 : opL 5 = op_5 := rfl
theorem ol_6 : opL 6 = op_6 := rfl
theorem ol_7 : opL 7 = op_7 := rfl
theorem ol_8 : opL 8 = op_8 := rfl
theorem ol_9 : opL 9 = op_9 := rfl
theorem ol_10 : opL 10 = op_10 := rfl
theorem ol_11 : opL 11 = op_11 := rfl
theorem ol_12 : opL 12 = op_12 := rfl
theorem ol_13 : opL 13 = op_13 := rfl
theorem ol_14 : opL 14 = op_14 := rfl
theorem ol_15 : opL 15 = op_15 := rfl
theorem ol_16 : opL 16 = op_16 := rfl
theorem ol_17 : opL 17 = op_17 := rfl
theorem ol_18 : opL 18 = op_18 := rfl
theorem ol_19 : opL 19 = op_19 := rfl
theorem ol_20 : opL 20 = op_20 := rfl
theorem ol_21 : opL 21 = op_21 := rfl
theorem ol_22 : opL 22 = op_22 := rfl
theorem ol_23 : opL 23 = op_23 := rfl
theorem ol_24 : opL 24 = op_24 := rfl
theorem ol_25 : opL 25 = op_25 := rfl
theorem ol_26 : opL 26 = op_26 := rfl
theorem ol_27 : opL 27 = op_27 := rfl
theorem ol_28 : opL 28 = op_28 := rfl
theorem ol_29 : opL 29 = op_29 := rfl
theorem ol_30 : opL 30 = op_30 := rfl
theorem ol_31 : opL 31 = op_31 := rfl
theorem ol_32 : opL 32 = op_32 := rfl
theorem ol_33 : opL 33 = op_33 := rfl
theorem ol_34 : opL 34 = op_34 := rfl
theorem ol_35 : opL 35 = op_35 := rfl
theorem ol_36 : opL 36 = op_36 := rfl
theorem ol_37 : opL 37 = op_37 := rfl
theorem ol_38 : opL 38 = op_38 := rfl
theorem ol_39 : opL 39 = op_39 := rfl
theorem ol_40 : opL 40 = op_40 := rfl
theorem ol_41 : opL 41 = op_41 := rfl
theorem ol_42 : opL 42 = op_42 := rfl
theorem ol_43 : opL 43 = op_43 := rfl
theorem ol_44 : opL 44 = op_44 := rfl
theorem ol_45 : opL 45 = op_45 := rfl
theorem ol_46 : opL 46 = op_46 := rfl
theorem ol_47 : opL 47 = op_47 := rfl
theorem ol_48 : opL 48 = op_48 := rfl
theorem ol_49 : opL 49 = op_49 := rfl
theorem ol_50 : opL 50 = op_50 := rfl
theorem ol_51 : opL 51 = op_51 := rfl
theorem ol_52 : opL 52 = op_52 := rfl
theorem ol_53 : opL 53 = op_53 := rfl
theorem ol_54 : opL 54 = op_54 := rfl
theorem ol_55 : opL 55 = op_55 := rfl
theorem ol_56 : opL 56 = op_56 := rfl
theorem ol_57 : opL 57 = op_57 := rfl
theorem ol_58 : opL 58 = op_58 := rfl
theorem ol_59 : opL 59 = op_59 := rfl
theorem ol_60 : opL 60 = op_60 := rfl
theorem ol_61 : opL 61 = op_61 := rfl
theorem ol_62 : opL 62 = op_62 := rfl
theorem ol_63 : opL 63 = op_63 := rfl
theorem ol_64 : opL 64 = op_64 := rfl
theorem ol_65 : opL 65 = op_65 := rfl
theorem ol_66 : opL 66 = op_66 := rfl
theorem ol_67 : opL 67 = op_67 := rfl
theorem ol_68 : opL 68 = op_68 := rfl
theorem ol_69 : opL 69 = op_69 := rfl
theorem ol_70 : opL 70 = op_70 := rfl
theorem ol_71 : opL 71 = op_71 := rfl
theorem ol_72 : opL 72 = op_72 := rfl
theorem ol_73 : opL 73 = op_73 := rfl
theorem ol_74 : opL 74 = op_74 := rfl
theorem ol_75 : opL 75 = op_75 := rfl
theorem ol_76 : opL 76 = op_76 := rfl
theorem ol_77 : opL 77 = op_77 := rfl
theorem ol_78 : opL 78 = op_78 := rfl
theorem ol_79 : opL 79 = op_79 := rfl
theorem ol_80 : opL 80 = op_80 := rfl
theorem ol_81 : opL 81 = op_81 := rfl
theorem ol_82 : opL 82 = op_82 := rfl
theorem ol_83 : opL 83 = op_83 := rfl
theorem ol_84 : opL 84 = op_84 := rfl
theorem ol_85 : opL 85 = op_85 := rfl
theorem ol_86 : opL 86 = op_86 := rfl
theorem ol_87 : opL 87 = op_87 := rfl
theorem ol_88 : opL 88 = op_88 := rfl
theorem ol_89 : opL 89 = op_89 := rfl
theorem ol_90 : opL 90 = op_90 := rfl
theorem ol_91 : opL 91 = op_91 := rfl
theorem ol_92 : opL 92 = op_92 := rfl
theorem ol_93 : opL 93 = op_93 := rfl
theorem ol_94 : opL 94 = op_94 := rfl
theorem ol_95 : opL 95 = op_95 := rfl
theorem ol_96 : opL 96 = op_96 := rfl
theorem ol_97 : opL 97 = op_97 := rfl
theorem ol_98 : opL 98 = op_98 := rfl
theorem ol_99 : opL 99 = op_99 := rfl
theorem ol_100 : opL 100 = op_100 := rfl
theorem ol_101 : opL 101 = op_101 := rfl
theorem ol_102 : opL 102 = op_102 := rfl
theorem ol_103 : opL 103 = op_103 := rfl
theorem ol_104 : opL 104 = op_104 := rfl
theorem ol_105 : opL 105 = op_105 := rfl
theorem ol_106 : opL 106 = op_106 := rfl
theorem ol_107 : opL 107 = op_107 := rfl
theorem ol_108 : opL 108 = op_108 := rfl
theorem ol_109 : opL 109 = op_109 := rfl
theorem ol_110 : opL 110 = op_110 := rfl
theorem ol_111 : opL 111 = op_111 := rfl
theorem ol_112 : opL 112 = op_112 := rfl
theorem ol_113 : opL 113 = op_113 := rfl
theorem ol_114 : opL 114 = op_114 := rfl
theorem ol_115 : opL 115 = op_115 := rfl
theorem ol_116 : opL 116 = op_116 := rfl
theorem ol_117 : opL 117 = op_117 := rfl
theorem ol_118 : opL 118 = op_118 := rfl
theorem ol_119 : opL 119 = op_119 := rfl
theorem ol_120 : opL 120 = op_120 := rfl
theorem ol_121 : opL 121 = op_121 := rfl
theorem ol_122 : opL 122 = op_122 := rfl
theorem ol_123 : opL 123 = op_123 := rfl
theorem ol_124 : opL 124 = op_124 := rfl
theorem ol_125 : opL 125 = op_125 := rfl
theorem ol_126 : opL 126 = op_126 := rfl
theorem ol_127 : opL 127 = op_127 := rfl
theorem ol_128 : opL 128 = op_128 := rfl
theorem ol_129 : opL 129 = op_129 := rfl
theorem ol_130 : opL 130 = op_130 := rfl
theorem ol_131 : opL 131 = op_131 := rfl
theorem ol_132 : opL 132 = op_132 := rfl
theorem ol_133 : opL 133 = op_133 := rfl
theorem ol_134 : opL 134 = op_134 := rfl
theorem ol_135 : opL 135 = op_135 := rfl
theorem ol_136 : opL 136 = op_136 := rfl
theorem ol_137 : opL 137 = op_137 := rfl
theorem ol_138 : opL 138 = op_138 := rfl
theorem ol_139 : opL 139 = op_139 := rfl
theorem ol_140 : opL 140 = op_140 := rfl
theorem ol_141 : opL 141 = op_141 := rfl
theorem ol_142 : opL 142 = op_142 := rfl
theorem ol_143 : opL 143 = op_143 := rfl
theorem ol_144 : opL 144 = op_144 := rfl
theorem ol_145 : opL 145 = op_145 := rfl
theorem ol_146 : opL 146 = op_146 := rfl
theorem ol_147 : opL 147 = op_147 := rfl
theorem ol_148 : opL 148 = op_148 := rfl
theorem ol_149 : opL 149 = op_149 := rfl
theorem ol_150 : opL 150 = op_150 := rfl
theorem ol_151 : opL 151 = op_151 := rfl
theorem ol_152 : opL 152 = op_152 := rfl
theorem ol_153 : opL 153 = op_153 := rfl
theorem ol_154 : opL 154 = op_154 := rfl
theorem ol_155 : opL 155 = op_155 := rfl
theorem ol_156 : opL 156 = op_156 := rfl
theorem ol_157 : opL 157 = op_157 := rfl
theorem ol_158 : opL 158 = op_158 := rfl
theorem ol_159 : opL 159 = op_159 := rfl
theorem ol_160 : opL 160 = op_160 := rfl
theorem ol_161 : opL 161 = op_161 := rfl
theorem ol_162 : opL 162 = op_162 := rfl
theorem ol_163 : opL 163 = op_163 := rfl
theorem ol_164 : opL 164 = op_164 := rfl
theorem ol_165 : opL 165 = op_165 := rfl
theorem ol_166 : opL 166 = op_166 := rfl
theorem ol_167 : opL 167 = op_167 := rfl
theorem ol_168 : opL 168 = op_168 := rfl
theorem ol_169 : opL 169 = op_169 := rfl
theorem ol_170 : opL 170 = op_170 := rfl
theorem ol_171 : opL 171 = op_171 := rfl
theorem ol_172 : opL 172 = op_172 := rfl
theorem ol_173 : opL 173 = op_173 := rfl
theorem ol_174 : opL 174 = op_174 := rfl
theorem ol_175 : opL 175 = op_175 := rfl
theorem ol_176 : opL 176 = op_176 := rfl
theorem ol_177 : opL 177 = op_177 := rfl
theorem ol_178 : opL 178 = op_178 := rfl
theorem ol_179 : opL 179 = op_179 := rfl
theorem ol_180 : opL 180 = op_180 := rfl
theorem ol_181 : opL 181 = op_181 := rfl
theorem ol_182 : opL 182 = op_182 := rfl
theorem ol_183 : opL 183 = op_183 := rfl
theorem ol_184 : opL 184 = op_184 := rfl
theorem ol_185 : opL 185 = op_185 := rfl
theorem ol_186 : opL 186 = op_186 := rfl
theorem ol_187 : opL 187 = op_187 := rfl
theorem ol_188 : opL 188 = op_188 := rfl
theorem ol_189 : opL 189 = op_189 := rfl
theorem ol_190 : opL 190 = op_190 := rfl
theorem ol_191 : opL 191 = op_191 := rfl
theorem ol_192 : opL 192 = op_192 := rfl
theorem ol_193 : opL 193 = op_193 := rfl
theorem ol_194 : opL 194 = op_194 := rfl
theorem ol_195 : opL 195 = op_195 := rfl
theorem ol_196 : opL 196 = op_196 := rfl
theorem ol_197 : opL 197 = op_197 := rfl
theorem ol_198 : opL 198 = op_198 := rfl
theorem ol_199 : opL 199 = op_199 := rfl
theorem ol_200 : opL 200 = op_200 := rfl
theorem ol_201 : opL 201 = op_201 := rfl
theorem ol_202 : opL 202 = op_202 := rfl
theorem ol_203 : opL 203 = op_203 := rfl
theorem ol_204 : opL 204 = op_204 := rfl
