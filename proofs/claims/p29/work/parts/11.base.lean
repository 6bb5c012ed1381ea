/-! the known objects, and what calls of the smallest methods do -/
def K0l : List (Nat × Nat) := [(1000, 0), (1000, 0), (11, 13), (6, 3), (20, 50), (5, 8), (20, 10), (20, 10), (20, 10), (20, 10), (20, 1024), (10, 6), (20, 9), (10, 6), (20, 9), (10, 6), (20, 9), (8, 5), (20, 1024), (21, 3691), (9, 2), (3, 1), (24, 5), (20, 22), (20, 12), (20, 12), (1000, 0), (1000, 0), (1000, 0), (1000, 0), (1000, 0), (1000, 0), (1000, 0), (1000, 0), (1000, 0), (1000, 0), (1000, 0), (1000, 0), (1000, 0), (1000, 0), (1000, 0), (1000, 0), (1000, 0), (1000, 0), (1000, 0), (1000, 0), (21, 19683)]
def K0 (i : Nat) : Nat × Nat := K0l.getD i (1000, 0)
def R0l : List (List (Option Nat)) := [[], [], [some 3, some 5, some 11, some 13, some 15, some 17, some 20, some 21, some 22], [some 4], [], [some 6, some 7, some 8, some 9, some 10], [], [], [], [], [], [some 5, some 12], [], [some 5, some 14], [], [some 5, some 16], [], [some 5, some 18, some 19, some 46], [], [], [some 5, some 17], [], []]
def R0 (i b : Nat) : Option Nat := (R0l.getD i []).getD b none
/-- the objects that the two constructors made stand -/
def Sh (h : AH) : Prop := 27 ≤ AN h ∧ (∀ i, (K0 i).1 ≠ 1000 → AK h i = K0 i) ∧ ∀ i b v, R0 i b = some v → AR h i b = some v
theorem Sh.of {h h' : AH} (hs : Sh h) (e1 : AN h' = AN h) (e2 : AK h' = AK h) (e3 : AR h' = AR h) : Sh h' := ⟨by rw [e1]; exact hs.1, by rw [e2]; exact hs.2.1, by rw [e3]; exact hs.2.2⟩
def kn0 (i : Nat) : Bool := Nat.ble 1000 (K0 i).1 || (Nat.ble 2 i && Nat.blt (sgi i) 27)
theorem kn0_all : ∀ i, i < 47 → kn0 i = true := by decide +kernel
theorem K0_lt {i : Nat} (h : (K0 i).1 ≠ 1000) : 2 ≤ i ∧ sgi i < 27 := by
  rcases Nat.lt_or_ge i 47 with z | z
  · have := kn0_all i z
    unfold kn0 at this
    rw [Bool.or_eq_true, Bool.and_eq_true] at this
    rcases this with q | q
    · exfalso
      have h1 := Nat.le_of_ble_eq_true q
      have h2 : ∀ k, k < 47 → (K0 k).1 ≤ 1000 := by decide +kernel
      have := h2 i z
      omega
    · have h1 := Nat.le_of_ble_eq_true q.1
      have h2 : sgi i + 1 ≤ 27 := Nat.le_of_ble_eq_true q.2
      omega
  · exfalso
    apply h
    unfold K0
    rw [List.getD_eq_getElem?_getD, List.getElem?_eq_none (by show 47 ≤ i; exact z)]
    rfl
theorem sg_ne {i n : Nat} (h : sgi i < n) : ¬ i = sgm n := fun e => by
  rw [e, sgi_m] at h
  omega
theorem R0_lt {i b v : Nat} (hv : R0 i b = some v) : i < 23 := by
  rcases Nat.lt_or_ge i 23 with z | z
  · exact z
  · exfalso
    unfold R0 at hv
    rw [List.getD_eq_getElem?_getD (l := R0l), List.getElem?_eq_none (by show 23 ≤ i; exact z)] at hv
    cases hv
theorem sgi_23 {i : Nat} (h : i < 23) : sgi i < 27 := by
  unfold sgi
  repeat' split
  all_goals omega
theorem Sh.newO {h : AH} (hs : Sh h) (kd n : Nat) : Sh (newO h kd n) := by
  have h1 := hs.1
  refine ⟨Nat.le_succ_of_le hs.1, fun i hi => ?_, fun i b v hv => ?_⟩
  · have hlt := (K0_lt hi).2
    show up1 (AK h) (sgm (AN h)) (kd, n) i = K0 i
    rw [show up1 (AK h) (sgm (AN h)) (kd, n) i = AK h i from if_neg (sg_ne (by omega))]
    exact hs.2.1 i hi
  · have hlt := sgi_23 (R0_lt hv)
    show up1 (AR h) (sgm (AN h)) (fun _ => none) i b = some v
    rw [show up1 (AR h) (sgm (AN h)) (fun _ => none) i = AR h i from if_neg (sg_ne (by omega))]
    exact hs.2.2 i b v hv
theorem Sh.stR {h : AH} (hs : Sh h) {i j : Nat} {v : Option Nat} (hn : ∀ b, R0 i b = none) : Sh (stR h i j v) := by
  refine ⟨hs.1, hs.2.1, fun a b w hw => ?_⟩
  show up2 (AR h) i j v a b = some w
  rw [show up2 (AR h) i j v a b = AR h a b from if_neg (fun z => by rw [z.1, hn] at hw; cases hw)]
  exact hs.2.2 a b w hw
def ixR (x : Int32) (n : Nat) : Prop := ¬ x < 0 ∧ x.toNatClampNeg < n
theorem kS {h : AH} (hs : Sh h) (i : Nat) {c : Nat} (e : (K0 i).1 = c) (hn : c ≠ 1000 := by decide) : (AK h i).1 = c := by
  rw [hs.2.1 i (by rw [e]; exact hn), e]
theorem okS {h : AH} (hs : Sh h) (i : Nat) {c c0 : Nat} (e : (K0 i).1 = c0) (ok : okC c c0 = true) (hn : c0 ≠ 1000 := by decide) : okC c (AK h i).1 = true := by
  rw [kS hs i e hn]
  exact ok
theorem inS {h : AH} (hs : Sh h) (i : Nat) {x : Int32} {c n : Nat} (e : K0 i = (c, n)) (r : ixR x n) (hn : c ≠ 1000 := by decide) : inR h i x = true := by
  unfold inR
  rw [hs.2.1 i (by rw [e]; exact hn), e, decide_eq_true r.1, decide_eq_true r.2]
  rfl
theorem rS {h : AH} (hs : Sh h) (i b : Nat) {v : Nat} (e : R0 i b = some v) : AR h i b = some v := hs.2.2 i b v e
def St3 (v : Nat) : Prop := v = 11 ∨ v = 13 ∨ v = 15
theorem twoT {v : Nat} (t : St3 v) : 2 ≤ v := by rcases t with rfl | rfl | rfl <;> decide
theorem kT {h : AH} {v : Nat} (hs : Sh h) (t : St3 v) : (AK h v).1 = 10 := by rcases t with rfl | rfl | rfl <;> exact kS hs _ rfl
theorem okT {h : AH} {v : Nat} (hs : Sh h) (t : St3 v) : okC 10 (AK h v).1 = true := by rw [kT hs t]; rfl
theorem rT0 {h : AH} {v : Nat} (hs : Sh h) (t : St3 v) : AR h v 0 = some 5 := by rcases t with rfl | rfl | rfl <;> exact rS hs _ _ rfl
theorem rT1 {h : AH} {v : Nat} (hs : Sh h) (t : St3 v) : AR h v 1 = some (v + 1) := by rcases t with rfl | rfl | rfl <;> exact rS hs _ _ rfl
theorem kM {h : AH} {v : Nat} (hs : Sh h) (t : St3 v) : (AK h (v + 1)).1 = 20 := by rcases t with rfl | rfl | rfl <;> exact kS hs _ rfl
theorem inM {h : AH} {v : Nat} {x : Int32} (hs : Sh h) (t : St3 v) (r : ixR x 9) : inR h (v + 1) x = true := by rcases t with rfl | rfl | rfl <;> exact inS hs _ rfl r
theorem lk1 {c j x : Nat} (h : x = c) : ([(c, j)] : List (Nat × Nat)).lookup x = some j := by
  rw [h, List.lookup_cons, beq_self_eq_true]
theorem act_virt {k pc idx c2 : Nat} {lst : List (Nat × Nat)} {L S : List Value} {h : AH} {i j : Nat} {rest : List Value} {q : Nat × List Value × List Value} (hd : S.drop c2 = .ref i :: rest) (hl : lst.lookup (AK h i).1 = some j) (hc : cal j (.ref i :: (S.take c2).reverse) rest = some (.inr (.inl q))) : act k pc (3, .invokevirtual idx, (0, 0, 0, c2, lst)) L S h = some (.inr (.inl q)) := by
  unfold act
  dsimp only
  rw [hd]
  dsimp only
  rw [hl]
  exact hc
theorem cal_ok {j : Nat} {a r : List Value} (h1 : catOK r = true) (h2 : (exL a).length ≤ mMax j) : cal j a r = some (.inr (.inl (j, a, r))) := by
  unfold cal
  rw [if_pos (by rw [h1, Nat.ble_eq_true_of_le h2]; rfl)]
theorem Cl.enter {d j : Nat} {args L : List Value} {h : AH} {Q : Option Value → AH → Prop} (hL : ini (mMax j) args = L) (K : Wp d j 0 L [] h Q) : Cl d j args h Q := by
  unfold Cl
  rw [hL]
  exact K
theorem Wp.inst {d k pc i r idx pc' : Nat} {lst : List (Nat × Nat)} {L S : List Value} {h : AH} {Q : Option Value → AH → Prop} (ho : opAt k pc = some (3, .instanceof idx, (0, 0, 0, 0, lst))) (hl : lst.lookup (AK h i).1 = some r) (hp : pc + 3 = pc') (K : Wp d k pc' L (.int (Int32.ofNat r) :: S) h Q) : Wp d k pc L (.ref i :: S) h Q := by
  refine Wp.step (L' := L) (S' := .int (Int32.ofNat r) :: S) (h' := h) (pc' := pc') ho ?_ K
  unfold act
  dsimp only
  rw [hl, hp]
  rfl
/-- a row read or written by 'at' and 'put' -/
def atv (h : AH) (a : Nat) (i : Int32) : Int32 := if i < 0 then 0 else if i < Int32.ofNat (AK h a).2 then AI h a i.toNatClampNeg else 0
def putv (h : AH) (a : Nat) (i x : Int32) : AH := if i < 0 then h else if i < Int32.ofNat (AK h a).2 then stI h a i.toNatClampNeg x else h
theorem putv_AN (h : AH) (a : Nat) (i x : Int32) : AN (putv h a i x) = AN h := by
  unfold putv
  split
  · rfl
  · split <;> rfl
theorem putv_AK (h : AH) (a : Nat) (i x : Int32) : AK (putv h a i x) = AK h := by
  unfold putv
  split
  · rfl
  · split <;> rfl
theorem putv_AR (h : AH) (a : Nat) (i x : Int32) : AR (putv h a i x) = AR h := by
  unfold putv
  split
  · rfl
  · split <;> rfl
theorem Sh.putv {h : AH} (hs : Sh h) (a : Nat) (i x : Int32) : Sh (putv h a i x) := hs.of (putv_AN h a i x) (putv_AK h a i x) (putv_AR h a i x)
/-- a row of longs -/
def atvL (h : AH) (a : Nat) (i : Int32) : Int64 := if i < 0 then 0 else if i < Int32.ofNat (AK h a).2 then AL h a i.toNatClampNeg else 0
def putvL (h : AH) (a : Nat) (i : Int32) (x : Int64) : AH := if i < 0 then h else if i < Int32.ofNat (AK h a).2 then stL h a i.toNatClampNeg x else h
theorem putvL_AN (h : AH) (a : Nat) (i : Int32) (x : Int64) : AN (putvL h a i x) = AN h := by
  unfold putvL
  split
  · rfl
  · split <;> rfl
theorem putvL_AK (h : AH) (a : Nat) (i : Int32) (x : Int64) : AK (putvL h a i x) = AK h := by
  unfold putvL
  split
  · rfl
  · split <;> rfl
theorem putvL_AR (h : AH) (a : Nat) (i : Int32) (x : Int64) : AR (putvL h a i x) = AR h := by
  unfold putvL
  split
  · rfl
  · split <;> rfl
theorem Sh.putvL {h : AH} (hs : Sh h) (a : Nat) (i : Int32) (x : Int64) : Sh (putvL h a i x) := hs.of (putvL_AN h a i x) (putvL_AK h a i x) (putvL_AR h a i x)
theorem inR_of {h : AH} {a : Nat} {i : Int32} (h1 : ¬ i < 0) (h2 : i < Int32.ofNat (AK h a).2) (hn : (AK h a).2 < 2147483648) : inR h a i = true := by
  obtain ⟨j, hj, rfl⟩ := nI_of h1
  unfold inR
  have h3 := (nI_ltI hj hn).mp h2
  rw [decide_eq_true h1, nI_clamp hj, decide_eq_true h3]
  rfl

/-- CutsOrFast.at at 0 ([II)I -/
theorem g126_0 (d : Nat) (v0 : Nat) (v1 : Int32) (h : AH)  (Q : Option Value → AH → Prop) (K : ((v1 < (0 : Int32) → Q (some (.int (0 : Int32))) h) ∧ (¬ v1 < (0 : Int32) → (((AK h v0).1 = 20 ∨ (AK h v0).1 = 21 ∨ (AK h v0).1 = 24) ∧ ((v1 < (Int32.ofNat (AK h v0).2) → ((AK h v0).1 = 20 ∧ inR h v0 v1 = true ∧ Q (some (.int (AI h v0 v1.toNatClampNeg))) h)) ∧ (¬ v1 < (Int32.ofNat (AK h v0).2) → Q (some (.int (0 : Int32))) h)))))) : Wp d 126 0 [.ref v0, .int v1] [] h Q := by
  refine Wp.blk (by decide) ol_126 0 2 (pc' := (if v1 < (0 : Int32) then 16 else 4)) (L' := [.ref v0, .int v1]) (S' := []) (h' := h) rfl ?_
  refine Wp.br (fun c1 => ?_) (fun c1 => ?_)
  · replace K := K.1 c1
    refine Wp.blk (by decide) ol_126 10 1 (pc' := 17) (L' := [.ref v0, .int v1]) (S' := [.int (0 : Int32)]) (h' := h) rfl ?_
    exact Wp.ret (op_ix (by decide) ol_126 11 rfl) rfl K
  · replace K := K.2 c1
    refine Wp.blk (by decide) ol_126 2 2 (pc' := 6) (L' := [.ref v0, .int v1]) (S' := [.ref v0, .int v1]) (h' := h) rfl ?_
    obtain ⟨k2, K⟩ := K
    refine Wp.alen (op_ix (by decide) ol_126 4 rfl) k2 rfl ?_
    refine Wp.blk (by decide) ol_126 5 1 (pc' := (if v1 < (Int32.ofNat (AK h v0).2) then 10 else 16)) (L' := [.ref v0, .int v1]) (S' := []) (h' := h) rfl ?_
    refine Wp.br (fun c3 => ?_) (fun c3 => ?_)
    · replace K := K.1 c3
      refine Wp.blk (by decide) ol_126 6 2 (pc' := 12) (L' := [.ref v0, .int v1]) (S' := [.int v1, .ref v0]) (h' := h) rfl ?_
      obtain ⟨k4, K⟩ := K
      obtain ⟨r5, K⟩ := K
      refine Wp.iald (op_ix (by decide) ol_126 8 rfl) k4 r5 rfl ?_
      refine Wp.blk (by decide) ol_126 9 1 (pc' := 17) (L' := [.ref v0, .int v1]) (S' := [.int (AI h v0 v1.toNatClampNeg)]) (h' := h) rfl ?_
      exact Wp.ret (op_ix (by decide) ol_126 11 rfl) rfl K
    · replace K := K.2 c3
      refine Wp.blk (by decide) ol_126 10 1 (pc' := 17) (L' := [.ref v0, .int v1]) (S' := [.int (0 : Int32)]) (h' := h) rfl ?_
      exact Wp.ret (op_ix (by decide) ol_126 11 rfl) rfl K
/-- CutsOrFast.put at 0 ([III)V -/
theorem g127_0 (d : Nat) (v0 : Nat) (v1 : Int32) (v2 : Int32) (h : AH)  (Q : Option Value → AH → Prop) (K : ((v1 < (0 : Int32) → Q none h) ∧ (¬ v1 < (0 : Int32) → (((AK h v0).1 = 20 ∨ (AK h v0).1 = 21 ∨ (AK h v0).1 = 24) ∧ ((v1 < (Int32.ofNat (AK h v0).2) → ((AK h v0).1 = 20 ∧ inR h v0 v1 = true ∧ 2 ≤ v0 ∧ Q none (stI h v0 v1.toNatClampNeg v2))) ∧ (¬ v1 < (Int32.ofNat (AK h v0).2) → Q none h)))))) : Wp d 127 0 [.ref v0, .int v1, .int v2] [] h Q := by
  refine Wp.blk (by decide) ol_127 0 2 (pc' := (if v1 < (0 : Int32) then 14 else 4)) (L' := [.ref v0, .int v1, .int v2]) (S' := []) (h' := h) rfl ?_
  refine Wp.br (fun c1 => ?_) (fun c1 => ?_)
  · replace K := K.1 c1
    exact Wp.ret (op_ix (by decide) ol_127 10 rfl) rfl K
  · replace K := K.2 c1
    refine Wp.blk (by decide) ol_127 2 2 (pc' := 6) (L' := [.ref v0, .int v1, .int v2]) (S' := [.ref v0, .int v1]) (h' := h) rfl ?_
    obtain ⟨k2, K⟩ := K
    refine Wp.alen (op_ix (by decide) ol_127 4 rfl) k2 rfl ?_
    refine Wp.blk (by decide) ol_127 5 1 (pc' := (if v1 < (Int32.ofNat (AK h v0).2) then 10 else 14)) (L' := [.ref v0, .int v1, .int v2]) (S' := []) (h' := h) rfl ?_
    refine Wp.br (fun c3 => ?_) (fun c3 => ?_)
    · replace K := K.1 c3
      refine Wp.blk (by decide) ol_127 6 3 (pc' := 13) (L' := [.ref v0, .int v1, .int v2]) (S' := [.int v2, .int v1, .ref v0]) (h' := h) rfl ?_
      obtain ⟨k4, K⟩ := K
      obtain ⟨r5, K⟩ := K
      obtain ⟨b6, K⟩ := K
      refine Wp.iast (op_ix (by decide) ol_127 9 rfl) b6 k4 r5 rfl ?_
      exact Wp.ret (op_ix (by decide) ol_127 10 rfl) rfl K
    · replace K := K.2 c3
      exact Wp.ret (op_ix (by decide) ol_127 10 rfl) rfl K
/-- CutsOrFast.at at 0 ([JI)J -/
theorem g202_0 (d : Nat) (v0 : Nat) (v1 : Int32) (h : AH)  (Q : Option Value → AH → Prop) (K : ((v1 < (0 : Int32) → Q (some (.long (0 : Int64))) h) ∧ (¬ v1 < (0 : Int32) → (((AK h v0).1 = 20 ∨ (AK h v0).1 = 21 ∨ (AK h v0).1 = 24) ∧ ((v1 < (Int32.ofNat (AK h v0).2) → ((AK h v0).1 = 21 ∧ inR h v0 v1 = true ∧ Q (some (.long (AL h v0 v1.toNatClampNeg))) h)) ∧ (¬ v1 < (Int32.ofNat (AK h v0).2) → Q (some (.long (0 : Int64))) h)))))) : Wp d 202 0 [.ref v0, .int v1] [] h Q := by
  refine Wp.blk (by decide) ol_202 0 2 (pc' := (if v1 < (0 : Int32) then 16 else 4)) (L' := [.ref v0, .int v1]) (S' := []) (h' := h) rfl ?_
  refine Wp.br (fun c1 => ?_) (fun c1 => ?_)
  · replace K := K.1 c1
    refine Wp.blk (by decide) ol_202 10 1 (pc' := 17) (L' := [.ref v0, .int v1]) (S' := [.long (0 : Int64)]) (h' := h) rfl ?_
    exact Wp.ret (op_ix (by decide) ol_202 11 rfl) rfl K
  · replace K := K.2 c1
    refine Wp.blk (by decide) ol_202 2 2 (pc' := 6) (L' := [.ref v0, .int v1]) (S' := [.ref v0, .int v1]) (h' := h) rfl ?_
    obtain ⟨k2, K⟩ := K
    refine Wp.alen (op_ix (by decide) ol_202 4 rfl) k2 rfl ?_
    refine Wp.blk (by decide) ol_202 5 1 (pc' := (if v1 < (Int32.ofNat (AK h v0).2) then 10 else 16)) (L' := [.ref v0, .int v1]) (S' := []) (h' := h) rfl ?_
    refine Wp.br (fun c3 => ?_) (fun c3 => ?_)
    · replace K := K.1 c3
      refine Wp.blk (by decide) ol_202 6 2 (pc' := 12) (L' := [.ref v0, .int v1]) (S' := [.int v1, .ref v0]) (h' := h) rfl ?_
      obtain ⟨k4, K⟩ := K
      obtain ⟨r5, K⟩ := K
      refine Wp.lald (op_ix (by decide) ol_202 8 rfl) k4 r5 rfl ?_
      refine Wp.blk (by decide) ol_202 9 1 (pc' := 17) (L' := [.ref v0, .int v1]) (S' := [.long (AL h v0 v1.toNatClampNeg)]) (h' := h) rfl ?_
      exact Wp.ret (op_ix (by decide) ol_202 11 rfl) rfl K
    · replace K := K.2 c3
      refine Wp.blk (by decide) ol_202 10 1 (pc' := 17) (L' := [.ref v0, .int v1]) (S' := [.long (0 : Int64)]) (h' := h) rfl ?_
      exact Wp.ret (op_ix (by decide) ol_202 11 rfl) rfl K
/-- CutsOrFast.put at 0 ([JIJ)V -/
theorem g203_0 (d : Nat) (v0 : Nat) (v1 : Int32) (v2 : Int64) (h : AH)  (Q : Option Value → AH → Prop) (K : ((v1 < (0 : Int32) → Q none h) ∧ (¬ v1 < (0 : Int32) → (((AK h v0).1 = 20 ∨ (AK h v0).1 = 21 ∨ (AK h v0).1 = 24) ∧ ((v1 < (Int32.ofNat (AK h v0).2) → ((AK h v0).1 = 21 ∧ inR h v0 v1 = true ∧ 2 ≤ v0 ∧ Q none (stL h v0 v1.toNatClampNeg v2))) ∧ (¬ v1 < (Int32.ofNat (AK h v0).2) → Q none h)))))) : Wp d 203 0 [.ref v0, .int v1, .long v2, mk0] [] h Q := by
  refine Wp.blk (by decide) ol_203 0 2 (pc' := (if v1 < (0 : Int32) then 14 else 4)) (L' := [.ref v0, .int v1, .long v2, mk0]) (S' := []) (h' := h) rfl ?_
  refine Wp.br (fun c1 => ?_) (fun c1 => ?_)
  · replace K := K.1 c1
    exact Wp.ret (op_ix (by decide) ol_203 10 rfl) rfl K
  · replace K := K.2 c1
    refine Wp.blk (by decide) ol_203 2 2 (pc' := 6) (L' := [.ref v0, .int v1, .long v2, mk0]) (S' := [.ref v0, .int v1]) (h' := h) rfl ?_
    obtain ⟨k2, K⟩ := K
    refine Wp.alen (op_ix (by decide) ol_203 4 rfl) k2 rfl ?_
    refine Wp.blk (by decide) ol_203 5 1 (pc' := (if v1 < (Int32.ofNat (AK h v0).2) then 10 else 14)) (L' := [.ref v0, .int v1, .long v2, mk0]) (S' := []) (h' := h) rfl ?_
    refine Wp.br (fun c3 => ?_) (fun c3 => ?_)
    · replace K := K.1 c3
      refine Wp.blk (by decide) ol_203 6 3 (pc' := 13) (L' := [.ref v0, .int v1, .long v2, mk0]) (S' := [.long v2, .int v1, .ref v0]) (h' := h) rfl ?_
      obtain ⟨k4, K⟩ := K
      obtain ⟨r5, K⟩ := K
      obtain ⟨b6, K⟩ := K
      refine Wp.last (op_ix (by decide) ol_203 9 rfl) b6 k4 r5 rfl ?_
      exact Wp.ret (op_ix (by decide) ol_203 10 rfl) rfl K
    · replace K := K.2 c3
      exact Wp.ret (op_ix (by decide) ol_203 10 rfl) rfl K
theorem sp_at {d a : Nat} {i : Int32} {h : AH} {Q : Option Value → AH → Prop} (hk : (AK h a).1 = 20) (hn : (AK h a).2 < 2147483648) (K : Q (some (.int (atv h a i))) h) : Cl d 126 [.ref a, .int i] h Q := by
  refine Cl.enter rfl (g126_0 d a i h Q ?_)
  unfold atv at K
  refine ⟨fun h1 => ?_, fun h1 => ⟨Or.inl hk, fun h2 => ⟨hk, inR_of h1 h2 hn, ?_⟩, fun h2 => ?_⟩⟩
  · rwa [if_pos h1] at K
  · rwa [if_neg h1, if_pos h2] at K
  · rwa [if_neg h1, if_neg h2] at K
theorem sp_put {d a : Nat} {i x : Int32} {h : AH} {Q : Option Value → AH → Prop} (hk : (AK h a).1 = 20) (hn : (AK h a).2 < 2147483648) (h2 : 2 ≤ a) (K : Q none (putv h a i x)) : Cl d 127 [.ref a, .int i, .int x] h Q := by
  refine Cl.enter rfl (g127_0 d a i x h Q ?_)
  unfold putv at K
  refine ⟨fun h1 => ?_, fun h1 => ⟨Or.inl hk, fun h3 => ⟨hk, inR_of h1 h3 hn, h2, ?_⟩, fun h3 => ?_⟩⟩
  · rwa [if_pos h1] at K
  · rwa [if_neg h1, if_pos h3] at K
  · rwa [if_neg h1, if_neg h3] at K
theorem sp_atL {d a : Nat} {i : Int32} {h : AH} {Q : Option Value → AH → Prop} (hk : (AK h a).1 = 21) (hn : (AK h a).2 < 2147483648) (K : Q (some (.long (atvL h a i))) h) : Cl d 202 [.ref a, .int i] h Q := by
  refine Cl.enter rfl (g202_0 d a i h Q ?_)
  unfold atvL at K
  refine ⟨fun h1 => ?_, fun h1 => ⟨Or.inr (Or.inl hk), fun h2 => ⟨hk, inR_of h1 h2 hn, ?_⟩, fun h2 => ?_⟩⟩
  · rwa [if_pos h1] at K
  · rwa [if_neg h1, if_pos h2] at K
  · rwa [if_neg h1, if_neg h2] at K
theorem sp_putL {d a : Nat} {i : Int32} {x : Int64} {h : AH} {Q : Option Value → AH → Prop} (hk : (AK h a).1 = 21) (hn : (AK h a).2 < 2147483648) (h2 : 2 ≤ a) (K : Q none (putvL h a i x)) : Cl d 203 [.ref a, .int i, .long x] h Q := by
  refine Cl.enter rfl (g203_0 d a i x h Q ?_)
  unfold putvL at K
  refine ⟨fun h1 => ?_, fun h1 => ⟨Or.inr (Or.inl hk), fun h3 => ⟨hk, inR_of h1 h3 hn, h2, ?_⟩, fun h3 => ?_⟩⟩
  · rwa [if_pos h1] at K
  · rwa [if_neg h1, if_pos h3] at K
  · rwa [if_neg h1, if_neg h3] at K
theorem nS {h : AH} (hs : Sh h) (i : Nat) {c n : Nat} (e : K0 i = (c, n)) (hn : c ≠ 1000 := by decide) (hl : n < 2147483648 := by decide) : (AK h i).2 < 2147483648 := by
  rw [hs.2.1 i (by rw [e]; exact hn), e]
  exact hl
theorem nM {h : AH} {v : Nat} (hs : Sh h) (t : St3 v) : (AK h (v + 1)).2 < 2147483648 := by rcases t with rfl | rfl | rfl <;> exact nS hs _ rfl

