/-! the two constructors -/
theorem AN_newO (h : AH) (kd n : Nat) : AN (newO h kd n) = AN h + 1 := rfl
theorem AT_newO (h : AH) (kd n : Nat) : AT (newO h kd n) = AT h + n := rfl
theorem AK_newO (h : AH) (kd n i : Nat) : AK (newO h kd n) i = if i = sgm (AN h) then (kd, n) else AK h i := rfl
theorem AR_newO (h : AH) (kd n i j : Nat) : AR (newO h kd n) i j = if i = sgm (AN h) then none else AR h i j := by
  show up1 (AR h) (sgm (AN h)) (fun _ => none) i j = _
  unfold up1
  split <;> rfl
theorem AI_newO (h : AH) (kd n i j : Nat) : AI (newO h kd n) i j = if i = sgm (AN h) then 0 else AI h i j := by
  show up1 (AI h) (sgm (AN h)) (fun _ => 0) i j = _
  unfold up1
  split <;> rfl
theorem AL_newO (h : AH) (kd n i j : Nat) : AL (newO h kd n) i j = if i = sgm (AN h) then 0 else AL h i j := by
  show up1 (AL h) (sgm (AN h)) (fun _ => 0) i j = _
  unfold up1
  split <;> rfl
theorem AR_stR (h : AH) (i j : Nat) (v : Option Nat) (a b : Nat) : AR (stR h i j v) a b = if a = i ∧ b = j then v else AR h a b := rfl
def Bt (Ls : Nat) (fI : Nat → Nat → Int32) (fL : Nat → Nat → Int64) (h : AH) (n tt : Nat) (l : List (Nat × Nat × Nat)) : Prop := AN h = n ∧ AT h = tt ∧ (∀ i, 2 ≤ i → sgi i < n → AK h i = K0 i) ∧ (∀ i, n ≤ sgi i → (AK h i).1 = 99) ∧ (AK h 0 = (20, Ls) ∧ AK h 1 = (20, Ls)) ∧ (∀ e, e ∈ l → AR h e.1 e.2.1 = some e.2.2 ∧ sgi e.1 < n) ∧ (∀ i b, AR h i b = none ∨ ∃ e, e ∈ l ∧ e.1 = i ∧ e.2.1 = b) ∧ ∀ i j, sgi i < n → AI h i j = fI i j ∧ AL h i j = fL i j
section BT
variable {Ls n tt : Nat} {fI : Nat → Nat → Int32} {fL : Nat → Nat → Int64} {h : AH} {l : List (Nat × Nat × Nat)}
theorem Bt.nwv (B : Bt Ls fI fL h n tt l) {v : Nat} (hs : sgm n = v) {kd len : Nat} (hK : K0 v = (kd, len)) (hn2 : 2 ≤ n) (hz : ∀ j, fI v j = 0 ∧ fL v j = 0) {n1 : Nat} (e1 : n1 = NX h) {h2 : AH} (e2 : h2 = newO h kd len) : n1 = v ∧ Bt Ls fI fL h2 (n + 1) (tt + len) l := by
  obtain ⟨b1, b2, b3, b4, ⟨b5, b6⟩, b7, b8, b9⟩ := B
  subst e2
  have ev : sgi v = n := by rw [← hs, sgi_m]
  have ne : ∀ i, sgi i < n → ¬ i = v := fun i hi e => by rw [e, ev] at hi; omega
  have nw : ∀ i, n + 1 ≤ sgi i → ¬ i = v := fun i hi e => by rw [e, ev] at hi; omega
  have lt : ∀ i, sgi i < n + 1 → ¬ i = v → sgi i < n := fun i hi e => by
    rcases Nat.lt_or_ge (sgi i) n with z | z
    · exact z
    · have q : sgi i = n := by omega
      exact absurd (by rw [← sgm_i i, q, hs]) e
  have v2 : ¬ 0 = v ∧ ¬ 1 = v := ⟨fun z => by rw [← z] at ev; have : (0 : Nat) = n := ev; omega, fun z => by rw [← z] at ev; have : (1 : Nat) = n := ev; omega⟩
  refine ⟨by rw [e1]; unfold NX; rw [b1, hs], by rw [AN_newO, b1], by rw [AT_newO, b2], fun i hi1 hi2 => ?_, fun i hi => ?_, ⟨?_, ?_⟩, fun e he => ?_, fun i b => ?_, fun i j hi => ?_⟩
  · rw [AK_newO, b1, hs]
    by_cases e : i = v
    · rw [if_pos e, e, hK]
    · rw [if_neg e]
      exact b3 i hi1 (lt i hi2 e)
  · rw [AK_newO, b1, hs, if_neg (nw i hi)]
    exact b4 i (by omega)
  · rw [AK_newO, b1, hs, if_neg v2.1]
    exact b5
  · rw [AK_newO, b1, hs, if_neg v2.2]
    exact b6
  · obtain ⟨q1, q2⟩ := b7 e he
    rw [AR_newO, b1, hs, if_neg (ne _ q2)]
    exact ⟨q1, by omega⟩
  · rw [AR_newO, b1, hs]
    by_cases e : i = v
    · exact Or.inl (if_pos e)
    · rw [if_neg e]
      exact b8 i b
  · rw [AI_newO, AL_newO, b1, hs]
    by_cases e : i = v
    · rw [if_pos e, if_pos e, e]
      exact ⟨(hz j).1.symm, (hz j).2.symm⟩
    · rw [if_neg e, if_neg e]
      exact b9 i j (lt i hi e)
theorem Bt.nw (B : Bt Ls fI fL h n tt l) {kd len : Nat} (hK : K0 n = (kd, len)) (hn2 : 2 ≤ n) (hz : ∀ j, fI n j = 0 ∧ fL n j = 0) {n1 : Nat} (e1 : n1 = NX h) {h2 : AH} (e2 : h2 = newO h kd len) (hs : sgm n = n := by decide) : n1 = n ∧ Bt Ls fI fL h2 (n + 1) (tt + len) l := B.nwv hs hK hn2 hz e1 e2
theorem Bt.nwd (B : Bt Ls fI fL h (n + 1) tt l) {kd len : Nat} (hK : K0 n = (kd, len)) (hn2 : 2 ≤ n) (hz : ∀ j, fI n j = 0 ∧ fL n j = 0) {n1 : Nat} (e1 : n1 = NX h) {h2 : AH} (e2 : h2 = newO h kd len) (hs : sgm (n + 1) = n := by decide) : n1 = n ∧ Bt Ls fI fL h2 (n + 1 + 1) (tt + len) l := B.nwv hs hK (Nat.le_succ_of_le hn2) hz e1 e2
theorem Bt.lk (B : Bt Ls fI fL h n tt l) {i b v : Nat} (hi : sgi i < n) (hne : l.all (fun e => !(e.1 == i && e.2.1 == b)) = true) : Bt Ls fI fL (stR h i b (some v)) n tt ((i, b, v) :: l) := by
  obtain ⟨b1, b2, b3, b4, b5, b7, b8, b9⟩ := B
  rw [List.all_eq_true] at hne
  have ne : ∀ e, e ∈ l → ¬ (e.1 = i ∧ e.2.1 = b) := fun e he z => by
    have := hne e he
    rw [z.1, z.2, beq_self_eq_true, beq_self_eq_true] at this
    cases this
  refine ⟨b1, b2, b3, b4, b5, fun e he => ?_, fun a c => ?_, b9⟩
  · rcases List.mem_cons.mp he with rfl | he
    · exact ⟨by rw [AR_stR, if_pos ⟨rfl, rfl⟩], hi⟩
    · obtain ⟨q1, q2⟩ := b7 e he
      rw [AR_stR, if_neg (ne e he)]
      exact ⟨q1, q2⟩
  · rw [AR_stR]
    by_cases z : a = i ∧ c = b
    · exact Or.inr ⟨(i, b, v), List.mem_cons_self, z.1.symm, z.2.symm⟩
    · rw [if_neg z]
      rcases b8 a c with q | ⟨e, q1, q2⟩
      · exact Or.inl q
      · exact Or.inr ⟨e, List.mem_cons_of_mem _ q1, q2⟩
theorem Bt.ok (B : Bt Ls fI fL h n tt l) {i c c0 m : Nat} (h2 : 2 ≤ i) (hi : sgi i < n) (hK : K0 i = (c0, m)) (ho : okC c c0 = true) : okC c (AK h i).1 = true := by
  rw [B.2.2.1 i h2 hi, hK]
  exact ho
theorem Bt.at (B : Bt Ls fI fL h n tt l) {i b v : Nat} (he : (i, b, v) ∈ l) : AR h i b = some v := (B.2.2.2.2.2.1 (i, b, v) he).1
theorem Bt.fr (B : Bt Ls fI fL h n tt l) {P : Nat → Nat → Prop} {h' : AH} (f : Fr P h h') {gI : Nat → Nat → Int32} {gL : Nat → Nat → Int64} (hg : ∀ i j, sgi i < n → AI h' i j = gI i j ∧ AL h' i j = gL i j) : Bt Ls gI gL h' n tt l := by
  obtain ⟨b1, b2, b3, b4, b5, b7, b8, b9⟩ := B
  refine ⟨f.1.trans b1, f.2.1.trans b2, ?_, ?_, ?_, ?_, ?_, hg⟩
  · rw [f.2.2.1]; exact b3
  · rw [f.2.2.1]; exact b4
  · rw [f.2.2.1]; exact b5
  · rw [f.2.2.2.1]; exact b7
  · rw [f.2.2.2.1]; exact b8
end BT
theorem R0_big {i b : Nat} (h : 23 ≤ i) : R0 i b = none := by
  unfold R0
  rw [List.getD_eq_getElem?_getD (l := R0l), List.getElem?_eq_none (by show 23 ≤ i; exact h)]
  rfl
theorem R0_len : ∀ i, i < 23 → (R0l.getD i []).length ≤ 9 := by decide +kernel
theorem R0_far {i b : Nat} (h : 9 ≤ b) : R0 i b = none := by
  rcases Nat.lt_or_ge i 23 with z | z
  · have := R0_len i z
    unfold R0
    rw [List.getD_eq_getElem?_getD (l := R0l.getD i []), List.getElem?_eq_none (by omega)]
    rfl
  · exact R0_big z
def chkR (l : List (Nat × Nat × Nat)) : Bool := (List.range 23).all (fun i => (List.range 9).all (fun b => match R0 i b with
  | none => true
  | some v => l.contains (i, b, v)))
theorem Bt.Sh {Ls tt : Nat} {fI : Nat → Nat → Int32} {fL : Nat → Nat → Int64} {h : AH} {l : List (Nat × Nat × Nat)} (B : Bt Ls fI fL h 27 tt l) (hc : chkR l = true) : Sh h := by
  obtain ⟨b1, b2, b3, b4, b5, b7, b8, b9⟩ := B
  refine ⟨by omega, fun i hi => ?_, fun i b v hv => ?_⟩
  · obtain ⟨q1, q2⟩ := K0_lt hi
    exact b3 i q1 q2
  · have hi : i < 23 := by
      rcases Nat.lt_or_ge i 23 with z | z
      · exact z
      · rw [R0_big z] at hv
        cases hv
    have hb : b < 9 := by
      rcases Nat.lt_or_ge b 9 with z | z
      · exact z
      · rw [R0_far z] at hv
        cases hv
    unfold chkR at hc
    rw [List.all_eq_true] at hc
    have h1 := hc i (List.mem_range.mpr hi)
    rw [List.all_eq_true] at h1
    have h2 := h1 b (List.mem_range.mpr hb)
    rw [hv] at h2
    exact (b7 (i, b, v) (List.contains_iff_mem.mp h2)).1
/-- sets of lanes by threes -/
theorem thr_or {s L : Nat} (h : s.testBit L = false) : ∀ n, thr (s ||| 2 ^ L) n = thr s n + if L < n then 3 ^ L else 0
  | 0 => by simp [thr]
  | n + 1 => by
    show thr (s ||| 2 ^ L) n + (if (s ||| 2 ^ L).testBit n then 3 ^ n else 0) = thr s n + (if s.testBit n then 3 ^ n else 0) + _
    rw [thr_or h n, tb_or]
    by_cases e : L = n
    · subst e
      rw [h, if_neg (show ¬ L < L by omega), if_pos (show L < L + 1 by omega), decide_eq_true rfl]
      simp
    · rw [decide_eq_false e, Bool.or_false]
      by_cases z : L < n
      · rw [if_pos z, if_pos (show L < n + 1 by omega)]
        omega
      · rw [if_neg z, if_neg (show ¬ L < n + 1 by omega)]
        omega
theorem thr_0 : ∀ n, thr 0 n = 0
  | 0 => rfl
  | n + 1 => by
    show thr 0 n + (if (0 : Nat).testBit n then 3 ^ n else 0) = 0
    rw [thr_0 n, Nat.zero_testBit]
    rfl
theorem w54 {d : Nat} {h0 : AH} (k17 : (AK h0 17).1 = 8) (r1 : AR h0 17 1 = some 18) (k18 : AK h0 18 = (20, 1024)) {Q : Option Value → AH → Prop} (K : ∀ h', Fr (fun i j => i = 18 ∧ j < 1024) h0 h' → AL h' = AL h0 → (∀ s, s < 1024 → AI h' 18 s = nI (thr s 10)) → Q none h') : ∀ r L h, L + r = 10 → Fr (fun i j => i = 18 ∧ j < 1024) h0 h → AL h = AL h0 → (∀ s, s < 2 ^ L → AI h 18 s = nI (thr s 10)) → Wp (d + 1) 54 45 [.ref 17, mk0, .int (nI (3 ^ L)), .int (nI L), mk0, mk0] [] h Q
  | 0, L, h, hr, hf, ha, ht => by
    have e : L = 10 := hr
    subst e
    exact g54_45 (d + 1) _ _ _ h Q ⟨fun _ => K h hf ha ht, fun z => absurd (by decide) z⟩
  | r + 1, L, h, hr, hf, ha, ht => by
    have hL : L < 10 := by omega
    have p2 : 2 ^ L ≤ 2 ^ 9 := p2_le (by omega)
    have p3 : 3 ^ L ≤ 3 ^ 9 := p3_le (by omega)
    refine g54_45 (d + 1) _ _ _ h Q ⟨fun z => ?_, fun _ => ?_⟩
    · rw [ltC (x := 9) (a := 9) rfl rfl (by omega) (by omega)] at z
      omega
    rw [i1 L (by omega)]
    have inner : ∀ m i h, i + m = 2 ^ L → Fr (fun i j => i = 18 ∧ j < 1024) h0 h → AL h = AL h0 → (∀ s, s < 2 ^ L + i → AI h 18 s = nI (thr s 10)) → Wp (d + 1) 54 59 [.ref 17, mk0, .int (nI (3 ^ L)), .int (nI L), .int (nI (2 ^ L)), .int (nI i)] [] h Q := by
      intro m
      induction m with
      | zero =>
        intro i h hi hf ha ht
        have e : i = 2 ^ L := hi
        refine g54_59 d _ _ _ _ _ h Q ⟨fun z => ?_, fun _ => ?_⟩
        · rw [nI_ltI (by omega) (by omega)] at z
          omega
        · rw [show (3 : Int32) = nI 3 from rfl, pk_mul, nI_1, show 3 ^ L * 3 = 3 ^ (L + 1) from rfl]
          refine w54 k17 r1 k18 K r (L + 1) h (by omega) hf ha (fun s hs => ht s ?_)
          rw [Nat.pow_succ] at hs
          omega
      | succ m ih =>
        intro i h hi hf ha ht
        have hlt : i < 2 ^ L := by omega
        have k18' : AK h 18 = (20, 1024) := by rw [hf.2.2.1]; exact k18
        have r1' : AR h 17 1 = some 18 := by rw [hf.2.2.2.1]; exact r1
        refine g54_59 d _ _ _ _ _ h Q ⟨fun _ => ⟨by rw [hf.2.2.1, k17]; rfl, 18, r1', 18, r1', by rw [k18'], by rw [k18']; decide, by rw [k18'], by rw [k18']; decide, by decide, fun h12 e12 => ?_⟩, fun z => absurd ((nI_ltI (by omega) (by omega)).mpr hlt) z⟩
        have en : i ||| 2 ^ L = i + 2 ^ L := or_two hlt
        rw [fa_or, atv_nI (by rw [k18']; show i < 1024; omega) (by rw [k18']; decide), ht i (by omega), nI_add, putv_nI (by rw [k18']; show i ||| 2 ^ L < 1024; omega) (by rw [k18']; decide)] at e12
        have f : Fr (fun i j => i = 18 ∧ j < 1024) h h12 := by rw [e12]; exact Fr.stI ⟨rfl, by rw [en]; omega⟩
        rw [nI_1]
        refine ih (i + 1) h12 (by omega) (hf.trans f) (by rw [e12]; exact ha) (fun s hs => ?_)
        by_cases e : s = i ||| 2 ^ L
        · rw [e12, e, AI_stI_s, thr_or (tb_ge hlt (Nat.le_refl L)), if_pos hL]
        · rw [e12, AI_stI_o _ _ (Or.inr e)]
          exact ht s (by omega)
    exact inner (2 ^ L) 0 h (Nat.zero_add _) hf ha (fun s hs => ht s (by omega))
def fIa (xs : Nat → Int32) (i j : Nat) : Int32 := if i = 0 then xs j else if i = 1 then xs j else 0
def fLa (_ _ : Nat) : Int64 := 0
def fIb (xs : Nat → Int32) (i j : Nat) : Int32 := if i = 18 then (if j < 1024 then nI (thr j 10) else 0) else if i = 17 ∧ j = 4 then -1 else fIa xs i j
def fIm (xs : Nat → Int32) (i j : Nat) : Int32 := if i = 17 ∧ j = 4 then -1 else fIa xs i j
section CTOR
variable {d Ls tt : Nat} {fI : Nat → Nat → Int32} {fL : Nat → Nat → Int64} {h : AH} {l : List (Nat × Nat × Nat)} {Q : Option Value → AH → Prop}
theorem c38 (B : Bt Ls fI fL h 4 tt l) (hz : ∀ j, fI 4 j = 0 ∧ fL 4 j = 0) (hl : l.all (fun e => !(e.1 == 3 && e.2.1 == 0)) = true) (K : ∀ h', Bt Ls fI fL h' 5 (tt + 50) ((3, 0, 4) :: l) → Q none h') : Cl d 38 [.ref 3] h Q := by
  refine Cl.enter rfl (g38_0 d _ h Q (fun n1 e1 h2 e2 => ?_))
  obtain ⟨rfl, B⟩ := B.nw rfl (by decide) hz e1 e2
  exact ⟨B.ok (by decide) (by decide) rfl rfl, by decide, K _ (B.lk (by decide) hl)⟩
theorem c71 {v : Nat} (hv : v + 1 < 46 ∧ K0 v = (10, 6) ∧ K0 (v + 1) = (20, 9) ∧ 2 ≤ v ∧ sgm (v + 1) = v + 1 ∧ sgi v < v + 1) (B : Bt Ls fI fL h (v + 1) tt l) (hz : ∀ j, fI (v + 1) j = 0 ∧ fL (v + 1) j = 0) (hl : l.all (fun e => !(e.1 == v && e.2.1 == 1)) = true) (hl2 : l.all (fun e => !(e.1 == v && e.2.1 == 0)) = true) (K : ∀ h', Bt Ls fI fL h' (v + 1 + 1) (tt + 9) ((v, 0, 5) :: (v, 1, v + 1) :: l) → Q none h') : Cl d 71 [.ref v, .ref 5] h Q := by
  refine Cl.enter rfl (g71_0 d _ _ h Q (fun n1 e1 h2 e2 => ?_))
  obtain ⟨rfl, B⟩ := B.nw hv.2.2.1 (by omega) hz e1 e2 hv.2.2.2.2.1
  refine ⟨B.ok hv.2.2.2.1 (Nat.lt_succ_of_lt hv.2.2.2.2.2) hv.2.1 rfl, hv.2.2.2.1, K _ ((B.lk (Nat.lt_succ_of_lt hv.2.2.2.2.2) hl).lk (Nat.lt_succ_of_lt hv.2.2.2.2.2) ?_)⟩
  rw [List.all_cons, hl2]
  simp
theorem c20 (B : Bt Ls fI fL h 6 tt l) (hz : ∀ i j, 6 ≤ i → i ≤ 10 → fI i j = 0 ∧ fL i j = 0) (hl : l.all (fun e => !(e.1 == 5)) = true) (K : ∀ h', Bt Ls fI fL h' 11 (tt + 10 + 10 + 10 + 10 + 1024) ((5, 4, 10) :: (5, 3, 9) :: (5, 2, 8) :: (5, 1, 7) :: (5, 0, 6) :: l) → Q none h') : Cl d 20 [.ref 5] h Q := by
  have hl' : ∀ b, l.all (fun e => !(e.1 == 5 && e.2.1 == b)) = true := fun b => by
    rw [List.all_eq_true] at hl ⊢
    intro e he
    have h5 := hl e he
    cases hx : e.1 == 5
    · rfl
    · rw [hx] at h5
      cases h5
  refine Cl.enter rfl (g20_0 d _ h Q (fun n e h2 e2 => ?_))
  obtain ⟨rfl, B⟩ := B.nw rfl (by decide) (fun j => hz _ j (by decide) (by decide)) e e2
  refine ⟨B.ok (by decide) (by decide) rfl rfl, by decide, fun n e h2 e2 => ?_⟩
  replace B := B.lk (i := 5) (b := 0) (v := 6) (by decide) (hl' 0)
  obtain ⟨rfl, B⟩ := B.nw rfl (by decide) (fun j => hz _ j (by decide) (by decide)) e e2
  refine ⟨B.ok (by decide) (by decide) rfl rfl, fun n e h2 e2 => ?_⟩
  replace B := B.lk (i := 5) (b := 1) (v := 7) (by decide) (by rw [List.all_cons, hl' 1]; rfl)
  obtain ⟨rfl, B⟩ := B.nw rfl (by decide) (fun j => hz _ j (by decide) (by decide)) e e2
  refine ⟨B.ok (by decide) (by decide) rfl rfl, fun n e h2 e2 => ?_⟩
  replace B := B.lk (i := 5) (b := 2) (v := 8) (by decide) (by rw [List.all_cons, List.all_cons, hl' 2]; rfl)
  obtain ⟨rfl, B⟩ := B.nw rfl (by decide) (fun j => hz _ j (by decide) (by decide)) e e2
  refine ⟨B.ok (by decide) (by decide) rfl rfl, fun n e h2 e2 => ?_⟩
  replace B := B.lk (i := 5) (b := 3) (v := 9) (by decide) (by rw [List.all_cons, List.all_cons, List.all_cons, hl' 3]; rfl)
  obtain ⟨rfl, B⟩ := B.nw rfl (by decide) (fun j => hz _ j (by decide) (by decide)) e e2
  refine ⟨B.ok (by decide) (by decide) rfl rfl, K _ ?_⟩
  exact B.lk (i := 5) (b := 4) (v := 10) (by decide) (by rw [List.all_cons, List.all_cons, List.all_cons, List.all_cons, hl' 4]; rfl)
end CTOR
theorem c54 {d Ls tt : Nat} {xs : Nat → Int32} {h : AH} {l : List (Nat × Nat × Nat)} {Q : Option Value → AH → Prop} (B : Bt Ls (fIa xs) fLa h 18 tt l) (hl : l.all (fun e => !(e.1 == 17)) = true) (K : ∀ h', Bt Ls (fIb xs) fLa h' 21 (tt + 1024 + 3691 + 19683) ((17, 0, 5) :: (17, 3, 46) :: (17, 2, 19) :: (17, 1, 18) :: l) → Q none h') : Cl (d + 1) 54 [.ref 17, .ref 5] h Q := by
  have hl' : ∀ b, l.all (fun e => !(e.1 == 17 && e.2.1 == b)) = true := fun b => by
    rw [List.all_eq_true] at hl ⊢
    intro e he
    have h5 := hl e he
    cases hx : e.1 == 17
    · rfl
    · rw [hx] at h5
      cases h5
  refine Cl.enter rfl (g54_0 (d + 1) _ _ h Q (fun n e h2 e2 => ?_))
  obtain ⟨rfl, B⟩ := B.nw rfl (by decide) (fun j => ⟨rfl, rfl⟩) e e2
  refine ⟨B.ok (by decide) (by decide) rfl rfl, by decide, fun n e h2 e2 => ?_⟩
  replace B := B.lk (i := 17) (b := 1) (v := 18) (by decide) (hl' 1)
  obtain ⟨rfl, B⟩ := B.nw rfl (by decide) (fun j => ⟨rfl, rfl⟩) e e2
  refine ⟨B.ok (by decide) (by decide) rfl rfl, fun n e h2 e2 => ?_⟩
  replace B := B.lk (i := 17) (b := 2) (v := 19) (by decide) (by rw [List.all_cons, hl' 2]; rfl)
  obtain ⟨rfl, B⟩ := B.nwv (v := 46) (by decide) rfl (by decide) (fun j => ⟨rfl, rfl⟩) e e2
  refine ⟨B.ok (by decide) (by decide) rfl rfl, ?_⟩
  have B1 := B.lk (i := 17) (b := 3) (v := 46) (by decide) (by rw [List.all_cons, List.all_cons, hl' 3]; rfl)
  have f : Fr (fun i j => i = 17 ∧ j = 4) (stR h2 17 3 (some 46)) (stI (stR h2 17 3 (some 46)) 17 4 (-1)) := Fr.stI ⟨rfl, rfl⟩
  have B2 : Bt Ls (fIm xs) fLa (stI (stR h2 17 3 (some 46)) 17 4 (-1)) 21 _ _ := B1.fr f (fun i j hi => by
    obtain ⟨q1, q2⟩ := B1.2.2.2.2.2.2.2 i j hi
    refine ⟨?_, q2⟩
    unfold fIm
    rw [AI_stI]
    by_cases z4 : i = 17 ∧ j = 4
    · rw [if_pos z4, if_pos z4]
    · rw [if_neg z4, if_neg z4]
      exact q1)
  have B3 := B2.lk (i := 17) (b := 0) (v := 5) (by decide) (by rw [List.all_cons, List.all_cons, List.all_cons, hl' 0]; rfl)
  generalize stR (stI (stR h2 17 3 (some 46)) 17 4 (-1)) 17 0 (some 5) = hp at B3 ⊢
  have k17 : (AK hp 17).1 = 8 := by rw [B3.2.2.1 17 (by decide) (by decide)]; rfl
  have k18 : AK hp 18 = (20, 1024) := by rw [B3.2.2.1 18 (by decide) (by decide)]; rfl
  have r1 : AR hp 17 1 = some 18 := B3.at (by simp)
  refine w54 k17 r1 k18 (fun h' f' ha ht => K h' (B3.fr f' (fun i j hi => ?_))) 10 0 hp rfl Fr.rfl rfl (fun s hs => ?_)
  · obtain ⟨q1, q2⟩ := B3.2.2.2.2.2.2.2 i j hi
    refine ⟨?_, by rw [ha]; exact q2⟩
    · unfold fIb
      by_cases z : i = 18
      · rw [if_pos z]
        by_cases z2 : j < 1024
        · rw [if_pos z2, z]
          exact ht j z2
        · rw [if_neg z2, f'.I (fun y => z2 y.2), q1, z]
          rfl
      · rw [if_neg z, f'.I (fun y => z y.1)]
        exact q1
  · have e : s = 0 := by omega
    rw [e, thr_0, (B3.2.2.2.2.2.2.2 18 0 (by decide)).1]
    rfl
/-! from the fresh heap to the loop -/
theorem fia_z (xs : Nat → Int32) : ∀ i j : Nat, 6 ≤ i → i ≤ 10 → fIa xs i j = 0 ∧ fLa i j = 0 := fun i j h1 h2 => by
  unfold fIa fLa
  rw [if_neg (by omega), if_neg (by omega)]
  exact ⟨rfl, rfl⟩
def LC : List (Nat × Nat × Nat) := [(2, 8, 22), (2, 7, 21), (2, 6, 20), (20, 1, 17), (20, 0, 5), (2, 5, 17), (17, 0, 5), (17, 3, 46), (17, 2, 19), (17, 1, 18), (2, 4, 15), (15, 0, 5), (15, 1, 16), (2, 3, 13), (13, 0, 5), (13, 1, 14), (2, 2, 11), (11, 0, 5), (11, 1, 12), (2, 1, 5), (5, 4, 10), (5, 3, 9), (5, 2, 8), (5, 1, 7), (5, 0, 6), (2, 0, 3), (3, 0, 4)]
theorem c88 {d Ls : Nat} {xs : Nat → Int32} {h : AH} {Q : Option Value → AH → Prop} (B : Bt Ls (fIa xs) fLa h 3 13 []) (K : ∀ h' tt l, tt ≤ 40000 → l = LC → Bt Ls (fIb xs) fLa h' 24 tt l → Q none h') : Cl (d + 2) 88 [.ref 2] h Q := by
  refine Cl.enter rfl (g88_0 (d + 1) 2 h _ (fun n e h2 e2 => ?_))
  obtain ⟨rfl, B⟩ := B.nw rfl (by decide) (fun j => ⟨rfl, rfl⟩) e e2
  refine c38 B (fun j => ⟨rfl, rfl⟩) rfl (fun h B => ⟨rfl, B.ok (by decide) (by decide) rfl rfl, by decide, fun n e h2 e2 => ?_⟩)
  replace B := B.lk (i := 2) (b := 0) (v := 3) (by decide) rfl
  obtain ⟨rfl, B⟩ := B.nw rfl (by decide) (fun j => ⟨rfl, rfl⟩) e e2
  refine c20 B (fia_z xs) rfl (fun h B => ⟨rfl, B.ok (by decide) (by decide) rfl rfl, fun n e h2 e2 => ?_⟩)
  replace B := B.lk (i := 2) (b := 1) (v := 5) (by decide) rfl
  obtain ⟨rfl, B⟩ := B.nw rfl (by decide) (fun j => ⟨rfl, rfl⟩) e e2
  refine ⟨B.ok (by decide) (by decide) rfl rfl, 5, B.at (by decide), ?_⟩
  refine c71 (v := 11) ⟨by decide, rfl, rfl, by decide, by decide, by decide⟩ B (fun j => ⟨rfl, rfl⟩) rfl rfl (fun h B => ⟨rfl, B.ok (by decide) (by decide) rfl rfl, fun n e h2 e2 => ?_⟩)
  replace B := B.lk (i := 2) (b := 2) (v := 11) (by decide) rfl
  obtain ⟨rfl, B⟩ := B.nw rfl (by decide) (fun j => ⟨rfl, rfl⟩) e e2
  refine ⟨B.ok (by decide) (by decide) rfl rfl, 5, B.at (by decide), ?_⟩
  refine c71 (v := 13) ⟨by decide, rfl, rfl, by decide, by decide, by decide⟩ B (fun j => ⟨rfl, rfl⟩) rfl rfl (fun h B => ⟨rfl, B.ok (by decide) (by decide) rfl rfl, fun n e h2 e2 => ?_⟩)
  replace B := B.lk (i := 2) (b := 3) (v := 13) (by decide) rfl
  obtain ⟨rfl, B⟩ := B.nw rfl (by decide) (fun j => ⟨rfl, rfl⟩) e e2
  refine ⟨B.ok (by decide) (by decide) rfl rfl, 5, B.at (by decide), ?_⟩
  refine c71 (v := 15) ⟨by decide, rfl, rfl, by decide, by decide, by decide⟩ B (fun j => ⟨rfl, rfl⟩) rfl rfl (fun h B => ⟨rfl, B.ok (by decide) (by decide) rfl rfl, fun n e h2 e2 => ?_⟩)
  replace B := B.lk (i := 2) (b := 4) (v := 15) (by decide) rfl
  obtain ⟨rfl, B⟩ := B.nw rfl (by decide) (fun j => ⟨rfl, rfl⟩) e e2
  refine ⟨B.ok (by decide) (by decide) rfl rfl, 5, B.at (by decide), ?_⟩
  refine c54 B rfl (fun h B => ⟨rfl, B.ok (by decide) (by decide) rfl rfl, fun n e h2 e2 => ?_⟩)
  replace B := B.lk (i := 2) (b := 5) (v := 17) (by decide) rfl
  obtain ⟨rfl, B⟩ := B.nwd rfl (by decide) (fun j => ⟨rfl, rfl⟩) e e2
  refine ⟨B.ok (by decide) (by decide) rfl rfl, 5, B.at (by decide), 17, B.at (by decide), ?_⟩
  refine Cl.enter rfl (g65_0 (d + 1) _ _ _ _ _ ⟨B.ok (by decide) (by decide) rfl rfl, by decide, ?_⟩)
  replace B := B.lk (i := 20) (b := 0) (v := 5) (by decide) rfl
  replace B := B.lk (i := 20) (b := 1) (v := 17) (by decide) rfl
  refine ⟨rfl, B.ok (by decide) (by decide) rfl rfl, fun n e h2 e2 => ?_⟩
  replace B := B.lk (i := 2) (b := 6) (v := 20) (by decide) rfl
  obtain ⟨rfl, B⟩ := B.nwd rfl (by decide) (fun j => ⟨rfl, rfl⟩) e e2
  refine Cl.enter rfl (g9_0 (d + 1) _ _ _ ⟨rfl, B.ok (by decide) (by decide) rfl rfl, fun n e h2 e2 => ?_⟩)
  replace B := B.lk (i := 2) (b := 7) (v := 21) (by decide) rfl
  obtain ⟨rfl, B⟩ := B.nwd rfl (by decide) (fun j => ⟨rfl, rfl⟩) e e2
  refine ⟨B.ok (by decide) (by decide) rfl rfl, ?_⟩
  replace B := B.lk (i := 2) (b := 8) (v := 22) (by decide) rfl
  exact K _ _ _ (by decide) rfl B
theorem LC_ok : chkR LC = true := by decide +kernel
theorem LC_22 : ∀ e, e ∈ LC → ¬ e.1 = 22 := by decide +kernel
def zN : Nat → Nat := fun _ => 0
def g00 : G := mkG 0 zN zN zN 0 0
def t00 : ST := mkT 0 0 0 0 zN
def w00 : WD := mkW 0 zN g00 t00 false t00 0 zN 0 0
theorem w00_ok : WdOK w00 := by
  refine ⟨⟨by decide, fun i hi => absurd hi (Nat.not_lt_zero i)⟩, ⟨by decide, by decide, by decide, fun i hi => absurd hi (Nat.not_lt_zero i)⟩, by decide, ⟨⟨by decide, by decide, fun i hi => ?_⟩, by decide, by decide, fun i hi => absurd hi (Nat.not_lt_zero i), fun i j hi => absurd hi (Nat.not_lt_zero i)⟩, fun z => (by cases z), by decide, fun p hp => absurd hp (Nat.not_lt_zero p), by decide⟩
  have h1 := hi.1
  rw [show w00.t.F = 0 from rfl, Nat.zero_testBit] at h1
  cases h1
theorem start {Ls tt : Nat} {xs : Nat → Int32} {h : AH} (B : Bt Ls (fIb xs) fLa h 27 tt LC) : CI h w00 := by
  have HS := B.Sh LC_ok
  obtain ⟨b1, b2, b3, b4, ⟨b5, b6⟩, b7, b8, b9⟩ := B
  have z : ∀ i j, 2 ≤ i → i < 26 → i ≠ 18 ∧ i ≠ 17 → AI h i j = 0 := fun i j h1 h2 ⟨h3, h4⟩ => by
    rw [(b9 i j (kn_sgi (Nat.le_refl 27) h2)).1]
    unfold fIb fIa
    rw [if_neg h3, if_neg (fun q => h4 q.1), if_neg (by omega), if_neg (by omega)]
  have z0 : ∀ i j, 2 ≤ i → i < 26 → i ≠ 18 ∧ i ≠ 17 → AI h i j = nI 0 := z
  have sb : SB h := by
    refine ⟨HS, fun s hs => ?_, ⟨by rw [b6], fun j hj => Nat.zero_le _⟩⟩
    rw [(b9 18 s (by decide)).1]
    unfold fIb
    rw [if_pos rfl, if_pos hs]
  refine ⟨⟨⟨z0 _ _ (by decide) (by decide) (by decide), fun i hi => absurd hi (Nat.not_lt_zero i)⟩, fun y => (by cases y), ⟨z0 _ _ (by decide) (by decide) (by decide), z0 _ _ (by decide) (by decide) (by decide), z0 _ _ (by decide) (by decide) (by decide), z _ _ (by decide) (by decide) (by decide)⟩, ⟨Nat.zero_le _, fun p _ _ => ?_, Nat.zero_le _⟩, Nat.zero_le _, Nat.zero_le _⟩, ⟨z0 _ _ (by decide) (by decide) (by decide), z0 _ _ (by decide) (by decide) (by decide), z0 _ _ (by decide) (by decide) (by decide), z0 _ _ (by decide) (by decide) (by decide), fun i hi => absurd hi (Nat.not_lt_zero i)⟩, ⟨z0 _ _ (by decide) (by decide) (by decide), z0 _ _ (by decide) (by decide) (by decide), z0 _ _ (by decide) (by decide) (by decide), fun i hi => absurd hi (Nat.not_lt_zero i)⟩, sb, fun y => absurd y (by decide)⟩
  rcases b8 22 p with q | ⟨e, e1, e2, -⟩
  · exact q
  · exact absurd e2 (LC_22 e e1)
theorem PS00 : PS w00 0 0 0 (dtt zN 0) := ⟨w00_ok, by decide, rfl, rfl, rfl⟩
def LQ (r : Option Value) (h : AH) : Prop := r = some (.int 1) ∧ AN h ≤ 600002 ∧ AT h ≤ 7302249
theorem lsA_0 {g : G} {t : ST} (h : t.k = 0) : lsA g t = -1 := by
  unfold lsA
  rw [h]
  exact fsI_no (fun k hk => absurd hk (Nat.not_lt_zero k))
theorem absLaw : AbsLaw := by
  intro Ls xs hL
  have H : Wp 1000 204 0 [.ref 0, mk0, mk0, mk0, mk0, mk0, mk0, mk0, mk0, mk0, mk0, mk0, mk0, mk0, mk0, mk0, mk0] [] (h00 Ls xs) LQ := by
    refine g204_0 999 0 (h00 Ls xs) LQ (fun n1 e1 h2 e2 => ?_)
    have B0 : Bt Ls (fIa xs) fLa (h00 Ls xs) 2 0 [] := by
      refine ⟨rfl, rfl, fun i h1 h2 => by have := sgi_2 h1; omega, fun i hi => ?_, ⟨rfl, rfl⟩, fun e he => (by cases he), fun i b => Or.inl rfl, fun i j hi => ?_⟩
      · show (if i = 0 then (20, Ls) else if i = 1 then (20, Ls) else ((99, 0) : Nat × Nat)).1 = 99
        have hi2 : 2 ≤ i := by
          unfold sgi at hi
          split at hi
          · omega
          · split at hi <;> omega
        rw [if_neg (by omega), if_neg (by omega)]
      · refine ⟨?_, rfl⟩
        show (if i = 0 then xs j else if i = 1 then xs j else 0) = fIa xs i j
        rfl
    obtain ⟨rfl, B⟩ := B0.nw (kd := 11) (len := 13) rfl (by decide) (fun j => ⟨rfl, rfl⟩) e1 e2
    refine c88 (d := 997) B (fun h5 tt l htt hl B => ⟨rfl, fun n7 e7 h8 e8 => ?_⟩)
    subst hl
    obtain ⟨rfl, B⟩ := B.nwd (kd := 20) (len := 22) rfl (by decide) (fun j => ⟨rfl, rfl⟩) e7 e8
    refine fun n11 e11 h12 e12 => ?_
    obtain ⟨rfl, B⟩ := B.nwd (kd := 20) (len := 12) rfl (by decide) (fun j => ⟨rfl, rfl⟩) e11 e12
    refine fun n15 e15 h16 e16 => ?_
    obtain ⟨rfl, B⟩ := B.nwd (kd := 20) (len := 12) rfl (by decide) (fun j => ⟨rfl, rfl⟩) e15 e16
    have hLs : Ls < 2 ^ 31 := by omega
    have aN : AN h16 = 27 := B.1
    have aT : AT h16 ≤ 49000 := by
      have := B.2.1
      omega
    have k0 : AK h16 0 = (20, Ls) := B.2.2.2.2.1.1
    refine c130 (d := 957) hLs (start B) PS00 rfl k0 (fun h w' D many m1 m6 C W hD R S => ⟨_, rfl, fun z => absurd z (nI_pos (by omega)), fun _ => ?_⟩)
    obtain ⟨s1, s2, s3, s4⟩ := S
    have HS := C.Sh
    have hk0 : AK h 0 = (20, Ls) := by rw [s3]; exact k0
    refine c128 (d := 999) (k := 5) HS hk0 hLs (by decide) (fun x hx => ⟨_, rfl, ?_⟩)
    have eg : (wN w' (fnG D many) (fnT D many)).g = fnG D many := rfl
    have et : (wN w' (fnG D many) (fnT D many)).t = fnT D many := rfl
    generalize hwe : wN w' (fnG D many) (fnT D many) = w at C W eg et
    have hn : w.g.n = many := by rw [eg]; rfl
    have htk : w.t.k = 0 := by rw [et]; rfl
    have htw : w.t.w = 0 := by rw [et]; rfl
    have k24 : AK h 24 = (20, 12) := HS.2.1 24 (by decide)
    have row : RowW h 24 w.t.F w.t.C w.g.n := ⟨k24, fun i hi => by
      rw [hn] at hi
      rw [et]
      show _ = nI (sta (fnF D many) (fnC D many) i)
      rw [fn_sta hi (hD i hi)]
      exact (R.1 i hi).2.2.1⟩
    have ln : LnW h w.g := ⟨fun i hi => by
      rw [hn] at hi
      rw [eg]
      exact ⟨(R.1 i hi).1, (R.1 i hi).2.1⟩, by rw [eg]; exact R.2.1, by rw [eg]; exact R.2.2⟩
    have co : ∀ k, k < w.g.n → AI h 25 k = nI (w.g.c k) := fun k hk => by
      rw [hn] at hk
      rw [eg]
      exact (R.1 k hk).2.2.2
    rw [← hn]
    refine c132 (d := 998) HS W.2.1 (by omega) W.2.2.2.1.1 ln row ⟨_, rfl, by rw [HS.2.1 2 (by decide)]; rfl, ?_⟩
    have ex : nI x - nI x / 2 * 2 = nI (x % 2) := pk_rem (d := 2) hx (by decide) (by decide)
    have hwho : x % 2 < 2 := Nat.mod_lt _ (by decide)
    rw [ex]
    generalize x % 2 = who at hwho
    have q95 : bgnR w (nI who) = (0, wT w (bgnT w.t who)) := by
      unfold bgnR
      rw [sdQ_w hwho]
      show (if w.g.n = 0 then ((-103 : Int32), w) else if 0 < w.t.k then (-103, w) else (nI w.t.w, wT w (bgnT w.t who))) = _
      rw [if_neg (by omega), if_neg (by omega), htw]
      rfl
    refine useP (fC95 (d := 959) W (nI who)) q95 h _ C (fun h30 C30 f30 => ⟨_, rfl, fun _ n34 e34 h35 e35 => ?_, fun z => absurd rfl z⟩)
    have e := f30.2.1
    have an : AN h30 = 27 := by rw [e.1, s1, aN]
    have at30 : AT h30 ≤ 49000 := by rw [e.2.1, s2]; exact aT
    have e26 : n34 = 26 := by
      rw [e34]
      unfold NX
      rw [an]
      rfl
    subst e26
    have HN1 : HN h30 h35 := by
      rw [e35]
      exact HN.new f30.1 20 12
    have kn : ∀ i, i < 26 → sgi i < AN h30 := fun i hi => kn_sgi (by omega) hi
    have eI : ∀ i j, 23 ≤ i → i < 26 → AI h35 i j = AI h i j := fun i j h1 h2 => by rw [((HN1.2.2 i (kn i h2)).2.2 j).1, f30.I (by omega)]
    have eK : ∀ i, i < 26 → AK h35 i = AK h i := fun i h2 => by rw [(HN1.2.2 i (kn i h2)).1, f30.K]
    have k26 : AK h35 26 = (20, 12) := by
      rw [e35, AK_newO, an]
      rfl
    have V : LX Ls h35 (wT w (bgnT w.t who)) (wT w (bgnT w.t who)).t.F (wT w (bgnT w.t who)).t.C (100 * 0) := by
      have hk : (bgnT w.t who).k = 0 := htk
      refine ⟨C30.hn HN1 (by omega), W.wT (bgn_ok W.2.2.2.1 (by omega) hwho), ?_, ⟨fun i hi => ?_, ?_, ?_⟩, ⟨?_, fun i hi => ?_⟩, fun k hk => ?_, ⟨k26, fun j hj => ?_⟩, ?_, ?_, ?_, ?_⟩
      · show 1 ≤ w.g.n ∧ w.g.n ≤ 6
        omega
      · rw [eI _ _ (by decide) (by decide), eI _ _ (by decide) (by decide)]
        exact ln.1 i hi
      · rw [eI _ _ (by decide) (by decide)]
        exact ln.2.1
      · rw [eI _ _ (by decide) (by decide)]
        exact ln.2.2
      · rw [eK _ (by decide)]
        exact k24
      · rw [eI _ _ (by decide) (by decide)]
        exact row.2 i hi
      · rw [eI _ _ (by decide) (by decide)]
        exact co k hk
      · have hj2 : j < w.t.k := hj
        omega
      · rw [eK _ (by decide)]
        exact hk0
      · rw [e35, AN_newO, an]
        decide
      · rw [e35, AN_newO, an]
        decide
      · rw [e35, AT_newO]
        omega
    have fin := w89 (Q := LQ) hLs (fun h b => ⟨rfl, by have := b.1; omega, by have := b.2; omega⟩) 8 0 h35 (wT w (bgnT w.t who)) (by decide) V
    unfold A89 at fin
    have l0 : lsA (wT w (bgnT w.t who)).g (wT w (bgnT w.t who)).t = -1 := lsA_0 htk
    have k00 : (wT w (bgnT w.t who)).t.k = 0 := htk
    rw [l0, k00] at fin
    exact fin
  obtain ⟨n, r, h', he, hr, h1, h2⟩ := H
  subst hr
  exact ⟨n, h', he, h1, h2⟩
