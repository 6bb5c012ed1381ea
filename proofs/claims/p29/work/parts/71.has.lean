/-! the law's search: all rows of moves, from their ends back -/
/-- the mover has it -/
def mvw (g : G) (F C m : Nat) : Bool := hv g F C m == decide (m = 0)
def TR (h : AH) (A B D : Nat) : Prop := AK h A = (20, 12) ∧ AK h B = (20, 12) ∧ AK h D = (20, 12) ∧ (2 ≤ A ∧ 2 ≤ B ∧ 2 ≤ D) ∧ (A ≠ B ∧ A ≠ D ∧ B ≠ D) ∧ A ≠ 23 ∧ B ≠ 23 ∧ D ≠ 23
theorem TR.fr {P : Nat → Nat → Prop} {h h' : AH} {A B D : Nat} (t : TR h A B D) (hf : Fr P h h') : TR h' A B D := by
  unfold TR
  rw [hf.2.2.1]
  exact t
theorem LnW.fr {P : Nat → Nat → Prop} {h h' : AH} {g : G} (L : LnW h g) (hf : Fr P h h') (hp : ∀ j, ¬ P 23 j) : LnW h' g := by
  obtain ⟨l1, l2, l3⟩ := L
  refine ⟨fun i hi => ?_, by rw [hf.I (hp _)]; exact l2, by rw [hf.I (hp _)]; exact l3⟩
  rw [hf.I (hp _), hf.I (hp _)]
  exact l1 i hi
def hsP (A B D q i j : Nat) : Prop := i = A ∨ ((i = B ∨ i = D) ∧ q ≤ j)
theorem hsP_23 {h : AH} {A B D q : Nat} (t : TR h A B D) (j : Nat) : ¬ hsP A B D q 23 j := by
  obtain ⟨-, -, -, -, -, a, b, c⟩ := t
  unfold hsP
  omega
theorem hsP_up {A B D q i j : Nat} (z : hsP A B D (q + 1) i j) : hsP A B D q i j := by
  unfold hsP at z ⊢
  omega
def fq (q : Nat) (b : Bool) : Int32 := if q = 0 ∧ b = true then 1 else 0
theorem in12 {h : AH} {a j : Nat} (hk : AK h a = (20, 12)) (hj : j < 12) : inR h a (nI j) = true := inR_of (nI_pos (by omega)) (by rw [hk, nI_fold, nI_ltI (by omega) (by omega)]; omega) (by rw [hk]; decide)
theorem nI_m (q : Nat) : nI (q + 1) + (-1) = nI q := by
  rw [← nI_1, Int32.add_assoc, show (1 : Int32) + (-1) = 0 from rfl, Int32.add_zero]
theorem mvI {who q : Nat} (hw : who < 2) (hq : q < 100) : (nI who + nI q) - (nI who + nI q) / 2 * 2 = nI ((who + q) % 2) := by
  rw [nI_add, fa_lit 2, pk_rem (by omega) (by decide) (by decide)]
theorem own_mv {g : G} {F C w l : Nat} (hw : w < 2) (h0 : outc g F C = 0) (hoc : oc g.n F C = l + 1) : mvw g F C w = decide (fa_first (goo g F C w) g.n < g.n) := by
  obtain ⟨c1, c2⟩ := outc0 h0
  unfold mvw
  rw [own_move hw c1 c2 hoc]
  cases decide (w = 0) <;> cases decide (fa_first (goo g F C w) g.n < g.n) <;> rfl
theorem jn_hv {g : G} {F C w : Nat} (h : jn g F = true) : hv g F C w = true := by
  unfold hv
  cases oc g.n F C with
  | zero => exact h
  | succ l =>
    show (jn g F || _) = true
    rw [h]
    rfl
theorem un_hv {g : G} {F C w : Nat} (h : jn g F = false) (h2 : jn g (unc g.n C) = false) : hv g F C w = false := by
  unfold hv
  cases oc g.n F C with
  | zero => exact h
  | succ l =>
    show (jn g F || (jn g (unc g.n C) && _)) = false
    rw [h, h2]
    rfl
/-- at an end -/
theorem end_mv {g : G} {F C w : Nat} (hw : w < 2) (h0 : ¬ outc g F C = 0) : mvw g F C w = decide (outc g F C = 1 + w) := by
  unfold outc at h0 ⊢
  unfold mvw
  cases h1 : jn g F with
  | true =>
    rw [jn_hv h1, if_pos rfl]
    match w, hw with
    | 0, _ => rfl
    | 1, _ => rfl
  | false =>
    rw [h1, if_neg (by decide)] at h0
    cases h2 : jn g (unc g.n C) with
    | true => rw [h2, if_pos rfl] at h0; exact absurd rfl h0
    | false =>
      rw [un_hv h1 h2, if_neg (by decide), if_neg (by decide)]
      match w, hw with
      | 0, _ => rfl
      | 1, _ => rfl
/-- the stand behind a move -/
def kdF (F m p : Nat) : Nat := if m = 0 then F ||| 2 ^ p else F
def kdC (C m p : Nat) : Nat := if m = 0 then C else C ||| 2 ^ p
theorem ch_vs {n F C m p : Nat} (h : VS n F C) (hp : p < n) (ho : opb F C p = true) : VS n (kdF F m p) (kdC C m p) := by
  unfold kdF kdC
  by_cases z : m = 0
  · rw [if_pos z, if_pos z]
    exact h.F hp ho
  · rw [if_neg z, if_neg z]
    exact h.C hp ho
theorem ch_oc {n F C m p : Nat} (hp : p < n) (ho : opb F C p = true) : oc n F C = oc n (kdF F m p) (kdC C m p) + 1 := by
  unfold kdF kdC
  by_cases z : m = 0
  · rw [if_pos z, if_pos z]
    exact oc_F hp ho
  · rw [if_neg z, if_neg z]
    exact oc_C hp ho
theorem ch_sta {F C m p : Nat} (hm : m < 2) (ho : opb F C p = true) (i : Nat) : sta (kdF F m p) (kdC C m p) i = if i = p then 1 + m else sta F C i := by
  unfold kdF kdC
  match m, hm with
  | 0, _ => exact sta_F i
  | 1, _ => exact sta_C ho i
theorem sta_opb {F C p : Nat} : sta F C p = 0 ↔ opb F C p = true := by
  unfold sta opb
  cases F.testBit p <;> cases C.testBit p <;> simp
/-- a lane is good, if the other one has it not behind it -/
theorem goo_ch {g : G} {F C m p : Nat} (hm : m < 2) (ho : opb F C p = true) : goo g F C m p = !mvw g (kdF F m p) (kdC C m p) (1 - m) := by
  unfold goo mvw kdF kdC
  rw [ho]
  match m, hm with
  | 0, _ =>
    show (true && hv g (F ||| 2 ^ p) C 1) = !(hv g (F ||| 2 ^ p) C 1 == decide ((1 : Nat) = 0))
    cases hv g (F ||| 2 ^ p) C 1 <;> rfl
  | 1, _ =>
    show (true && !hv g F (C ||| 2 ^ p) 0) = !(hv g F (C ||| 2 ^ p) 0 == decide ((0 : Nat) = 0))
    cases hv g F (C ||| 2 ^ p) 0 <;> rfl
section HAS
variable {d : Nat} {g : G} {who A B D : Nat} {Q : Option Value → AH → Prop}
/-- the end of a depth: what was won is told -/
def PopW (d : Nat) (g : G) (who A B D q : Nat) (b : Bool) (h : AH) (Q : Option Value → AH → Prop) : Prop := Wp (d + 2) 133 216 [.int (nI g.n), .ref 23, mk0, .int (nI who), .ref A, .ref B, .ref D, .int (nI q), mk0, mk0, mk0, .int (b01 b)] [.int (fq q b)] h Q
/-- a good move is known: on to the end -/
theorem good1 (h6 : g.n ≤ 6) {q : Nat} (hq : q < 12) {h : AH} (HS : Sh h) (T : TR h A B D) {F C : Nat} (R : RowW h A F C g.n) (hd : AI h D q = 1) (v8 v9 : Int32) (K : PopW d g who A B D q true h Q) : ∀ r p, p + r = g.n → Wp (d + 2) 133 158 [.int (nI g.n), .ref 23, mk0, .int (nI who), .ref A, .ref B, .ref D, .int (nI q), .int v8, .int v9, .int (nI p), mk0] [] h Q := by
  have at178 : ∀ p, Wp (d + 2) 133 178 [.int (nI g.n), .ref 23, mk0, .int (nI who), .ref A, .ref B, .ref D, .int (nI q), .int v8, .int v9, .int (nI p), mk0] [] h Q := fun p => by
    refine g133_178 (d + 2) _ _ _ _ _ _ _ _ _ h HS Q ⟨by rw [T.2.2.1], in12 T.2.2.1 hq, fun _ => ?_, fun z => absurd (by rw [tnI (by omega)]; exact hd) z⟩
    rw [tnI (by omega), hd, nI_eq0 (by omega)]
    unfold PopW fq at K
    refine ⟨fun z => ?_, fun z => ?_⟩
    · rw [if_pos ⟨z, rfl⟩] at K
      exact K
    · rw [if_neg (fun y => z y.1)] at K
      exact K
  intro r
  induction r with
  | zero =>
    intro p hp
    refine g133_158 (d + 2) _ _ _ _ _ _ _ _ _ h HS Q ⟨fun z => ?_, fun _ => at178 p⟩
    rw [nI_ltI (by omega) (by omega)] at z
    omega
  | succ r ih =>
    intro p hp
    refine g133_158 (d + 2) _ _ _ _ _ _ _ _ _ h HS Q ⟨fun _ => ⟨by rw [T.1], in12 T.1 (by omega), fun _ => at178 p, fun _ => ?_⟩, fun _ => at178 p⟩
    rw [nI_1]
    exact ih (p + 1) (by omega)
def NOK (d : Nat) (g : G) (who A B D l : Nat) : Prop := ∀ (q F C : Nat) (v8 : Int32) (h : AH) (Q : Option Value → AH → Prop), oc g.n F C = l → VS g.n F C → q + l ≤ 6 → Sh h → LnW h g → TR h A B D → RowW h A F C g.n → AI h B q = -2 → AI h D q = 0 → (∀ h', Fr (hsP A B D q) h h' → RowW h' A F C g.n → PopW d g who A B D q (mvw g F C ((who + q) % 2)) h' Q) → Wp (d + 2) 133 54 [.int (nI g.n), .ref 23, mk0, .int (nI who), .ref A, .ref B, .ref D, .int (nI q), .int v8, mk0, mk0, mk0] [] h Q
theorem kids (ho : GOK g) (h6 : g.n ≤ 6) (hw : who < 2) {l : Nat} (ih : NOK d g who A B D l) {q F C : Nat} (hoc : oc g.n F C = l + 1) (hv : VS g.n F C) (hql : q + (l + 1) ≤ 6) (h0c : outc g F C = 0) {h0 : AH} (K : ∀ h', Fr (hsP A B D q) h0 h' → RowW h' A F C g.n → PopW d g who A B D q (mvw g F C ((who + q) % 2)) h' Q) : ∀ r p (v8 : Int32) h, p + r = g.n → Sh h → LnW h g → TR h A B D → Fr (hsP A B D q) h0 h → RowW h A F C g.n → AI h D q = 0 → (∀ k, k < p → goo g F C ((who + q) % 2) k = false) → Wp (d + 2) 133 158 [.int (nI g.n), .ref 23, mk0, .int (nI who), .ref A, .ref B, .ref D, .int (nI q), .int v8, .int (nI ((who + q) % 2)), .int (nI p), mk0] [] h Q
  | 0, p, v8, h, hp, HS, L, T, hf, R, hd, hno => by
    have hm : (who + q) % 2 < 2 := Nat.mod_lt _ (by decide)
    have e : p = g.n := by omega
    have kk := K h hf R
    rw [own_mv hm h0c hoc, first_none (by rw [← e]; exact hno), decide_eq_false (Nat.lt_irrefl _)] at kk
    refine g133_158 (d + 2) _ _ _ _ _ _ _ _ _ h HS Q ⟨fun z => ?_, fun _ => ?_⟩
    · rw [nI_ltI (by omega) (by omega)] at z
      omega
    refine g133_178 (d + 2) _ _ _ _ _ _ _ _ _ h HS Q ⟨by rw [T.2.2.1], in12 T.2.2.1 (by omega), fun z => ?_, fun _ => ⟨fun z => ?_, fun _ => ?_⟩⟩
    · rw [tnI (by omega), hd] at z
      exact absurd z (by decide)
    · rw [nI_ltI (by omega) (by omega)] at z
      omega
    · rw [tnI (by omega), hd]
      unfold PopW fq at kk
      rw [if_neg (fun y => by cases y.2)] at kk
      exact ⟨fun _ => kk, fun _ => kk⟩
  | r + 1, p, v8, h, hp, HS, L, T, hf, R, hd, hno => by
    have hm : (who + q) % 2 < 2 := Nat.mod_lt _ (by decide)
    have hlt : p < g.n := by omega
    obtain ⟨t1, t2, t3, ⟨t4, t5, t6⟩, ⟨t7, t8, t9⟩, t10, t11, t12⟩ := id T
    refine g133_158 (d + 2) _ _ _ _ _ _ _ _ _ h HS Q ⟨fun _ => ⟨by rw [t1], in12 t1 (by omega), fun c => ?_, fun c => ?_⟩, fun z => absurd ((nI_ltI (by omega) (by omega)).mpr hlt) z⟩
    · rw [tnI (by omega), R.2 p hlt, nI_eq0 (by have := sta_lt F C p; omega), sta_opb] at c
      refine g133_178 (d + 2) _ _ _ _ _ _ _ _ _ h HS Q ⟨by rw [t3], in12 t3 (by omega), fun z => ?_, fun _ => ⟨fun _ => ?_, fun z => absurd ((nI_ltI (by omega) (by omega)).mpr hlt) z⟩⟩
      · rw [tnI (by omega), hd] at z
        exact absurd z (by decide)
      have e1 : (1 : Int32) + nI ((who + q) % 2) = nI (1 + (who + q) % 2) := by rw [show (1 : Int32) = nI 1 from rfl, nI_add]
      rw [nI_1, e1, tnI (by omega), tnI (by omega), tnI (by omega)]
      refine ⟨by rw [t2], in12 t2 (by omega), t5, by rw [t1], in12 t1 (by omega), t4, in12 t2 (by omega), by rw [t3], in12 t3 (by omega), t6, ?_⟩
      have fA : Fr (hsP A B D q) h (stI (stI (stI (stI h B q (nI p)) A p (nI (1 + (who + q) % 2))) B (q + 1) (-2)) D (q + 1) 0) := (((Fr.stI (P := hsP A B D q) (by unfold hsP; omega)).trans (Fr.stI (P := hsP A B D q) (by unfold hsP; omega))).trans (Fr.stI (P := hsP A B D q) (by unfold hsP; omega))).trans (Fr.stI (P := hsP A B D q) (by unfold hsP; omega))
      have aA : ∀ i, AI (stI (stI (stI (stI h B q (nI p)) A p (nI (1 + (who + q) % 2))) B (q + 1) (-2)) D (q + 1) 0) A i = if i = p then nI (1 + (who + q) % 2) else AI h A i := fun i => by
        rw [AI_stI_o _ _ (Or.inl t8), AI_stI_o _ _ (Or.inl t7), AI_stI]
        by_cases z : i = p
        · rw [if_pos ⟨rfl, z⟩, if_pos z]
        · rw [if_neg (fun y => z y.2), if_neg z, AI_stI_o _ _ (Or.inl t7)]
      have aB : AI (stI (stI (stI (stI h B q (nI p)) A p (nI (1 + (who + q) % 2))) B (q + 1) (-2)) D (q + 1) 0) B (q + 1) = -2 := by
        rw [AI_stI_o _ _ (Or.inl t9), AI_stI_s]
      have aB0 : AI (stI (stI (stI (stI h B q (nI p)) A p (nI (1 + (who + q) % 2))) B (q + 1) (-2)) D (q + 1) 0) B q = nI p := by
        rw [AI_stI_o _ _ (Or.inl t9), AI_stI_o _ _ (Or.inr (by omega)), AI_stI_o _ _ (Or.inl (fun z => t7 z.symm)), AI_stI_s]
      have aD : AI (stI (stI (stI (stI h B q (nI p)) A p (nI (1 + (who + q) % 2))) B (q + 1) (-2)) D (q + 1) 0) D (q + 1) = 0 := AI_stI_s _ _ _ _
      have aD0 : AI (stI (stI (stI (stI h B q (nI p)) A p (nI (1 + (who + q) % 2))) B (q + 1) (-2)) D (q + 1) 0) D q = 0 := by
        rw [AI_stI_o _ _ (Or.inr (by omega)), AI_stI_o _ _ (Or.inl (fun z => t9 z.symm)), AI_stI_o _ _ (Or.inl (fun z => t8 z.symm)), AI_stI_o _ _ (Or.inl (fun z => t9 z.symm))]
        exact hd
      generalize stI (stI (stI (stI h B q (nI p)) A p (nI (1 + (who + q) % 2))) B (q + 1) (-2)) D (q + 1) 0 = h1 at fA aA aB aB0 aD aD0 ⊢
      have HS1 := fA.Sh HS
      have T1 := T.fr fA
      have R1 : RowW h1 A (kdF F ((who + q) % 2) p) (kdC C ((who + q) % 2) p) g.n := ⟨T1.1, fun i hi => by
        rw [aA i, ch_sta hm c i]
        split
        · rfl
        · exact R.2 i hi⟩
      have hoc1 := ch_oc (m := (who + q) % 2) hlt c
      have em : (who + (q + 1)) % 2 = 1 - (who + q) % 2 := by omega
      refine ih (q + 1) _ _ _ h1 Q (by omega) (ch_vs hv hlt c) (by omega) HS1 (L.fr fA (hsP_23 T)) T1 R1 aB aD (fun h2 f2 R2 => ?_)
      rw [em]
      have HS2 := f2.Sh HS1
      have T2 := T1.fr f2
      have hB2 : AI h2 B q = nI p := by rw [f2.I (by unfold hsP; omega), aB0]
      have hD2 : AI h2 D q = 0 := by rw [f2.I (by unfold hsP; omega), aD0]
      have f12 : Fr (hsP A B D q) h h2 := fA.trans (f2.weak (fun i j z => hsP_up z))
      have back : ∀ h3, Fr (hsP A B D q) h2 h3 → (∀ i, AI h3 A i = AI h2 A i) → AI h3 B q = nI p → (AI h3 D q = 1 ∧ goo g F C ((who + q) % 2) p = true ∨ AI h3 D q = 0 ∧ goo g F C ((who + q) % 2) p = false) → Wp (d + 2) 133 54 [.int (nI g.n), .ref 23, mk0, .int (nI who), .ref A, .ref B, .ref D, .int (nI q), .int (fq (q + 1) (mvw g (kdF F ((who + q) % 2) p) (kdC C ((who + q) % 2) p) (1 - (who + q) % 2))), mk0, mk0, mk0] [] h3 Q := by
        intro h3 f3 eA eB eD
        have HS3 := f3.Sh HS2
        have T3 := T2.fr f3
        have np2 : ¬ nI p = -2 := fun z => by
          have : nI p < 0 := by rw [z]; decide
          exact nI_pos (by omega) this
        refine g133_54 (d + 1) _ _ _ _ _ _ _ h3 HS3 Q ⟨fun z => absurd z (nI_pos (by omega)), fun _ => ⟨by rw [T3.2.1], in12 T3.2.1 (by omega), fun z => absurd (by rw [tnI (by omega), eB] at z; exact z) np2, fun _ => ⟨fun z => absurd (by rw [tnI (by omega), eB] at z; exact z) (nI_pos (by omega)), fun _ => ⟨fun _ => ?_, fun z => absurd (by rw [tnI (by omega), eB, nI_ltI (by omega) (by omega)]; exact hlt) z⟩⟩⟩⟩
        rw [tnI (by omega), eB, tnI (by omega), AI_stI_o _ _ (Or.inl (fun z => t7 z.symm)), eB, nI_1, mvI hw (by omega)]
        refine ⟨by rw [T3.1], in12 T3.1 (by omega), t4, ?_⟩
        have f4 : Fr (hsP A B D q) h3 (stI h3 A p 0) := Fr.stI (by unfold hsP; omega)
        have R4 : RowW (stI h3 A p 0) A F C g.n := ⟨by rw [f4.2.2.1]; exact T3.1, fun i hi => by
          rw [AI_stI]
          by_cases z : i = p
          · rw [if_pos ⟨rfl, z⟩, z, sta_opb.mpr c]
            rfl
          · rw [if_neg (fun y => z y.2), eA, R2.2 i hi, ch_sta hm c i, if_neg z]⟩
        have HS4 := f4.Sh HS3
        have T4 := T3.fr f4
        have fall : Fr (hsP A B D q) h0 (stI h3 A p 0) := ((hf.trans f12).trans f3).trans f4
        have eD4 : AI (stI h3 A p 0) D q = AI h3 D q := AI_stI_o _ _ (Or.inl (fun z => t8 z.symm))
        rcases eD with ⟨d1, d2⟩ | ⟨d1, d2⟩
        · have hfirst : fa_first (goo g F C ((who + q) % 2)) g.n < g.n := by rw [first_at hlt hno d2]; exact hlt
          have kk := K _ fall R4
          rw [own_mv hm h0c hoc, decide_eq_true hfirst] at kk
          exact good1 h6 (by omega) HS4 T4 R4 (by rw [eD4]; exact d1) _ _ kk (g.n - (p + 1)) (p + 1) (by omega)
        · have L4 : LnW (stI h3 A p 0) g := ((L.fr f12 (hsP_23 T)).fr f3 (hsP_23 T)).fr f4 (hsP_23 T)
          exact kids ho h6 hw ih hoc hv hql h0c K r (p + 1) _ _ (by omega) HS4 L4 T4 fall R4 (by rw [eD4]; exact d1) (fun k hk => by
            by_cases e : k = p
            · rw [e]; exact d2
            · exact hno k (by omega))
      have hgo := goo_ch (g := g) hm c
      unfold PopW
      refine g133_216 (d + 2) _ _ _ _ _ _ _ _ h2 HS2 Q ?_
      rw [nI_m, tnI (by omega), b01_0]
      refine ⟨fun z => absurd z (nI_pos (by omega)), fun _ => ⟨fun z => ⟨by rw [T2.2.2.1], in12 T2.2.2.1 (by omega), t6, ?_⟩, fun z => ⟨by rw [T2.2.2.1], in12 T2.2.2.1 (by omega), by rw [T2.2.2.1], t6, ?_⟩⟩⟩
      · refine back _ (Fr.stI (by unfold hsP; omega)) (fun i => AI_stI_o _ _ (Or.inl t8)) ?_ (Or.inl ⟨AI_stI_s _ _ _ _, ?_⟩)
        · rw [AI_stI_o _ _ (Or.inl t9)]
          exact hB2
        · rw [hgo, z]
          rfl
      · refine back _ (Fr.stI (by unfold hsP; omega)) (fun i => AI_stI_o _ _ (Or.inl t8)) ?_ (Or.inr ⟨?_, ?_⟩)
        · rw [AI_stI_o _ _ (Or.inl t9)]
          exact hB2
        · rw [AI_stI_s]
          exact hD2
        · rw [hgo, ts_nf z]
          rfl
    · rw [tnI (by omega), R.2 p hlt, nI_eq0 (by have := sta_lt F C p; omega), sta_opb] at c
      rw [nI_1]
      exact kids ho h6 hw ih hoc hv hql h0c K r (p + 1) v8 h (by omega) HS L T hf R hd (fun k hk => by
        by_cases e : k = p
        · rw [e]
          unfold goo
          rw [ts_nt c]
          rfl
        · exact hno k (by omega))
theorem nok (ho : GOK g) (h6 : g.n ≤ 6) (hw : who < 2) : ∀ l, NOK d g who A B D l := by
  have body : ∀ l, (∀ l', l = l' + 1 → NOK d g who A B D l') → NOK d g who A B D l := by
    intro l ih q F C v8 h Q hoc hv hql HS L T R hb hd K
    have hm : (who + q) % 2 < 2 := Nat.mod_lt _ (by decide)
    obtain ⟨t1, t2, t3, ⟨t4, t5, t6⟩, ⟨t7, t8, t9⟩, t10, t11, t12⟩ := id T
    have hol : outc g F C < 3 := by unfold outc; split; decide; split <;> decide
    refine g133_54 (d + 1) _ _ _ _ _ _ _ h HS Q ⟨fun z => absurd z (nI_pos (by omega)), fun _ => ⟨by rw [t2], in12 t2 (by omega), fun _ => ?_, fun z => absurd (by rw [tnI (by omega)]; exact hb) z⟩⟩
    refine c132 (d := d) HS ho h6 hv L R ⟨_, rfl, HS, ?_⟩
    rw [mvI hw (by omega), show (1 : Int32) + nI ((who + q) % 2) = nI (1 + (who + q) % 2) from by rw [show (1 : Int32) = nI 1 from rfl, nI_add], nI_eq (by omega) (by omega)]
    have at104 : ∀ b : Bool, b = decide (outc g F C = 1 + (who + q) % 2) → Wp (d + 2) 133 104 [.int (nI g.n), .ref 23, mk0, .int (nI who), .ref A, .ref B, .ref D, .int (nI q), .int v8, .int (nI ((who + q) % 2)), .int (nI (outc g F C)), mk0] [.int (b01 b), .int (nI q), .ref D] h Q := by
      intro b eb
      refine g133_104 (d + 2) _ _ _ _ _ _ _ _ _ _ _ _ h HS Q ⟨by rw [t3], in12 t3 (by omega), t6, ?_⟩
      rw [tnI (by omega), nI_eq0 (by omega), AI_stI_s, AI_stI_s]
      have f0 : ∀ x : Int32, Fr (hsP A B D q) h (stI (stI h D q (b01 b)) B q x) := fun x => (Fr.stI (P := hsP A B D q) (by unfold hsP; omega)).trans (Fr.stI (P := hsP A B D q) (by unfold hsP; omega))
      have aA : ∀ (x : Int32) i, AI (stI (stI h D q (b01 b)) B q x) A i = AI h A i := fun x i => by rw [AI_stI_o _ _ (Or.inl t7), AI_stI_o _ _ (Or.inl t8)]
      have aD : ∀ x : Int32, AI (stI (stI h D q (b01 b)) B q x) D q = b01 b := fun x => by rw [AI_stI_o _ _ (Or.inl (fun z => t9 z.symm)), AI_stI_s]
      refine ⟨fun z => ⟨by rw [t2], in12 t2 (by omega), t5, by rw [t2], ?_⟩, fun z => ⟨by rw [t2], in12 t2 (by omega), t5, by rw [t2], ?_⟩⟩
      · have hpos := oc_pos hv z
        obtain ⟨l', el⟩ : ∃ l', l = l' + 1 := ⟨l - 1, by omega⟩
        have eb0 : b = false := by
          rw [eb]
          exact decide_eq_false (by omega)
        have f1 := f0 (-1)
        have aD1 := aD (-1)
        have aA1 := aA (-1)
        rw [eb0] at f1 aD1 aA1 ⊢
        generalize stI (stI h D q (b01 false)) B q (-1) = h1 at f1 aD1 aA1 ⊢
        exact kids ho h6 hw (ih l' el) (hoc.trans el) hv (by omega) z (fun h' f' R' => K h' (f1.trans f') R') g.n 0 v8 h1 (Nat.zero_add _) (f1.Sh HS) (L.fr f1 (hsP_23 T)) (T.fr f1) Fr.rfl ⟨(T.fr f1).1, fun i hi => by rw [aA1]; exact R.2 i hi⟩ aD1 (fun k hk => absurd hk (Nat.not_lt_zero k))
      · have emv : mvw g F C ((who + q) % 2) = b := by rw [end_mv hm z, eb]
        have f1 := f0 (nI g.n)
        have aD1 := aD (nI g.n)
        have aA1 := aA (nI g.n)
        rw [nI_1]
        generalize stI (stI h D q (b01 b)) B q (nI g.n) = h1 at f1 aD1 aA1 ⊢
        have T1 := T.fr f1
        have kk := K h1 f1 ⟨T1.1, fun i hi => by rw [aA1]; exact R.2 i hi⟩
        rw [emv] at kk
        refine g133_158 (d + 2) _ _ _ _ _ _ _ _ _ h1 (f1.Sh HS) Q ⟨fun y => ?_, fun _ => ?_⟩
        · rw [nI_ltI (by omega) (by omega)] at y
          omega
        refine g133_178 (d + 2) _ _ _ _ _ _ _ _ _ h1 (f1.Sh HS) Q ⟨by rw [T1.2.2.1], in12 T1.2.2.1 (by omega), ?_⟩
        rw [tnI (by omega), aD1, nI_eq0 (by omega)]
        unfold PopW fq at kk
        cases b with
        | true =>
          refine ⟨fun _ => ⟨fun y => ?_, fun y => ?_⟩, fun y => absurd rfl y⟩
          · rw [if_pos ⟨y, rfl⟩] at kk
            exact kk
          · rw [if_neg (fun x => y x.1)] at kk
            exact kk
        | false =>
          rw [if_neg (fun x => by cases x.2)] at kk
          refine ⟨fun y => absurd y (by decide), fun _ => ⟨fun y => ?_, fun _ => ⟨fun _ => kk, fun _ => kk⟩⟩⟩
          rw [nI_ltI (by omega) (by omega)] at y
          omega
    refine ⟨fun z => ?_, fun z => ?_⟩
    · exact at104 true (decide_eq_true z).symm
    · exact at104 false (decide_eq_false z).symm
  intro l
  induction l with
  | zero => exact body 0 (fun l' e => by cases e)
  | succ l ih => exact body (l + 1) (fun l' e => by cases e; exact ih)
end HAS
/-- the objects that stood stay as they are -/
def HN (h h' : AH) : Prop := AN h ≤ AN h' ∧ Sh h' ∧ ∀ i, sgi i < AN h → AK h' i = AK h i ∧ AR h' i = AR h i ∧ ∀ j, AI h' i j = AI h i j ∧ AL h' i j = AL h i j
theorem HN.rfl {h : AH} (hs : Sh h) : HN h h := ⟨Nat.le_refl _, hs, fun _ _ => ⟨Eq.refl _, Eq.refl _, fun _ => ⟨Eq.refl _, Eq.refl _⟩⟩⟩
theorem HN.trans {h h1 h2 : AH} (a : HN h h1) (b : HN h1 h2) : HN h h2 := by
  obtain ⟨a1, a2, a3⟩ := a
  obtain ⟨b1, b2, b3⟩ := b
  refine ⟨by omega, b2, fun i hi => ?_⟩
  obtain ⟨x1, x2, x3⟩ := a3 i hi
  obtain ⟨y1, y2, y3⟩ := b3 i (by omega)
  exact ⟨y1.trans x1, y2.trans x2, fun j => ⟨(y3 j).1.trans (x3 j).1, (y3 j).2.trans (x3 j).2⟩⟩
theorem HN.new {h : AH} (hs : Sh h) (kd n : Nat) : HN h (newO h kd n) := by
  refine ⟨Nat.le_succ _, hs.newO kd n, fun i hi => ?_⟩
  have hne := sg_ne hi
  refine ⟨if_neg hne, if_neg hne, fun j => ⟨?_, ?_⟩⟩
  · exact congrFun (show AI (newO h kd n) i = AI h i from if_neg hne) j
  · exact congrFun (show AL (newO h kd n) i = AL h i from if_neg hne) j
theorem HN.fr {P : Nat → Nat → Prop} {h h1 h2 : AH} (a : HN h h1) (f : Fr P h1 h2) (hp : ∀ i j, sgi i < AN h → ¬ P i j) : HN h h2 := by
  obtain ⟨a1, a2, a3⟩ := a
  refine ⟨by rw [f.1]; exact a1, f.Sh a2, fun i hi => ?_⟩
  obtain ⟨x1, x2, x3⟩ := a3 i hi
  refine ⟨by rw [f.2.2.1]; exact x1, by rw [f.2.2.2.1]; exact x2, fun j => ⟨?_, ?_⟩⟩
  · rw [f.I (hp i j hi)]
    exact (x3 j).1
  · rw [f.L (hp i j hi)]
    exact (x3 j).2
/-- the copy of what the lanes are -/
theorem w133 {d : Nat} {g : G} (h6 : g.n ≤ 6) {who A B D F C : Nat} {h0 : AH} {Q : Option Value → AH → Prop} (K : ∀ h, Fr (fun i _ => i = A ∨ i = B) h0 h → RowW h A F C g.n → AI h B 0 = -2 → Wp d 133 54 [.int (nI g.n), .ref 23, mk0, .int (nI who), .ref A, .ref B, .ref D, .int 0, .int 0, mk0, mk0, mk0] [] h Q) (hA24 : A ≠ 24) : ∀ m i h, i + m = g.n → Sh h → TR h A B D → RowW h 24 F C g.n → Fr (fun i _ => i = A ∨ i = B) h0 h → (∀ k, k < i → AI h A k = nI (sta F C k)) → Wp d 133 21 [.int (nI g.n), .ref 23, .ref 24, .int (nI who), .ref A, .ref B, .ref D, .int (nI i), mk0, mk0, mk0, mk0] [] h Q
  | 0, i, h, hi, HS, T, R, hf, hc => by
    obtain ⟨t1, t2, t3, ⟨t4, t5, t6⟩, ⟨t7, t8, t9⟩, t10, t11, t12⟩ := id T
    refine g133_21 d _ _ _ _ _ _ h HS Q ⟨fun z => ?_, fun _ => ⟨by rw [t2], in12 (j := 0) t2 (by decide), t5, ?_⟩⟩
    · rw [nI_ltI (by omega) (by omega)] at z
      omega
    have f1 : Fr (fun i _ => i = A ∨ i = B) h (stI h B 0 (-2)) := Fr.stI (Or.inr rfl)
    refine K (stI h B 0 (-2)) (hf.trans f1) ⟨by rw [f1.2.2.1]; exact t1, fun k hk => ?_⟩ (AI_stI_s _ _ _ _)
    rw [AI_stI_o _ _ (Or.inl t7)]
    exact hc k (by omega)
  | m + 1, i, h, hi, HS, T, R, hf, hc => by
    obtain ⟨t1, t2, t3, ⟨t4, t5, t6⟩, ⟨t7, t8, t9⟩, t10, t11, t12⟩ := id T
    have hlt : i < g.n := by omega
    refine g133_21 d _ _ _ _ _ _ h HS Q ⟨fun _ => ⟨ixR_nI (by omega) (by decide), by rw [t1], in12 t1 (by omega), t4, ?_⟩, fun z => absurd ((nI_ltI (by omega) (by omega)).mpr hlt) z⟩
    rw [tnI (by omega), R.2 i hlt, nI_1]
    have f1 : Fr (fun i _ => i = A ∨ i = B) h (stI h A i (nI (sta F C i))) := Fr.stI (Or.inl rfl)
    refine w133 h6 K hA24 m (i + 1) _ (by omega) (f1.Sh HS) (T.fr f1) ⟨by rw [f1.2.2.1]; exact R.1, fun k hk => ?_⟩ (hf.trans f1) (fun k hk => ?_)
    · rw [AI_stI_o _ _ (Or.inl (fun z => hA24 z.symm))]
      exact R.2 k hk
    · rw [AI_stI]
      by_cases z : k = i
      · rw [if_pos ⟨rfl, z⟩, z]
      · rw [if_neg (fun y => z y.2)]
        exact hc k (by omega)
theorem kn_sgi {n : Nat} (h : 27 ≤ n) {i : Nat} (hi : i < 26) : sgi i < n := by
  unfold sgi
  repeat' split
  all_goals omega
theorem nx_ne {n i : Nat} (h : sgi i < n) : sgm n ≠ i := fun e => sg_ne h e.symm
theorem c133 {d : Nat} {h : AH} (HS : Sh h) {g : G} (ho : GOK g) (h6 : g.n ≤ 6) {who F C : Nat} (hw : who < 2) (hv : VS g.n F C) (L : LnW h g) (R : RowW h 24 F C g.n) {Q : Option Value → AH → Prop} (K : ∀ h', HN h h' → AN h' = AN h + 3 → AT h' = AT h + 36 → Q (some (.int (b01 (mvw g F C who)))) h') : Cl (d + 2) 133 [.int (nI g.n), .ref 23, .ref 24, .int (nI who)] h Q := by
  have n0 := HS.1
  refine Cl.enter rfl (g133_0 (d + 2) _ _ h HS Q (fun A eA h1 e1 B eB h2 e2 D eD h3 e3 => ?_))
  have eA' : A = sgm (AN h) := eA
  have H1 : HN h h1 := by rw [e1]; exact HN.new HS 20 12
  have N1 : AN h1 = AN h + 1 := by rw [e1]; rfl
  have T1 : AT h1 = AT h + 12 := by rw [e1]; rfl
  have eB' : B = sgm (AN h + 1) := by rw [eB]; show sgm (AN h1) = _; rw [N1]
  have H2 : HN h1 h2 := by rw [e2]; exact HN.new H1.2.1 20 12
  have N2 : AN h2 = AN h + 2 := by rw [e2]; show AN h1 + 1 = _; omega
  have T2 : AT h2 = AT h + 24 := by rw [e2]; show AT h1 + 12 = _; omega
  have eD' : D = sgm (AN h + 2) := by rw [eD]; show sgm (AN h2) = _; rw [N2]
  have H3 : HN h2 h3 := by rw [e3]; exact HN.new H2.2.1 20 12
  have N3 : AN h3 = AN h + 3 := by rw [e3]; show AN h2 + 1 = _; omega
  have T3 : AT h3 = AT h + 36 := by rw [e3]; show AT h2 + 12 = _; omega
  have sA : sgi A = AN h := by rw [eA', sgi_m]
  have sB : sgi B = AN h + 1 := by rw [eB', sgi_m]
  have sD : sgi D = AN h + 2 := by rw [eD', sgi_m]
  have k1 : AK h1 A = (20, 12) := by rw [e1, eA]; exact if_pos rfl
  have k2 : AK h2 B = (20, 12) := by rw [e2, eB]; exact if_pos rfl
  have k3 : AK h3 D = (20, 12) := by rw [e3, eD]; exact if_pos rfl
  have z3 : ∀ j, AI h3 D j = 0 := fun j => by
    rw [e3, eD]
    exact congrFun (show AI (newO h2 20 12) (NX h2) = fun _ => 0 from if_pos rfl) j
  have kA : AK h3 A = (20, 12) := by rw [(H3.2.2 A (by omega)).1, (H2.2.2 A (by omega)).1, k1]
  have kB : AK h3 B = (20, 12) := by rw [(H3.2.2 B (by omega)).1, k2]
  have HH : HN h h3 := (H1.trans H2).trans H3
  have big : ∀ i, i < 26 → sgi i < AN h := fun i hi => kn_sgi n0 hi
  have neA : ∀ i, i < 26 → A ≠ i := fun i hi z => by have := big i hi; rw [← z, sA] at this; omega
  have neB : ∀ i, i < 26 → B ≠ i := fun i hi z => by have := big i hi; rw [← z, sB] at this; omega
  have neD : ∀ i, i < 26 → D ≠ i := fun i hi z => by have := big i hi; rw [← z, sD] at this; omega
  have T : TR h3 A B D := by
    refine ⟨kA, kB, k3, ⟨?_, ?_, ?_⟩, ⟨fun z => by rw [z] at sA; omega, fun z => by rw [z] at sA; omega, fun z => by rw [z] at sB; omega⟩, neA 23 (by decide), neB 23 (by decide), neD 23 (by decide)⟩
    · rw [eA']; exact sgm_2 (by omega)
    · rw [eB']; exact sgm_2 (by omega)
    · rw [eD']; exact sgm_2 (by omega)
  have R3 : RowW h3 24 F C g.n := by
    have q := HH.2.2 24 (big 24 (by decide))
    exact ⟨q.1.trans R.1, fun i hi => by rw [(q.2.2 i).1]; exact R.2 i hi⟩
  have L3 : LnW h3 g := by
    have q := HH.2.2 23 (big 23 (by decide))
    obtain ⟨l1, l2, l3⟩ := L
    exact ⟨fun i hi => by rw [(q.2.2 _).1, (q.2.2 _).1]; exact l1 i hi, by rw [(q.2.2 _).1]; exact l2, by rw [(q.2.2 _).1]; exact l3⟩
  refine w133 (d := d + 2) h6 (F := F) (C := C) (h0 := h3) (fun h4 f4 R4 b4 => ?_) (neA 24 (by decide)) g.n 0 h3 (Nat.zero_add _) HH.2.1 T R3 Fr.rfl (fun k hk => absurd hk (Nat.not_lt_zero k))
  have T4 := T.fr f4
  have d4 : AI h4 D 0 = 0 := by
    rw [f4.I (by obtain ⟨-, -, -, -, ⟨a, b, c⟩, -⟩ := T; rintro (z | z); exact b z.symm; exact c z.symm)]
    exact z3 0
  have L4 : LnW h4 g := L3.fr f4 (fun j => by obtain ⟨-, -, -, -, -, a, b, c⟩ := T; rintro (z | z); exact a z.symm; exact b z.symm)
  have hocn : oc g.n F C ≤ g.n := oc_le _ _ _
  refine nok (d := d) ho h6 hw (oc g.n F C) 0 F C 0 h4 Q rfl hv (by omega) (f4.Sh HH.2.1) L4 T4 R4 b4 d4 (fun h5 f5 R5 => ?_)
  have HS5 := f5.Sh (f4.Sh HH.2.1)
  have ew : (who + 0) % 2 = who := by omega
  rw [ew]
  unfold PopW fq
  refine g133_216 (d + 2) _ _ _ _ _ _ _ _ h5 HS5 Q ⟨fun _ => ?_, fun z => absurd (by decide) z⟩
  refine g133_54 (d + 1) _ _ _ _ _ _ _ h5 HS5 Q ⟨fun _ => ⟨?_, ?_⟩, fun z => absurd (by decide) z⟩
  · cases mvw g F C who
    · exact Or.inl rfl
    · exact Or.inr rfl
  · have HN5 : HN h h5 := by
      refine (HH.fr f4 (fun i j hi z => ?_)).fr f5 (fun i j hi z => ?_)
      · rcases z with rfl | rfl <;> omega
      · unfold hsP at z
        rcases z with rfl | ⟨rfl | rfl, -⟩ <;> omega
    have kk := K h5 HN5 (by rw [f5.1, f4.1]; exact N3) (by rw [f5.2.1, f4.2.1]; exact T3)
    cases hb : mvw g F C who
    · rw [hb] at kk
      exact kk
    · rw [hb] at kk
      exact kk
/-- whether JOIN has it -/
theorem c134 {d : Nat} {h : AH} (HS : Sh h) {g : G} (ho : GOK g) (h6 : g.n ≤ 6) {who F C : Nat} (hw : who < 2) (hs : VS g.n F C) (L : LnW h g) (R : RowW h 24 F C g.n) {Q : Option Value → AH → Prop} (K : ∀ h', HN h h' → AN h' = AN h + 3 → AT h' = AT h + 36 → Q (some (.int (b01 (hv g F C who)))) h') : Cl (d + 3) 134 [.int (nI g.n), .ref 23, .ref 24, .int (nI who)] h Q := by
  refine Cl.enter rfl (g134_0 (d + 2) _ _ h HS Q ?_)
  refine c133 (d := d) HS ho h6 hw hs L R (fun h' H n t => ⟨_, rfl, H.2.1, ?_⟩)
  have kk := K h' H n t
  rw [nI_eq0 (by omega)]
  refine ⟨fun z => ?_, fun z => ?_⟩
  · have e : mvw g F C who = hv g F C who := by
      unfold mvw
      rw [decide_eq_true z]
      cases hv g F C who <;> rfl
    rw [e]
    cases hb : hv g F C who with
    | true =>
      rw [hb] at kk
      exact ⟨fun _ => kk, fun y => absurd rfl y⟩
    | false =>
      rw [hb] at kk
      exact ⟨fun y => absurd y (by decide), fun _ => kk⟩
  · have e : mvw g F C who = !hv g F C who := by
      unfold mvw
      rw [decide_eq_false z]
      cases hv g F C who <;> rfl
    rw [e]
    cases hb : hv g F C who with
    | true =>
      rw [hb] at kk
      exact ⟨fun _ => kk, fun y => absurd rfl y⟩
    | false =>
      rw [hb] at kk
      exact ⟨fun y => absurd y (by decide), fun _ => kk⟩
