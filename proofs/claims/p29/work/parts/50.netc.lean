/-! the class's net() -/
theorem ftl_lt {cd : Nat → Nat} {L : Nat} (h : psr cd L = none) : ftl cd L < L := by
  apply Classical.byContradiction
  intro hn
  cases L with
  | zero => cases h
  | succ j =>
    have := fa_first_no (fun i => (psr cd (i + 1)).isNone) (j + 1) j (by unfold ftl at hn; omega)
    simp only [h] at this
    cases this
theorem c50 {d : Nat} {L sL mL : Nat} {cd : Nat → Nat} (po : POK L cd) (hE : psr cd L = some (sL, mL)) (h5 : 5 ≤ sL) {h : AH} (HS : Sh h) (hp : PgC h L cd) {Q : Option Value → AH → Prop} (K : ∀ h', Fr rcQ h h' → NetC h' (fnG (dtt cd L) mL) → RchC h' (fnG (dtt cd L) mL) → StC h' 11 (fnT (dtt cd L) mL) → Q none h') : Cl (d + 5) 50 [.ref 3, .ref 5, .ref 11] h Q := by
  have hL50 := po.1
  have l0 : 0 < L := by
    apply Classical.byContradiction
    intro z
    have e : L = 0 := by omega
    subst e
    cases hE
    omega
  obtain ⟨s1, n1, hs1⟩ := psr_next hE l0 (s := 0) (m := 0) rfl
  have e1 : s1 = 1 ∧ isPl (cd 0) = true := by
    unfold nxt at n1
    rw [if_pos rfl] at n1
    split at n1
    · rename_i z
      cases n1
      exact ⟨rfl, z⟩
    · cases n1
  obtain ⟨rfl, p1⟩ := e1
  rw [if_neg (by decide)] at hs1
  have l1 : 1 < L := by
    rcases Nat.lt_or_eq_of_le l0 with z | z
    · exact z
    · rw [← z] at hE
      have hs1' : psr cd 1 = some (1, 0) := hs1
      rw [show Nat.succ 0 = 1 from rfl, hs1'] at hE
      cases hE
      omega
  obtain ⟨s2, n2, hs2⟩ := psr_next hE l1 hs1
  have e2 : s2 = 2 ∧ isPl (cd 1) = true := by
    unfold nxt at n2
    rw [if_neg (by decide), if_pos rfl] at n2
    split at n2
    · rename_i z
      cases n2
      exact ⟨rfl, z.1⟩
    · cases n2
  obtain ⟨rfl, p2⟩ := e2
  rw [if_neg (by decide)] at hs2
  have l2 : 2 < L := by
    rcases Nat.lt_or_eq_of_le l1 with z | z
    · exact z
    · rw [← z] at hE
      have hs2' : psr cd 2 = some (2, 0) := hs2
      rw [show Nat.succ 1 = 2 from rfl, hs2'] at hE
      cases hE
      omega
  obtain ⟨s3, n3, hs3⟩ := psr_next hE l2 hs2
  have e3 : s3 = 3 := by
    unfold nxt at n3
    rw [if_neg (by decide), if_neg (by decide), if_pos rfl] at n3
    split at n3
    · cases n3
      rfl
    · cases n3
  obtain rfl := e3
  rw [if_neg (by decide)] at hs3
  have q1 := isPl_r p1
  have q2 := isPl_r p2
  have eD : dtt cd 3 = mkD (fun _ => 0) (fun _ => 0) (fun _ => 0) (fun _ => 0) (cd 0 - 97) (cd 1 - 97) := by
    rw [dtt_s hs2, dtt_s hs1, dtt_s (s := 0) (m := 0) rfl]
    rfl
  have a0 : atv h 4 0 - 97 = nI (cd 0 - 97) := by rw [show (0 : Int32) = nI 0 from rfl, atS HS 4 rfl (n := 50) (c := 20) (by omega), hp.2 0 l0, show (97 : Int32) = nI 97 from rfl, pk_sub (by omega)]
  have a1 : atv h 4 1 - 97 = nI (cd 1 - 97) := by rw [show (1 : Int32) = nI 1 from rfl, atS HS 4 rfl (n := 50) (c := 20) (by omega), hp.2 1 l1, show (97 : Int32) = nI 97 from rfl, pk_sub (by omega)]
  refine Cl.enter rfl (g50_0 (d + 3) _ h HS (Or.inl rfl) Q ⟨fun _ => ⟨fun _ => ?_, fun z => absurd ((by rw [hp.1]; exact (ltC (x := 1) (a := 1) rfl rfl (by omega) (by omega)).mpr l1)) z⟩, fun z => absurd ((by rw [hp.1]; exact (ltC (x := 0) (a := 0) rfl rfl (by omega) (by omega)).mpr l0)) z⟩)
  rw [a0, a1]
  refine c21 HS (by omega) (fun h' f n r => ⟨rfl, f.Sh HS, ?_⟩)
  have f2 : Fr rcP h h' := f.weak (fun a b z => by
    rcases z with z | z <;> (rw [z]; exact ⟨by decide, by decide⟩))
  have := w50 (d := d) po hE h5 K (L - 3) 3 0 h' (by omega) (by omega) hs3 (f.Sh HS) (hp.fr f2 (fun z => absurd z.1 (by decide)) (fun j z => absurd z.1 (by decide))) f2 (by rw [eD]; exact n _ _ _) (by rw [eD]; exact r _ _ _)
  exact this
def ncP (i j : Nat) : Prop := (i = 2 ∧ (j = 10 ∨ j = 12)) ∨ i = 3 ∨ (5 ≤ i ∧ i ≤ 11) ∨ i = 17 ∨ i = 19
/-- what the class's search needs where no net is -/
def SB (h : AH) : Prop := Sh h ∧ ThrC h ∧ FacC h
theorem SI.SB {h : AH} {g : G} (S : SI h g) : SB h := by
  obtain ⟨s1, s2, s3, s4, s5, s6, s7⟩ := S
  exact ⟨s1, s4, s5⟩
theorem SB.fr {P : Nat → Nat → Prop} {h h' : AH} (S : SB h) (hf : Fr P h h') (hp : ∀ i j, i = 1 ∨ (17 ≤ i ∧ i ≤ 19) → ¬ P i j) : SB h' := by
  obtain ⟨s1, s2, s3⟩ := S
  exact ⟨hf.Sh s1, fun s hs => by rw [hf.I (hp _ _ (Or.inr (by decide)))]; exact s2 s hs, ⟨by rw [hf.2.2.1]; exact s3.1, fun j hj => by rw [hf.I (hp _ _ (Or.inl rfl))]; exact s3.2 j hj⟩⟩
theorem c92 {d : Nat} {L nn : Nat} {cd : Nat → Nat} (po : POK L cd) {h : AH} (S : SB h) (hp : PgC h L cd) (hN : AI h 2 10 = nI nn) {Q : Option Value → AH → Prop} (K0 : ntQ cd L = none → ∀ h', Fr lsP h h' → Q (some (.int (-103))) h') (K : ∀ m, ntQ cd L = some m → ∀ h', Fr ncP h h' → SI h' (fnG (dtt cd L) m) → StC h' 11 (fnT (dtt cd L) m) → AI h' 3 1 = 0 → AI h' 2 12 = 0 → AI h' 2 10 = nI (nn + 1) → Q (some (.int (nI m))) h') : Cl (d + 6) 92 [.ref 2] h Q := by
  have HS := S.1
  have hL50 := po.1
  refine Cl.enter rfl (g92_0 (d + 4) h HS Q ?_)
  refine c45 po HS hp (fun h1 f1 hs => ⟨_, rfl, f1.Sh HS, ?_⟩)
  have hp1 : PgC h1 L cd := hp.fr f1 (fun z => absurd z.2 (by decide)) (fun j z => absurd z.1 (by decide))
  have fle : ftl cd L ≤ L := fa_first_le _ _
  rw [hp1.1, nI_eq (by omega) (by omega)]
  cases hE : psr cd L with
  | none =>
    have := ftl_lt hE
    exact ⟨fun z => by omega, fun _ => K0 (by unfold ntQ; rw [hE]) h1 f1⟩
  | some sm =>
    obtain ⟨sL, mL⟩ := sm
    have e2 := hs sL mL hE
    have iv := psr_inv hE
    refine ⟨fun _ => ?_, fun z => absurd (ftl_end hE) z⟩
    rw [e2, ltC (y := 5) (b := 5) rfl rfl (by have := iv.1; omega) (by omega)]
    refine ⟨fun z => K0 (by unfold ntQ; rw [hE]; exact if_neg (by omega)) h1 f1, fun z => ?_⟩
    have h5 : 5 ≤ sL := by omega
    have hq : ntQ cd L = some mL := by unfold ntQ; rw [hE]; exact if_pos h5
    refine c50 po hE h5 (f1.Sh HS) hp1 (fun h6 f6 n6 r6 s6 => ⟨rfl, f6.Sh (f1.Sh HS), ?_⟩)
    have S6 : SB h6 := (S.fr f1 (fun i j a z => by have := z.1; omega)).fr f6 (fun i j a z => by have := z.1; have := z.2; omega)
    obtain ⟨b1, b2, b3⟩ := S6
    have ho := fnG_ok hq
    have nn6 : AI h6 2 10 = nI nn := by rw [f6.I (fun z => absurd z.1 (by decide)), f1.I (fun z => absurd z.1 (by decide)), hN]
    have fA : Fr (fun i j => i = 3 ∧ j = 1) h6 (stI h6 3 1 0) := Fr.stI ⟨rfl, rfl⟩
    refine c56 (n := 3691) (k19 (fA.Sh b1)) (by decide) (by decide) (fA.Sh b1) (fun h8 f8 e8 hz => ⟨rfl, f8.Sh (fA.Sh b1), ?_⟩)
    have n7 : AI (stI (stI h8 17 4 (-1)) 2 12 0) 2 10 = nI nn := by
      rw [AI_stI_o _ _ (Or.inr (by decide)), AI_stI_o _ _ (Or.inl (by decide)), e8, AI_stI_o _ _ (Or.inl (by decide)), nn6]
    rw [n7, nI_1]
    have f7 : Fr (fun i j => (i = 2 ∧ (j = 10 ∨ j = 12)) ∨ (i = 3 ∧ j = 1) ∨ i = 17 ∨ i = 19) h6 (stI (stI (stI h8 17 4 (-1)) 2 12 0) 2 10 (nI (nn + 1))) := by
      refine ((((fA.weak (fun i j z => Or.inr (Or.inl z))).trans (f8.weak (fun i j z => Or.inr (Or.inr (Or.inr z))))).trans (Fr.stI (by decide))).trans (Fr.stI (by decide))).trans (Fr.stI (by decide))
    have e3 : AI (stI (stI (stI h8 17 4 (-1)) 2 12 0) 2 10 (nI (nn + 1))) 3 1 = 0 := by
      rw [AI_stI_o _ _ (Or.inl (by decide)), AI_stI_o _ _ (Or.inl (by decide)), AI_stI_o _ _ (Or.inl (by decide)), e8]
      exact AI_stI_s h6 3 1 0
    have e12 : AI (stI (stI (stI h8 17 4 (-1)) 2 12 0) 2 10 (nI (nn + 1))) 2 12 = 0 := by
      rw [AI_stI_o _ _ (Or.inr (by decide)), AI_stI_s]
    have e17 : AI (stI (stI (stI h8 17 4 (-1)) 2 12 0) 2 10 (nI (nn + 1))) 17 4 = -1 := by
      rw [AI_stI_o _ _ (Or.inl (by decide)), AI_stI_o _ _ (Or.inl (by decide)), AI_stI_s]
    have z7 : ∀ j, j < 3691 → AL (stI (stI (stI h8 17 4 (-1)) 2 12 0) 2 10 (nI (nn + 1))) 19 j = 0 := hz
    have e10 : AI (stI (stI (stI h8 17 4 (-1)) 2 12 0) 2 10 (nI (nn + 1))) 2 10 = nI (nn + 1) := AI_stI_s _ _ _ _
    generalize stI (stI (stI h8 17 4 (-1)) 2 12 0) 2 10 (nI (nn + 1)) = h7 at f7 e3 e12 e17 z7 e10 ⊢
    have no7 : ∀ i j, 4 ≤ i → i ≠ 17 → i ≠ 19 → ¬ ((i = 2 ∧ (j = 10 ∨ j = 12)) ∨ (i = 3 ∧ j = 1) ∨ i = 17 ∨ i = 19) := by
      rintro i j a b c (⟨z, -⟩ | ⟨z, -⟩ | z | z) <;> omega
    have n8 : NetC h7 (fnG (dtt cd L) mL) := n6.fr f7 (fun i j a b => no7 i j (by omega) (by omega) (by omega))
    have n5 : AI h7 5 5 = nI mL := n8.1
    rw [n5]
    refine K mL hq h7 ?_ ?_ (s6.fr f7 (fun j => ⟨no7 _ _ (by decide) (by decide) (by decide), no7 _ _ (by decide) (by decide) (by decide)⟩)) e3 e12 e10
    · refine ((f1.weak (fun a b z => Or.inr (Or.inl z.1))).trans (f6.weak (fun a b z => Or.inr (Or.inr (Or.inl z))))).trans (f7.weak (fun a b z => ?_))
      rcases z with z | z | z | z
      · exact Or.inl z
      · exact Or.inr (Or.inl z.1)
      · exact Or.inr (Or.inr (Or.inr (Or.inl z)))
      · exact Or.inr (Or.inr (Or.inr (Or.inr z)))
    · refine ⟨f7.Sh b1, n8, r6.fr f7 (fun j => no7 _ _ (by decide) (by decide) (by decide)), fun s hs => ?_, ⟨?_, fun j hj => ?_⟩, OwC.zero ho z7, Or.inl e17⟩
      · rw [f7.I (no7 _ _ (by decide) (by decide) (by decide))]
        exact b2 s hs
      · rw [f7.2.2.1]
        exact b3.1
      · rw [f7.I (by rintro (⟨z, -⟩ | ⟨z, -⟩ | z | z) <;> omega)]
        exact b3.2 j hj
