/-! the reference's new net -/
def ntQ (cd : Nat → Nat) (L : Nat) : Option Nat := match psr cd L with
  | none => none
  | some (s, m) => if 5 ≤ s then some m else none
def fnG (D : Dt) (m : Nat) : G := mkG m D.A D.B D.C D.o D.t
def fnF (D : Dt) (m : Nat) : Nat := msk (fun k => decide (D.I k = 1)) m
def fnC (D : Dt) (m : Nat) : Nat := msk (fun k => decide (D.I k = 2)) m
def fnT (D : Dt) (m : Nat) : ST := mkT (fnF D m) (fnC D m) 0 0 (fun _ => 0)
theorem ntQ_some {cd : Nat → Nat} {L m : Nat} (h : ntQ cd L = some m) : ∃ s, psr cd L = some (s, m) ∧ 5 ≤ s ∧ 1 ≤ m ∧ m ≤ 9 := by
  unfold ntQ at h
  split at h
  · cases h
  · rename_i s m' hs
    split at h
    · rename_i h5
      cases h
      obtain ⟨v1, v2, v3, v4, v5⟩ := psr_inv hs
      exact ⟨s, hs, h5, v5 h5, v2⟩
    · cases h
theorem fnG_ok {cd : Nat → Nat} {L m : Nat} (h : ntQ cd L = some m) : GOK (fnG (dtt cd L) m) := by
  obtain ⟨s, hs, h5, h1, h9⟩ := ntQ_some h
  obtain ⟨d1, d2, d3, -, -⟩ := dtt_ok hs
  refine ⟨Nat.le_trans h9 (by decide), d1 (by omega), d2 (by omega), fun i hi => ?_⟩
  obtain ⟨a, b, c, e⟩ := d3 i hi
  exact ⟨a, b, e⟩
theorem fnVS (D : Dt) (m : Nat) : VS m (fnF D m) (fnC D m) := by
  refine ⟨msk_lt _ _, msk_lt _ _, fun i hi => ?_⟩
  unfold fnF fnC at hi
  rw [msk_tb, msk_tb, Bool.and_eq_true, Bool.and_eq_true] at hi
  have a := of_decide_eq_true hi.1.2
  have b := of_decide_eq_true hi.2.2
  omega
theorem fnT_ok (D : Dt) (m : Nat) : TOK (fnG D m) (fnT D m) := by
  refine ⟨fnVS D m, (by decide : (0 : Nat) < 2), ?_, fun i hi => absurd hi (Nat.not_lt_zero i), fun i j hi => absurd hi (Nat.not_lt_zero i)⟩
  show 0 + oc m (fnF D m) (fnC D m) ≤ m
  rw [Nat.zero_add]
  exact oc_le m _ _
theorem fn_sta {D : Dt} {m k : Nat} (hk : k < m) (hI : D.I k < 3) : sta (fnF D m) (fnC D m) k = D.I k := by
  unfold sta fnF fnC
  rw [msk_tb, msk_tb, decide_eq_true hk, Bool.true_and, Bool.true_and]
  by_cases h1 : D.I k = 1
  · rw [h1]
    rfl
  · rw [if_neg (fun z => h1 (of_decide_eq_true z))]
    by_cases h2 : D.I k = 2
    · rw [h2]
      rfl
    · rw [if_neg (fun z => h2 (of_decide_eq_true z))]
      omega
def rnwP (i j : Nat) : Prop := (i = 23 ∧ (j ≤ 3 ∨ j = 8 ∨ j = 9 ∨ j = 14 ∨ (22 ≤ j ∧ j ≤ 26))) ∨ (24 ≤ i ∧ i ≤ 27) ∨ (33 ≤ i ∧ i ≤ 36)
def cpy (h : AH) (i : Nat) : AH := stI (stI (stI (stI h 24 i (AI h 33 i)) 25 i (AI h 34 i)) 26 i (AI h 35 i)) 27 i (AI h 36 i)
theorem cpy_a (h : AH) (i : Nat) : AI (cpy h i) 24 i = AI h 33 i ∧ AI (cpy h i) 25 i = AI h 34 i ∧ AI (cpy h i) 26 i = AI h 35 i ∧ AI (cpy h i) 27 i = AI h 36 i := by
  unfold cpy
  refine ⟨?_, ?_, ?_, AI_stI_s _ _ _ _⟩
  · rw [AI_stI_o _ _ (Or.inl (by decide)), AI_stI_o _ _ (Or.inl (by decide)), AI_stI_o _ _ (Or.inl (by decide)), AI_stI_s]
  · rw [AI_stI_o _ _ (Or.inl (by decide)), AI_stI_o _ _ (Or.inl (by decide)), AI_stI_s]
  · rw [AI_stI_o _ _ (Or.inl (by decide)), AI_stI_s]
theorem cpy_o (h : AH) {i a b : Nat} (hn : (a < 24 ∨ 27 < a) ∨ b ≠ i) : AI (cpy h i) a b = AI h a b := by
  unfold cpy
  have q : ∀ x, 24 ≤ x → x ≤ 27 → a ≠ x ∨ b ≠ i := fun x h1 h2 => by
    rcases hn with z | z
    · exact Or.inl (by omega)
    · exact Or.inr z
  rw [AI_stI_o _ _ (q 27 (by decide) (by decide)), AI_stI_o _ _ (q 26 (by decide) (by decide)), AI_stI_o _ _ (q 25 (by decide) (by decide)), AI_stI_o _ _ (q 24 (by decide) (by decide))]
theorem cpy_f (h : AH) (i : Nat) : Fr rnwP h (cpy h i) := (((Fr.stI (P := rnwP) (Or.inr (Or.inl (by decide)))).trans (Fr.stI (P := rnwP) (Or.inr (Or.inl (by decide))))).trans (Fr.stI (P := rnwP) (Or.inr (Or.inl (by decide))))).trans (Fr.stI (P := rnwP) (Or.inr (Or.inl (by decide))))
