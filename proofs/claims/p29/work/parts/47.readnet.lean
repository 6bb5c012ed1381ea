/-! the reference reads its page -/
theorem DtR.fr {P : Nat → Nat → Prop} {h h' : AH} {s m : Nat} {D : Dt} (x : DtR h s m D) (hf : Fr P h h') (h1 : ¬ P 23 24 ∧ ¬ P 23 25 ∧ ¬ P 23 26) (h2 : ∀ i j, 33 ≤ i → i ≤ 36 → ¬ P i j) : DtR h' s m D := by
  obtain ⟨d1, d2, d3, d4, d5⟩ := x
  refine ⟨by rw [hf.I h1.1]; exact d1, fun z => by rw [hf.I h1.2.1]; exact d2 z, fun z => by rw [hf.I h1.2.2]; exact d3 z, fun k hk => ?_, fun z => ?_⟩
  · rw [hf.I (h2 33 k (by decide) (by decide)), hf.I (h2 34 k (by decide) (by decide)), hf.I (h2 35 k (by decide) (by decide)), hf.I (h2 36 k (by decide) (by decide))]
    exact d4 k hk
  · rw [hf.I (h2 33 m (by decide) (by decide)), hf.I (h2 35 m (by decide) (by decide)), hf.I (h2 36 m (by decide) (by decide))]
    exact d5 z
theorem rd3 {h h3 : AH} {m : Nat} {D : Dt} {x : Int32} (hd : DtR h 3 m D) (hm : m ≤ 8) (e : h3 = stI (stI (stI h 33 m x) 35 m 0) 36 m 1) : Fr rdP h h3 ∧ (∀ c, x = nI (c - 97) → DtR h3 4 m (mkD (upN D.A m (c - 97)) D.B (upN D.I m 0) (upN D.C m 1) D.o D.t)) := by
  subst e
  have f1 : Fr rdP h (stI h 33 m x) := Fr.stI (Or.inr (by decide))
  have f2 : Fr rdP (stI h 33 m x) (stI (stI h 33 m x) 35 m 0) := Fr.stI (Or.inr (by decide))
  have f3 : Fr rdP (stI (stI h 33 m x) 35 m 0) (stI (stI (stI h 33 m x) 35 m 0) 36 m 1) := Fr.stI (Or.inr (by decide))
  refine ⟨(f1.trans f2).trans f3, fun c hx => ?_⟩
  obtain ⟨d1, d2, d3, d4, d5⟩ := hd
  have ne : ∀ i j, (i ≠ 33 ∧ i ≠ 35 ∧ i ≠ 36) ∨ j ≠ m → AI (stI (stI (stI h 33 m x) 35 m 0) 36 m 1) i j = AI h i j := by
    intro i j hh
    rw [AI_stI_o, AI_stI_o, AI_stI_o]
    · rcases hh with q | q
      · exact Or.inl q.1
      · exact Or.inr q
    · rcases hh with q | q
      · exact Or.inl q.2.1
      · exact Or.inr q
    · rcases hh with q | q
      · exact Or.inl q.2.2
      · exact Or.inr q
  refine ⟨by rw [ne _ _ (Or.inl (by decide))]; exact d1, fun _ => by rw [ne _ _ (Or.inl (by decide))]; exact d2 (by omega), fun _ => by rw [ne _ _ (Or.inl (by decide))]; exact d3 (by omega), fun k hk => ?_, fun _ => ?_⟩
  · have hne : k ≠ m := by omega
    rw [ne _ _ (Or.inr hne), ne _ _ (Or.inr hne), ne _ _ (Or.inr hne), ne _ _ (Or.inr hne)]
    show AI h 33 k = nI (upN D.A m (c - 97) k) ∧ AI h 34 k = nI (D.B k) ∧ AI h 35 k = nI (upN D.I m 0 k) ∧ AI h 36 k = nI (upN D.C m 1 k)
    rw [upN_o _ _ hne, upN_o _ _ hne, upN_o _ _ hne]
    exact d4 k hk
  · show _ = nI (upN D.A m (c - 97) m) ∧ _ = nI (upN D.I m 0 m) ∧ _ = nI (upN D.C m 1 m)
    rw [upN_s, upN_s, upN_s]
    refine ⟨?_, ?_, AI_stI_s _ _ _ _⟩
    · rw [AI_stI_o _ _ (Or.inl (by decide)), AI_stI_o _ _ (Or.inl (by decide)), AI_stI_s]
      exact hx
    · rw [AI_stI_o _ _ (Or.inl (by decide)), AI_stI_s]
      rfl
/-- all of the page -/
def rnP (i j : Nat) : Prop := rdP i j
