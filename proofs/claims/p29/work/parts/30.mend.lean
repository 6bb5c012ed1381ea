/-! the lane that mends, of the class -/
def SM (h : AH) (g : G) : Prop := Sh h ∧ NetC h g ∧ RchC h g ∧ ThrC h ∧ FacC h
theorem SI.SM {h : AH} {g : G} (S : SI h g) : SM h g := by
  obtain ⟨s1, s2, s3, s4, s5, s6, s7⟩ := S
  exact ⟨s1, s2, s3, s4, s5⟩
def menP (i j : Nat) : Prop := netP i j ∨ i = 17 ∨ i = 19
/-- all that was found is forgotten -/
def fgt (h : AH) : AH := stI h 17 4 (-1)
theorem SM.forget {h h1 : AH} {g : G} (S : SM h g) (ho : GOK g) (f : Fr (fun i _ => i = 19) h h1) (hz : ∀ j, j < 3691 → AL h1 19 j = 0) : SI (fgt h1) g ∧ Fr (fun i _ => i = 17 ∨ i = 19) h (fgt h1) := by
  obtain ⟨s1, s2, s3, s4, s5⟩ := S
  have f2 : Fr (fun i _ => i = 17 ∨ i = 19) h (fgt h1) := (f.weak (fun i j z => Or.inr z)).trans (Fr.stI (Or.inl rfl))
  refine ⟨⟨f2.Sh s1, s2.fr f2 (fun a b c d z => by omega), s3.fr f2 (fun j z => by omega), fun s hs => ?_, ⟨?_, fun j hj => ?_⟩, OwC.zero ho hz, Or.inl (AI_stI_s _ _ _ _)⟩, f2⟩
  · rw [f2.I (by omega)]
    exact s4 s hs
  · rw [f2.2.2.1]
    exact s5.1
  · rw [f2.I (by omega)]
    exact s5.2 j hj
theorem k19 {h : AH} (S1 : Sh h) : AK h 19 = (21, 3691) := S1.2.1 19 (by decide)
theorem addG_n (g : G) (o t p : Nat) : (addG g o t p).n = g.n + 1 := rfl
theorem VS.up {n F C : Nat} (h : VS n F C) : VS (n + 1) F C := ⟨Nat.lt_of_lt_of_le h.1 (p2_le (Nat.le_succ n)), Nat.lt_of_lt_of_le h.2.1 (p2_le (Nat.le_succ n)), h.2.2⟩
/-- a net forgets its last lane -/
theorem NetC.drop {h : AH} {g : G} {o t p : Nat} (hc : NetC h (addG g o t p)) {h' : AH} (e : h' = stI h 5 5 (nI g.n)) : NetC h' g := by
  subst e
  obtain ⟨h1, h2, h3, h4⟩ := hc
  refine ⟨AI_stI_s _ _ _ _, ?_, ?_, fun i hi => ?_⟩
  · rw [AI_stI_o _ _ (Or.inr (by decide)), h2]
    rfl
  · rw [AI_stI_o _ _ (Or.inr (by decide)), h3]
    rfl
  · have hx := h4 i (Nat.lt_succ_of_lt hi)
    have ea : (addG g o t p).a i = g.a i := upN_o _ _ (by omega)
    have eb : (addG g o t p).b i = g.b i := upN_o _ _ (by omega)
    have ec : (addG g o t p).c i = g.c i := upN_o _ _ (by omega)
    unfold prs at hx ⊢
    rw [ea, eb, ec] at hx
    rw [AI_stI_o _ _ (Or.inl (by decide)), AI_stI_o _ _ (Or.inl (by decide)), AI_stI_o _ _ (Or.inl (by decide)), AI_stI_o _ _ (Or.inl (by decide))]
    exact hx
/-- does the lane of a pair of places mend -/
def mnp (g : G) (F C p : Nat) : Bool := decide (p / 6 < p % 6) && hv (addG g (p / 6) (p % 6) 1) F C 1
def omr (g : G) (F C : Nat) : Int32 := if hv g F C 1 = true then -1 else if hv g F C 0 = true then (if fa_first (mnp g F C) 36 < 36 then nI (fa_first (mnp g F C) 36) else -2) else -2
theorem nI_m2 {p : Nat} (h : p < 2 ^ 31) : ¬ nI p = -2 := by
  intro z
  have : nI p < 0 := by rw [z]; decide
  exact nI_pos h this
theorem SR.men {h h' : AH} (r : SR h h') : Fr menP h h' := Fr.weak r (fun _ _ z => Or.inr (Or.inr z))
