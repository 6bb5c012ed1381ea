/-! the reference lays all ways to go on -/
def solP (i j : Nat) : Prop := (i = 23 ∧ 32 ≤ j ∧ j ≤ 39) ∨ (37 ≤ i ∧ i ≤ 40)
def Lay (h : AH) (g : G) (F C : Nat) : Prop := AI h 23 32 = nI (oc g.n F C) ∧ AI h 23 35 = nI F ∧ (∀ k, k < g.n → opb F C k = true → AI h 38 (rk F C k) = nI k) ∧ (∀ j, j ≤ oc g.n F C → AI h 39 j = nI (3 ^ j)) ∧ ∀ s, s < 2 ^ g.n → AI h 37 s = b01 (jn g s)
theorem LnR.sol {h h' : AH} {g : G} (s : LnR h g) (hf : Fr solP h h') : LnR h' g := s.fr hf ⟨by rintro (⟨-, z, -⟩ | ⟨z, -⟩) <;> omega, by rintro (⟨-, z, -⟩ | ⟨z, -⟩) <;> omega⟩ (fun j => ⟨by rintro (⟨z, -⟩ | ⟨z, -⟩) <;> omega, by rintro (⟨z, -⟩ | ⟨z, -⟩) <;> omega⟩)
theorem LsR.sol {h h' : AH} {n F C : Nat} (s : LsR h n F C) (hf : Fr solP h h') : LsR h' n F C := s.fr hf (fun j => by rintro (⟨z, -⟩ | ⟨z, -⟩) <;> omega)
theorem oc_10 {n : Nat} (F C : Nat) (hn : n ≤ 10) : oc n F C ≤ 10 := Nat.le_trans (oc_le n F C) hn
theorem p3_10 {j : Nat} (h : j ≤ 10) : 3 ^ j ≤ 59049 := p3_le h
theorem narB1 : vp_nar .boolean 1 = 1 := by decide
theorem narB0 : vp_nar .boolean 0 = 0 := by decide
theorem sta1 {F C l : Nat} : sta F C l = 1 ↔ F.testBit l = true := by
  unfold sta
  cases F.testBit l <;> cases C.testBit l <;> simp
theorem Lay.fr {P : Nat → Nat → Prop} {h h' : AH} {g : G} {F C : Nat} (s : Lay h g F C) (hf : Fr P h h') (h1 : ¬ P 23 32 ∧ ¬ P 23 35) (h2 : ∀ i j, 37 ≤ i → i ≤ 39 → ¬ P i j) : Lay h' g F C := by
  obtain ⟨a, b, c, e, f⟩ := s
  refine ⟨?_, ?_, fun k hk hp => ?_, fun j hj => ?_, fun s hs => ?_⟩
  · rw [hf.I h1.1, a]
  · rw [hf.I h1.2, b]
  · rw [hf.I (h2 _ _ (by decide) (by decide)), c k hk hp]
  · rw [hf.I (h2 _ _ (by decide) (by decide)), e j hj]
  · rw [hf.I (h2 _ _ (by decide) (by decide)), f s hs]
theorem Lay.ol {h : AH} {g : G} {F C j : Nat} (s : Lay h g F C) (hj : j < oc g.n F C) : AI h 38 j = nI (olN g.n F C j) := by
  obtain ⟨a, b, c⟩ := ol_ok hj
  have := s.2.2.1 _ a b
  rwa [c] at this
def cdP (i j : Nat) : Prop := i = 23 ∧ 37 ≤ j ∧ j ≤ 39
theorem dgI {x : Nat} (hx : x < 2 ^ 31) : nI x - nI x / 3 * 3 = nI (x % 3) := pk_rem (d := 3) hx (by decide) (by decide)
theorem dvI {x : Nat} (hx : x < 2 ^ 31) : nI x / 3 = nI (x / 3) := pk_div (d := 3) hx (by decide) (by decide)
