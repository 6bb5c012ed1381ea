/-! the near lanes -/
def dsE (g : G) (F C X r : Nat) : Nat → Nat := ruD g F C (d0 g.e X) r
def dsF (g : G) (F C X r : Nat) : Nat → Nat := ruD g F C (d0 g.f X) r
def nrX (g : G) (F C X r k : Nat) : Bool := opb F C k && (decide (dsE g F C X r (g.a k) + 1 + dsF g F C X r (g.b k) = dsE g F C X r g.f) || decide (dsE g F C X r (g.b k) + 1 + dsF g F C X r (g.a k) = dsE g F C X r g.f))
def nrp (g : G) (F C k : Nat) : Bool := nrX g F C 1000 5 k
/-- a triangle -/
theorem tri {g : G} {F C : Nat} {A B : Nat → Nat} (hA : IsD g F C g.e 1000 A) (hB : IsD g F C g.f 1000 B) (p : Nat) : A g.f ≤ A p + B p := by
  have h := hB.2.2.2 (fun q => 1000 - A q) (fun k hk hs => by
    obtain ⟨a, b⟩ := hA.1 k hk hs
    have c := hA.2.2.1 (g.a k)
    have d := hA.2.2.1 (g.b k)
    show 1000 - A (g.a k) ≤ 1000 - A (g.b k) + _ ∧ 1000 - A (g.b k) ≤ 1000 - A (g.a k) + _
    omega) (fun q => Nat.sub_le _ _) p
  have c := hA.2.2.1 p
  have d := hA.2.2.1 g.f
  have h2 : 1000 - A p ≤ 1000 - A g.f + B p := h
  omega
theorem near_ex {g : G} (ho : GOK g) {F C : Nat} (hs : VS g.n F C) (hj : jn g F = false) (hu : jn g (unc g.n C) = true) : ∃ k, k < g.n ∧ nrp g F C k = true := by
  obtain ⟨A, hA⟩ := ex_D ho F C g.e 1000
  obtain ⟨B, hB⟩ := ex_D ho F C g.f 1000
  have cA := conv5 ho ho.2.1 hA 5 (Nat.le_refl _)
  have cB := conv5 ho ho.2.2.1 hB 5 (Nat.le_refl _)
  have h100 := near_fin ho hs hA hu
  have h1 := near_pos ho hs hA hj
  apply Classical.byContradiction
  intro hno
  have none : ∀ k, k < g.n → opb F C k = true → A (g.a k) + 1 + B (g.b k) ≠ A g.f ∧ A (g.b k) + 1 + B (g.a k) ≠ A g.f := by
    intro k hk hp
    obtain ⟨la, lb⟩ := ho.ab k hk
    have e : ¬ nrp g F C k = true := fun z => hno ⟨k, hk, z⟩
    unfold nrp nrX dsE dsF at e
    rw [hp, cA _ la, cA _ lb, cB _ la, cB _ lb, cA _ ho.2.2.1, Bool.true_and, Bool.or_eq_true, decide_eq_true_eq, decide_eq_true_eq] at e
    exact ⟨fun z => e (Or.inl z), fun z => e (Or.inr z)⟩
  have hm : Rlx g F C (fun p => A p + (if 1 ≤ A p ∧ A p + B p = A g.f then 1 else 0)) := by
    intro k hk hs2
    obtain ⟨a1, a2⟩ := hA.1 k hk hs2
    obtain ⟨b1, b2⟩ := hB.1 k hk hs2
    have ta := tri hA hB (g.a k)
    have tb := tri hA hB (g.b k)
    have key : len1 F C k = 1 → opb F C k = true := by
      intro hl
      rw [← sta0]
      have := sta_lt F C k
      unfold len1 at hl
      split at hl
      · cases hl
      · omega
    have hl : len1 F C k = 0 ∨ len1 F C k = 1 := by unfold len1; split <;> omega
    show A (g.a k) + (if 1 ≤ A (g.a k) ∧ A (g.a k) + B (g.a k) = A g.f then 1 else 0) ≤ A (g.b k) + (if 1 ≤ A (g.b k) ∧ A (g.b k) + B (g.b k) = A g.f then 1 else 0) + len1 F C k ∧ A (g.b k) + (if 1 ≤ A (g.b k) ∧ A (g.b k) + B (g.b k) = A g.f then 1 else 0) ≤ A (g.a k) + (if 1 ≤ A (g.a k) ∧ A (g.a k) + B (g.a k) = A g.f then 1 else 0) + len1 F C k
    rcases hl with hl | hl
    · rw [hl] at a1 a2 b1 b2 ⊢
      split <;> split <;> omega
    · obtain ⟨n1, n2⟩ := none k hk (key hl)
      rw [hl] at a1 a2 b1 b2 ⊢
      split <;> split <;> omega
  have := hA.2.2.2 _ hm (fun p => by
    show A p + (if 1 ≤ A p ∧ A p + B p = A g.f then 1 else 0) ≤ 1000
    have := hA.2.2.1 p
    split <;> omega) g.f
  have h2 : A g.f + (if 1 ≤ A g.f ∧ A g.f + B g.f = A g.f then 1 else 0) ≤ A g.e + (if 1 ≤ A g.e ∧ A g.e + B g.e = A g.f then 1 else 0) + A g.f := this
  rw [hB.2.1, hA.2.1, if_pos ⟨h1, Nat.add_zero _⟩, if_neg (fun z => absurd z.1 (by decide))] at h2
  omega
/-- the reference's near lanes are the same -/
theorem near_ref {g : G} (ho : GOK g) {F C : Nat} (hs : VS g.n F C) (hu : jn g (unc g.n C) = true) {k : Nat} (hk : k < g.n) : nrX g F C 1048576 6 k = nrp g F C k := by
  obtain ⟨A, hA⟩ := ex_D ho F C g.e 1000
  obtain ⟨B, hB⟩ := ex_D ho F C g.f 1000
  obtain ⟨A2, hA2⟩ := ex_D ho F C g.e 1048576
  obtain ⟨B2, hB2⟩ := ex_D ho F C g.f 1048576
  have cA := conv5 ho ho.2.1 hA 5 (Nat.le_refl _)
  have cB := conv5 ho ho.2.2.1 hB 5 (Nat.le_refl _)
  have cA2 := conv5 ho ho.2.1 hA2 6 (by decide)
  have cB2 := conv5 ho ho.2.2.1 hB2 6 (by decide)
  have h100 := near_fin ho hs hA hu
  have mA := D_min (by decide) hA hA2
  have mB := D_min (by decide) hB hB2
  obtain ⟨la, lb⟩ := ho.ab k hk
  unfold nrp nrX dsE dsF
  rw [cA _ la, cA _ lb, cB _ la, cB _ lb, cA _ ho.2.2.1, cA2 _ la, cA2 _ lb, cB2 _ la, cB2 _ lb, cA2 _ ho.2.2.1]
  have m1 := mA (g.a k)
  have m2 := mA (g.b k)
  have m3 := mB (g.a k)
  have m4 := mB (g.b k)
  have m5 := mA g.f
  have s1 := small_D ho ho.2.1 hA2 la
  have s2 := small_D ho ho.2.1 hA2 lb
  have s3 := small_D ho ho.2.2.1 hB2 la
  have s4 := small_D ho ho.2.2.1 hB2 lb
  congr 1
  congr 1
  · apply Bool.eq_iff_iff.mpr
    rw [decide_eq_true_eq, decide_eq_true_eq]
    omega
  · apply Bool.eq_iff_iff.mpr
    rw [decide_eq_true_eq, decide_eq_true_eq]
    omega
/-- along or against, whichever is shorter -/
theorem near_min {g : G} (ho : GOK g) {F C : Nat} {k : Nat} (hk : k < g.n) (hp : opb F C k = true) : nrp g F C k = decide (min (dsE g F C 1000 5 (g.a k) + 1 + dsF g F C 1000 5 (g.b k)) (dsE g F C 1000 5 (g.b k) + 1 + dsF g F C 1000 5 (g.a k)) = dsE g F C 1000 5 g.f) := by
  obtain ⟨A, hA⟩ := ex_D ho F C g.e 1000
  obtain ⟨B, hB⟩ := ex_D ho F C g.f 1000
  have cA := conv5 ho ho.2.1 hA 5 (Nat.le_refl _)
  have cB := conv5 ho ho.2.2.1 hB 5 (Nat.le_refl _)
  obtain ⟨la, lb⟩ := ho.ab k hk
  have hs2 : sta F C k ≠ 2 := by
    rw [sta0.mpr hp]
    decide
  have hl : len1 F C k = 1 := by
    unfold len1
    rw [sta0.mpr hp]
    rfl
  obtain ⟨a1, a2⟩ := hA.1 k hk hs2
  have ta := tri hA hB (g.a k)
  have tb := tri hA hB (g.b k)
  unfold nrp nrX dsE dsF
  rw [cA _ la, cA _ lb, cB _ la, cB _ lb, cA _ ho.2.2.1, hp, Bool.true_and]
  apply Bool.eq_iff_iff.mpr
  rw [Bool.or_eq_true, decide_eq_true_eq, decide_eq_true_eq, decide_eq_true_eq]
  omega
/-- the first near one, or the dearest -/
def lsD (p : Nat → Bool) (c : Nat → Nat) (dear : Bool) : Nat → Option Nat
  | 0 => none
  | k + 1 => if p k = true then (match lsD p c dear k with
    | none => some k
    | some b => if dear = true ∧ c b < c k then some k else some b) else lsD p c dear k
theorem lsD_in {p : Nat → Bool} {c : Nat → Nat} {dear : Bool} : ∀ {k b}, lsD p c dear k = some b → b < k ∧ p b = true
  | 0, b, h => by cases h
  | k + 1, b, h => by
    unfold lsD at h
    split at h
    · rename_i hp
      split at h
      · cases h
        exact ⟨Nat.lt_succ_self _, hp⟩
      · rename_i b0 hb0
        have ih := lsD_in hb0
        split at h
        · cases h
          exact ⟨Nat.lt_succ_self _, hp⟩
        · cases h
          exact ⟨by omega, ih.2⟩
    · have ih := lsD_in h
      exact ⟨by omega, ih.2⟩
theorem lsD_some {p : Nat → Bool} {c : Nat → Nat} {dear : Bool} : ∀ {n k}, k < n → p k = true → lsD p c dear n ≠ none
  | 0, k, hk, _ => absurd hk (Nat.not_lt_zero k)
  | n + 1, k, hk, hp => by
    unfold lsD
    split
    · split
      · intro z; cases z
      · split <;> (intro z; cases z)
    · rename_i hpn
      refine lsD_some (k := k) ?_ hp
      rcases Nat.lt_or_ge k n with z | z
      · exact z
      · have : k = n := by omega
        rw [this] at hp
        exact absurd hp hpn
theorem lsD_cong {p q : Nat → Bool} {c : Nat → Nat} {dear : Bool} : ∀ {n}, (∀ k, k < n → p k = q k) → lsD p c dear n = lsD q c dear n
  | 0, _ => rfl
  | n + 1, h => by
    have ih := lsD_cong (c := c) (dear := dear) (n := n) (fun k hk => h k (by omega))
    unfold lsD
    rw [h n (by omega), ih]
def nrC (g : G) (F C : Nat) (dear : Bool) : Option Nat := lsD (nrp g F C) g.c dear g.n
/-- distances in a row -/
def DiC (h : AH) (i : Nat) (d : Nat → Nat) : Prop := ∀ p, p < 6 → AI h i p = nI (d p)
def Row6 (h : AH) (i : Nat) : Prop := 47 ≤ i ∧ AK h i = (20, 6)
theorem Row6.fr {P : Nat → Nat → Prop} {h h' : AH} {i : Nat} (r : Row6 h i) (hf : Fr P h h') : Row6 h' i := ⟨r.1, by rw [hf.2.2.1]; exact r.2⟩
theorem at6 {h : AH} {i p : Nat} (r : Row6 h i) (hp : p < 6) : atv h i (nI p) = AI h i p := by
  have hl : (AK h i).2 = 6 := by rw [r.2]
  exact atv_nI (by omega) (by omega)
theorem put6 {h : AH} {i p : Nat} {x : Int32} (r : Row6 h i) (hp : p < 6) : putv h i (nI p) x = stI h i p x := by
  have hl : (AK h i).2 = 6 := by rw [r.2]
  exact putv_nI (by omega) (by omega)
theorem DiC.st {h : AH} {i : Nat} {d : Nat → Nat} (s : DiC h i d) {p x : Nat} : DiC (stI h i p (nI x)) i (upN d p x) := by
  intro q hq
  rw [AI_stI]
  by_cases e : q = p
  · rw [if_pos ⟨rfl, e⟩, e, upN_s]
  · rw [if_neg (fun z => e z.2), upN_o _ _ e]
    exact s q hq
