/-! what a text says, and the reference's reading of it -/
def Dt : Type := (Nat → Nat) × (Nat → Nat) × (Nat → Nat) × (Nat → Nat) × Nat × Nat
def Dt.A (D : Dt) : Nat → Nat := D.1
def Dt.B (D : Dt) : Nat → Nat := D.2.1
def Dt.I (D : Dt) : Nat → Nat := D.2.2.1
def Dt.C (D : Dt) : Nat → Nat := D.2.2.2.1
def Dt.o (D : Dt) : Nat := D.2.2.2.2.1
def Dt.t (D : Dt) : Nat := D.2.2.2.2.2
def mkD (A B I C : Nat → Nat) (o t : Nat) : Dt := (A, B, I, C, o, t)
def dtS (s m c : Nat) (D : Dt) : Dt :=
  if s = 0 then mkD D.A D.B D.I D.C (c - 97) D.t
  else if s = 1 then mkD D.A D.B D.I D.C D.o (c - 97)
  else if s = 2 then D
  else if s = 3 then mkD (upN D.A m (c - 97)) D.B (upN D.I m 0) (upN D.C m 1) D.o D.t
  else if s = 4 then mkD D.A (upN D.B m (c - 97)) D.I D.C D.o D.t
  else if c = 44 then D
  else if c = 43 then mkD D.A D.B (upN D.I (m - 1) 1) D.C D.o D.t
  else if c = 45 then mkD D.A D.B (upN D.I (m - 1) 2) D.C D.o D.t
  else mkD D.A D.B D.I (upN D.C (m - 1) (c - 48)) D.o D.t
def dtt (cd : Nat → Nat) : Nat → Dt
  | 0 => mkD (fun _ => 0) (fun _ => 0) (fun _ => 0) (fun _ => 0) 0 0
  | i + 1 => match psr cd i with
    | none => dtt cd i
    | some (s, m) => dtS s m (cd i) (dtt cd i)
theorem dtt_s {cd : Nat → Nat} {i s m : Nat} (h : psr cd i = some (s, m)) : dtt cd (i + 1) = dtS s m (cd i) (dtt cd i) := by
  show (match psr cd i with
    | none => dtt cd i
    | some (s, m) => dtS s m (cd i) (dtt cd i)) = _
  rw [h]
/-- what holds of the data -/
def DOK (s m p : Nat) (D : Dt) : Prop := (1 ≤ s → D.o < 6) ∧ (2 ≤ s → D.t < 6) ∧ (∀ k, k < m → D.A k < 6 ∧ D.B k < 6 ∧ D.I k < 3 ∧ D.C k < 10) ∧ (s = 1 → 97 ≤ p ∧ D.o = p - 97) ∧ (s = 4 → 97 ≤ p ∧ D.A m = p - 97 ∧ D.A m < 6 ∧ D.I m = 0 ∧ D.C m = 1)
theorem isPl_r {c : Nat} (h : isPl c = true) : 97 ≤ c ∧ c ≤ 102 := of_decide_eq_true h
theorem isCo_r {c : Nat} (h : isCo c = true) : 49 ≤ c ∧ c ≤ 57 := of_decide_eq_true h
theorem nxt5 {s c p m : Nat} (h5 : 5 ≤ s) : nxt s c p m = if c = 44 then (if m < 9 then some 3 else none) else if s < 7 ∧ isCo c = true then some 7 else if s = 5 ∧ (c = 43 ∨ c = 45) then some 6 else none := by
  unfold nxt
  rw [if_neg (by omega), if_neg (by omega), if_neg (by omega), if_neg (by omega), if_neg (by omega)]
theorem dtS5 {s m c : Nat} {D : Dt} (h5 : 5 ≤ s) : dtS s m c D = if c = 44 then D
  else if c = 43 then mkD D.A D.B (upN D.I (m - 1) 1) D.C D.o D.t
  else if c = 45 then mkD D.A D.B (upN D.I (m - 1) 2) D.C D.o D.t
  else mkD D.A D.B D.I (upN D.C (m - 1) (c - 48)) D.o D.t := by
  unfold dtS
  rw [if_neg (by omega), if_neg (by omega), if_neg (by omega), if_neg (by omega), if_neg (by omega)]
theorem DOK.st {s m c p s' : Nat} {D : Dt} (h : DOK s m p D) (iv : PInv s m) (hn : nxt s c p m = some s') : DOK s' (if s' = 5 then m + 1 else m) c (dtS s m c D) := by
  obtain ⟨h1, h2, h3, h4, h5⟩ := h
  obtain ⟨v1, v2, v3, v4, v5⟩ := iv
  by_cases z0 : s = 0
  · unfold nxt at hn
    rw [if_pos z0] at hn
    split at hn
    · rename_i hp
      have := isPl_r hp
      cases hn
      unfold dtS
      rw [if_pos z0]
      have hm := v4 (by omega)
      exact ⟨fun _ => by show c - 97 < 6; omega, fun z => by omega, fun k hk => by rw [if_neg (by omega)] at hk; omega, fun _ => ⟨this.1, rfl⟩, fun z => (by cases z)⟩
    · cases hn
  by_cases z1 : s = 1
  · unfold nxt at hn
    rw [if_neg z0, if_pos z1] at hn
    split at hn
    · rename_i hp
      have := isPl_r hp.1
      cases hn
      unfold dtS
      rw [if_neg z0, if_pos z1]
      have hm := v4 (by omega)
      exact ⟨fun _ => h1 (by omega), fun _ => by show c - 97 < 6; omega, fun k hk => by rw [if_neg (by omega)] at hk; omega, fun z => (by cases z), fun z => (by cases z)⟩
    · cases hn
  by_cases z2 : s = 2
  · unfold nxt at hn
    rw [if_neg z0, if_neg z1, if_pos z2] at hn
    split at hn
    · cases hn
      unfold dtS
      rw [if_neg z0, if_neg z1, if_pos z2]
      have hm := v4 (by omega)
      exact ⟨fun _ => h1 (by omega), fun _ => h2 (by omega), fun k hk => by rw [if_neg (by omega)] at hk; omega, fun z => (by cases z), fun z => (by cases z)⟩
    · cases hn
  by_cases z3 : s = 3
  · unfold nxt at hn
    rw [if_neg z0, if_neg z1, if_neg z2, if_pos z3] at hn
    split at hn
    · rename_i hp
      have := isPl_r hp
      cases hn
      unfold dtS
      rw [if_neg z0, if_neg z1, if_neg z2, if_pos z3, if_neg (by omega)]
      refine ⟨fun _ => h1 (by omega), fun _ => h2 (by omega), fun k hk => ?_, fun z => (by cases z), fun _ => ⟨this.1, upN_s _ _ _, ?_, upN_s _ _ _, upN_s _ _ _⟩⟩
      · show upN D.A m (c - 97) k < 6 ∧ D.B k < 6 ∧ upN D.I m 0 k < 3 ∧ upN D.C m 1 k < 10
        rw [upN_o _ _ (by omega), upN_o _ _ (by omega), upN_o _ _ (by omega)]
        exact h3 k hk
      · show upN D.A m (c - 97) m < 6
        rw [upN_s]
        omega
    · cases hn
  by_cases z4 : s = 4
  · unfold nxt at hn
    rw [if_neg z0, if_neg z1, if_neg z2, if_neg z3, if_pos z4] at hn
    split at hn
    · rename_i hp
      have := isPl_r hp.1
      cases hn
      unfold dtS
      rw [if_neg z0, if_neg z1, if_neg z2, if_neg z3, if_pos z4, if_pos rfl]
      obtain ⟨q1, q2, q3, q4, q5⟩ := h5 z4
      refine ⟨fun _ => h1 (by omega), fun _ => h2 (by omega), fun k hk => ?_, fun z => (by cases z), fun z => (by cases z)⟩
      show D.A k < 6 ∧ upN D.B m (c - 97) k < 6 ∧ D.I k < 3 ∧ D.C k < 10
      by_cases e : k = m
      · rw [e, upN_s]
        omega
      · rw [upN_o _ _ e]
        exact h3 k (by omega)
    · cases hn
  have h5s : 5 ≤ s := by omega
  rw [nxt5 h5s] at hn
  rw [dtS5 h5s]
  by_cases c44 : c = 44
  · rw [if_pos c44] at hn ⊢
    split at hn
    · cases hn
      exact ⟨fun _ => h1 (by omega), fun _ => h2 (by omega), fun k hk => by rw [if_neg (by omega)] at hk; exact h3 k hk, fun z => (by cases z), fun z => (by cases z)⟩
    · cases hn
  · rw [if_neg c44] at hn ⊢
    by_cases hc : s < 7 ∧ isCo c = true
    · rw [if_pos hc] at hn
      have := isCo_r hc.2
      cases hn
      rw [if_neg (show ¬ c = 43 by omega), if_neg (show ¬ c = 45 by omega)]
      refine ⟨fun _ => h1 (by omega), fun _ => h2 (by omega), fun k hk => ?_, fun z => (by cases z), fun z => (by cases z)⟩
      rw [if_neg (by omega)] at hk
      show D.A k < 6 ∧ D.B k < 6 ∧ D.I k < 3 ∧ upN D.C (m - 1) (c - 48) k < 10
      have := h3 k hk
      by_cases e : k = m - 1
      · rw [e, upN_s]
        rw [e] at this
        omega
      · rw [upN_o _ _ e]
        exact this
    · rw [if_neg hc] at hn
      split at hn
      · rename_i h43
        cases hn
        have go : ∀ x, x < 3 → DOK 6 (if (6 : Nat) = 5 then m + 1 else m) c (mkD D.A D.B (upN D.I (m - 1) x) D.C D.o D.t) := by
          intro x hx
          refine ⟨fun _ => h1 (by omega), fun _ => h2 (by omega), fun k hk => ?_, fun z => (by cases z), fun z => (by cases z)⟩
          rw [if_neg (by omega)] at hk
          show D.A k < 6 ∧ D.B k < 6 ∧ upN D.I (m - 1) x k < 3 ∧ D.C k < 10
          have := h3 k hk
          by_cases e : k = m - 1
          · rw [e, upN_s]
            rw [e] at this
            omega
          · rw [upN_o _ _ e]
            exact this
        by_cases e43 : c = 43
        · rw [if_pos e43]
          exact go 1 (by omega)
        · rw [if_neg e43, if_pos (show c = 45 by omega)]
          exact go 2 (by omega)
      · cases hn
theorem pv_s (cd : Nat → Nat) (i : Nat) : pv cd (i + 1) = cd i := by
  unfold pv
  rw [if_neg (Nat.succ_ne_zero i), Nat.add_sub_cancel]
theorem dtt_ok {cd : Nat → Nat} : ∀ {i s m}, psr cd i = some (s, m) → DOK s m (pv cd i) (dtt cd i)
  | 0, s, m, h => by
    cases h
    exact ⟨fun z => by omega, fun z => by omega, fun k hk => absurd hk (Nat.not_lt_zero k), fun z => (by cases z), fun z => (by cases z)⟩
  | i + 1, s, m, h => by
    have h' := h
    unfold psr at h
    split at h
    · cases h
    · rename_i s0 m0 h0
      have ih := dtt_ok h0
      rw [dtt_s h0, pv_s]
      split at h
      · cases h
      · rename_i s' hn
        have := ih.st (psr_inv h0) hn
        cases h
        exact this
/-- the reference's rows -/
def DtR (h : AH) (s m : Nat) (D : Dt) : Prop := AI h 23 24 = nI m ∧ (1 ≤ s → AI h 23 25 = nI D.o) ∧ (2 ≤ s → AI h 23 26 = nI D.t) ∧ (∀ k, k < m → AI h 33 k = nI (D.A k) ∧ AI h 34 k = nI (D.B k) ∧ AI h 35 k = nI (D.I k) ∧ AI h 36 k = nI (D.C k)) ∧ (s = 4 → AI h 33 m = nI (D.A m) ∧ AI h 35 m = nI (D.I m) ∧ AI h 36 m = nI (D.C m))
def rdP (i j : Nat) : Prop := (i = 23 ∧ 22 ≤ j ∧ j ≤ 26) ∨ (33 ≤ i ∧ i ≤ 36)
