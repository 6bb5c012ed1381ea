/-! the same likelihood told in two ways; the greatest divisor; sets by threes -/
def whl (how : Nat) : Nat → Nat → Nat
  | 0, _ => 1
  | l + 1, w => whl how l (1 - w) * (if cha how w = true then l + 1 else 1)
def chv (g : G) (how : Nat) : Nat → Nat → Nat → Nat → Nat
  | 0, F, _, _ => if jn g F = true then 1 else 0
  | l + 1, F, C, w => if jn g F = true then whl how (l + 1) w else if jn g (unc g.n C) = true then (if cha how w = true then fo (opb F C) (fun k y => y + (if w = 0 then chv g how l (F ||| 2 ^ k) C 1 else chv g how l F (C ||| 2 ^ k) 0)) g.n 0 else if w = 0 then fo (opb F C) (fun k y => max y (chv g how l (F ||| 2 ^ k) C 1)) g.n 0 else fo (opb F C) (fun k y => min y (chv g how l F (C ||| 2 ^ k) 0)) g.n 1073741824) else 0
theorem whl_pos (how : Nat) : ∀ l w, 0 < whl how l w
  | 0, _ => Nat.one_pos
  | l + 1, w => by
    have := whl_pos how l (1 - w)
    refine Nat.mul_pos this ?_
    split <;> omega
theorem whl_le (how : Nat) : ∀ l w, whl how l w ≤ fct l
  | 0, _ => Nat.le_refl _
  | l + 1, w => by
    have := whl_le how l (1 - w)
    rw [fct_succ, Nat.mul_comm]
    show whl how l (1 - w) * _ ≤ _
    refine Nat.mul_le_mul this ?_
    split <;> omega
theorem fct_le : ∀ {a b : Nat}, a ≤ b → fct a ≤ fct b := by
  intro a b h
  induction b with
  | zero => rw [Nat.le_zero.mp h]; exact Nat.le_refl _
  | succ b ih =>
    by_cases e : a = b + 1
    · rw [e]; exact Nat.le_refl _
    · have h1 := ih (by omega)
      rw [fct_succ]
      exact Nat.le_trans h1 (Nat.le_mul_of_pos_left _ (Nat.succ_pos b))
theorem chv_le (g : G) (how : Nat) : ∀ l F C w, oc g.n F C = l → w < 2 → chv g how l F C w ≤ whl how l w
  | 0, F, C, w, _, _ => by
    unfold chv whl
    split <;> omega
  | l + 1, F, C, w, h, hw2 => by
    have hF : ∀ k, k < g.n → opb F C k = true → chv g how l (F ||| 2 ^ k) C 1 ≤ whl how l 1 := fun k hk hp => chv_le g how l _ _ _ (by have := oc_F hk hp; omega) (by decide)
    have hC : ∀ k, k < g.n → opb F C k = true → chv g how l F (C ||| 2 ^ k) 0 ≤ whl how l 0 := fun k hk hp => chv_le g how l _ _ _ (by have := oc_C hk hp; omega) (by decide)
    have hw : w = 0 ∨ w = 1 := by omega
    unfold chv whl
    split
    · exact Nat.le_refl _
    · split
      · split
        · have := fo_sum_le (p := opb F C) (f := fun k => if w = 0 then chv g how l (F ||| 2 ^ k) C 1 else chv g how l F (C ||| 2 ^ k) 0) (m := whl how l (1 - w)) g.n (fun k hk hp => by
            rcases hw with rfl | rfl
            · exact hF k hk hp
            · exact hC k hk hp)
          have e : fa_cnt (opb F C) g.n = l + 1 := h
          rw [e, Nat.mul_comm] at this
          exact this
        · rw [Nat.mul_one]
          split
          · rename_i h0
            subst h0
            rcases (fo_max (p := opb F C) (f := fun k => chv g how l (F ||| 2 ^ k) C 1) (x := 0) g.n).2.2 with z | ⟨k, a, b, c⟩
            · rw [z]; exact Nat.zero_le _
            · rw [c]; exact hF k a b
          · rename_i h0
            have h1 : w = 1 := by omega
            subst h1
            obtain ⟨k, hk, hp⟩ := cnt_ex (p := opb F C) (n := g.n) (by have e : fa_cnt (opb F C) g.n = l + 1 := h; omega)
            exact Nat.le_trans ((fo_min (p := opb F C) (f := fun k => chv g how l F (C ||| 2 ^ k) 0) (x := 1073741824) g.n).2.1 k hk hp) (hC k hk hp)
      · exact Nat.zero_le _
theorem wor_chv (g : G) (how : Nat) : ∀ l F C w, oc g.n F C = l → w < 2 → l ≤ 10 → wor g how l F C w * whl how l w = chv g how l F C w * fct l
  | 0, F, C, w, _, _, _ => by
    show (if jn g F = true then 1 else 0) * 1 = (if jn g F = true then 1 else 0) * 1
    rfl
  | l + 1, F, C, w, h, hw2, hl => by
    have hF : ∀ k, k < g.n → opb F C k = true → wor g how l (F ||| 2 ^ k) C 1 * whl how l 1 = chv g how l (F ||| 2 ^ k) C 1 * fct l := fun k hk hp => wor_chv g how l _ _ _ (by have := oc_F hk hp; omega) (by decide) (by omega)
    have hC : ∀ k, k < g.n → opb F C k = true → wor g how l F (C ||| 2 ^ k) 0 * whl how l 0 = chv g how l F (C ||| 2 ^ k) 0 * fct l := fun k hk hp => wor_chv g how l _ _ _ (by have := oc_C hk hp; omega) (by decide) (by omega)
    have hw : w = 0 ∨ w = 1 := by omega
    have hp0 := fct_pos l
    have hwp := whl_pos how l
    unfold wor chv whl
    split
    · exact Nat.mul_comm _ _
    · split
      · split
        · have := fo_sum_mul (p := opb F C) (f := fun k => if w = 0 then wor g how l (F ||| 2 ^ k) C 1 else wor g how l F (C ||| 2 ^ k) 0) (f2 := fun k => if w = 0 then chv g how l (F ||| 2 ^ k) C 1 else chv g how l F (C ||| 2 ^ k) 0) (a := whl how l (1 - w)) (b := fct l) g.n (fun k hk hp => by
            rcases hw with rfl | rfl
            · exact hF k hk hp
            · exact hC k hk hp)
          rw [fct_succ, ← Nat.mul_assoc, this, Nat.mul_assoc]
          congr 1
          exact Nat.mul_comm _ _
        · rw [Nat.mul_one, fct_succ]
          obtain ⟨k0, hk0, hp0'⟩ := cnt_ex (p := opb F C) (n := g.n) (by have e : fa_cnt (opb F C) g.n = l + 1 := h; omega)
          split
          · rename_i h0
            subst h0
            obtain ⟨-, a2, a3⟩ := fo_max (p := opb F C) (f := fun k => wor g how l (F ||| 2 ^ k) C 1) (x := 0) g.n
            obtain ⟨-, b2, b3⟩ := fo_max (p := opb F C) (f := fun k => chv g how l (F ||| 2 ^ k) C 1) (x := 0) g.n
            generalize fo (opb F C) (fun k y => max y (wor g how l (F ||| 2 ^ k) C 1)) g.n 0 = A at *
            generalize fo (opb F C) (fun k y => max y (chv g how l (F ||| 2 ^ k) C 1)) g.n 0 = B at *
            have key : A * whl how l 1 = B * fct l := by
              apply Nat.le_antisymm
              · rcases a3 with z | ⟨k, a, b, c⟩
                · rw [z, Nat.zero_mul]; exact Nat.zero_le _
                · rw [c, hF k a b]
                  exact Nat.mul_le_mul_right _ (b2 k a b)
              · rcases b3 with z | ⟨k, a, b, c⟩
                · rw [z, Nat.zero_mul]; exact Nat.zero_le _
                · rw [c, ← hF k a b]
                  exact Nat.mul_le_mul_right _ (a2 k a b)
            show (l + 1) * A * whl how l 1 = B * ((l + 1) * fct l)
            rw [Nat.mul_assoc, key, ← Nat.mul_assoc, ← Nat.mul_assoc, Nat.mul_comm (l + 1) B]
          · rename_i h0
            have h1 : w = 1 := by omega
            subst h1
            obtain ⟨-, a2, a3⟩ := fo_min (p := opb F C) (f := fun k => wor g how l F (C ||| 2 ^ k) 0) (x := fct l) g.n
            obtain ⟨-, b2, b3⟩ := fo_min (p := opb F C) (f := fun k => chv g how l F (C ||| 2 ^ k) 0) (x := 1073741824) g.n
            have c1 := wor_le g how l F (C ||| 2 ^ k0) 0 (by have := oc_C hk0 hp0'; omega)
            have c2 := chv_le g how l F (C ||| 2 ^ k0) 0 (by have := oc_C hk0 hp0'; omega) (by decide)
            have c3 := whl_le how l 0
            have c4 : fct l ≤ fct 10 := fct_le (by omega)
            have c5 : fct 10 < 1073741824 := by decide
            have a3' : ∃ k, k < g.n ∧ opb F C k = true ∧ fo (opb F C) (fun k y => min y (wor g how l F (C ||| 2 ^ k) 0)) g.n (fct l) = wor g how l F (C ||| 2 ^ k) 0 := by
              rcases a3 with z | z
              · have := a2 k0 hk0 hp0'
                exact ⟨k0, hk0, hp0', by omega⟩
              · exact z
            have b3' : ∃ k, k < g.n ∧ opb F C k = true ∧ fo (opb F C) (fun k y => min y (chv g how l F (C ||| 2 ^ k) 0)) g.n 1073741824 = chv g how l F (C ||| 2 ^ k) 0 := by
              rcases b3 with z | z
              · have := b2 k0 hk0 hp0'
                exact ⟨k0, hk0, hp0', by omega⟩
              · exact z
            generalize fo (opb F C) (fun k y => min y (wor g how l F (C ||| 2 ^ k) 0)) g.n (fct l) = A at *
            generalize fo (opb F C) (fun k y => min y (chv g how l F (C ||| 2 ^ k) 0)) g.n 1073741824 = B at *
            have key : A * whl how l 0 = B * fct l := by
              apply Nat.le_antisymm
              · obtain ⟨k, a, b, c⟩ := b3'
                rw [c, ← hC k a b]
                exact Nat.mul_le_mul_right _ (a2 k a b)
              · obtain ⟨k, a, b, c⟩ := a3'
                rw [c, hC k a b]
                exact Nat.mul_le_mul_right _ (b2 k a b)
            show (l + 1) * A * whl how l 0 = B * ((l + 1) * fct l)
            rw [Nat.mul_assoc, key, ← Nat.mul_assoc, ← Nat.mul_assoc, Nat.mul_comm (l + 1) B]
      · rw [Nat.zero_mul, Nat.zero_mul]
/-- one likelihood in its lowest terms -/
theorem lowest {a b c d : Nat} (hb : 0 < b) (hd : 0 < d) (h : a * d = c * b) : a / Nat.gcd a b = c / Nat.gcd c d ∧ b / Nat.gcd a b = d / Nat.gcd c d := by
  have g1 : 0 < Nat.gcd a b := Nat.gcd_pos_of_pos_right a hb
  have g2 : 0 < Nat.gcd c d := Nat.gcd_pos_of_pos_right c hd
  obtain ⟨a', ha⟩ := Nat.gcd_dvd_left a b
  obtain ⟨b', hb'⟩ := Nat.gcd_dvd_right a b
  obtain ⟨c', hc⟩ := Nat.gcd_dvd_left c d
  obtain ⟨d', hd'⟩ := Nat.gcd_dvd_right c d
  have co1 : Nat.Coprime (a / Nat.gcd a b) (b / Nat.gcd a b) := Nat.coprime_div_gcd_div_gcd g1
  have co2 : Nat.Coprime (c / Nat.gcd c d) (d / Nat.gcd c d) := Nat.coprime_div_gcd_div_gcd g2
  have ea : a / Nat.gcd a b = a' := Nat.div_eq_of_eq_mul_right g1 ha
  have eb : b / Nat.gcd a b = b' := Nat.div_eq_of_eq_mul_right g1 hb'
  have ec : c / Nat.gcd c d = c' := Nat.div_eq_of_eq_mul_right g2 hc
  have ed : d / Nat.gcd c d = d' := Nat.div_eq_of_eq_mul_right g2 hd'
  rw [ea, eb] at co1 ⊢
  rw [ec, ed] at co2 ⊢
  have hm : a' * d' = c' * b' := by
    have h1 : (Nat.gcd a b * Nat.gcd c d) * (a' * d') = (Nat.gcd a b * Nat.gcd c d) * (c' * b') := by
      calc (Nat.gcd a b * Nat.gcd c d) * (a' * d') = (Nat.gcd a b * a') * (Nat.gcd c d * d') := by ac_rfl
        _ = a * d := by rw [← ha, ← hd']
        _ = c * b := h
        _ = (Nat.gcd c d * c') * (Nat.gcd a b * b') := by rw [← hc, ← hb']
        _ = (Nat.gcd a b * Nat.gcd c d) * (c' * b') := by ac_rfl
    exact Nat.eq_of_mul_eq_mul_left (Nat.mul_pos g1 g2) h1
  have d1 : b' ∣ d' := co1.symm.dvd_of_dvd_mul_left (⟨c', by rw [hm, Nat.mul_comm]⟩ : b' ∣ a' * d')
  have d2 : d' ∣ b' := co2.symm.dvd_of_dvd_mul_left (⟨a', by rw [← hm, Nat.mul_comm]⟩ : d' ∣ c' * b')
  have ebd : b' = d' := Nat.dvd_antisymm d1 d2
  have hb0 : 0 < b' := by
    rcases Nat.eq_zero_or_pos b' with z | z
    · rw [z, Nat.mul_zero] at hb'; omega
    · exact z
  refine ⟨?_, ebd⟩
  rw [← ebd] at hm
  exact Nat.eq_of_mul_eq_mul_right hb0 hm
/-- a set by threes -/
def thr (s : Nat) : Nat → Nat
  | 0 => 0
  | n + 1 => thr s n + (if s.testBit n then 3 ^ n else 0)
def dgt (F C i : Nat) : Nat := (if F.testBit i then 1 else 0) + 2 * (if C.testBit i then 1 else 0)
theorem thr_inj {F C F' C' : Nat} (hd : ∀ i, ¬ (F.testBit i = true ∧ C.testBit i = true)) (hd' : ∀ i, ¬ (F'.testBit i = true ∧ C'.testBit i = true)) : ∀ n, thr F n + 2 * thr C n < 3 ^ n ∧ thr F' n + 2 * thr C' n < 3 ^ n ∧ (thr F n + 2 * thr C n = thr F' n + 2 * thr C' n → ∀ i, i < n → F.testBit i = F'.testBit i ∧ C.testBit i = C'.testBit i)
  | 0 => ⟨Nat.one_pos, Nat.one_pos, fun _ i hi => absurd hi (Nat.not_lt_zero i)⟩
  | n + 1 => by
    obtain ⟨h1, h2, h3⟩ := thr_inj hd hd' n
    have hn := hd n
    have hn' := hd' n
    have e : 3 ^ (n + 1) = 3 ^ n * 3 := Nat.pow_succ 3 n
    have key : thr F n + 2 * thr C n = thr F' n + 2 * thr C' n → F.testBit n = F'.testBit n ∧ C.testBit n = C'.testBit n → ∀ i, i < n + 1 → F.testBit i = F'.testBit i ∧ C.testBit i = C'.testBit i := by
      intro q1 q2 i hi
      by_cases ei : i = n
      · rw [ei]; exact q2
      · exact h3 q1 i (by omega)
    unfold thr
    rw [e]
    cases a : F.testBit n <;> cases b : C.testBit n <;> cases c : F'.testBit n <;> cases d : C'.testBit n <;> simp only [if_true, if_false, Bool.false_eq_true] <;> first | exact (hn ⟨a, b⟩).elim | exact (hn' ⟨c, d⟩).elim | skip
    all_goals refine ⟨by omega, by omega, fun q => ?_⟩
    all_goals first | exact key (by omega) ⟨a.trans c.symm, b.trans d.symm⟩ | omega
theorem thr_lt {F C : Nat} (hd : ∀ i, ¬ (F.testBit i = true ∧ C.testBit i = true)) (n : Nat) : thr F n + 2 * thr C n < 3 ^ n := (thr_inj hd hd n).1
theorem thr_eq {s n : Nat} (h : s < 2 ^ n) : ∀ m, n ≤ m → thr s m = thr s n
  | 0, hm => by rw [Nat.le_zero.mp hm]
  | m + 1, hm => by
    by_cases e : n = m + 1
    · rw [e]
    · have ih := thr_eq h m (by omega)
      show thr s m + (if s.testBit m then 3 ^ m else 0) = thr s n
      rw [tb_ge h (by omega), ih]
      rfl
