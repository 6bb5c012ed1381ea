/-! what a stand is worth -/
def fct : Nat → Nat
  | 0 => 1
  | n + 1 => (n + 1) * fct n
theorem fct_pos : ∀ n, 0 < fct n
  | 0 => Nat.one_pos
  | n + 1 => Nat.mul_pos (Nat.succ_pos n) (fct_pos n)
/-- over the numbers below n of which p holds -/
def fo {α : Type} (p : Nat → Bool) (f : Nat → α → α) : Nat → α → α
  | 0, x => x
  | n + 1, x => if p n then f n (fo p f n x) else fo p f n x
theorem fo_cong {α : Type} {p q : Nat → Bool} {f f2 : Nat → α → α} {x : α} : ∀ {n}, (∀ k, k < n → p k = q k) → (∀ k, k < n → p k = true → ∀ y, f k y = f2 k y) → fo p f n x = fo q f2 n x
  | 0, _, _ => rfl
  | n + 1, h1, h2 => by
    have ih := fo_cong (x := x) (n := n) (fun k hk => h1 k (by omega)) (fun k hk => h2 k (by omega))
    unfold fo
    rw [← h1 n (by omega), ih]
    by_cases hp : p n = true
    · rw [if_pos hp, if_pos hp, h2 n (by omega) hp]
    · rw [if_neg hp, if_neg hp]
theorem fo_yes {α : Type} {p : Nat → Bool} {f : Nat → α → α} {x : α} {n : Nat} (h : p n = true) : fo p f (n + 1) x = f n (fo p f n x) := by
  show (if p n then f n (fo p f n x) else fo p f n x) = _
  rw [if_pos h]
theorem fo_no {α : Type} {p : Nat → Bool} {f : Nat → α → α} {x : α} {n : Nat} (h : p n = false) : fo p f (n + 1) x = fo p f n x := by
  show (if p n then f n (fo p f n x) else fo p f n x) = _
  rw [if_neg (by rw [h]; decide)]
theorem fo_skip {α : Type} {p : Nat → Bool} {f : Nat → α → α} {x : α} {m : Nat} : ∀ {n}, m ≤ n → (∀ k, m ≤ k → k < n → p k = false) → fo p f n x = fo p f m x
  | 0, h, _ => by rw [Nat.le_zero.mp h]
  | n + 1, h, hp => by
    by_cases e : m = n + 1
    · rw [e]
    · have ih := fo_skip (f := f) (x := x) (n := n) (by omega) (fun k h1 h2 => hp k h1 (by omega))
      rw [fo_no (hp n (by omega) (by omega))]
      exact ih
theorem fo_max {p : Nat → Bool} {f : Nat → Nat} {x : Nat} : ∀ n, x ≤ fo p (fun k y => max y (f k)) n x ∧ (∀ k, k < n → p k = true → f k ≤ fo p (fun k y => max y (f k)) n x) ∧ (fo p (fun k y => max y (f k)) n x = x ∨ ∃ k, k < n ∧ p k = true ∧ fo p (fun k y => max y (f k)) n x = f k)
  | 0 => ⟨Nat.le_refl _, fun k hk => absurd hk (Nat.not_lt_zero k), Or.inl rfl⟩
  | n + 1 => by
    obtain ⟨h1, h2, h3⟩ := fo_max (p := p) (f := f) (x := x) n
    by_cases hp : p n = true
    · rw [fo_yes hp]
      refine ⟨by omega, fun k hk hpk => ?_, ?_⟩
      · by_cases e : k = n
        · rw [e]; omega
        · have := h2 k (by omega) hpk
          omega
      · rcases Nat.le_total (f n) (fo p (fun k y => max y (f k)) n x) with z | z
        · rw [Nat.max_eq_left z]
          rcases h3 with h3 | ⟨k, a, b, c⟩
          · exact Or.inl h3
          · exact Or.inr ⟨k, by omega, b, c⟩
        · rw [Nat.max_eq_right z]
          exact Or.inr ⟨n, by omega, hp, rfl⟩
    · rw [fo_no (ts_nt hp)]
      refine ⟨h1, fun k hk hpk => h2 k ?_ hpk, ?_⟩
      · rcases Nat.lt_or_ge k n with z | z
        · exact z
        · have : k = n := by omega
          rw [this] at hpk
          exact absurd hpk hp
      · rcases h3 with h3 | ⟨k, a, b, c⟩
        · exact Or.inl h3
        · exact Or.inr ⟨k, by omega, b, c⟩
theorem fo_min {p : Nat → Bool} {f : Nat → Nat} {x : Nat} : ∀ n, fo p (fun k y => min y (f k)) n x ≤ x ∧ (∀ k, k < n → p k = true → fo p (fun k y => min y (f k)) n x ≤ f k) ∧ (fo p (fun k y => min y (f k)) n x = x ∨ ∃ k, k < n ∧ p k = true ∧ fo p (fun k y => min y (f k)) n x = f k)
  | 0 => ⟨Nat.le_refl _, fun k hk => absurd hk (Nat.not_lt_zero k), Or.inl rfl⟩
  | n + 1 => by
    obtain ⟨h1, h2, h3⟩ := fo_min (p := p) (f := f) (x := x) n
    by_cases hp : p n = true
    · rw [fo_yes hp]
      refine ⟨by omega, fun k hk hpk => ?_, ?_⟩
      · by_cases e : k = n
        · rw [e]; omega
        · have := h2 k (by omega) hpk
          omega
      · rcases Nat.le_total (f n) (fo p (fun k y => min y (f k)) n x) with z | z
        · rw [Nat.min_eq_right z]
          exact Or.inr ⟨n, by omega, hp, rfl⟩
        · rw [Nat.min_eq_left z]
          rcases h3 with h3 | ⟨k, a, b, c⟩
          · exact Or.inl h3
          · exact Or.inr ⟨k, by omega, b, c⟩
    · rw [fo_no (ts_nt hp)]
      refine ⟨h1, fun k hk hpk => h2 k ?_ hpk, ?_⟩
      · rcases Nat.lt_or_ge k n with z | z
        · exact z
        · have : k = n := by omega
          rw [this] at hpk
          exact absurd hpk hp
      · rcases h3 with h3 | ⟨k, a, b, c⟩
        · exact Or.inl h3
        · exact Or.inr ⟨k, by omega, b, c⟩
theorem fo_sum_le {p : Nat → Bool} {f : Nat → Nat} {m : Nat} : ∀ n, (∀ k, k < n → p k = true → f k ≤ m) → fo p (fun k y => y + f k) n 0 ≤ fa_cnt p n * m
  | 0, _ => Nat.zero_le _
  | n + 1, h => by
    have ih := fo_sum_le (p := p) (f := f) (m := m) n (fun k hk => h k (by omega))
    by_cases hp : p n = true
    · rw [fo_yes hp, fa_cnt_yes hp, Nat.add_mul, Nat.one_mul]
      have := h n (by omega) hp
      omega
    · rw [fo_no (ts_nt hp), fa_cnt_no (ts_nt hp)]
      exact ih
theorem fo_sum_mul {p : Nat → Bool} {f f2 : Nat → Nat} {a b : Nat} : ∀ n, (∀ k, k < n → p k = true → f k * a = f2 k * b) → fo p (fun k y => y + f k) n 0 * a = fo p (fun k y => y + f2 k) n 0 * b
  | 0, _ => by
    show 0 * a = 0 * b
    rw [Nat.zero_mul, Nat.zero_mul]
  | n + 1, h => by
    have ih := fo_sum_mul (p := p) (f := f) (f2 := f2) (a := a) (b := b) n (fun k hk => h k (by omega))
    by_cases hp : p n = true
    · rw [fo_yes hp, fo_yes hp, Nat.add_mul, Nat.add_mul, ih, h n (by omega) hp]
    · rw [fo_no (ts_nt hp), fo_no (ts_nt hp)]
      exact ih
def opb (F C k : Nat) : Bool := !F.testBit k && !C.testBit k
/-- how many lanes are open -/
def oc (n F C : Nat) : Nat := fa_cnt (opb F C) n
theorem cnt_drop {p q : Nat → Bool} {k : Nat} : ∀ {n}, k < n → (∀ i, i ≠ k → q i = p i) → p k = true → q k = false → fa_cnt p n = fa_cnt q n + 1
  | 0, h, _, _, _ => absurd h (Nat.not_lt_zero _)
  | n + 1, h, h1, h2, h3 => by
    by_cases e : k = n
    · subst e
      rw [fa_cnt_yes h2, fa_cnt_no h3, fa_cnt_cong (fun i hi => (h1 i (by omega)))]
    · have ih := cnt_drop (n := n) (by omega) h1 h2 h3
      have hn := h1 n (fun z => e z.symm)
      cases hp : p n with
      | true => rw [fa_cnt_yes hp, fa_cnt_yes (hn.trans hp), ih]
      | false => rw [fa_cnt_no hp, fa_cnt_no (hn.trans hp), ih]
theorem opb_F {F C k : Nat} (i : Nat) : opb (F ||| 2 ^ k) C i = (opb F C i && !decide (k = i)) := by
  unfold opb
  rw [Nat.testBit_or, Nat.testBit_two_pow]
  cases F.testBit i <;> cases C.testBit i <;> cases decide (k = i) <;> rfl
theorem opb_C {F C k : Nat} (i : Nat) : opb F (C ||| 2 ^ k) i = (opb F C i && !decide (k = i)) := by
  unfold opb
  rw [Nat.testBit_or, Nat.testBit_two_pow]
  cases F.testBit i <;> cases C.testBit i <;> cases decide (k = i) <;> rfl
theorem oc_F {n F C k : Nat} (hk : k < n) (ho : opb F C k = true) : oc n F C = oc n (F ||| 2 ^ k) C + 1 := by
  refine cnt_drop hk (fun i hi => ?_) ho ?_
  · rw [opb_F, decide_eq_false (fun z => hi z.symm)]
    simp
  · rw [opb_F, decide_eq_true rfl]
    simp
theorem oc_C {n F C k : Nat} (hk : k < n) (ho : opb F C k = true) : oc n F C = oc n F (C ||| 2 ^ k) + 1 := by
  refine cnt_drop hk (fun i hi => ?_) ho ?_
  · rw [opb_C, decide_eq_false (fun z => hi z.symm)]
    simp
  · rw [opb_C, decide_eq_true rfl]
    simp
theorem cnt_ex {p : Nat → Bool} : ∀ {n}, 0 < fa_cnt p n → ∃ k, k < n ∧ p k = true
  | 0, h => absurd h (Nat.lt_irrefl 0)
  | n + 1, h => by
    cases hp : p n with
    | true => exact ⟨n, by omega, hp⟩
    | false =>
      rw [fa_cnt_no hp] at h
      obtain ⟨k, a, b⟩ := cnt_ex h
      exact ⟨k, by omega, b⟩
theorem cnt_zero {p : Nat → Bool} : ∀ {n}, fa_cnt p n = 0 → ∀ k, k < n → p k = false
  | 0, _, k, hk => absurd hk (Nat.not_lt_zero k)
  | n + 1, h, k, hk => by
    cases hp : p n with
    | true => rw [fa_cnt_yes hp] at h; cases h
    | false =>
      rw [fa_cnt_no hp] at h
      by_cases e : k = n
      · rw [e]; exact hp
      · exact cnt_zero h k (by omega)
/-- by chance moves -/
def cha (how w : Nat) : Bool := how == 2 || (how == 0 && w == 1) || (how == 1 && w == 0)
/-- how likely it is that the ends are joined, times the factorial of the open ones -/
def wor (g : G) (how : Nat) : Nat → Nat → Nat → Nat → Nat
  | 0, F, _, _ => if jn g F = true then 1 else 0
  | l + 1, F, C, w => if jn g F = true then fct (l + 1) else if jn g (unc g.n C) = true then (if cha how w = true then fo (opb F C) (fun k y => y + (if w = 0 then wor g how l (F ||| 2 ^ k) C 1 else wor g how l F (C ||| 2 ^ k) 0)) g.n 0 else if w = 0 then (l + 1) * fo (opb F C) (fun k y => max y (wor g how l (F ||| 2 ^ k) C 1)) g.n 0 else (l + 1) * fo (opb F C) (fun k y => min y (wor g how l F (C ||| 2 ^ k) 0)) g.n (fct l)) else 0
theorem wor_le (g : G) (how : Nat) : ∀ l F C w, oc g.n F C = l → wor g how l F C w ≤ fct l
  | 0, F, C, w, _ => by
    unfold wor fct
    split <;> omega
  | l + 1, F, C, w, h => by
    have hF : ∀ k, k < g.n → opb F C k = true → wor g how l (F ||| 2 ^ k) C 1 ≤ fct l := fun k hk hp => wor_le g how l _ _ _ (by have := oc_F hk hp; omega)
    have hC : ∀ k, k < g.n → opb F C k = true → wor g how l F (C ||| 2 ^ k) 0 ≤ fct l := fun k hk hp => wor_le g how l _ _ _ (by have := oc_C hk hp; omega)
    unfold wor
    split
    · exact Nat.le_refl _
    · split
      · split
        · have := fo_sum_le (p := opb F C) (f := fun k => if w = 0 then wor g how l (F ||| 2 ^ k) C 1 else wor g how l F (C ||| 2 ^ k) 0) (m := fct l) g.n (fun k hk hp => by
            split
            · exact hF k hk hp
            · exact hC k hk hp)
          have e : fa_cnt (opb F C) g.n = l + 1 := h
          rw [e] at this
          exact this
        · split
          · refine Nat.mul_le_mul_left _ ?_
            rcases (fo_max (p := opb F C) (f := fun k => wor g how l (F ||| 2 ^ k) C 1) (x := 0) g.n).2.2 with z | ⟨k, a, b, c⟩
            · rw [z]; exact Nat.zero_le _
            · rw [c]; exact hF k a b
          · exact Nat.mul_le_mul_left _ (fo_min (p := opb F C) (f := fun k => wor g how l F (C ||| 2 ^ k) 0) (x := fct l) g.n).1
      · exact Nat.zero_le _
/-- whether JOIN has it -/
def has (g : G) : Nat → Nat → Nat → Nat → Bool
  | 0, F, _, _ => jn g F
  | l + 1, F, C, w => jn g F || (jn g (unc g.n C) && (if w = 0 then fo (opb F C) (fun k y => y || has g l (F ||| 2 ^ k) C 1) g.n false else fo (opb F C) (fun k y => y && has g l F (C ||| 2 ^ k) 0) g.n true))
theorem fo_or {p : Nat → Bool} {f : Nat → Bool} : ∀ n, fo p (fun k y => y || f k) n false = true ↔ ∃ k, k < n ∧ p k = true ∧ f k = true
  | 0 => by
    constructor
    · intro h; cases h
    · rintro ⟨k, hk, -⟩
      exact absurd hk (Nat.not_lt_zero k)
  | n + 1 => by
    have ih := fo_or (p := p) (f := f) n
    cases hp : p n with
    | true =>
      rw [fo_yes hp, Bool.or_eq_true, ih]
      constructor
      · rintro (⟨k, a, b, c⟩ | z)
        · exact ⟨k, by omega, b, c⟩
        · exact ⟨n, by omega, hp, z⟩
      · rintro ⟨k, a, b, c⟩
        by_cases e : k = n
        · rw [e] at c; exact Or.inr c
        · exact Or.inl ⟨k, by omega, b, c⟩
    | false =>
      rw [fo_no hp, ih]
      constructor
      · rintro ⟨k, a, b, c⟩
        exact ⟨k, by omega, b, c⟩
      · rintro ⟨k, a, b, c⟩
        refine ⟨k, ?_, b, c⟩
        rcases Nat.lt_or_ge k n with z | z
        · exact z
        · have : k = n := by omega
          rw [this, hp] at b
          cases b
theorem fo_and {p : Nat → Bool} {f : Nat → Bool} : ∀ n, fo p (fun k y => y && f k) n true = true ↔ ∀ k, k < n → p k = true → f k = true
  | 0 => by
    constructor
    · intro _ k hk
      exact absurd hk (Nat.not_lt_zero k)
    · intro _; rfl
  | n + 1 => by
    have ih := fo_and (p := p) (f := f) n
    cases hp : p n with
    | true =>
      rw [fo_yes hp, Bool.and_eq_true, ih]
      constructor
      · rintro ⟨a, b⟩ k hk hpk
        by_cases e : k = n
        · rw [e]; exact b
        · exact a k (by omega) hpk
      · intro h
        exact ⟨fun k hk hpk => h k (by omega) hpk, h n (by omega) hp⟩
    | false =>
      rw [fo_no hp, ih]
      constructor
      · intro h k hk hpk
        refine h k ?_ hpk
        rcases Nat.lt_or_ge k n with z | z
        · exact z
        · have : k = n := by omega
          rw [this, hp] at hpk
          cases hpk
      · intro h k hk
        exact h k (by omega)
theorem fct_succ (n : Nat) : fct (n + 1) = (n + 1) * fct n := rfl
theorem wor_has (g : G) : ∀ l F C w, oc g.n F C = l → wor g 3 l F C w = if has g l F C w = true then fct l else 0
  | 0, F, C, w, _ => rfl
  | l + 1, F, C, w, h => by
    have hF : ∀ k, k < g.n → opb F C k = true → wor g 3 l (F ||| 2 ^ k) C 1 = if has g l (F ||| 2 ^ k) C 1 = true then fct l else 0 := fun k hk hp => wor_has g l _ _ _ (by have := oc_F hk hp; omega)
    have hC : ∀ k, k < g.n → opb F C k = true → wor g 3 l F (C ||| 2 ^ k) 0 = if has g l F (C ||| 2 ^ k) 0 = true then fct l else 0 := fun k hk hp => wor_has g l _ _ _ (by have := oc_C hk hp; omega)
    have hp0 := fct_pos l
    unfold wor has
    have e3 : cha 3 w = false := rfl
    rw [e3, if_neg (by decide : ¬ (false = true))]
    cases hj : jn g F with
    | true => rfl
    | false =>
      rw [if_neg (by decide : ¬ (false = true)), Bool.false_or]
      cases hu : jn g (unc g.n C) with
      | false => rfl
      | true =>
        rw [if_pos rfl, Bool.true_and]
        by_cases hw : w = 0
        · rw [if_pos hw, if_pos hw]
          obtain ⟨-, m2, m3⟩ := fo_max (p := opb F C) (f := fun k => wor g 3 l (F ||| 2 ^ k) C 1) (x := 0) g.n
          by_cases ha : fo (opb F C) (fun k y => y || has g l (F ||| 2 ^ k) C 1) g.n false = true
          · rw [if_pos ha, fct_succ]
            obtain ⟨k, a, b, c⟩ := (fo_or g.n).mp ha
            have h1 := m2 k a b
            rw [hF k a b, if_pos c] at h1
            congr 1
            rcases m3 with z | ⟨k2, a2, b2, c2⟩
            · omega
            · rw [hF k2 a2 b2] at c2
              split at c2 <;> omega
          · rw [if_neg ha]
            have : fo (opb F C) (fun k y => max y (wor g 3 l (F ||| 2 ^ k) C 1)) g.n 0 = 0 := by
              rcases m3 with z | ⟨k2, a2, b2, c2⟩
              · exact z
              · rw [hF k2 a2 b2, if_neg (fun z => ha ((fo_or g.n).mpr ⟨k2, a2, b2, z⟩))] at c2
                exact c2
            rw [this]
            rfl
        · rw [if_neg hw, if_neg hw]
          obtain ⟨m1, m2, m3⟩ := fo_min (p := opb F C) (f := fun k => wor g 3 l F (C ||| 2 ^ k) 0) (x := fct l) g.n
          by_cases ha : fo (opb F C) (fun k y => y && has g l F (C ||| 2 ^ k) 0) g.n true = true
          · rw [if_pos ha, fct_succ]
            congr 1
            rcases m3 with z | ⟨k2, a2, b2, c2⟩
            · exact z
            · rw [hC k2 a2 b2, if_pos ((fo_and g.n).mp ha k2 a2 b2)] at c2
              exact c2
          · rw [if_neg ha]
            have : fo (opb F C) (fun k y => min y (wor g 3 l F (C ||| 2 ^ k) 0)) g.n (fct l) = 0 := by
              apply Classical.byContradiction
              intro hne
              apply ha
              refine (fo_and g.n).mpr (fun k hk hp => ?_)
              apply Classical.byContradiction
              intro hnot
              have h1 := m2 k hk hp
              rw [hC k hk hp, if_neg hnot] at h1
              omega
            rw [this]
            rfl
theorem wor_pos (g : G) {l F C w : Nat} (h : oc g.n F C = l) : 0 < wor g 3 l F C w ↔ has g l F C w = true := by
  rw [wor_has g l F C w h]
  have := fct_pos l
  split
  · rename_i z
    exact ⟨fun _ => z, fun _ => this⟩
  · rename_i z
    exact ⟨fun q => absurd q (Nat.lt_irrefl 0), fun q => absurd q z⟩
