/-! how far places are from the ends -/
def len1 (F C k : Nat) : Nat := if sta F C k = 1 then 0 else 1
/-- a pass over one lane -/
def stD (g : G) (F C : Nat) (d : Nat → Nat) (k : Nat) : Nat → Nat :=
  if sta F C k = 2 then d else upN (upN d (g.a k) (min (d (g.a k)) (d (g.b k) + len1 F C k))) (g.b k) (min (upN d (g.a k) (min (d (g.a k)) (d (g.b k) + len1 F C k)) (g.b k)) (upN d (g.a k) (min (d (g.a k)) (d (g.b k) + len1 F C k)) (g.a k) + len1 F C k))
def rnD (g : G) (F C : Nat) (d : Nat → Nat) : Nat → Nat → Nat
  | 0 => d
  | k + 1 => stD g F C (rnD g F C d k) k
def ruD (g : G) (F C : Nat) (d : Nat → Nat) : Nat → Nat → Nat
  | 0 => d
  | r + 1 => rnD g F C (ruD g F C d r) g.n
def d0 (f X : Nat) : Nat → Nat := fun p => if p = f then 0 else X
def Rlx (g : G) (F C : Nat) (m : Nat → Nat) : Prop := ∀ k, k < g.n → sta F C k ≠ 2 → m (g.a k) ≤ m (g.b k) + len1 F C k ∧ m (g.b k) ≤ m (g.a k) + len1 F C k
theorem upN_le {d : Nat → Nat} {i x : Nat} (h : x ≤ d i) (p : Nat) : upN d i x p ≤ d p := by
  unfold upN
  split
  · rename_i e
    rw [e]; exact h
  · exact Nat.le_refl _
theorem stD_le (g : G) (F C : Nat) (d : Nat → Nat) (k p : Nat) : stD g F C d k p ≤ d p := by
  unfold stD
  split
  · exact Nat.le_refl _
  · exact Nat.le_trans (upN_le (Nat.min_le_left _ _) p) (upN_le (Nat.min_le_left _ _) p)
theorem rnD_le (g : G) (F C : Nat) (d : Nat → Nat) (p : Nat) : ∀ k, rnD g F C d k p ≤ d p
  | 0 => Nat.le_refl _
  | k + 1 => Nat.le_trans (stD_le g F C _ k p) (rnD_le g F C d p k)
theorem rnD_mono (g : G) (F C : Nat) (d : Nat → Nat) (p : Nat) {k : Nat} : ∀ m, k ≤ m → rnD g F C d m p ≤ rnD g F C d k p
  | 0, h => by rw [Nat.le_zero.mp h]; exact Nat.le_refl _
  | m + 1, h => by
    by_cases e : k = m + 1
    · rw [e]; exact Nat.le_refl _
    · exact Nat.le_trans (stD_le g F C _ m p) (rnD_mono g F C d p m (by omega))
/-- what a pass brings -/
theorem stD_a {g : G} {F C k : Nat} {d : Nat → Nat} (h : sta F C k ≠ 2) : stD g F C d k (g.a k) ≤ d (g.b k) + len1 F C k := by
  unfold stD
  rw [if_neg h]
  refine Nat.le_trans (upN_le (Nat.min_le_left _ _) _) ?_
  rw [upN_s]
  exact Nat.min_le_right _ _
theorem stD_b {g : G} {F C k : Nat} {d : Nat → Nat} (h : sta F C k ≠ 2) : stD g F C d k (g.b k) ≤ d (g.a k) + len1 F C k := by
  unfold stD
  rw [if_neg h, upN_s]
  refine Nat.le_trans (Nat.min_le_right _ _) ?_
  rw [upN_s]
  have := Nat.min_le_left (d (g.a k)) (d (g.b k) + len1 F C k)
  omega
/-- from below -/
theorem stD_low {g : G} {F C k : Nat} {d m : Nat → Nat} {z : Nat} (hk : k < g.n) (hm : Rlx g F C m) (h : ∀ p, m p ≤ z + d p) : ∀ p, m p ≤ z + stD g F C d k p := by
  intro p
  unfold stD
  split
  · exact h p
  · rename_i hs
    obtain ⟨h1, h2⟩ := hm k hk hs
    have ha := h (g.a k)
    have hb := h (g.b k)
    have key : ∀ q, m q ≤ z + upN d (g.a k) (min (d (g.a k)) (d (g.b k) + len1 F C k)) q := by
      intro q
      by_cases e : q = g.a k
      · rw [e, upN_s]
        omega
      · rw [upN_o _ _ e]
        exact h q
    have ka := key (g.a k)
    have kb := key (g.b k)
    by_cases e : p = g.b k
    · rw [e, upN_s]
      omega
    · rw [upN_o _ _ e]
      exact key p
theorem rnD_low {g : G} {F C : Nat} {d m : Nat → Nat} {z : Nat} (hm : Rlx g F C m) (h : ∀ p, m p ≤ z + d p) : ∀ k, k ≤ g.n → ∀ p, m p ≤ z + rnD g F C d k p
  | 0, _ => h
  | k + 1, hk => stD_low (by omega) hm (rnD_low hm h k (by omega))
theorem ruD_low {g : G} {F C : Nat} {d m : Nat → Nat} {z : Nat} (hm : Rlx g F C m) (h : ∀ p, m p ≤ z + d p) : ∀ r p, m p ≤ z + ruD g F C d r p
  | 0 => h
  | r + 1 => rnD_low hm (ruD_low hm h r) g.n (Nat.le_refl _)
theorem ruD_le (g : G) (F C : Nat) (d : Nat → Nat) (p : Nat) : ∀ r, ruD g F C d r p ≤ d p
  | 0 => Nat.le_refl _
  | r + 1 => Nat.le_trans (rnD_le g F C _ p g.n) (ruD_le g F C d p r)
/-- nothing new in a pass -/
theorem rlx_fix {g : G} {F C : Nat} {d : Nat → Nat} (h : ∀ p, rnD g F C d g.n p = d p) : Rlx g F C d := by
  intro k hk hs
  have e : ∀ j, j ≤ g.n → ∀ p, rnD g F C d j p = d p := fun j hj p => by
    have h1 := rnD_le g F C d p j
    have h2 := rnD_mono g F C d p g.n hj
    have h3 := h p
    omega
  have ea := e (k + 1) (by omega) (g.a k)
  have eb := e (k + 1) (by omega) (g.b k)
  have fa := e k (by omega) (g.a k)
  have fb := e k (by omega) (g.b k)
  have sa := stD_a (g := g) (d := rnD g F C d k) hs
  have sb := stD_b (g := g) (d := rnD g F C d k) hs
  have ea' : stD g F C (rnD g F C d k) k (g.a k) = d (g.a k) := ea
  have eb' : stD g F C (rnD g F C d k) k (g.b k) = d (g.b k) := eb
  omega
def sm6 (d : Nat → Nat) : Nat := d 0 + d 1 + d 2 + d 3 + d 4 + d 5
theorem lt6 {p : Nat} (h : p < 6) : p = 0 ∨ p = 1 ∨ p = 2 ∨ p = 3 ∨ p = 4 ∨ p = 5 := by omega
theorem stD_out {g : G} (ho : GOK g) {F C k p : Nat} {d : Nat → Nat} (hk : k < g.n) (hp : 6 ≤ p) : stD g F C d k p = d p := by
  have := ho.ab k hk
  unfold stD
  split
  · rfl
  · rw [upN_o _ _ (by omega), upN_o _ _ (by omega)]
theorem rnD_out {g : G} (ho : GOK g) {F C p : Nat} {d : Nat → Nat} (hp : 6 ≤ p) : ∀ k, k ≤ g.n → rnD g F C d k p = d p
  | 0, _ => rfl
  | k + 1, hk => (stD_out ho (by omega) hp).trans (rnD_out ho hp k (by omega))
/-- there is a last stand of the distances -/
theorem ruD_stop {g : G} (ho : GOK g) (F C : Nat) : ∀ s (d : Nat → Nat), sm6 d ≤ s → ∃ r, ∀ p, rnD g F C (ruD g F C d r) g.n p = ruD g F C d r p := by
  intro s
  induction s with
  | zero =>
    intro d hd
    refine ⟨0, fun p => ?_⟩
    show rnD g F C d g.n p = d p
    rcases Nat.lt_or_ge p 6 with h6 | h6
    · have h1 := rnD_le g F C d p g.n
      have : d p = 0 := by
        unfold sm6 at hd
        rcases lt6 h6 with e | e | e | e | e | e <;> rw [e] <;> omega
      omega
    · exact rnD_out ho h6 g.n (Nat.le_refl _)
  | succ s ih =>
    intro d hd
    by_cases hfix : ∀ p, rnD g F C d g.n p = d p
    · exact ⟨0, hfix⟩
    · have hlt : sm6 (rnD g F C d g.n) < sm6 d := by
        have l0 := rnD_le g F C d 0 g.n
        have l1 := rnD_le g F C d 1 g.n
        have l2 := rnD_le g F C d 2 g.n
        have l3 := rnD_le g F C d 3 g.n
        have l4 := rnD_le g F C d 4 g.n
        have l5 := rnD_le g F C d 5 g.n
        unfold sm6
        apply Classical.byContradiction
        intro hno
        apply hfix
        intro p
        rcases Nat.lt_or_ge p 6 with h6 | h6
        · rcases lt6 h6 with e | e | e | e | e | e <;> rw [e] <;> omega
        · exact rnD_out ho h6 g.n (Nat.le_refl _)
      obtain ⟨r, hr⟩ := ih (rnD g F C d g.n) (by omega)
      have e : ∀ r, ruD g F C (rnD g F C d g.n) r = ruD g F C d (r + 1) := by
        intro r
        induction r with
        | zero => rfl
        | succ r ihr =>
          show rnD g F C (ruD g F C (rnD g F C d g.n) r) g.n = rnD g F C (ruD g F C d (r + 1)) g.n
          rw [ihr]
      refine ⟨r + 1, fun p => ?_⟩
      have := hr p
      rwa [e] at this
/-- the distances themselves -/
def IsD (g : G) (F C f X : Nat) (D : Nat → Nat) : Prop := Rlx g F C D ∧ D f = 0 ∧ (∀ p, D p ≤ X) ∧ ∀ m : Nat → Nat, Rlx g F C m → (∀ p, m p ≤ X) → ∀ p, m p ≤ m f + D p
theorem d0_low {f X : Nat} {m : Nat → Nat} (h : ∀ p, m p ≤ X) : ∀ p, m p ≤ m f + d0 f X p := by
  intro p
  unfold d0
  have := h p
  by_cases e : p = f
  · rw [e, if_pos rfl]; omega
  · rw [if_neg e]; omega
theorem d0_le (f X p : Nat) : d0 f X p ≤ X := by
  unfold d0
  split <;> omega
theorem ruD_f {g : G} {F C f X : Nat} (r : Nat) : ruD g F C (d0 f X) r f = 0 := by
  have := ruD_le g F C (d0 f X) f r
  have e : d0 f X f = 0 := if_pos rfl
  omega
theorem ex_D {g : G} (ho : GOK g) (F C f X : Nat) : ∃ D, IsD g F C f X D := by
  obtain ⟨r, hr⟩ := ruD_stop ho F C _ (d0 f X) (Nat.le_refl _)
  exact ⟨ruD g F C (d0 f X) r, rlx_fix hr, ruD_f r, fun p => Nat.le_trans (ruD_le g F C _ p r) (d0_le f X p), fun m hm hX => ruD_low hm (d0_low hX) r⟩
theorem IsD.uniq {g : G} {F C f X : Nat} {D D' : Nat → Nat} (h : IsD g F C f X D) (h' : IsD g F C f X D') (p : Nat) : D p = D' p := by
  have h1 := h.2.2.2 D' h'.1 h'.2.2.1 p
  have h2 := h'.2.2.2 D h.1 h.2.2.1 p
  rw [h'.2.1] at h1
  rw [h.2.1] at h2
  omega
/-- a round brings one place more to its distance -/
theorem conv {g : G} (ho : GOK g) {F C f X : Nat} {D d : Nat → Nat} (hD : IsD g F C f X D) (hd : ∀ p, D p ≤ d p) (hdX : ∀ p, d p ≤ X) (hf : d f = 0) (hne : ∃ p, p < 6 ∧ d p ≠ D p) : fa_cnt (fun p => decide (d p = D p)) 6 < fa_cnt (fun p => decide (rnD g F C d g.n p = D p)) 6 := by
  have low : ∀ j, j ≤ g.n → ∀ p, D p ≤ rnD g F C d j p := fun j hj p => by
    have := rnD_low (z := 0) (d := d) hD.1 (fun p => by have := hd p; omega) j hj p
    omega
  refine cnt_lt 6 (fun p _ hp => ?_) ?_
  · have e : d p = D p := of_decide_eq_true hp
    have h1 := low g.n (Nat.le_refl _) p
    have h2 := rnD_le g F C d p g.n
    exact decide_eq_true (by omega)
  · apply Classical.byContradiction
    intro hno
    have cross : ∀ k x y, k < g.n → sta F C k ≠ 2 → ((x = g.a k ∧ y = g.b k) ∨ (x = g.b k ∧ y = g.a k)) → d x = D x → d y ≠ D y → D y + 1 ≤ D x + len1 F C k := by
      intro k x y hk hs hxy hx hy
      apply Classical.byContradiction
      intro hlt
      apply hno
      have ab := ho.ab k hk
      refine ⟨y, by omega, decide_eq_false hy, decide_eq_true ?_⟩
      have lx := low k (by omega) x
      have ux := rnD_le g F C d x k
      have ly := low g.n (Nat.le_refl _) y
      have uy := rnD_mono g F C d y g.n (k := k + 1) hk
      have sy : rnD g F C d (k + 1) y ≤ rnD g F C d k x + len1 F C k := by
        rcases hxy with ⟨rfl, rfl⟩ | ⟨rfl, rfl⟩
        · exact stD_b hs
        · exact stD_a hs
      omega
    have hm : Rlx g F C (fun p => if d p = D p then D p else D p + 1) := by
      intro k hk hs
      obtain ⟨r1, r2⟩ := hD.1 k hk hs
      have c1 := cross k (g.a k) (g.b k) hk hs (Or.inl ⟨rfl, rfl⟩)
      have c2 := cross k (g.b k) (g.a k) hk hs (Or.inr ⟨rfl, rfl⟩)
      try dsimp only
      by_cases ea : d (g.a k) = D (g.a k) <;> by_cases eb : d (g.b k) = D (g.b k)
      · rw [if_pos ea, if_pos eb]; exact ⟨r1, r2⟩
      · have := c1 ea eb
        rw [if_pos ea, if_neg eb]; omega
      · have := c2 eb ea
        rw [if_neg ea, if_pos eb]; omega
      · rw [if_neg ea, if_neg eb]; omega
    obtain ⟨p, hp, hpd⟩ := hne
    have hX : ∀ q, (fun p => if d p = D p then D p else D p + 1) q ≤ X := by
      intro q
      try dsimp only
      have h1 := hd q
      have h2 := hdX q
      split <;> omega
    have := hD.2.2.2 _ hm hX p
    try dsimp only at this
    rw [if_neg hpd, hf, hD.2.1, if_pos rfl] at this
    omega
theorem conv5 {g : G} (ho : GOK g) {F C f X : Nat} (hf6 : f < 6) {D : Nat → Nat} (hD : IsD g F C f X D) : ∀ r, 5 ≤ r → ∀ p, p < 6 → ruD g F C (d0 f X) r p = D p := by
  have low : ∀ r p, D p ≤ ruD g F C (d0 f X) r p := fun r p => by
    have := ruD_low hD.1 (d0_low (f := f) hD.2.2.1) r p
    rw [hD.2.1] at this
    omega
  have up : ∀ r p, ruD g F C (d0 f X) r p ≤ X := fun r p => Nat.le_trans (ruD_le g F C _ p r) (d0_le f X p)
  have key : ∀ r, (∀ p, p < 6 → ruD g F C (d0 f X) r p = D p) ∨ r + 1 ≤ fa_cnt (fun p => decide (ruD g F C (d0 f X) r p = D p)) 6 := by
    intro r
    induction r with
    | zero =>
      right
      have h0 : fa_cnt (fun _ => false) 6 = 0 := by decide
      have := cnt_lt (p := fun _ => false) (q := fun p => decide (ruD g F C (d0 f X) 0 p = D p)) 6 (fun _ _ z => by cases z) ⟨f, hf6, rfl, decide_eq_true (by rw [hD.2.1]; exact ruD_f 0)⟩
      omega
    | succ r ih =>
      by_cases hne : ∃ p, p < 6 ∧ ruD g F C (d0 f X) r p ≠ D p
      · right
        have := conv ho hD (low r) (up r) (ruD_f r) hne
        rcases ih with ih | ih
        · obtain ⟨p, a, b⟩ := hne
          exact absurd (ih p a) b
        · show r + 1 + 1 ≤ fa_cnt (fun p => decide (rnD g F C (ruD g F C (d0 f X) r) g.n p = D p)) 6
          omega
      · left
        intro p hp
        have e : ruD g F C (d0 f X) r p = D p := Classical.byContradiction (fun z => hne ⟨p, hp, z⟩)
        have h1 := low (r + 1) p
        have h2 : ruD g F C (d0 f X) (r + 1) p ≤ ruD g F C (d0 f X) r p := rnD_le g F C _ p g.n
        omega
  intro r hr p hp
  rcases key r with z | z
  · exact z p hp
  · have hle := fa_cnt_le (fun p => decide (ruD g F C (d0 f X) r p = D p)) 6
    have h6 : 6 ≤ fa_cnt (fun p => decide (ruD g F C (d0 f X) r p = D p)) 6 := by omega
    apply Classical.byContradiction
    intro hno
    have := cnt_lt (p := fun p => decide (ruD g F C (d0 f X) r p = D p)) (q := fun _ => true) 6 (fun _ _ _ => rfl) ⟨p, hp, decide_eq_false hno, rfl⟩
    have h7 := fa_cnt_le (fun _ => true) 6
    omega
/-- two ways to say 'out of reach' -/
theorem D_min {g : G} {F C f X Y : Nat} (hXY : X ≤ Y) {A B : Nat → Nat} (hA : IsD g F C f X A) (hB : IsD g F C f Y B) (p : Nat) : A p = min (B p) X := by
  have h1 := hA.2.2.2 (fun p => min (B p) X) (fun k hk hs => by
    obtain ⟨a, b⟩ := hB.1 k hk hs
    try dsimp only
    omega) (fun p => Nat.min_le_right _ _) p
  try dsimp only at h1
  have h2 := hB.2.2.2 A hA.1 (fun p => Nat.le_trans (hA.2.2.1 p) hXY) p
  have h3 := hA.2.2.1 p
  rw [hB.2.1] at h1
  rw [hA.2.1] at h2
  omega
/-- a distance is small or none at all -/
theorem small_st {g : G} {F C k X s : Nat} {d : Nat → Nat} (hX : ∀ p, d p ≤ X) (h : ∀ p, d p = X ∨ d p ≤ s) : ∀ p, stD g F C d k p = X ∨ stD g F C d k p ≤ s + 2 := by
  have hl : len1 F C k ≤ 1 := by unfold len1; split <;> omega
  intro p
  unfold stD
  split
  · rcases h p with z | z
    · exact Or.inl z
    · exact Or.inr (by omega)
  · have key : ∀ q, upN d (g.a k) (min (d (g.a k)) (d (g.b k) + len1 F C k)) q ≤ X ∧ (upN d (g.a k) (min (d (g.a k)) (d (g.b k) + len1 F C k)) q = X ∨ upN d (g.a k) (min (d (g.a k)) (d (g.b k) + len1 F C k)) q ≤ s + 1) := by
      intro q
      have h1 := hX q
      have h2 := h q
      by_cases e : q = g.a k
      · rw [e, upN_s]
        have h3 := hX (g.a k)
        have h4 := h (g.a k)
        have h5 := h (g.b k)
        omega
      · rw [upN_o _ _ e]
        omega
    have ka := key (g.a k)
    have kb := key (g.b k)
    by_cases e : p = g.b k
    · rw [e, upN_s]
      omega
    · rw [upN_o _ _ e]
      have := key p
      omega
theorem small_rn {g : G} {F C X s : Nat} {d : Nat → Nat} (hX : ∀ p, d p ≤ X) (h : ∀ p, d p = X ∨ d p ≤ s) : ∀ k p, rnD g F C d k p = X ∨ rnD g F C d k p ≤ s + 2 * k
  | 0, p => h p
  | k + 1, p => by
    have := small_st (g := g) (F := F) (C := C) (k := k) (fun q => Nat.le_trans (rnD_le g F C d q k) (hX q)) (small_rn hX h k) p
    show stD g F C (rnD g F C d k) k p = X ∨ stD g F C (rnD g F C d k) k p ≤ s + 2 * (k + 1)
    omega
theorem small_ru {g : G} (ho : GOK g) {F C f X : Nat} : ∀ r p, ruD g F C (d0 f X) r p = X ∨ ruD g F C (d0 f X) r p ≤ 20 * r
  | 0, p => by
    show d0 f X p = X ∨ d0 f X p ≤ 0
    unfold d0
    split
    · exact Or.inr (Nat.le_refl _)
    · exact Or.inl rfl
  | r + 1, p => by
    have := small_rn (g := g) (F := F) (C := C) (d := ruD g F C (d0 f X) r) (fun q => Nat.le_trans (ruD_le g F C _ q r) (d0_le f X q)) (small_ru ho r) g.n p
    have hn := ho.1
    show rnD g F C (ruD g F C (d0 f X) r) g.n p = X ∨ rnD g F C (ruD g F C (d0 f X) r) g.n p ≤ 20 * (r + 1)
    omega
theorem small_D {g : G} (ho : GOK g) {F C f X : Nat} (hf6 : f < 6) {D : Nat → Nat} (hD : IsD g F C f X D) {p : Nat} (hp : p < 6) : D p = X ∨ D p ≤ 100 := by
  have := small_ru ho (F := F) (C := C) (f := f) (X := X) 5 p
  rw [conv5 ho hf6 hD 5 (Nat.le_refl _) p hp] at this
  exact this
/-- the ends are near each other as long as the game goes on -/
theorem sta2 {n F C l : Nat} (h : VS n F C) : sta F C l = 2 ↔ C.testBit l = true := by
  have := h.2.2 l
  unfold sta
  cases a : F.testBit l <;> cases b : C.testBit l <;> simp [a, b] at this ⊢
theorem near_fin {g : G} (ho : GOK g) {F C : Nat} (hs : VS g.n F C) {A : Nat → Nat} (hA : IsD g F C g.e 1000 A) (hj : jn g (unc g.n C) = true) : A g.f ≤ 100 := by
  have hr := ((rch_ok ho (unc g.n C)).1 g.f).mp hj
  have := hr (fun p => A p ≤ 100) (by show A g.e ≤ 100; rw [hA.2.1]; omega) (fun i hi hb => by
    rw [unc_tb, decide_eq_true hi, Bool.true_and] at hb
    have hs2 : sta F C i ≠ 2 := fun z => by
      rw [(sta2 hs).mp z] at hb
      cases hb
    obtain ⟨r1, r2⟩ := hA.1 i hi hs2
    have hl : len1 F C i ≤ 1 := by unfold len1; split <;> omega
    obtain ⟨la, lb⟩ := ho.ab i hi
    have sa := small_D ho ho.2.1 hA la
    have sb := small_D ho ho.2.1 hA lb
    try dsimp only
    omega)
  exact this
theorem near_pos {g : G} (ho : GOK g) {F C : Nat} (hs : VS g.n F C) {A : Nat → Nat} (hA : IsD g F C g.e 1000 A) (hj : jn g F = false) : 1 ≤ A g.f := by
  apply Classical.byContradiction
  intro h0
  have hm : Rlx g F C (fun p => if (rch g F).testBit p = true then 0 else 1) := by
    intro k hk hs2
    try dsimp only
    by_cases h1 : sta F C k = 1
    · have hb := sta1.mp h1
      have := (rch_ok ho F).1
      have e : (rch g F).testBit (g.a k) = true ↔ (rch g F).testBit (g.b k) = true := by
        rw [this, this]
        constructor
        · intro z m hf hc
          exact (hc k hk hb).mp (z m hf hc)
        · intro z m hf hc
          exact (hc k hk hb).mpr (z m hf hc)
      by_cases ea : (rch g F).testBit (g.a k) = true
      · rw [if_pos ea, if_pos (e.mp ea)]
        omega
      · rw [if_neg ea, if_neg (fun z => ea (e.mpr z))]
        omega
    · have hl : len1 F C k = 1 := if_neg h1
      rw [hl]
      split <;> split <;> omega
  have := hA.2.2.2 _ hm (fun p => by show (if (rch g F).testBit p = true then 0 else 1) ≤ 1000; split <;> omega) g.f
  try dsimp only at this
  rw [if_pos (rch_end ho F)] at this
  split at this
  · rename_i z
    have : jn g F = true := z
    rw [hj] at this
    cases this
  · omega
