/-! sets of lanes that are best of their like, of the class -/
def dif (u s : Nat) : Nat := msk (fun i => u.testBit i && !s.testBit i) 10
theorem dif_tb {u s i : Nat} (hu : u < 1024) : (dif u s).testBit i = (u.testBit i && !s.testBit i) := by
  unfold dif
  rw [msk_tb]
  rcases Nat.lt_or_ge i 10 with z | z
  · rw [decide_eq_true z]
    rfl
  · rw [tb_ge (n := 10) hu z]
    simp
theorem dif_nI {u s : Nat} (hu : u < 1024) : nI u &&& (nI s ^^^ (-1)) = nI (dif u s) := by
  apply b_ext
  intro i hi
  rw [b_and, b_xor, b_m1 i hi, bt_nI hi, bt_nI hi, bt_nI hi, dif_tb hu, Bool.xor_true]
theorem dif_lt {u s n : Nat} (hu : u < 2 ^ n) (hn : n ≤ 10) : dif u s < 2 ^ n := by
  apply lt_tb
  intro i hi
  rw [dif_tb (p2_10 hu hn), Bool.and_eq_true] at hi
  exact tb_lt hu hi.1
def sub (s u : Nat) : Bool := decide (u &&& s = s)
theorem subC {s u : Nat} (hs : s < 2 ^ 31) : (nI s &&& (nI u ^^^ (-1))) = 0 ↔ sub s u = true := by
  rw [andnC hs]
  unfold sub
  rw [decide_eq_true_eq]
theorem sub_le {s u : Nat} (h : sub s u = true) : s ≤ u := by
  have : u &&& s = s := of_decide_eq_true h
  rw [← this]
  exact Nat.and_le_left
theorem sub_tb {s u i : Nat} (h : sub s u = true) (hb : s.testBit i = true) : u.testBit i = true := by
  have : u &&& s = s := of_decide_eq_true h
  rw [← this, Nat.testBit_and, Bool.and_eq_true] at hb
  exact hb.1
theorem sub_of {s u : Nat} (h : ∀ i, s.testBit i = true → u.testBit i = true) : sub s u = true := by
  apply decide_eq_true
  apply tb_ext
  intro i
  rw [Nat.testBit_and]
  cases hb : s.testBit i with
  | true => rw [h i hb]; rfl
  | false => rw [Bool.and_false]
/-- two ways to hang together -/
def wyp (g : G) (F C s : Nat) : Bool := sub s (unc g.n C) && (spn g s (plc g g.n) && spn g (dif (unc g.n C) s ||| F) (plc g g.n))
def fsI (p : Nat → Bool) (n : Nat) : Int32 := if fa_first p n < n then nI (fa_first p n) else -1
theorem fsI_at {p : Nat → Bool} {n i : Nat} (hi : i < n) (hno : ∀ k, k < i → p k = false) (hp : p i = true) : fsI p n = nI i := by
  unfold fsI
  rw [first_at hi hno hp, if_pos hi]
theorem fsI_no {p : Nat → Bool} {n : Nat} (hno : ∀ k, k < n → p k = false) : fsI p n = -1 := by
  unfold fsI
  rw [first_none hno, if_neg (Nat.lt_irrefl _)]
def C3 (h : AH) (g : G) : Prop := Sh h ∧ NetC h g ∧ RchC h g
/-- the least of which p holds -/
def lst (p : Nat → Bool) (m : Nat → Nat) : Nat → Option Nat
  | 0 => none
  | s + 1 => if p s = true then (match lst p m s with
    | none => some s
    | some b => if m s < m b then some s else some b) else lst p m s
def oI : Option Nat → Int32
  | none => -1
  | some b => nI b
theorem lst_no {p : Nat → Bool} {m : Nat → Nat} {s : Nat} (h : p s = false) : lst p m (s + 1) = lst p m s := if_neg (by rw [h]; decide)
theorem lst_yes {p : Nat → Bool} {m : Nat → Nat} {s b : Nat} (h : p s = true) (hb : ∀ b', lst p m s = some b' → b = m b') (hlt : lst p m s ≠ none → m s < b) : lst p m (s + 1) = some s := by
  show (if p s = true then _ else _) = _
  rw [if_pos h]
  cases hl : lst p m s with
  | none => rfl
  | some b' =>
    have := hlt (by rw [hl]; exact fun z => by cases z)
    rw [hb b' hl] at this
    exact if_pos this
theorem lst_keep {p : Nat → Bool} {m : Nat → Nat} {s b' : Nat} (hl : lst p m s = some b') (hge : ¬ m s < m b') : lst p m (s + 1) = lst p m s := by
  show (if p s = true then _ else _) = _
  rw [hl]
  split
  · exact if_neg hge
  · rfl
theorem lst_in {p : Nat → Bool} {m : Nat → Nat} : ∀ {s b}, lst p m s = some b → b < s ∧ p b = true
  | 0, b, h => by cases h
  | s + 1, b, h => by
    unfold lst at h
    split at h
    · rename_i hp
      split at h
      · cases h
        exact ⟨Nat.lt_succ_self _, hp⟩
      · rename_i b0 hb0
        have ih := lst_in hb0
        split at h
        · cases h
          exact ⟨Nat.lt_succ_self _, hp⟩
        · cases h
          exact ⟨by omega, ih.2⟩
    · have ih := lst_in h
      exact ⟨by omega, ih.2⟩
theorem lst_end {p : Nat → Bool} {m : Nat → Nat} {i : Nat} : ∀ {n}, i ≤ n → (∀ k, i ≤ k → k < n → p k = false) → lst p m n = lst p m i
  | 0, h, _ => by rw [Nat.le_zero.mp h]
  | n + 1, h, hp => by
    by_cases e : i = n + 1
    · rw [e]
    · rw [lst_no (hp n (by omega) (by omega))]
      exact lst_end (by omega) (fun k h1 h2 => hp k h1 (by omega))
def ptp (g : G) (F C s : Nat) : Bool := sub s (opn g.n F C) && !jn g (dif (unc g.n C) s)
def ptn (g : G) (F C : Nat) : Option Nat := lst (ptp g F C) pop (2 ^ g.n)
theorem pop_le (s : Nat) : pop s ≤ 10 := fa_cnt_le _ 10
theorem pop_lt {n s : Nat} (h : s < 2 ^ n) (hn : n ≤ 9) : pop s < 10 := by
  have h9 : fa_cnt (fun i => s.testBit i) 9 ≤ 9 := fa_cnt_le _ 9
  have : pop s = fa_cnt (fun i => s.testBit i) 9 := fa_cnt_no (p := fun i => s.testBit i) (n := 9) (tb_ge h hn)
  omega
theorem opn_unc (n F C : Nat) : dif (unc n C) F = opn n F C ∨ 10 < n := by
  rcases Nat.lt_or_ge 10 n with z | z
  · exact Or.inr z
  · left
    apply tb_ext
    intro i
    rw [dif_tb (p2_10 (unc_lt n C) z), unc_tb, opn_tb]
    cases decide (i < n) <;> cases F.testBit i <;> cases C.testBit i <;> rfl
/-- the cheapest lanes to make fast first -/
def bgp (g : G) (F C s : Nat) : Bool := sub s (opn g.n F C) && hv g (F ||| s) C 1
def bgt (g : G) (F C : Nat) : Option Nat := lst (bgp g F C) (fun s => csm g.c s g.n) (2 ^ g.n)
theorem VS.sub {n F C s : Nat} (h : VS n F C) (hs : sub s (opn n F C) = true) : VS n (F ||| s) C := by
  have hlt : s < 2 ^ n := Nat.lt_of_le_of_lt (sub_le hs) (opn_lt n F C)
  refine ⟨Nat.or_lt_two_pow h.1 hlt, h.2.1, fun i z => ?_⟩
  rw [Nat.testBit_or, Bool.or_eq_true] at z
  rcases z.1 with q | q
  · exact h.2.2 i ⟨q, z.2⟩
  · have := sub_tb hs q
    rw [opn_tb, z.2] at this
    simp at this
theorem csm_mono {c : Nat → Nat} {s u : Nat} (h : ∀ i, s.testBit i = true → u.testBit i = true) : ∀ n, csm c s n ≤ csm c u n
  | 0 => Nat.le_refl _
  | n + 1 => by
    have ih := csm_mono (c := c) h n
    unfold csm
    cases hs : s.testBit n with
    | true => rw [h n hs, if_pos rfl, if_pos rfl]; omega
    | false =>
      rw [if_neg (by decide)]
      split <;> omega
