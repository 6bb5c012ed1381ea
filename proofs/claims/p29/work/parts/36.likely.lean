/-! the reference's likelihoods; the greatest divisors -/
def lkP (i j : Nat) : Prop := (i = 23 ∧ 32 ≤ j ∧ j ≤ 39) ∨ (37 ≤ i ∧ i ≤ 42)
theorem sol_lk {i j : Nat} (h : solP i j) : lkP i j := by
  rcases h with h | h
  · exact Or.inl h
  · exact Or.inr ⟨h.1, by omega⟩
def WH (h : AH) (how m : Nat) : Prop := ∀ l, l ≤ m → ∀ w, w < 2 → AI h 42 (2 * l + w) = nI (whl how l w)
def CH (h : AH) (g : G) (how F C c : Nat) : Prop := ∀ c', c ≤ c' → c' < 3 ^ oc g.n F C → ∀ w, w < 2 → AI h 41 (2 * c' + w) = nI (cv g how (cF g.n F C c') (cC g.n F C c') w)
def cvj (g : G) (how F C c w j : Nat) : Nat := cv g how (cF g.n F C (c + (w + 1) * 3 ^ j)) (cC g.n F C (c + (w + 1) * 3 ^ j)) (1 - w)
def smj (g : G) (how F C c w : Nat) : Nat → Nat := fun j => fo (zro c) (fun j y => y + cvj g how F C c w j) j 0
def mxj (g : G) (how F C c w : Nat) : Nat → Nat := fun j => fo (zro c) (fun j y => max y (cvj g how F C c w j)) j 0
def mnj (g : G) (how F C c w : Nat) : Nat → Nat := fun j => fo (zro c) (fun j y => min y (cvj g how F C c w j)) j 1073741824
theorem cv_le {g : G} (ho : GOK g) {how F C w : Nat} (hw : w < 2) : cv g how F C w ≤ 3628800 := Nat.le_trans (chv_le g how _ F C w rfl hw) (Nat.le_trans (whl_le how _ w) (fct10 (oc_10 F C ho.1)))
theorem mxj_le {g : G} (ho : GOK g) {how F C c w : Nat} : ∀ j, mxj g how F C c w j ≤ 3628800 := fun j => by
  rcases (fo_max (p := zro c) (f := fun j => cvj g how F C c w j) (x := 0) j).2.2 with z | ⟨k, a, b, e⟩
  · have : mxj g how F C c w j = 0 := z
    omega
  · have : mxj g how F C c w j = cvj g how F C c w k := e
    rw [this]
    exact cv_le ho (by omega)
theorem mnj_le {g : G} {how F C c w : Nat} (j : Nat) : mnj g how F C c w j ≤ 1073741824 := (fo_min (p := zro c) (f := fun j => cvj g how F C c w j) (x := 1073741824) j).1
theorem p3_9 {j : Nat} (h : j ≤ 9) : 3 ^ j ≤ 19683 := p3_le h
theorem gcd_step (x y : Nat) : Nat.gcd x y = Nat.gcd y (x % y) := by
  rw [Nat.gcd_comm x y, Nat.gcd_rec y x, Nat.gcd_comm]
def lkA (g : G) (how F C w p : Nat) : Nat := (if p = 0 then cv g how F C w else whl how (oc g.n F C) w) / Nat.gcd (cv g how F C w) (whl how (oc g.n F C) w)
