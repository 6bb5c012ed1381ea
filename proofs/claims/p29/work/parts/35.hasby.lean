/-! the reference: who has it, of all ways -/
def JH (h : AH) (g : G) (F C c : Nat) : Prop := ∀ c', c ≤ c' → c' < 3 ^ oc g.n F C → ∀ w, w < 2 → AI h 40 (2 * c' + w) = b01 (hv g (cF g.n F C c') (cC g.n F C c') w)
def isQ (g : G) (F C c w j : Nat) : Bool := hv g (cF g.n F C (c + (w + 1) * 3 ^ j)) (cC g.n F C (c + (w + 1) * 3 ^ j)) (1 - w)
def zro (c j : Nat) : Bool := decide (dg c j = 0)
def anB (g : G) (F C c w : Nat) : Nat → Bool := fun j => fo (zro c) (fun j y => y || isQ g F C c w j) j false
def alB (g : G) (F C c w : Nat) : Nat → Bool := fun j => fo (zro c) (fun j y => y && isQ g F C c w j) j true
theorem b01_0 {b : Bool} : b01 b = 0 ↔ b = false := by cases b <;> simp [b01]
theorem b01_1 {b : Bool} : b01 b = 1 ↔ b = true := by cases b <;> simp [b01]
theorem b01_or (b : Bool) : b01 b = 0 ∨ b01 b = 1 := by cases b <;> simp [b01]
/-- the figure's lane and the child it leads to -/
theorem chL {g : G} {F C c w j : Nat} (hw : w < 2) (hj : j < oc g.n F C) (hd : dg c j = 0) : cF g.n F C (c + (w + 1) * 3 ^ j) = (if w = 0 then cF g.n F C c ||| 2 ^ olN g.n F C j else cF g.n F C c) ∧ cC g.n F C (c + (w + 1) * 3 ^ j) = (if w = 0 then cC g.n F C c else cC g.n F C c ||| 2 ^ olN g.n F C j) := by
  obtain ⟨a, b, e⟩ := ol_ok hj
  have hw2 : w = 0 ∨ w = 1 := by omega
  rcases hw2 with rfl | rfl
  · have := chF a b (c := c) (by rw [e]; exact hd)
    rw [e] at this
    exact this
  · have := chC a b (c := c) (by rw [e]; exact hd)
    rw [e] at this
    exact this
theorem ixw {c w j m : Nat} (hw : w < 2) (hm : m ≤ 10) (hj : j < m) (hd : dg c j = 0) (hc : c < 3 ^ m) : c + (w + 1) * 3 ^ j < 3 ^ m ∧ c < c + (w + 1) * 3 ^ j ∧ 2 * (c + (w + 1) * 3 ^ j) + 1 < 118098 := by
  have h1 := dg_bd j hd (x := w + 1) (by omega) hj hc
  have h2 := p3_10 hm
  have h3 : 0 < 3 ^ j := Nat.pow_pos (by decide)
  have h4 : 0 < (w + 1) * 3 ^ j := Nat.mul_pos (by omega) h3
  omega
theorem dgp {x j : Nat} (hx : x < 2 ^ 31) (hj : j ≤ 10) : nI x / nI (3 ^ j) - nI x / nI (3 ^ j) / 3 * 3 = nI (dg x j) := by
  have h1 := p3_10 hj
  have h2 : 0 < 3 ^ j := Nat.pow_pos (by decide)
  rw [pk_div hx h2 (by omega), dgI (Nat.lt_of_le_of_lt (Nat.div_le_self _ _) hx)]
  rfl
theorem stepI (c w p : Nat) (hw : w < 2) {x : Int32} (hx : x = nI (w + 1)) : 2 * (nI c + x * nI p) + 1 - nI w = nI (2 * (c + (w + 1) * p) + (1 - w)) := by
  rw [hx, pk_mul, nI_add, show (2 : Int32) = nI 2 from rfl, pk_mul, nI_1, pk_sub (by omega)]
  congr 1
  omega
def Sol (h : AH) (g : G) (F C : Nat) : Prop := Lay h g F C ∧ JH h g F C 0
theorem Sol.at0 {h : AH} {g : G} {F C w : Nat} (s : Sol h g F C) (hs : VS g.n F C) (hw : w < 2) : AI h 40 w = b01 (hv g F C w) := by
  have := s.2 0 (Nat.le_refl _) (Nat.pow_pos (by decide)) w hw
  rwa [c0F hs, c0C hs, Nat.mul_zero, Nat.zero_add] at this
