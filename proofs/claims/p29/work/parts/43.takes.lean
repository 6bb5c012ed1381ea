/-! the reference's players -/
def rfP (i _j : Nat) : Prop := i = 43 ∨ i = 44
def lenR (F C k : Nat) : Nat := if sta F C k = 2 then 1048576 else len1 F C k
def stQ (g : G) (F C : Nat) (d : Nat → Nat) (k : Nat) : Nat → Nat := upN (upN d (g.a k) (min (d (g.a k)) (d (g.b k) + lenR F C k))) (g.b k) (min (upN d (g.a k) (min (d (g.a k)) (d (g.b k) + lenR F C k)) (g.b k)) (upN d (g.a k) (min (d (g.a k)) (d (g.b k) + lenR F C k)) (g.a k) + lenR F C k))
theorem stQ_eq {g : G} {F C k : Nat} {d : Nat → Nat} (h : ∀ p, d p ≤ 1048576) (p : Nat) : stQ g F C d k p = stD g F C d k p := by
  unfold stD
  by_cases h2 : sta F C k = 2
  · rw [if_pos h2]
    have hl : lenR F C k = 1048576 := if_pos h2
    unfold stQ
    rw [hl]
    have ha := h (g.a k)
    have hb := h (g.b k)
    have key : ∀ q, upN d (g.a k) (min (d (g.a k)) (d (g.b k) + 1048576)) q = d q := by
      intro q
      by_cases e : q = g.a k
      · rw [e, upN_s]
        omega
      · rw [upN_o _ _ e]
    rw [key, key]
    by_cases e : p = g.b k
    · rw [e, upN_s]
      omega
    · rw [upN_o _ _ e]
      exact key p
  · rw [if_neg h2]
    have hl : lenR F C k = len1 F C k := if_neg h2
    unfold stQ
    rw [hl]
theorem minK {P : Int32 → Prop} {x y : Nat} (hx : x < 2 ^ 31) (hy : y < 2 ^ 31) (H : P (nI (min x y))) : (nI y < nI x → P (nI y)) ∧ (¬ nI y < nI x → P (nI x)) := by
  rw [nI_ltI hy hx]
  refine ⟨fun z => ?_, fun z => ?_⟩
  · rw [Nat.min_eq_right (by omega)] at H
    exact H
  · rw [Nat.min_eq_left (by omega)] at H
    exact H
theorem DiC.o {h : AH} {i j : Nat} {d : Nat → Nat} (s : DiC h i d) (hn : i ≠ j) {q : Nat} {x : Int32} : DiC (stI h j q x) i d := fun p hp => by
  rw [AI_stI_o _ _ (Or.inl hn)]
  exact s p hp
theorem IR.rf {h h' : AH} {g : G} {F C : Nat} (R : IR h g F C) (hf : Fr rfP h h') : IR h' g F C := by
  have n : ∀ i j, i ≠ 43 → i ≠ 44 → ¬ rfP i j := fun i j a b z => by rcases z with z | z; exact a z; exact b z
  exact ⟨R.1.fr hf ⟨n _ _ (by decide) (by decide), n _ _ (by decide) (by decide)⟩ (fun j => ⟨n _ _ (by decide) (by decide), n _ _ (by decide) (by decide)⟩), by rw [hf.I (n _ _ (by decide) (by decide))]; exact R.2.1, R.2.2.fr hf (fun j => n _ _ (by decide) (by decide))⟩
def tkP (i j : Nat) : Prop := solP i j ∨ i = 43 ∨ i = 44 ∨ (i = 23 ∧ j = 42)
theorem pop_opn2 {n F C : Nat} (hn : n ≤ 10) : pop (opn n F C) = oc n F C := pop_opn hn
