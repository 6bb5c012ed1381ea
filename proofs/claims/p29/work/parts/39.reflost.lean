/-! lost and mend, the reference's -/
def rlP (i j : Nat) : Prop := solP i j ∨ i = 26
def MvR (h : AH) (t : ST) : Prop := AI h 23 8 = nI t.w ∧ AI h 23 9 = nI t.k ∧ ∀ i, i < t.k → AI h 28 i = nI (t.m i)
theorem MvR.fr {P : Nat → Nat → Prop} {h h' : AH} {t : ST} (s : MvR h t) (hf : Fr P h h') (h1 : ¬ P 23 8 ∧ ¬ P 23 9) (h2 : ∀ j, ¬ P 28 j) : MvR h' t := by
  obtain ⟨a, b, c⟩ := s
  refine ⟨?_, ?_, fun i hi => ?_⟩
  · rw [hf.I h1.1, a]
  · rw [hf.I h1.2, b]
  · rw [hf.I (h2 i), c i hi]
def mvb (t : ST) : Nat → Nat → Bool
  | 0, _ => false
  | i + 1, l => mvb t i l || decide (t.m i = l)
theorem mvb_iff (t : ST) : ∀ i l, mvb t i l = true ↔ ∃ j, j < i ∧ t.m j = l
  | 0, l => ⟨fun h => (by cases h), fun ⟨j, hj, _⟩ => absurd hj (Nat.not_lt_zero j)⟩
  | i + 1, l => by
    unfold mvb
    rw [Bool.or_eq_true, mvb_iff t i l, decide_eq_true_eq]
    constructor
    · rintro (⟨j, a, b⟩ | b)
      · exact ⟨j, by omega, b⟩
      · exact ⟨i, by omega, b⟩
    · rintro ⟨j, a, b⟩
      by_cases e : j = i
      · rw [e] at b; exact Or.inr b
      · exact Or.inl ⟨j, by omega, b⟩
/-- the bits at an earlier stand: those of the moves since are off -/
theorem unT_bits {g : G} {t : ST} (h : TOK g t) (hn : g.n ≤ 10) : ∀ j, j ≤ t.k → ∀ l, ((∃ i, t.k - j ≤ i ∧ i < t.k ∧ t.m i = l) → (unT t j).F.testBit l = false ∧ (unT t j).C.testBit l = false) ∧ ((¬ ∃ i, t.k - j ≤ i ∧ i < t.k ∧ t.m i = l) → (unT t j).F.testBit l = t.F.testBit l ∧ (unT t j).C.testBit l = t.C.testBit l)
  | 0, _, l => ⟨fun ⟨i, a, b, _⟩ => by omega, fun _ => ⟨rfl, rfl⟩⟩
  | j + 1, hj, l => by
    have ih := unT_bits h hn j (by omega) l
    obtain ⟨lF, lC⟩ := (unT_ok h hn j (by omega)).lt hn
    have e1 : (unT t (j + 1)).F = dif (unT t j).F (2 ^ t.m (t.k - j - 1)) := by
      show dif _ (2 ^ (unT t j).m ((unT t j).k - 1)) = _
      rw [unT_m, unT_k]
    have e2 : (unT t (j + 1)).C = dif (unT t j).C (2 ^ t.m (t.k - j - 1)) := by
      show dif _ (2 ^ (unT t j).m ((unT t j).k - 1)) = _
      rw [unT_m, unT_k]
    rw [e1, e2, dif_two lF, dif_two lC]
    by_cases e : t.m (t.k - j - 1) = l
    · rw [decide_eq_true e]
      refine ⟨fun _ => by simp, fun hno => absurd ⟨t.k - j - 1, by omega, by omega, e⟩ hno⟩
    · rw [decide_eq_false e]
      simp only [Bool.not_false, Bool.and_true]
      constructor
      · rintro ⟨i, a, b, c⟩
        refine ih.1 ⟨i, ?_, b, c⟩
        rcases Nat.lt_or_ge i (t.k - j) with z | z
        · have : i = t.k - j - 1 := by omega
          rw [this] at c
          exact absurd c e
        · exact z
      · intro hno
        exact ih.2 (fun ⟨i, a, b, c⟩ => hno ⟨i, by omega, b, c⟩)
theorem root_sta {g : G} {t : ST} (h : TOK g t) (hn : g.n ≤ 10) (l : Nat) : sta (tI t 0).F (tI t 0).C l = if mvb t t.k l = true then 0 else sta t.F t.C l := by
  have := unT_bits h hn t.k (Nat.le_refl _) l
  have e : tI t 0 = unT t t.k := rfl
  rw [e]
  by_cases hm : mvb t t.k l = true
  · obtain ⟨j, a, b⟩ := (mvb_iff t t.k l).mp hm
    obtain ⟨x, y⟩ := this.1 ⟨j, by omega, a, b⟩
    rw [if_pos hm]
    unfold sta
    rw [x, y]
    rfl
  · obtain ⟨x, y⟩ := this.2 (fun ⟨i, _, a, b⟩ => hm ((mvb_iff t t.k l).mpr ⟨i, a, b⟩))
    rw [if_neg hm]
    unfold sta
    rw [x, y]
/-- the code of the first moves -/
def cdN (t : ST) : Nat → Nat
  | 0 => 0
  | i + 1 => cdN t i + ((tI t i).w + 1) * 3 ^ rk (tI t 0).F (tI t 0).C (t.m i)
theorem cdN_ok {g : G} {t : ST} (h : TOK g t) (hn : g.n ≤ 10) : ∀ i, i ≤ t.k → cdN t i < 3 ^ oc g.n (tI t 0).F (tI t 0).C ∧ cF g.n (tI t 0).F (tI t 0).C (cdN t i) = (tI t i).F ∧ cC g.n (tI t 0).F (tI t 0).C (cdN t i) = (tI t i).C
  | 0, _ => ⟨Nat.pow_pos (by decide), c0F (tI_ok h hn 0).1, c0C (tI_ok h hn 0).1⟩
  | i + 1, hi => by
    obtain ⟨a, b, c⟩ := cdN_ok h hn i (by omega)
    obtain ⟨e1, e2, e3, e4, e5⟩ := tI_step h hn (i := i) hi
    have hw := (tI_ok h hn i).2.1
    rw [← b, ← c, cop e5, Bool.and_eq_true] at e4
    have hd := of_decide_eq_true e4.2
    refine ⟨dg_bd _ hd (by omega) (rk_lt e5 e4.1) a, ?_, ?_⟩
    · rw [e1]
      show cF _ _ _ (cdN t i + ((tI t i).w + 1) * _) = _
      rcases (by omega : (tI t i).w = 0 ∨ (tI t i).w = 1) with z | z
      · rw [z, (chF e5 e4.1 hd).1, b]
        rfl
      · rw [z, (chC e5 e4.1 hd).1, b]
        rfl
    · rw [e2]
      show cC _ _ _ (cdN t i + ((tI t i).w + 1) * _) = _
      rcases (by omega : (tI t i).w = 0 ∨ (tI t i).w = 1) with z | z
      · rw [z, (chF e5 e4.1 hd).2, c]
        rfl
      · rw [z, (chC e5 e4.1 hd).2, c]
        rfl
theorem mod2I {x : Nat} (hx : x < 2 ^ 31) : nI x - nI x / 2 * 2 = nI (x % 2) := pk_rem (d := 2) hx (by decide) (by decide)
theorem b01_eq {b : Bool} {w : Nat} : (b == decide (w = 0)) = true ↔ (w = 0 → b = true) ∧ (¬ w = 0 → b = false) := by
  by_cases h : w = 0
  · rw [decide_eq_true h]
    cases b <;> simp [h]
  · rw [decide_eq_false h]
    cases b <;> simp [h]
/-- the lane that mends -/
def rmP (i j : Nat) : Prop := solP i j ∨ i = 24 ∨ i = 25 ∨ i = 26
def mnA (g : G) (F C what : Nat) : Int32 := if hv g F C 1 = true then (if what = 0 then 0 else -1) else if fa_first (mnp g F C) 36 < 36 then (if what = 0 then 1 else if what = 1 then nI (fa_first (mnp g F C) 36 / 6) else nI (fa_first (mnp g F C) 36 % 6)) else (if what = 0 then 2 else -1)
def mnB (g : G) (F C what : Nat) : Int32 := if fa_first (mnp g F C) 36 < 36 then (if what = 0 then 1 else if what = 1 then nI (fa_first (mnp g F C) 36 / 6) else nI (fa_first (mnp g F C) 36 % 6)) else (if what = 0 then 2 else -1)
/-- where JOIN doesn't have it first, no lane mends -/
theorem has_cut {g : G} (ho : GOK g) {o t : Nat} (ho2 : GOK (addG g o t 1)) : ∀ l F C w, VS g.n F C → oc g.n F C = l → has (addG g o t 1) l F (C ||| 2 ^ g.n) w = has g l F C w := by
  have jnE : ∀ s, s < 2 ^ g.n → jn (addG g o t 1) s = jn g s := fun s hs => by
    show (rch (addG g o t 1) s).testBit g.f = (rch g s).testBit g.f
    rw [rch_add ho ho2 hs]
  have uncE : ∀ C, C < 2 ^ g.n → unc (g.n + 1) (C ||| 2 ^ g.n) = unc g.n C := fun C hC => by
    apply tb_ext
    intro i
    rw [unc_tb, unc_tb, Nat.testBit_or, Nat.testBit_two_pow]
    by_cases e : g.n = i
    · rw [decide_eq_true e, decide_eq_false (by omega : ¬ i < g.n)]
      simp
    · rw [decide_eq_false e, Bool.or_false]
      congr 1
      apply Bool.eq_iff_iff.mpr
      rw [decide_eq_true_eq, decide_eq_true_eq]
      omega
  have opE : ∀ F C i, i < g.n → opb F (C ||| 2 ^ g.n) i = opb F C i := fun F C i hi => by
    rw [opb_C, decide_eq_false (by omega), Bool.not_false, Bool.and_true]
  have opN : ∀ F C, opb F (C ||| 2 ^ g.n) g.n = false := fun F C => by
    rw [opb_C, decide_eq_true rfl, Bool.not_true, Bool.and_false]
  intro l
  induction l with
  | zero =>
    intro F C w hs _
    exact jnE F hs.1
  | succ l ih =>
    intro F C w hs hl
    have eF : ∀ k, k < g.n → opb F C k = true → has (addG g o t 1) l (F ||| 2 ^ k) (C ||| 2 ^ g.n) 1 = has g l (F ||| 2 ^ k) C 1 := fun k hk hp => ih _ _ _ (hs.F hk hp) (by have := oc_F hk hp; omega)
    have eC : ∀ k, k < g.n → opb F C k = true → has (addG g o t 1) l F (C ||| 2 ^ g.n ||| 2 ^ k) 0 = has g l F (C ||| 2 ^ k) 0 := fun k hk hp => by
      rw [Nat.or_assoc, Nat.or_comm (2 ^ g.n), ← Nat.or_assoc]
      exact ih _ _ _ (hs.C hk hp) (by have := oc_C hk hp; omega)
    have hU := unc_lt g.n C
    have f1 : fo (opb F (C ||| 2 ^ g.n)) (fun k y => y || has (addG g o t 1) l (F ||| 2 ^ k) (C ||| 2 ^ g.n) 1) (g.n + 1) false = fo (opb F C) (fun k y => y || has g l (F ||| 2 ^ k) C 1) g.n false := by
      rw [fo_no (opN F C)]
      exact fo_cong (fun k hk => opE F C k hk) (fun k hk hp y => by rw [eF k hk (by rw [← opE F C k hk]; exact hp)])
    have f2 : fo (opb F (C ||| 2 ^ g.n)) (fun k y => y && has (addG g o t 1) l F (C ||| 2 ^ g.n ||| 2 ^ k) 0) (g.n + 1) true = fo (opb F C) (fun k y => y && has g l F (C ||| 2 ^ k) 0) g.n true := by
      rw [fo_no (opN F C)]
      exact fo_cong (fun k hk => opE F C k hk) (fun k hk hp y => by rw [eC k hk (by rw [← opE F C k hk]; exact hp)])
    show (jn (addG g o t 1) F || (jn (addG g o t 1) (unc (g.n + 1) (C ||| 2 ^ g.n)) && (if w = 0 then fo (opb F (C ||| 2 ^ g.n)) (fun k y => y || has (addG g o t 1) l (F ||| 2 ^ k) (C ||| 2 ^ g.n) 1) (g.n + 1) false else fo (opb F (C ||| 2 ^ g.n)) (fun k y => y && has (addG g o t 1) l F (C ||| 2 ^ g.n ||| 2 ^ k) 0) (g.n + 1) true))) = _
    rw [f1, f2, uncE C hs.2.1, jnE F hs.1, jnE _ hU]
    rfl
theorem oc_up {n F C : Nat} (h : VS n F C) : oc (n + 1) F C = oc n F C + 1 := by
  refine fa_cnt_yes ?_
  unfold opb
  rw [tb_ge h.1 (Nat.le_refl n), tb_ge h.2.1 (Nat.le_refl n)]
  rfl
theorem no_mend {g : G} (ho : GOK g) (hn9 : g.n ≤ 9) {F C : Nat} (hs : VS g.n F C) (h0 : hv g F C 0 = false) : ∀ p, p < 36 → mnp g F C p = false := by
  intro p hp
  unfold mnp
  have ho2 := ho.add (o := p / 6) (t := p % 6) (p := 1) (Nat.lt_succ_of_le hn9) (by omega) (by omega) (by decide)
  have eh : hv (addG g (p / 6) (p % 6) 1) F C 1 = false := by
    have hvE := hv_eq (g := addG g (p / 6) (p % 6) 1) (F := F) (C := C) (w := 1) hs.up
    have hop : opb F C g.n = true := by
      unfold opb
      rw [tb_ge hs.1 (Nat.le_refl _), tb_ge hs.2.1 (Nat.le_refl _)]
      rfl
    have hjn : jn (addG g (p / 6) (p % 6) 1) F = false := by
      have e : jn (addG g (p / 6) (p % 6) 1) F = jn g F := by
        show (rch _ F).testBit g.f = (rch g F).testBit g.f
        rw [rch_add ho ho2 hs.1]
      rw [e]
      have := hv_eq (g := g) (w := 0) hs
      rw [h0] at this
      cases q : jn g F with
      | false => rfl
      | true => rw [q] at this; cases this
    have hch : hv (addG g (p / 6) (p % 6) 1) F (C ||| 2 ^ g.n) 0 = false := by
      have := has_cut ho ho2 (oc g.n F C) F C 0 hs rfl
      unfold hv at h0 ⊢
      have eo : oc (g.n + 1) F (C ||| 2 ^ g.n) = oc g.n F C := by
        have e1 := oc_C (n := g.n + 1) (Nat.lt_succ_self _) hop
        have e2 := oc_up hs
        omega
      show has (addG g (p / 6) (p % 6) 1) (oc (g.n + 1) F (C ||| 2 ^ g.n)) F (C ||| 2 ^ g.n) 0 = false
      rw [eo, this]
      exact h0
    rw [hvE, hjn, Bool.false_or]
    have hall : fo (opb F C) (fun k y => y && hv (addG g (p / 6) (p % 6) 1) F (C ||| 2 ^ k) 0) (g.n + 1) true = false := by
      rw [fo_yes hop, hch, Bool.and_false]
    have e1 : (if (1 : Nat) = 0 then fo (opb F C) (fun k y => y || hv (addG g (p / 6) (p % 6) 1) (F ||| 2 ^ k) C 1) (addG g (p / 6) (p % 6) 1).n false else fo (opb F C) (fun k y => y && hv (addG g (p / 6) (p % 6) 1) F (C ||| 2 ^ k) 0) (addG g (p / 6) (p % 6) 1).n true) = false := hall
    rw [e1, Bool.and_false]
  rw [eh, Bool.and_false]
