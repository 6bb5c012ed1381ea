/-! lost and mend, the reference's -/
def rlP (i j : Nat) : Prop := solP i j ∨ i = 26
def MvR (h : AH) (t : ST) : Prop := AI h 23 8 = nI t.w ∧ AI h 23 9 = nI t.k ∧ ∀ i, i < t.k → AI h 28 i = nI (t.m i)
theorem MvR.fr {P : Nat → Nat → Prop} {h h' : AH} {t : ST} (s : MvR h t) (hf : Fr P h h') (h1 : ¬ P 23 8 ∧ ¬ P 23 9) (h2 : ∀ j, ¬ P 28 j) : MvR h' t := by
  obtain ⟨a, b, c⟩ := s
  refine ⟨?_, ?_, fun i hi => ?_⟩
  · rw [hf.I h1.1, a]
  · rw [hf.I h1.2, b]
  · rw [hf.I (h2 i), c i hi]
def mvb (t : ST) : Nat → Nat → Bool
  | 0, _ => false
  | i + 1, l => mvb t i l || decide (t.m i = l)
theorem mvb_iff (t : ST) : ∀ i l, mvb t i l = true ↔ ∃ j, j < i ∧ t.m j = l
  | 0, l => ⟨fun h => (by cases h), fun ⟨j, hj, _⟩ => absurd hj (Nat.not_lt_zero j)⟩
  | i + 1, l => by
    unfold mvb
    rw [Bool.or_eq_true, mvb_iff t i l, decide_eq_true_eq]
    constructor
    · rintro (⟨j, a, b⟩ | b)
      · exact ⟨j, by omega, b⟩
      · exact ⟨i, by omega, b⟩
    · rintro ⟨j, a, b⟩
      by_cases e : j = i
      · rw [e] at b; exact Or.inr b
      · exact Or.inl ⟨j, by omega, b⟩
/-- the bits at an earlier stand: those of the moves since are off -/
theorem unT_bits {g : G} {t : ST} (h : TOK g t) (hn : g.n ≤ 10) : ∀ j, j ≤ t.k → ∀ l, ((∃ i, t.k - j ≤ i ∧ i < t.k ∧ t.m i = l) → (unT t j).F.testBit l = false ∧ (unT t j).C.testBit l = false) ∧ ((¬ ∃ i, t.k - j ≤ i ∧ i < t.k ∧ t.m i = l) → (unT t j).F.testBit l = t.F.testBit l ∧ (unT t j).C.testBit l = t.C.testBit l)
  | 0, _, l => ⟨fun ⟨i, a, b, _⟩ => by omega, fun _ => ⟨rfl, rfl⟩⟩
  | j + 1, hj, l => by
    have ih := unT_bits h hn j (by omega) l
    obtain ⟨lF, lC⟩ := (unT_ok h hn j (by omega)).lt hn
    have e1 : (unT t (j + 1)).F = dif (unT t j).F (2 ^ t.m (t.k - j - 1)) := by
      show dif _ (2 ^ (unT t j).m ((unT t j).k - 1)) = _
      rw [unT_m, unT_k]
    have e2 : (unT t (j + 1)).C = dif (unT t j).C (2 ^ t.m (t.k - j - 1)) := by
      show dif _ (2 ^ (unT t j).m ((unT t j).k - 1)) = _
      rw [unT_m, unT_k]
    rw [e1, e2, dif_two lF, dif_two lC]
    by_cases e : t.m (t.k - j - 1) = l
    · rw [decide_eq_true e]
      refine ⟨fun _ => by simp, fun hno => absurd ⟨t.k - j - 1, by omega, by omega, e⟩ hno⟩
    · rw [decide_eq_false e]
      simp only [Bool.not_false, Bool.and_true]
      constructor
      · rintro ⟨i, a, b, c⟩
        refine ih.1 ⟨i, ?_, b, c⟩
        rcases Nat.lt_or_ge i (t.k - j) with z | z
        · have : i = t.k - j - 1 := by omega
          rw [this] at c
          exact absurd c e
        · exact z
      · intro hno
        exact ih.2 (fun ⟨i, a, b, c⟩ => hno ⟨i, by omega, b, c⟩)
theorem root_sta {g : G} {t : ST} (h : TOK g t) (hn : g.n ≤ 10) (l : Nat) : sta (tI t 0).F (tI t 0).C l = if mvb t t.k l = true then 0 else sta t.F t.C l := by
  have := unT_bits h hn t.k (Nat.le_refl _) l
  have e : tI t 0 = unT t t.k := rfl
  rw [e]
  by_cases hm : mvb t t.k l = true
  · obtain ⟨j, a, b⟩ := (mvb_iff t t.k l).mp hm
    obtain ⟨x, y⟩ := this.1 ⟨j, by omega, a, b⟩
    rw [if_pos hm]
    unfold sta
    rw [x, y]
    rfl
  · obtain ⟨x, y⟩ := this.2 (fun ⟨i, _, a, b⟩ => hm ((mvb_iff t t.k l).mpr ⟨i, a, b⟩))
    rw [if_neg hm]
    unfold sta
    rw [x, y]
/-- the code of the first moves -/
def cdN (t : ST) : Nat → Nat
  | 0 => 0
  | i + 1 => cdN t i + ((tI t i).w + 1) * 3 ^ rk (tI t 0).F (tI t 0).C (t.m i)
theorem cdN_ok {g : G} {t : ST} (h : TOK g t) (hn : g.n ≤ 10) : ∀ i, i ≤ t.k → cdN t i < 3 ^ oc g.n (tI t 0).F (tI t 0).C ∧ cF g.n (tI t 0).F (tI t 0).C (cdN t i) = (tI t i).F ∧ cC g.n (tI t 0).F (tI t 0).C (cdN t i) = (tI t i).C
  | 0, _ => ⟨Nat.pow_pos (by decide), c0F (tI_ok h hn 0).1, c0C (tI_ok h hn 0).1⟩
  | i + 1, hi => by
    obtain ⟨a, b, c⟩ := cdN_ok h hn i (by omega)
    obtain ⟨e1, e2, e3, e4, e5⟩ := tI_step h hn (i := i) hi
    have hw := (tI_ok h hn i).2.1
    rw [← b, ← c, cop e5, Bool.and_eq_true] at e4
    have hd := of_decide_eq_true e4.2
    refine ⟨dg_bd _ hd (by omega) (rk_lt e5 e4.1) a, ?_, ?_⟩
    · rw [e1]
      show cF _ _ _ (cdN t i + ((tI t i).w + 1) * _) = _
      rcases (by omega : (tI t i).w = 0 ∨ (tI t i).w = 1) with z | z
      · rw [z, (chF e5 e4.1 hd).1, b]
        rfl
      · rw [z, (chC e5 e4.1 hd).1, b]
        rfl
    · rw [e2]
      show cC _ _ _ (cdN t i + ((tI t i).w + 1) * _) = _
      rcases (by omega : (tI t i).w = 0 ∨ (tI t i).w = 1) with z | z
      · rw [z, (chF e5 e4.1 hd).2, c]
        rfl
      · rw [z, (chC e5 e4.1 hd).2, c]
        rfl
theorem w161 {d : Nat} {h : AH} (HS : Sh h) {g : G} {F C l : Nat} (hn : g.n ≤ 10) (hy : Lay h g F C) (hl : l < g.n) (ho : opb F C l = true) {Q : Option Value → AH → Prop} (K : Q (some (.int (nI (rk F C l)))) h) : ∀ m j, j + m = rk F C l → Wp d 161 2 [.ref 23, .int (nI l), .int (nI j)] [] h Q := by
  have hrl := rk_lt (j := g.n) hl ho
  have hoc := oc_10 F C hn
  have hr2 : rk F C g.n = oc g.n F C := rfl
  intro m
  induction m with
  | zero =>
    intro j hj
    have e : j = rk F C l := hj
    have := hy.2.2.1 l hl ho
    refine g161_2 d _ _ h HS Q ⟨ixR_nI (by omega) (by decide), ?_⟩
    rw [tnI (by omega), e, this]
    exact ⟨fun _ => K, fun z => absurd rfl z⟩
  | succ m ih =>
    intro j hj
    have hjl : j < oc g.n F C := by omega
    obtain ⟨a, b, c⟩ := ol_ok hjl
    refine g161_2 d _ _ h HS Q ⟨ixR_nI (by omega) (by decide), ?_⟩
    rw [tnI (by omega), hy.ol hjl, nI_eq (by omega) (by omega), nI_1]
    refine ⟨fun z => ?_, fun _ => ih (j + 1) (by omega)⟩
    rw [z] at c
    omega
theorem c161 {d : Nat} {h : AH} (HS : Sh h) {g : G} {F C l : Nat} (hn : g.n ≤ 10) (hy : Lay h g F C) (hl : l < g.n) (ho : opb F C l = true) {Q : Option Value → AH → Prop} (K : Q (some (.int (nI (rk F C l)))) h) : Cl d 161 [.ref 23, .int (nI l)] h Q :=
  Cl.enter rfl (g161_0 d _ h HS Q (w161 HS hn hy hl ho K (rk F C l) 0 (Nat.zero_add _)))
theorem mod2I {x : Nat} (hx : x < 2 ^ 31) : nI x - nI x / 2 * 2 = nI (x % 2) := pk_rem (d := 2) hx (by decide) (by decide)
/-- all is set back -/
theorem w160c {d : Nat} {g : G} (hn9 : g.n ≤ 9) {t : ST} (ht : TOK g t) {h0 : AH} {x : Int32} {Q : Option Value → AH → Prop} (K : ∀ h', Fr rlP h0 h' → LsR h' g.n t.F t.C → Q (some (.int x)) h') : ∀ m i h, i + m = t.k → Sh h → MvR h t → Fr rlP h0 h → (∀ l, l < g.n → AI h 26 l = nI (if mvb t i l = true then sta t.F t.C l else sta (tI t 0).F (tI t 0).C l)) → Wp d 160 202 [.ref 23, .int (nI t.k), .int (nI ((t.w + t.k) % 2)), mk0, .int x, .int (nI i), mk0, mk0, mk0, mk0] [] h Q
  | 0, i, h, hi, HS, hm, hf, hl => by
    have hkn := ht.k_le
    have e : i = t.k := by omega
    subst e
    refine g160_202 d _ _ _ _ h HS Q ⟨fun z => ?_, fun _ => K h hf (fun l hl2 => ?_)⟩
    · rw [nI_ltI (by omega) (by omega)] at z
      omega
    · rw [hl l hl2, root_sta ht (by omega)]
      split <;> rfl
  | m + 1, i, h, hi, HS, hm, hf, hl => by
    have hkn := ht.k_le
    have hw := ht.2.1
    have hlt : i < t.k := by omega
    obtain ⟨a, b, c⟩ := ht.2.2.2.1 i hlt
    have hd := ht.1.2.2 (t.m i)
    have go : ∀ y, y = sta t.F t.C (t.m i) → Wp d 160 202 [.ref 23, .int (nI t.k), .int (nI ((t.w + t.k) % 2)), mk0, .int x, .int (nI (i + 1)), mk0, mk0, mk0, mk0] [] (stI h 26 (t.m i) (nI y)) Q := by
      intro y hy
      have f1 : Fr rlP h (stI h 26 (t.m i) (nI y)) := Fr.stI (Or.inr rfl)
      refine w160c hn9 ht K m (i + 1) _ (by omega) (HS.stI _ _ _) hm (hf.trans f1) (fun l hl2 => ?_)
      by_cases e : l = t.m i
      · rw [e, AI_stI_s, hy, if_pos ((mvb_iff t (i + 1) _).mpr ⟨i, Nat.lt_succ_self i, rfl⟩)]
      · rw [AI_stI_o _ _ (Or.inr e), hl l hl2]
        have e2 : mvb t (i + 1) l = mvb t i l := by
          show (mvb t i l || decide (t.m i = l)) = _
          rw [decide_eq_false (fun z => e z.symm), Bool.or_false]
        rw [e2]
    refine g160_202 d _ _ _ _ h HS Q ⟨fun _ => ⟨ixR_nI (by omega) (by decide), ?_⟩, fun z => absurd ((nI_ltI (by omega) (by omega)).mpr hlt) z⟩
    rw [tnI (by omega), hm.2.2 i hlt, nI_add, mod2I (by omega), nI_eq0 (by omega), tnI (by omega), nI_1, show ((t.w + t.k) % 2 + i) % 2 = (t.w + t.k + i) % 2 from by omega]
    refine ⟨fun z => ⟨ixR_nI (by omega) (by decide), go 1 ?_⟩, fun z => ⟨ixR_nI (by omega) (by decide), go 2 ?_⟩⟩
    · exact (sta1.mpr (b z)).symm
    · have hC := c (by omega)
      unfold sta
      rw [hC]
      cases q : t.F.testBit (t.m i) with
      | true => exact absurd ⟨q, hC⟩ hd
      | false => rfl
theorem b01_eq {b : Bool} {w : Nat} : (b == decide (w = 0)) = true ↔ (w = 0 → b = true) ∧ (¬ w = 0 → b = false) := by
  by_cases h : w = 0
  · rw [decide_eq_true h]
    cases b <;> simp [h]
  · rw [decide_eq_false h]
    cases b <;> simp [h]
theorem w160b {d : Nat} {g : G} (ho : GOK g) (hn9 : g.n ≤ 9) {t : ST} (ht : TOK g t) {h0 : AH} {Q : Option Value → AH → Prop} (K : ∀ h', Fr rlP h0 h' → LsR h' g.n t.F t.C → Q (some (.int (lsA g t))) h') {h : AH} (HS : Sh h) (hm : MvR h t) (hf : Fr rlP h0 h) (hS : Sol h g (tI t 0).F (tI t 0).C) (hl : ∀ l, l < g.n → AI h 26 l = nI (sta (tI t 0).F (tI t 0).C l)) : ∀ m i, i + m = t.k → Wp (d + 1) 160 55 [.ref 23, .int (nI t.k), .int (nI ((t.w + t.k) % 2)), .int (nI (cdN t i)), .int (fsI (lsp g t) i), .int (nI i), mk0, mk0, mk0, mk0] [] h Q
  | 0, i, hi => by
    have hkn := ht.k_le
    have e : i = t.k := by omega
    subst e
    refine g160_55 (d + 1) _ _ _ _ _ h HS Q ⟨fun z => ?_, fun _ => ?_⟩
    · rw [nI_ltI (by omega) (by omega)] at z
      omega
    · refine w160c hn9 ht K t.k 0 h (Nat.zero_add _) HS hm hf (fun l hl2 => ?_)
      rw [hl l hl2]
      rfl
  | m + 1, i, hi => by
    have hkn := ht.k_le
    have hw := ht.2.1
    have hlt : i < t.k := by omega
    have hoc := oc_10 (tI t 0).F (tI t 0).C ho.1
    have q3 := p3_10 hoc
    obtain ⟨c1, c2, c3⟩ := cdN_ok ht ho.1 i (by omega)
    obtain ⟨d1, d2, d3⟩ := cdN_ok ht ho.1 (i + 1) (by omega)
    obtain ⟨e1, e2, e3, e4, e5⟩ := tI_step ht ho.1 hlt
    have hwi := tI_w hw (i := i) (by omega)
    have hwl := (tI_ok ht ho.1 i).2.1
    have e4' := e4
    rw [← c2, ← c3, cop e5, Bool.and_eq_true] at e4'
    have hrk := rk_lt e5 e4'.1
    have hr2 : rk (tI t 0).F (tI t 0).C g.n = oc g.n (tI t 0).F (tI t 0).C := rfl
    have v1 : AI h 40 (2 * cdN t i + (tI t i).w) = b01 (hv g (tI t i).F (tI t i).C (tI t i).w) := by
      have := hS.2 _ (Nat.zero_le _) c1 (tI t i).w hwl
      rwa [c2, c3] at this
    have v2 : AI h 40 (2 * cdN t (i + 1) + (1 - (tI t i).w)) = b01 (hv g (tI t (i + 1)).F (tI t (i + 1)).C (tI t (i + 1)).w) := by
      have := hS.2 _ (Nat.zero_le _) d1 (1 - (tI t i).w) (by omega)
      rw [d2, d3] at this
      rw [e3]
      exact this
    have ih := w160b (d := d) ho hn9 ht K HS hm hf hS hl m (i + 1) (by omega)
    rw [fsI_s _ (i := i) (by omega)] at ih
    -- the last of the three
    have last : ∀ x y, x = b01 (hv g (tI t i).F (tI t i).C (tI t i).w == decide ((tI t i).w = 0)) → y = b01 (hv g (tI t (i + 1)).F (tI t (i + 1)).C (tI t (i + 1)).w == decide ((tI t i).w = 0)) → Wp (d + 1) 160 163 [.ref 23, .int (nI t.k), .int (nI ((t.w + t.k) % 2)), mk0, .int (fsI (lsp g t) i), .int (nI i), mk0, .int (nI (cdN t (i + 1))), .int x, mk0] [.int y] h Q := by
      intro x y hx hy
      refine g160_163 (d + 1) _ _ _ _ _ _ _ h HS Q ?_
      rw [hx, hy, b01_0, b01_0, nI_1]
      refine ⟨fun z => ⟨fun z2 => ?_, fun z2 => ⟨fun z3 => ?_, fun z3 => ?_⟩⟩, fun z => ?_⟩
      · have hp : lsp g t i = false := by unfold lsp; rw [z2]; rfl
        rw [if_pos z, if_neg (by rw [hp]; decide)] at ih
        rw [z]
        exact ih
      · have hp : lsp g t i = true := by unfold lsp; rw [ts_nf z2, z3]; rfl
        rw [if_pos z, if_pos hp] at ih
        exact ih
      · have hp : lsp g t i = false := by unfold lsp; rw [ts_nf z3]; simp
        rw [if_pos z, if_neg (by rw [hp]; decide)] at ih
        rw [z]
        exact ih
      · rw [if_neg z] at ih
        exact ih
    have third : ∀ x, x = b01 (hv g (tI t i).F (tI t i).C (tI t i).w == decide ((tI t i).w = 0)) → Wp (d + 1) 160 129 [.ref 23, .int (nI t.k), .int (nI ((t.w + t.k) % 2)), mk0, .int (fsI (lsp g t) i), .int (nI i), .int (nI (tI t i).w), .int (nI (cdN t (i + 1))), mk0, mk0] [.int x] h Q := by
      intro x hx
      have eix : 2 * nI (cdN t (i + 1)) + 1 - nI (tI t i).w = nI (2 * cdN t (i + 1) + (1 - (tI t i).w)) := by
        rw [show (2 : Int32) = nI 2 from rfl, pk_mul, nI_1, pk_sub (by omega)]
        congr 1
        omega
      refine g160_129 (d + 1) _ _ _ _ _ _ _ h HS Q ?_
      rw [eix, tnI (by omega), v2, nI_eq0 (by omega), b01_1, b01_0]
      refine ⟨ixR_nI (by omega) (by decide), fun z => ⟨fun z2 => last x _ hx ?_, fun z2 => last x _ hx ?_⟩, fun z => ⟨fun z2 => last x _ hx ?_, fun z2 => last x _ hx ?_⟩⟩
      · rw [z2, decide_eq_true z]; rfl
      · rw [ts_nt z2, decide_eq_true z]; rfl
      · rw [z2, decide_eq_false z]; rfl
      · rw [ts_nf z2, decide_eq_false z]; rfl
    have second : ∀ x, x = nI ((tI t i).w + 1) → Wp (d + 1) 160 80 [.ref 23, .int (nI t.k), .int (nI ((t.w + t.k) % 2)), .int (nI (cdN t i)), .int (fsI (lsp g t) i), .int (nI i), .int (nI (tI t i).w), mk0, mk0, mk0] [.int x, .int (nI (cdN t i))] h Q := by
      intro x hx
      have eix : 2 * nI (cdN t i) + nI (tI t i).w = nI (2 * cdN t i + (tI t i).w) := by
        rw [show (2 : Int32) = nI 2 from rfl, pk_mul, nI_add]
      refine g160_80 d _ _ _ _ _ _ _ _ h HS Q ⟨ixR_nI (by omega) (by decide), ?_⟩
      rw [tnI (by omega), hm.2.2 i hlt]
      refine c161 HS ho.1 hS.1 e5 e4'.1 ⟨_, rfl, HS, ixR_nI (by omega) (by decide), ?_⟩
      have enx : nI (cdN t i) + x * nI (3 ^ rk (tI t 0).F (tI t 0).C (t.m i)) = nI (cdN t (i + 1)) := by
        rw [hx, pk_mul, nI_add]
        rfl
      rw [eix, tnI (by omega), tnI (by omega), hS.1.2.2.2.1 _ (by omega), enx, v1, nI_eq0 (by omega), b01_1, b01_0]
      refine ⟨ixR_nI (by omega) (by decide), fun z => ⟨fun z2 => third _ ?_, fun z2 => third _ ?_⟩, fun z => ⟨fun z2 => third _ ?_, fun z2 => third _ ?_⟩⟩
      · rw [z2, decide_eq_true z]; rfl
      · rw [ts_nt z2, decide_eq_true z]; rfl
      · rw [z2, decide_eq_false z]; rfl
      · rw [ts_nf z2, decide_eq_false z]; rfl
    refine g160_55 (d + 1) _ _ _ _ _ h HS Q ⟨fun _ => ?_, fun z => absurd ((nI_ltI (by omega) (by omega)).mpr hlt) z⟩
    rw [nI_add, mod2I (by omega), nI_eq0 (by omega), show ((t.w + t.k) % 2 + i) % 2 = (tI t i).w from by omega]
    exact ⟨fun z => second _ (by rw [z]; rfl), fun z => second _ (by rw [show (tI t i).w = 1 from by omega]; rfl)⟩
theorem w160a {d : Nat} {g : G} (ho : GOK g) (hn9 : g.n ≤ 9) {t : ST} (ht : TOK g t) {h0 : AH} {Q : Option Value → AH → Prop} (K : ∀ h', Fr rlP h0 h' → LsR h' g.n t.F t.C → Q (some (.int (lsA g t))) h') : ∀ m i h, i + m = t.k → Sh h → MvR h t → LnR h g → AI h 23 0 = nI g.n → Fr rlP h0 h → (∀ l, l < g.n → AI h 26 l = nI (if mvb t i l = true then 0 else sta t.F t.C l)) → Wp (d + 5) 160 7 [.ref 23, .int (nI t.k), .int (nI i), mk0, mk0, mk0, mk0, mk0, mk0, mk0] [] h Q
  | 0, i, h, hi, HS, hm, hl, hN, hf, hls => by
    have hkn := ht.k_le
    have hw := ht.2.1
    have e : i = t.k := by omega
    subst e
    have ls : LsR h g.n (tI t 0).F (tI t 0).C := fun l hl2 => by
      rw [hls l hl2, root_sta ht ho.1]
    refine g160_7 (d + 4) _ _ h HS Q ⟨fun z => ?_, fun _ => ?_⟩
    · rw [nI_ltI (by omega) (by omega)] at z
      omega
    · rw [hN]
      refine c150 HS ho (tI_ok ht ho.1 0).1 hl ls (fun h1 f1 s1 => ⟨rfl, f1.Sh HS, ?_⟩)
      have m1 : MvR h1 t := hm.fr f1 ⟨by rintro (⟨-, z, -⟩ | ⟨z, -⟩) <;> omega, by rintro (⟨-, z, -⟩ | ⟨z, -⟩) <;> omega⟩ (fun j => by rintro (⟨z, -⟩ | ⟨z, -⟩) <;> omega)
      rw [m1.1, nI_add, mod2I (by omega)]
      exact w160b (d := d + 4) ho hn9 ht K (f1.Sh HS) m1 (hf.trans (f1.weak (fun a b z => Or.inl z))) s1 (fun l hl2 => (ls.sol f1) l hl2) t.k 0 (Nat.zero_add _)
  | m + 1, i, h, hi, HS, hm, hl, hN, hf, hls => by
    have hkn := ht.k_le
    have hlt : i < t.k := by omega
    have hmi := (ht.2.2.2.1 i hlt).1
    refine g160_7 (d + 4) _ _ h HS Q ⟨fun _ => ⟨ixR_nI (by omega) (by decide), ?_⟩, fun z => absurd ((nI_ltI (by omega) (by omega)).mpr hlt) z⟩
    rw [tnI (by omega), hm.2.2 i hlt, tnI (by omega), nI_1]
    have f1 : Fr rlP h (stI h 26 (t.m i) 0) := Fr.stI (Or.inr rfl)
    refine ⟨ixR_nI (by omega) (by decide), w160a ho hn9 ht K m (i + 1) _ (by omega) (HS.stI _ _ _) hm hl hN (hf.trans f1) (fun l hl2 => ?_)⟩
    by_cases e : l = t.m i
    · rw [e, AI_stI_s, if_pos ((mvb_iff t (i + 1) _).mpr ⟨i, Nat.lt_succ_self i, rfl⟩)]
      rfl
    · rw [AI_stI_o _ _ (Or.inr e), hls l hl2]
      have e2 : mvb t (i + 1) l = mvb t i l := by
        show (mvb t i l || decide (t.m i = l)) = _
        rw [decide_eq_false (fun z => e z.symm), Bool.or_false]
      rw [e2]
theorem c160 {d : Nat} {h : AH} (HS : Sh h) {g : G} (ho : GOK g) (hn9 : g.n ≤ 9) {t : ST} (ht : TOK g t) (R : IR h g t.F t.C) (hm : MvR h t) {Q : Option Value → AH → Prop} (K : ∀ h', Fr rlP h h' → LsR h' g.n t.F t.C → Q (some (.int (lsA g t))) h') : Cl (d + 5) 160 [.ref 23] h Q := by
  refine Cl.enter rfl (g160_0 (d + 5) h HS Q ?_)
  rw [hm.2.1]
  exact w160a ho hn9 ht K t.k 0 h (Nat.zero_add _) HS hm R.1 R.2.1 Fr.rfl R.2.2
/-- the lane that mends -/
def rmP (i j : Nat) : Prop := solP i j ∨ i = 24 ∨ i = 25 ∨ i = 26
theorem c168 {d : Nat} {h : AH} (HS : Sh h) {g : G} {F C a b : Nat} (R : IR h g F C) (ho : GOK g) (hn9 : g.n ≤ 9) (hs : VS g.n F C) (ha : a < 6) (hb : b < 6) {Q : Option Value → AH → Prop} (K : ∀ h', Fr rmP h h' → IR h' g F C → Q (some (.int (b01 (hv (addG g a b 1) F C 1)))) h') : Cl (d + 5) 168 [.ref 23, .int (nI a), .int (nI b)] h Q := by
  obtain ⟨r1, r2, r3⟩ := R
  have ho2 := ho.add (p := 1) (Nat.lt_succ_of_le hn9) ha hb (by decide)
  refine Cl.enter rfl (g168_0 (d + 4) _ _ h HS Q ?_)
  rw [AI_stI_o _ _ (Or.inl (by decide)), AI_stI_o _ _ (Or.inl (by decide)), AI_stI_o _ _ (Or.inl (by decide)), AI_stI_o _ _ (Or.inl (by decide)), AI_stI_o _ _ (Or.inl (by decide)), AI_stI_o _ _ (Or.inl (by decide)), r2, tnI (by omega), nI_1]
  have f1 : Fr (fun i j => (i = 24 ∨ i = 25 ∨ i = 26) ∧ j = g.n) h (stI (stI (stI h 24 g.n (nI a)) 25 g.n (nI b)) 26 g.n 0) := ((Fr.stI ⟨Or.inl rfl, rfl⟩).trans (Fr.stI ⟨Or.inr (Or.inl rfl), rfl⟩)).trans (Fr.stI ⟨Or.inr (Or.inr rfl), rfl⟩)
  have l1 : LnR (stI (stI (stI h 24 g.n (nI a)) 25 g.n (nI b)) 26 g.n 0) (addG g a b 1) := by
    refine ⟨?_, ?_, fun i hi => ?_⟩
    · rw [f1.I (fun z => by omega)]
      exact r1.1
    · rw [f1.I (fun z => by omega)]
      exact r1.2.1
    · have hi2 : i < g.n + 1 := hi
      show _ = nI (upN g.a g.n a i) ∧ _ = nI (upN g.b g.n b i)
      by_cases e : i = g.n
      · rw [e, upN_s, upN_s, AI_stI_o _ _ (Or.inl (by decide)), AI_stI_o _ _ (Or.inl (by decide)), AI_stI_s, AI_stI_o _ _ (Or.inl (by decide)), AI_stI_s]
        exact ⟨rfl, rfl⟩
      · rw [upN_o _ _ e, upN_o _ _ e, f1.I (fun z => e z.2), f1.I (fun z => e z.2)]
        exact r1.2.2 i (by omega)
  have l2 : LsR (stI (stI (stI h 24 g.n (nI a)) 25 g.n (nI b)) 26 g.n 0) (g.n + 1) F C := by
    intro i hi
    by_cases e : i = g.n
    · rw [e, AI_stI_s]
      unfold sta
      rw [tb_ge hs.1 (Nat.le_refl _), tb_ge hs.2.1 (Nat.le_refl _)]
      rfl
    · rw [f1.I (fun z => e z.2)]
      exact r3 i (by omega)
  refine ⟨ixR_nI (by omega) (by decide), ixR_nI (by omega) (by decide), ixR_nI (by omega) (by decide), ?_⟩
  refine c150 (g := addG g a b 1) (f1.Sh HS) ho2 hs.up l1 l2 (fun h2 f2 s2 => ⟨rfl, f2.Sh (f1.Sh HS), ixR_nI (j := 1) (by decide) (by decide), ?_⟩)
  have e1 : AI h2 40 (1 : Int32).toNatClampNeg = b01 (hv (addG g a b 1) F C 1) := s2.at0 hs.up (w := 1) (by decide)
  rw [e1]
  refine ⟨b01_or _, K h2 ?_ ⟨?_, ?_, ?_⟩⟩
  · exact (f1.weak (fun i j z => Or.inr z.1)).trans (f2.weak (fun i j z => Or.inl z))
  · refine LnR.sol ?_ f2
    refine ⟨?_, ?_, fun i hi => ?_⟩
    · rw [f1.I (fun z => by omega)]
      exact r1.1
    · rw [f1.I (fun z => by omega)]
      exact r1.2.1
    · rw [f1.I (fun z => by omega), f1.I (fun z => by omega)]
      exact r1.2.2 i hi
  · rw [f2.I (by rintro (⟨-, z, -⟩ | ⟨z, -⟩) <;> omega), f1.I (fun z => by omega)]
    exact r2
  · refine LsR.sol ?_ f2
    intro i hi
    rw [f1.I (fun z => by omega)]
    exact r3 i hi
def mnA (g : G) (F C what : Nat) : Int32 := if hv g F C 1 = true then (if what = 0 then 0 else -1) else if fa_first (mnp g F C) 36 < 36 then (if what = 0 then 1 else if what = 1 then nI (fa_first (mnp g F C) 36 / 6) else nI (fa_first (mnp g F C) 36 % 6)) else (if what = 0 then 2 else -1)
def mnB (g : G) (F C what : Nat) : Int32 := if fa_first (mnp g F C) 36 < 36 then (if what = 0 then 1 else if what = 1 then nI (fa_first (mnp g F C) 36 / 6) else nI (fa_first (mnp g F C) 36 % 6)) else (if what = 0 then 2 else -1)
theorem w169b {d : Nat} {g : G} (ho : GOK g) (hn9 : g.n ≤ 9) {F C what a : Nat} (hs : VS g.n F C) (hw : what < 3) (ha : a < 6) {h0 : AH} {Q : Option Value → AH → Prop} (K : ∀ h', Fr rmP h0 h' → IR h' g F C → Q (some (.int (mnB g F C what))) h') (nx : ∀ h, Sh h → Fr rmP h0 h → IR h g F C → (∀ k, k < 6 * (a + 1) → mnp g F C k = false) → Wp (d + 6) 169 29 [.ref 23, .int (nI what), .int (nI (a + 1)), mk0] [] h Q) : ∀ m b h, b + m = 6 → a < b → Sh h → Fr rmP h0 h → IR h g F C → (∀ k, k < 6 * a + b → mnp g F C k = false) → Wp (d + 6) 169 39 [.ref 23, .int (nI what), .int (nI a), .int (nI b)] [] h Q
  | 0, b, h, hb, hab, HS, hf, R, hno => by
    have e : b = 6 := by omega
    subst e
    refine g169_39 (d + 5) _ _ _ h HS Q ⟨fun z => absurd z (by decide), fun _ => ?_⟩
    rw [nI_1]
    exact nx h HS hf R (fun k hk => hno k (by omega))
  | m + 1, b, h, hb, hab, HS, hf, R, hno => by
    have hlt : b < 6 := by omega
    refine g169_39 (d + 5) _ _ _ h HS Q ⟨fun _ => ?_, fun z => absurd ((ltC (y := 6) (b := 6) rfl rfl (by omega) (by omega)).mpr hlt) z⟩
    refine c168 HS R ho hn9 hs ha hlt (fun h1 f1 R1 => ⟨_, rfl, f1.Sh HS, ?_⟩)
    have hf1 := hf.trans f1
    have em : mnp g F C (6 * a + b) = hv (addG g a b 1) F C 1 := by
      unfold mnp
      rw [show (6 * a + b) / 6 = a from by omega, show (6 * a + b) % 6 = b from by omega, decide_eq_true hab]
      rfl
    rw [b01_0, nI_1]
    refine ⟨fun z => ?_, fun z => ?_⟩
    · exact w169b ho hn9 hs hw ha K nx m (b + 1) h1 (by omega) (by omega) (f1.Sh HS) hf1 R1 (fun k hk => by
        by_cases e : k = 6 * a + b
        · rw [e, em]; exact z
        · exact hno k (by omega))
    · have kk := K h1 hf1 R1
      unfold mnB at kk
      rw [first_at (n := 36) (by omega) hno (em.trans (ts_nf z)), if_pos (by omega), show (6 * a + b) / 6 = a from by omega, show (6 * a + b) % 6 = b from by omega] at kk
      rw [nI_eq0 (by omega), eqC (y := 1) (b := 1) rfl rfl (by omega) (by omega)]
      refine ⟨fun q => ?_, fun q => ⟨fun q2 => ?_, fun q2 => ?_⟩⟩
      · rwa [if_pos q] at kk
      · rwa [if_neg q, if_pos q2] at kk
      · rwa [if_neg q, if_neg q2] at kk
theorem w169 {d : Nat} {g : G} (ho : GOK g) (hn9 : g.n ≤ 9) {F C what : Nat} (hs : VS g.n F C) (hw : what < 3) {h0 : AH} {Q : Option Value → AH → Prop} (K : ∀ h', Fr rmP h0 h' → IR h' g F C → Q (some (.int (mnB g F C what))) h') : ∀ m a h, a + m = 6 → Sh h → Fr rmP h0 h → IR h g F C → (∀ k, k < 6 * a → mnp g F C k = false) → Wp (d + 6) 169 29 [.ref 23, .int (nI what), .int (nI a), mk0] [] h Q
  | 0, a, h, ha, HS, hf, R, hno => by
    have e : a = 6 := by omega
    subst e
    refine g169_29 (d + 6) _ _ h HS Q ⟨fun z => absurd z (by decide), fun _ => ?_⟩
    have kk := K h hf R
    unfold mnB at kk
    rw [first_none (n := 36) hno, if_neg (Nat.lt_irrefl _)] at kk
    rw [nI_eq0 (by omega)]
    refine ⟨fun q => ?_, fun q => ?_⟩
    · rwa [if_pos q] at kk
    · rwa [if_neg q] at kk
  | m + 1, a, h, ha, HS, hf, R, hno => by
    have hlt : a < 6 := by omega
    refine g169_29 (d + 6) _ _ h HS Q ⟨fun _ => ?_, fun z => absurd ((ltC (y := 6) (b := 6) rfl rfl (by omega) (by omega)).mpr hlt) z⟩
    rw [nI_1]
    refine w169b ho hn9 hs hw hlt K (fun h1 S1 f1 R1 n1 => w169 ho hn9 hs hw K m (a + 1) h1 (by omega) S1 f1 R1 n1) (5 - a) (a + 1) h (by omega) (by omega) HS hf R (fun k hk => ?_)
    by_cases e : k < 6 * a
    · exact hno k e
    · unfold mnp
      rw [decide_eq_false (by omega)]
      rfl
theorem c169 {d : Nat} {h : AH} (HS : Sh h) {g : G} {F C what : Nat} (R : IR h g F C) (ho : GOK g) (hn9 : g.n ≤ 9) (hs : VS g.n F C) (hw : what < 3) {Q : Option Value → AH → Prop} (K : ∀ h', Fr rmP h h' → IR h' g F C → Q (some (.int (mnA g F C what))) h') : Cl (d + 6) 169 [.ref 23, .int (nI what)] h Q := by
  unfold mnA at K
  refine Cl.enter rfl (g169_0 (d + 5) _ h HS Q ?_)
  rw [R.2.1]
  refine c150 (d := d + 1) HS ho hs R.1 R.2.2 (fun h1 f1 s1 => ⟨rfl, f1.Sh HS, ixR_nI (j := 1) (by decide) (by decide), ?_⟩)
  have e1 : AI h1 40 (1 : Int32).toNatClampNeg = b01 (hv g F C 1) := s1.at0 hs (w := 1) (by decide)
  have f2 : Fr rmP h h1 := f1.weak (fun i j z => Or.inl z)
  rw [e1, b01_0, nI_eq0 (by omega)]
  refine ⟨fun z => ?_, fun z => ?_⟩
  · refine w169 ho hn9 hs hw (fun h' f' R' => ?_) 6 0 h1 rfl (f1.Sh HS) f2 (R.sol f1) (fun k hk => absurd hk (Nat.not_lt_zero k))
    have kk := K h' f' R'
    rwa [if_neg (by rw [z]; decide)] at kk
  · have kk := K h1 f2 (R.sol f1)
    rw [if_pos (ts_nf z)] at kk
    refine ⟨fun q => ?_, fun q => ?_⟩
    · rwa [if_pos q] at kk
    · rwa [if_neg q] at kk
/-- where JOIN doesn't have it first, no lane mends -/
theorem has_cut {g : G} (ho : GOK g) {o t : Nat} (ho2 : GOK (addG g o t 1)) : ∀ l F C w, VS g.n F C → oc g.n F C = l → has (addG g o t 1) l F (C ||| 2 ^ g.n) w = has g l F C w := by
  have jnE : ∀ s, s < 2 ^ g.n → jn (addG g o t 1) s = jn g s := fun s hs => by
    show (rch (addG g o t 1) s).testBit g.f = (rch g s).testBit g.f
    rw [rch_add ho ho2 hs]
  have uncE : ∀ C, C < 2 ^ g.n → unc (g.n + 1) (C ||| 2 ^ g.n) = unc g.n C := fun C hC => by
    apply tb_ext
    intro i
    rw [unc_tb, unc_tb, Nat.testBit_or, Nat.testBit_two_pow]
    by_cases e : g.n = i
    · rw [decide_eq_true e, decide_eq_false (by omega : ¬ i < g.n)]
      simp
    · rw [decide_eq_false e, Bool.or_false]
      congr 1
      apply Bool.eq_iff_iff.mpr
      rw [decide_eq_true_eq, decide_eq_true_eq]
      omega
  have opE : ∀ F C i, i < g.n → opb F (C ||| 2 ^ g.n) i = opb F C i := fun F C i hi => by
    rw [opb_C, decide_eq_false (by omega), Bool.not_false, Bool.and_true]
  have opN : ∀ F C, opb F (C ||| 2 ^ g.n) g.n = false := fun F C => by
    rw [opb_C, decide_eq_true rfl, Bool.not_true, Bool.and_false]
  intro l
  induction l with
  | zero =>
    intro F C w hs _
    exact jnE F hs.1
  | succ l ih =>
    intro F C w hs hl
    have eF : ∀ k, k < g.n → opb F C k = true → has (addG g o t 1) l (F ||| 2 ^ k) (C ||| 2 ^ g.n) 1 = has g l (F ||| 2 ^ k) C 1 := fun k hk hp => ih _ _ _ (hs.F hk hp) (by have := oc_F hk hp; omega)
    have eC : ∀ k, k < g.n → opb F C k = true → has (addG g o t 1) l F (C ||| 2 ^ g.n ||| 2 ^ k) 0 = has g l F (C ||| 2 ^ k) 0 := fun k hk hp => by
      rw [Nat.or_assoc, Nat.or_comm (2 ^ g.n), ← Nat.or_assoc]
      exact ih _ _ _ (hs.C hk hp) (by have := oc_C hk hp; omega)
    have hU := unc_lt g.n C
    have f1 : fo (opb F (C ||| 2 ^ g.n)) (fun k y => y || has (addG g o t 1) l (F ||| 2 ^ k) (C ||| 2 ^ g.n) 1) (g.n + 1) false = fo (opb F C) (fun k y => y || has g l (F ||| 2 ^ k) C 1) g.n false := by
      rw [fo_no (opN F C)]
      exact fo_cong (fun k hk => opE F C k hk) (fun k hk hp y => by rw [eF k hk (by rw [← opE F C k hk]; exact hp)])
    have f2 : fo (opb F (C ||| 2 ^ g.n)) (fun k y => y && has (addG g o t 1) l F (C ||| 2 ^ g.n ||| 2 ^ k) 0) (g.n + 1) true = fo (opb F C) (fun k y => y && has g l F (C ||| 2 ^ k) 0) g.n true := by
      rw [fo_no (opN F C)]
      exact fo_cong (fun k hk => opE F C k hk) (fun k hk hp y => by rw [eC k hk (by rw [← opE F C k hk]; exact hp)])
    show (jn (addG g o t 1) F || (jn (addG g o t 1) (unc (g.n + 1) (C ||| 2 ^ g.n)) && (if w = 0 then fo (opb F (C ||| 2 ^ g.n)) (fun k y => y || has (addG g o t 1) l (F ||| 2 ^ k) (C ||| 2 ^ g.n) 1) (g.n + 1) false else fo (opb F (C ||| 2 ^ g.n)) (fun k y => y && has (addG g o t 1) l F (C ||| 2 ^ g.n ||| 2 ^ k) 0) (g.n + 1) true))) = _
    rw [f1, f2, uncE C hs.2.1, jnE F hs.1, jnE _ hU]
    rfl
theorem oc_up {n F C : Nat} (h : VS n F C) : oc (n + 1) F C = oc n F C + 1 := by
  refine fa_cnt_yes ?_
  unfold opb
  rw [tb_ge h.1 (Nat.le_refl n), tb_ge h.2.1 (Nat.le_refl n)]
  rfl
theorem no_mend {g : G} (ho : GOK g) (hn9 : g.n ≤ 9) {F C : Nat} (hs : VS g.n F C) (h0 : hv g F C 0 = false) : ∀ p, p < 36 → mnp g F C p = false := by
  intro p hp
  unfold mnp
  have ho2 := ho.add (o := p / 6) (t := p % 6) (p := 1) (Nat.lt_succ_of_le hn9) (by omega) (by omega) (by decide)
  have eh : hv (addG g (p / 6) (p % 6) 1) F C 1 = false := by
    have hvE := hv_eq (g := addG g (p / 6) (p % 6) 1) (F := F) (C := C) (w := 1) hs.up
    have hop : opb F C g.n = true := by
      unfold opb
      rw [tb_ge hs.1 (Nat.le_refl _), tb_ge hs.2.1 (Nat.le_refl _)]
      rfl
    have hjn : jn (addG g (p / 6) (p % 6) 1) F = false := by
      have e : jn (addG g (p / 6) (p % 6) 1) F = jn g F := by
        show (rch _ F).testBit g.f = (rch g F).testBit g.f
        rw [rch_add ho ho2 hs.1]
      rw [e]
      have := hv_eq (g := g) (w := 0) hs
      rw [h0] at this
      cases q : jn g F with
      | false => rfl
      | true => rw [q] at this; cases this
    have hch : hv (addG g (p / 6) (p % 6) 1) F (C ||| 2 ^ g.n) 0 = false := by
      have := has_cut ho ho2 (oc g.n F C) F C 0 hs rfl
      unfold hv at h0 ⊢
      have eo : oc (g.n + 1) F (C ||| 2 ^ g.n) = oc g.n F C := by
        have e1 := oc_C (n := g.n + 1) (Nat.lt_succ_self _) hop
        have e2 := oc_up hs
        omega
      show has (addG g (p / 6) (p % 6) 1) (oc (g.n + 1) F (C ||| 2 ^ g.n)) F (C ||| 2 ^ g.n) 0 = false
      rw [eo, this]
      exact h0
    rw [hvE, hjn, Bool.false_or]
    have hall : fo (opb F C) (fun k y => y && hv (addG g (p / 6) (p % 6) 1) F (C ||| 2 ^ k) 0) (g.n + 1) true = false := by
      rw [fo_yes hop, hch, Bool.and_false]
    have e1 : (if (1 : Nat) = 0 then fo (opb F C) (fun k y => y || hv (addG g (p / 6) (p % 6) 1) (F ||| 2 ^ k) C 1) (addG g (p / 6) (p % 6) 1).n false else fo (opb F C) (fun k y => y && hv (addG g (p / 6) (p % 6) 1) F (C ||| 2 ^ k) 0) (addG g (p / 6) (p % 6) 1).n true) = false := hall
    rw [e1, Bool.and_false]
  rw [eh, Bool.and_false]
