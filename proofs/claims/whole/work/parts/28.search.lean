/-! worth, owner and the least good lane, of the class -/
theorem atF {h : AH} (hf : FacC h) {j : Nat} (hj : j < 11) : atv h 1 (nI j) = nI (fct j) := by
  rw [atv_nI (by rw [hf.1]; exact hj) (by rw [hf.1]; decide), hf.2 j hj]
theorem c64 {d : Nat} {g : G} {st last l : Nat} (ho : GOK g) (ih : WOK g st last l (d + 1)) {how F C w : Nat} (h3 : how ≤ 3) (hw : w < 2) (hv : VS g.n F C) (h9 : how < 3 → g.n ≤ 9) (hoc : oc g.n F C = l + 1) {h : AH} (S : SI h g st last) {Q : Option Value → AH → Prop} (K : ∀ h', SI h' g st last → SR st h h' → Q (some (.int (nI (if cha how w = true then smm g how l F C w g.n else (l + 1) * bst g how l F C w g.n)))) h') : Cl (d + 2) 64 [.ref 17, .int (nI how), .int (nI F), .int (nI C), .int (nI w), .int (nI (l + 1))] h Q := by
  have hn := ho.1
  have hl : l ≤ 9 := by have := oc_le g.n F C; omega
  have hf := S.2.2.2.2.1
  refine Cl.enter rfl (g64_0 d _ _ _ _ _ h S.1 Q ?_)
  refine c63 S.1 h3 hw ⟨_, rfl, S.1, by rw [hf.1], by rw [hf.1]; decide, ?_⟩
  rw [opnC S.2.1 ho, nI_pred, atF hf (by omega), pk_sub (Nat.le_refl _), Nat.sub_self, show (0 : Int32) = nI 0 from rfl, pk_sub (Nat.zero_le _), Nat.sub_zero]
  have base := w64 (d := d + 1) ho ih h3 hw hv h9 hoc K g.n 0 h (Nat.zero_add _) S SR.rfl
  refine ⟨fun c => ?_, fun c => ?_⟩
  · have c2 : w = 0 := (nI_eq (by omega) (by omega)).mp c
    have e1 : bst g how l F C w 0 = 0 := if_pos c2
    rw [e1, if_pos c2] at base
    exact base
  · have c2 : ¬ w = 0 := fun z => c (by rw [z])
    have e1 : bst g how l F C w 0 = fct l := if_neg c2
    rw [e1, if_neg c2] at base
    exact base
theorem c61s {d : Nat} {g : G} {st last l how F C w : Nat} (ho : GOK g) (h3 : how ≤ 3) (hw : w < 2) (hv : VS g.n F C) (h9 : how < 3 → g.n ≤ 9) (hoc : oc g.n F C = l) {h : AH} (S : SI h g st last) {Q : Option Value → AH → Prop} (K : ∀ h', SI h' g st last → SR st h h' → Q (some (.int (nI (wor g how l F C w)))) h') (hm : ∀ l', l = l' + 1 → Cl (d + 1) 64 [.ref 17, .int (nI how), .int (nI F), .int (nI C), .int (nI w), .int (nI l)] h (fun r h' => jn g F = false ∧ jn g (unc g.n C) = true → r = some (.int (nI (wor g how l F C w))) ∧ SI h' g st last ∧ SR st h h')) : Cl (d + 2) 61 [.ref 17, .int (nI how), .int (nI F), .int (nI C), .int (nI w), .int (nI l)] h Q := by
  have hn := ho.1
  have hl : l ≤ 10 := by have := oc_le g.n F C; omega
  have hfac := S.2.2.2.2.1
  have kk := K h S SR.rfl
  refine Cl.enter rfl (g61_0 d _ _ _ _ _ h S.1 Q ?_)
  rw [uncC S.2.1 ho, jnC S.1 S.2.1 S.2.2.1 ho hv.1, jnC S.1 S.2.1 S.2.2.1 ho (unc_lt _ _)]
  refine ⟨fun c => ⟨fun c2 => ⟨fun c3 => ?_, fun c3 => ?_⟩, fun c2 => ?_⟩, fun c => ⟨by rw [hfac.1], by rw [hfac.1]; decide, ?_⟩⟩
  · obtain ⟨l', rfl⟩ : ∃ l', l = l' + 1 := by
      cases l with
      | zero => exact absurd c2 (by decide)
      | succ l' => exact ⟨l', rfl⟩
    rw [wor_succ, if_neg (by rw [c]; decide), if_neg (by rw [c3]; decide)] at kk
    exact kk
  · obtain ⟨l', el⟩ : ∃ l', l = l' + 1 := by
      cases l with
      | zero => exact absurd c2 (by decide)
      | succ l' => exact ⟨l', rfl⟩
    have c3' := ts_nf c3
    refine c62 S.1 S.2.2.2.1 h3 (p2_10 hv.1 hn) (p2_10 hv.2.1 hn) ⟨_, rfl, S.1, ?_⟩
    have hp := plN_lt hv hn h3 hw h9
    have hk19 : AK h 19 = (21, 236196) := S.1.2.1 19 (by decide)
    obtain ⟨s1, s2, s3, s4, s5, s6, s7, s8, s9, s10, s11⟩ := S
    refine ⟨fun q => absurd q (nI_pos (by omega)), fun _ => ⟨by rw [hk19]; exact Or.inr (Or.inl rfl), fun _ => ⟨ixR_nI hp (by decide), ?_⟩, fun q => absurd (by rw [hk19]; exact (nI_ltI (by omega) (by decide)).mpr hp) q⟩⟩
    obtain ⟨q, v, e1, e2, e3⟩ := s10 _ hp
    rw [tnI (by omega), e1, s6, ent_hi (by omega) e3, lg_cmp_eq, pk_lEQ (by omega) (by omega), ent_lo]
    refine ⟨fun cq => ?_, fun cq => ?_⟩
    · have := s11 how w F C h3 hw hv h9 v e3 (by rw [e1, cq])
      rw [this, hoc]
      exact kk
    · refine (hm l' el).mono (fun r h' hr => ?_)
      obtain ⟨rfl, S', R'⟩ := hr ⟨c, c3'⟩
      refine ⟨_, rfl, S'.1, ixR_nI hp (by decide), ?_⟩
      have hwl := wor_le g how l F C w hoc
      have hfl := fct10 hl
      rw [S'.2.2.2.2.2.1, ent_mk (by omega) (by omega)]
      have put := S'.put ho h3 hw hv h9 (v := wor g how l F C w) (by rw [hoc]) (by omega)
      exact K _ put.1 (R'.trans put.2)
  · have l0 : l = 0 := by
      cases l with
      | zero => rfl
      | succ l' => exact absurd ((ltC (x := 0) (a := 0) rfl rfl (by omega) (by omega)).mpr (Nat.succ_pos l')) c2
    subst l0
    have e : wor g how 0 F C w = 0 := if_neg (by rw [c]; decide)
    rw [e] at kk
    exact kk
  · have hj := ts_nf c
    rw [atF hfac (by omega)]
    cases l with
    | zero =>
      have e : wor g how 0 F C w = 1 := if_pos hj
      rw [e] at kk
      exact kk
    | succ l' =>
      rw [wor_succ, if_pos hj] at kk
      exact kk
theorem wok (g : G) (ho : GOK g) (st last : Nat) : ∀ l d, WOK g st last l (d + 2 * l + 2)
  | 0, d => by
    intro how F C w h Q h3 hw hv h9 hoc S K
    exact c61s ho h3 hw hv h9 hoc S K (fun l' e => by cases e)
  | l + 1, d => by
    intro how F C w h Q h3 hw hv h9 hoc S K
    have ih := wok g ho st last l d
    refine c61s (d := d + 2 * l + 2) ho h3 hw hv h9 hoc S K (fun l' e => ?_)
    refine c64 (d := d + 2 * l + 1) ho ih h3 hw hv h9 hoc S (fun h' S' R' => ?_)
    rintro ⟨c1, c2⟩
    refine ⟨?_, S', R'⟩
    rw [wor_succ, if_neg (c := jn g F = true) (by rw [c1]; decide), if_pos (c := jn g (unc g.n C) = true) c2]
/-- worth, for a stand -/
def wv (g : G) (how F C w : Nat) : Nat := wor g how (oc g.n F C) F C w
/-- whether JOIN has it -/
def hv (g : G) (F C w : Nat) : Bool := has g (oc g.n F C) F C w
theorem pop_opn {n F C : Nat} (hn : n ≤ 10) : pop (opn n F C) = oc n F C := by
  unfold pop oc
  have h1 : fa_cnt (fun i => (opn n F C).testBit i) n = fa_cnt (opb F C) n := fa_cnt_cong (fun k hk => by
    rw [opn_tb, decide_eq_true hk]
    rfl)
  rw [← h1]
  have key : ∀ m, n ≤ m → fa_cnt (fun i => (opn n F C).testBit i) m = fa_cnt (fun i => (opn n F C).testBit i) n := by
    intro m
    induction m with
    | zero => intro h; rw [Nat.le_zero.mp h]
    | succ m ih =>
      intro h
      by_cases e : n = m + 1
      · rw [e]
      · rw [fa_cnt_no (tb_ge (opn_lt n F C) (by omega)), ih (by omega)]
  exact key 10 hn
theorem c60 {d : Nat} {g : G} {st last how F C w : Nat} (ho : GOK g) (h3 : how ≤ 3) (hw : w < 2) (hs : VS g.n F C) (h9 : how < 3 → g.n ≤ 9) {h : AH} (S : SI h g st last) {Q : Option Value → AH → Prop} (K : ∀ h', SI h' g st last → SR st h h' → Q (some (.int (nI (wv g how F C w)))) h') : Cl (d + 23) 60 [.ref 17, .int (nI how), .int (nI F), .int (nI C), .int (nI w)] h Q := by
  have hl : oc g.n F C ≤ 10 := Nat.le_trans (oc_le _ _ _) ho.1
  refine Cl.enter rfl (g60_0 (d + 22) _ _ _ _ h S.1 Q ?_)
  rw [opnC S.2.1 ho]
  refine c199 S.1 (p2_10 (opn_lt _ _ _) ho.1) ⟨_, rfl, S.1, ?_⟩
  rw [pop_opn ho.1]
  have e : d + 22 = (d + (20 - 2 * oc g.n F C)) + 2 * oc g.n F C + 2 := by omega
  rw [e]
  exact wok g ho st last _ _ how F C w h _ h3 hw hs h9 rfl S (fun h' S' R' => ⟨_, rfl, S'.1, K h' S' R'⟩)
theorem wv_pos {g : G} {F C w : Nat} : 0 < wv g 3 F C w ↔ hv g F C w = true := wor_pos g rfl
theorem wv_le {g : G} (ho : GOK g) {how F C w : Nat} : wv g how F C w ≤ 3628800 := Nat.le_trans (wor_le g how _ F C w rfl) (fct10 (Nat.le_trans (oc_le _ _ _) ho.1))
theorem c58 {d : Nat} {g : G} {st last F C w : Nat} (ho : GOK g) (hw : w < 2) (hs : VS g.n F C) {h : AH} (S : SI h g st last) {Q : Option Value → AH → Prop} (K : ∀ h', SI h' g st last → SR st h h' → Q (some (.int (if hv g F C w = true then 0 else 1))) h') : Cl (d + 24) 58 [.ref 17, .int (nI F), .int (nI C), .int (nI w)] h Q := by
  have hl : oc g.n F C ≤ 10 := Nat.le_trans (oc_le _ _ _) ho.1
  refine Cl.enter rfl (g58_0 (d + 23) _ _ _ h S.1 Q ?_)
  rw [opnC S.2.1 ho]
  refine c199 S.1 (p2_10 (opn_lt _ _ _) ho.1) ⟨_, rfl, S.1, ?_⟩
  rw [pop_opn ho.1]
  have e : d + 23 = (d + (21 - 2 * oc g.n F C)) + 2 * oc g.n F C + 2 := by omega
  rw [e]
  refine wok g ho st last _ _ 3 F C w h _ (by decide) hw hs (fun z => absurd z (by decide)) rfl S (fun h' S' R' => ⟨_, rfl, S'.1, ?_⟩)
  have hl2 := wv_le ho (how := 3) (F := F) (C := C) (w := w)
  have key : (0 : Int32) < nI (wv g 3 F C w) ↔ hv g F C w = true := by
    rw [ltC (x := 0) (a := 0) rfl rfl (by omega) (by omega), wv_pos]
  have kk := K h' S' R'
  show ((0 : Int32) < nI (wv g 3 F C w) → _) ∧ (¬ (0 : Int32) < nI (wv g 3 F C w) → _)
  rw [key]
  refine ⟨fun c => ?_, fun c => ?_⟩
  · rwa [if_pos c] at kk
  · rwa [if_neg c] at kk
theorem ow0 {b : Bool} : (if b = true then (0 : Int32) else 1) = 0 ↔ b = true := by cases b <;> decide
theorem ow1 {b : Bool} : (if b = true then (0 : Int32) else 1) = 1 ↔ ¬ b = true := by cases b <;> decide
theorem owW {b : Bool} {w : Nat} (hw : w < 2) : (if b = true then (0 : Int32) else 1) = nI w ↔ (b == decide (w = 0)) = true := by
  match w, hw with
  | 0, _ => cases b <;> decide
  | 1, _ => cases b <;> decide
/-- is a lane good for one who is to move -/
def goo (g : G) (F C w k : Nat) : Bool := opb F C k && (if w = 0 then hv g (F ||| 2 ^ k) C 1 else !hv g F (C ||| 2 ^ k) 0)
def lsg (g : G) (F C w : Nat) : Int32 := if outc g F C = 0 then (if fa_first (goo g F C w) g.n < g.n then nI (fa_first (goo g F C w) g.n) else -1) else -1
theorem first_at {p : Nat → Bool} {n i : Nat} (hi : i < n) (hno : ∀ k, k < i → p k = false) (hp : p i = true) : fa_first p n = i := by
  have h1 := fa_first_no p n
  have h2 := fa_first_yes p n
  have h3 := fa_first_le p n
  rcases Nat.lt_trichotomy (fa_first p n) i with z | z | z
  · have := h2 (by omega)
    rw [hno _ z] at this
    cases this
  · exact z
  · rw [h1 i z] at hp
    cases hp
theorem first_none {p : Nat → Bool} {n : Nat} (hno : ∀ k, k < n → p k = false) : fa_first p n = n := by
  have h2 := fa_first_yes p n
  have h3 := fa_first_le p n
  rcases Nat.lt_or_ge (fa_first p n) n with z | z
  · have := h2 z
    rw [hno _ z] at this
    cases this
  · omega
theorem w59 {d : Nat} {g : G} {st last F C w : Nat} (ho : GOK g) (hw : w < 2) (hs : VS g.n F C) {h0 : AH} {Q : Option Value → AH → Prop} (K : ∀ h', SI h' g st last → SR st h0 h' → Q (some (.int (if fa_first (goo g F C w) g.n < g.n then nI (fa_first (goo g F C w) g.n) else -1))) h') : ∀ m i h, i + m = g.n → SI h g st last → SR st h0 h → (∀ k, k < i → goo g F C w k = false) → Wp (d + 25) 59 34 [.ref 17, .int (nI F), .int (nI C), .int (nI w), .int (nI (opn g.n F C)), .int (nI i), mk0, mk0] [] h Q
  | 0, i, h, hi, S, R, hno => by
    have hn := ho.1
    have e : i = g.n := by omega
    have kk := K h S R
    refine g59_34 (d + 24) _ _ _ _ _ h S.1 Q ⟨fun c => ?_, fun _ => ?_⟩
    · rw [ltC rfl S.2.1.1 (by omega) (by omega)] at c
      omega
    · rw [e] at hno
      rwa [first_none hno, if_neg (Nat.lt_irrefl _)] at kk
  | m + 1, i, h, hi, S, R, hno => by
    have hn := ho.1
    have hlt : i < g.n := by omega
    have hop : (opn g.n F C).testBit i = opb F C i := by
      rw [opn_tb, decide_eq_true hlt]
      rfl
    have nx : goo g F C w i = false → ∀ h', SI h' g st last → SR st h0 h' → Wp (d + 25) 59 34 [.ref 17, .int (nI F), .int (nI C), .int (nI w), .int (nI (opn g.n F C)), .int (nI (i + 1)), mk0, mk0] [] h' Q := fun hg h' S' R' => w59 ho hw hs K m (i + 1) h' (by omega) S' R' (fun k hk => by
      by_cases e : k = i
      · rw [e]; exact hg
      · exact hno k (by omega))
    have found : goo g F C w i = true → ∀ h', SI h' g st last → SR st h0 h' → Q (some (.int (nI i))) h' := fun hg h' S' R' => by
      have kk := K h' S' R'
      rwa [first_at hlt hno hg, if_pos hlt] at kk
    refine g59_34 (d + 24) _ _ _ _ _ h S.1 Q ⟨fun _ => ?_, fun c => absurd ((ltC rfl S.2.1.1 (by omega) (by omega)).mpr hlt) c⟩
    rw [bC (by omega), hop, nI_1, i1 i (by omega), fa_or, fa_or, nI_eq0 (by omega)]
    refine ⟨fun c => nx (by unfold goo; rw [c]; rfl) h S R, fun c => ⟨fun c2 => ?_, fun c2 => ?_⟩⟩
    · have hop2 := ts_nf c
      subst c2
      refine c58 (d := d) ho (w := 1) (by decide) (hs.F hlt hop2) S (fun h' S' R' => ⟨_, rfl, S'.1, ?_⟩)
      rw [owW (by decide)]
      have eg : goo g F C 0 i = hv g (F ||| 2 ^ i) C 1 := by
        unfold goo
        rw [hop2]
        rfl
      have ex : ∀ b : Bool, (b == decide ((0 : Nat) = 0)) = b := by decide
      rw [ex]
      exact ⟨fun c3 => found (by rw [eg]; exact c3) h' S' (R.trans R'), fun c3 => nx (by rw [eg]; exact ts_nt c3) h' S' (R.trans R')⟩
    · have hop2 := ts_nf c
      have hw1 : w = 1 := by omega
      subst hw1
      refine c58 (d := d) ho (w := 0) (by decide) (hs.C hlt hop2) S (fun h' S' R' => ⟨_, rfl, S'.1, ?_⟩)
      rw [owW (by decide)]
      have eg : goo g F C 1 i = !hv g F (C ||| 2 ^ i) 0 := by
        unfold goo
        rw [hop2]
        rfl
      have ex : ∀ b : Bool, (b == decide ((1 : Nat) = 0)) = !b := by decide
      rw [ex]
      exact ⟨fun c3 => found (by rw [eg]; exact c3) h' S' (R.trans R'), fun c3 => nx (by rw [eg]; exact ts_nt c3) h' S' (R.trans R')⟩
theorem c59 {d : Nat} {g : G} {st last F C w : Nat} (ho : GOK g) (hw : w < 2) (hs : VS g.n F C) {h : AH} (S : SI h g st last) {Q : Option Value → AH → Prop} (K : ∀ h', SI h' g st last → SR st h h' → Q (some (.int (lsg g F C w))) h') : Cl (d + 25) 59 [.ref 17, .int (nI F), .int (nI C), .int (nI w)] h Q := by
  refine Cl.enter rfl (g59_0 (d + 24) _ _ _ h S.1 Q ?_)
  have e2 : outc g F C < 3 := by unfold outc; split; decide; split <;> decide
  refine c37 S.1 S.2.1 S.2.2.1 ho hs.1 ⟨_, rfl, S.1, ?_⟩
  rw [opnC S.2.1 ho, nI_eq0 (by omega)]
  refine ⟨fun c => ?_, fun c => ?_⟩
  · refine w59 ho hw hs (fun h' S' R' => ?_) g.n 0 h (Nat.zero_add _) S SR.rfl (fun k hk => absurd hk (Nat.not_lt_zero k))
    have kk := K h' S' R'
    unfold lsg at kk
    rwa [if_pos c] at kk
  · have kk := K h S SR.rfl
    unfold lsg at kk
    rwa [if_neg c] at kk
