/-! the reference's likelihoods; the greatest divisors -/
def lkP (i j : Nat) : Prop := (i = 23 ∧ 32 ≤ j ∧ j ≤ 39) ∨ (37 ≤ i ∧ i ≤ 42)
theorem sol_lk {i j : Nat} (h : solP i j) : lkP i j := by
  rcases h with h | h
  · exact Or.inl h
  · exact Or.inr ⟨h.1, by omega⟩
def WH (h : AH) (how m : Nat) : Prop := ∀ l, l ≤ m → ∀ w, w < 2 → AI h 42 (2 * l + w) = nI (whl how l w)
theorem c173 {d : Nat} {h : AH} (HS : Sh h) {how w : Nat} (h3 : how ≤ 3) (hw : w < 2) {Q : Option Value → AH → Prop} (K : Q (some (.int (b01 (cha how w)))) h) : Cl d 173 [.int (nI how), .int (nI w)] h Q := by
  refine Cl.enter rfl (g173_0 d _ _ h HS Q ?_)
  have e2 : nI how = 2 ↔ how = 2 := eqC rfl (b := 2) rfl (by omega) (by omega)
  have e0 : nI how = 0 ↔ how = 0 := nI_eq0 (by omega)
  have e1 : nI how = 1 ↔ how = 1 := eqC rfl (b := 1) rfl (by omega) (by omega)
  have f0 : nI w = 0 ↔ w = 0 := nI_eq0 (by omega)
  have f1 : nI w = 1 ↔ w = 1 := eqC rfl (b := 1) rfl (by omega) (by omega)
  rw [e2, e0, e1, f0, f1]
  obtain rfl | rfl | rfl | rfl : how = 0 ∨ how = 1 ∨ how = 2 ∨ how = 3 := by omega
  all_goals obtain rfl | rfl : w = 0 ∨ w = 1 := by omega
  all_goals simp [cha, b01] at K ⊢
  all_goals exact K
theorem w174b {d : Nat} {how l : Nat} (h3 : how ≤ 3) (hl : l ≤ 8) {h0 : AH} {Q : Option Value → AH → Prop} (nx : ∀ h, Sh h → Fr (fun i _ => i = 42) h0 h → WH h how (l + 1) → Wp (d + 1) 174 16 [.ref 23, .int (nI how), .int (nI (l + 2)), mk0] [] h Q) : ∀ m w h, w + m = 2 → Sh h → Fr (fun i _ => i = 42) h0 h → WH h how l → (∀ w', w' < w → AI h 42 (2 * (l + 1) + w') = nI (whl how (l + 1) w')) → Wp (d + 1) 174 26 [.ref 23, .int (nI how), .int (nI (l + 1)), .int (nI w)] [] h Q
  | 0, w, h, hw, HS, hf, hW, hd => by
    have e : w = 2 := by omega
    subst e
    refine g174_26 d _ _ _ h HS Q ⟨fun z => absurd z (by decide), fun _ => ?_⟩
    rw [nI_1]
    refine nx h HS hf (fun l' hl' w' hw' => ?_)
    by_cases e : l' = l + 1
    · rw [e]; exact hd w' hw'
    · exact hW l' (by omega) w' hw'
  | m + 1, w, h, hw, HS, hf, hW, hd => by
    have hw2 : w < 2 := by omega
    refine g174_26 d _ _ _ h HS Q ⟨fun _ => ?_, fun z => absurd ((ltC (y := 2) (b := 2) rfl rfl (by omega) (by omega)).mpr hw2) z⟩
    have e1 : (2 : Int32) * (nI (l + 1) - 1) + 1 - nI w = nI (2 * l + (1 - w)) := by
      rw [nI_pred, show (2 : Int32) = nI 2 from rfl, pk_mul, nI_1, pk_sub (by omega)]
      congr 1
      omega
    have e2 : (2 : Int32) * nI (l + 1) + nI w = nI (2 * (l + 1) + w) := by
      rw [show (2 : Int32) = nI 2 from rfl, pk_mul, nI_add]
    rw [e1, e2, tnI (by omega), tnI (by omega), hW l (Nat.le_refl _) (1 - w) (by omega), nI_1, show (1 : Int32) = nI 1 from rfl, pk_mul, pk_mul]
    refine ⟨ixR_nI (by omega) (by decide), c173 HS h3 hw2 ⟨_, rfl, HS, ?_⟩⟩
    have go : ∀ x, x = whl how (l + 1) w → Wp (d + 1) 174 26 [.ref 23, .int (nI how), .int (nI (l + 1)), .int (nI (w + 1))] [] (stI h 42 (2 * (l + 1) + w) (nI x)) Q := by
      intro x hx
      refine w174b h3 hl nx m (w + 1) _ (by omega) (HS.stI _ _ _) (hf.trans (Fr.stI rfl)) (fun l' hl' w' hw' => ?_) (fun w' hw' => ?_)
      · rw [AI_stI_o _ _ (Or.inr (by omega))]
        exact hW l' hl' w' hw'
      · by_cases e : w' = w
        · rw [e, AI_stI_s, hx]
        · rw [AI_stI_o _ _ (Or.inr (by omega))]
          exact hd w' (by omega)
    have ew : whl how (l + 1) w = whl how l (1 - w) * (if cha how w = true then l + 1 else 1) := rfl
    rw [b01_0]
    refine ⟨fun z => ⟨ixR_nI (by omega) (by decide), go _ ?_⟩, fun z => ⟨ixR_nI (by omega) (by decide), go _ ?_⟩⟩
    · rw [ew, z]
      rfl
    · rw [ew, ts_nf z]
      rfl
theorem w174 {d : Nat} {how n : Nat} (h3 : how ≤ 3) (hn : n ≤ 9) {h0 : AH} {Q : Option Value → AH → Prop} (K : ∀ h', Fr (fun i _ => i = 42) h0 h' → WH h' how n → Q none h') : ∀ m l h, l + m = n → Sh h → AI h0 23 32 = nI n → Fr (fun i _ => i = 42) h0 h → WH h how l → Wp (d + 1) 174 16 [.ref 23, .int (nI how), .int (nI (l + 1)), mk0] [] h Q
  | 0, l, h, hl, HS, hN, hf, hW => by
    have e : l = n := by omega
    subst e
    refine g174_16 (d + 1) _ _ h HS Q ⟨fun _ => K h hf hW, fun z => absurd ?_ z⟩
    rw [hf.I (by omega), hN, nI_ltI (by omega) (by omega)]
    omega
  | m + 1, l, h, hl, HS, hN, hf, hW => by
    refine g174_16 (d + 1) _ _ h HS Q ⟨fun z => ?_, fun _ => ?_⟩
    · rw [hf.I (by omega), hN, nI_ltI (by omega) (by omega)] at z
      omega
    · exact w174b h3 (by omega) (fun h' S' f' W' => w174 h3 hn K m (l + 1) h' (by omega) S' hN f' W') 2 0 h rfl HS hf hW (fun w' z => absurd z (Nat.not_lt_zero w'))
theorem c174 {d : Nat} {h : AH} (HS : Sh h) {how n : Nat} (h3 : how ≤ 3) (hn : n ≤ 9) (hN : AI h 23 32 = nI n) {Q : Option Value → AH → Prop} (K : ∀ h', Fr (fun i _ => i = 42) h h' → WH h' how n → Q none h') : Cl (d + 1) 174 [.ref 23, .int (nI how)] h Q := by
  refine Cl.enter rfl (g174_0 (d + 1) _ h HS Q ⟨ixR_nI (j := 0) (by decide) (by decide), ixR_nI (j := 1) (by decide) (by decide), ?_⟩)
  show Wp (d + 1) 174 16 [.ref 23, .int (nI how), .int (nI (0 + 1)), mk0] [] (stI (stI h 42 0 1) 42 1 1) Q
  refine w174 h3 hn K n 0 _ (Nat.zero_add _) ((HS.stI _ _ _).stI _ _ _) hN ((Fr.stI (P := fun i _ => i = 42) rfl).trans (Fr.stI (P := fun i _ => i = 42) rfl)) (fun l hl w hw => ?_)
  have e : l = 0 := by omega
  subst e
  have hw2 : w = 0 ∨ w = 1 := by omega
  rcases hw2 with rfl | rfl
  · rw [AI_stI_o _ _ (Or.inr (by decide)), AI_stI_s]
    rfl
  · rw [AI_stI_s]
    rfl
def CH (h : AH) (g : G) (how F C c : Nat) : Prop := ∀ c', c ≤ c' → c' < 3 ^ oc g.n F C → ∀ w, w < 2 → AI h 41 (2 * c' + w) = nI (cv g how (cF g.n F C c') (cC g.n F C c') w)
def cvj (g : G) (how F C c w j : Nat) : Nat := cv g how (cF g.n F C (c + (w + 1) * 3 ^ j)) (cC g.n F C (c + (w + 1) * 3 ^ j)) (1 - w)
def smj (g : G) (how F C c w : Nat) : Nat → Nat := fun j => fo (zro c) (fun j y => y + cvj g how F C c w j) j 0
def mxj (g : G) (how F C c w : Nat) : Nat → Nat := fun j => fo (zro c) (fun j y => max y (cvj g how F C c w j)) j 0
def mnj (g : G) (how F C c w : Nat) : Nat → Nat := fun j => fo (zro c) (fun j y => min y (cvj g how F C c w j)) j 1073741824
theorem cv_le {g : G} (ho : GOK g) {how F C w : Nat} (hw : w < 2) : cv g how F C w ≤ 3628800 := Nat.le_trans (chv_le g how _ F C w rfl hw) (Nat.le_trans (whl_le how _ w) (fct10 (oc_10 F C ho.1)))
theorem mxj_le {g : G} (ho : GOK g) {how F C c w : Nat} : ∀ j, mxj g how F C c w j ≤ 3628800 := fun j => by
  rcases (fo_max (p := zro c) (f := fun j => cvj g how F C c w j) (x := 0) j).2.2 with z | ⟨k, a, b, e⟩
  · have : mxj g how F C c w j = 0 := z
    omega
  · have : mxj g how F C c w j = cvj g how F C c w k := e
    rw [this]
    exact cv_le ho (by omega)
theorem mnj_le {g : G} {how F C c w : Nat} (j : Nat) : mnj g how F C c w j ≤ 1073741824 := (fo_min (p := zro c) (f := fun j => cvj g how F C c w j) (x := 1073741824) j).1
theorem in41 {h : AH} (HS : Sh h) {i : Nat} (hi : i < 39366) : inR h 41 (nI i) = true := inS HS 41 (c := 20) (n := 39366) rfl (ixR_nI hi (by decide))
theorem p3_9 {j : Nat} (h : j ≤ 9) : 3 ^ j ≤ 19683 := p3_le h
theorem w175 {d : Nat} {h : AH} (HS : Sh h) {g : G} (ho : GOK g) (hn9 : g.n ≤ 9) {how F C c w : Nat} (h3 : how ≤ 3) (hc : c < 3 ^ oc g.n F C) (hw : w < 2) (hy : Lay h g F C) (hj : CH h g how F C (c + 1)) (hne : cOj c (oc g.n F C) ≠ 0) {Q : Option Value → AH → Prop} (K : Q (some (.int (nI (if cha how w = true then smj g how F C c w (oc g.n F C) else if w = 0 then mxj g how F C c w (oc g.n F C) else mnj g how F C c w (oc g.n F C))))) h) : ∀ m j, j + m = oc g.n F C → Wp (d + 1) 175 13 [.ref 23, .int (nI c), .int (nI w), .int (nI how), .int (nI (smj g how F C c w j)), .int (if cOj c j = 0 then -1 else nI (mxj g how F C c w j)), .int (nI (mnj g how F C c w j)), .int (nI j), mk0] [] h Q
  | 0, j, hjm => by
    have hoc := oc_10 F C ho.1
    have e : j = oc g.n F C := by omega
    subst e
    refine g175_13 d _ _ _ _ _ _ _ h HS Q ⟨fun z => ?_, fun _ => c173 HS h3 hw ⟨_, rfl, HS, ?_⟩⟩
    · rw [hy.1, nI_ltI (by omega) (by omega)] at z
      omega
    · rw [b01_0, nI_eq0 (by omega), if_neg hne]
      refine ⟨fun z => ⟨fun z2 => ?_, fun z2 => ?_⟩, fun z => ?_⟩
      · rwa [if_neg (by rw [z]; decide), if_pos z2] at K
      · rwa [if_neg (by rw [z]; decide), if_neg z2] at K
      · rwa [if_pos (ts_nf z)] at K
  | m + 1, j, hjm => by
    have hoc : oc g.n F C ≤ 9 := Nat.le_trans (oc_le _ _ _) hn9
    have hlt : j < oc g.n F C := by omega
    have q3 := p3_9 hoc
    have q4 := p3_10 (j := j) (by omega)
    have q5 : 0 < 3 ^ j := Nat.pow_pos (by decide)
    have ih := w175 (d := d) HS ho hn9 h3 hc hw hy hj hne K m (j + 1) (by omega)
    refine g175_13 d _ _ _ _ _ _ _ h HS Q ⟨fun _ => ⟨ixR_nI (by omega) (by decide), ?_⟩, fun z => absurd (by rw [hy.1, nI_ltI (by omega) (by omega)]; exact hlt) z⟩
    have hd3 := dg_lt c j
    rw [tnI (by omega), hy.2.2.2.1 j (by omega), dgp (by omega) (by omega), nI_eq0 (by omega), nI_eq0 (by omega), nI_eq0 (by omega), nI_1]
    refine ⟨by omega, fun z => ?_, fun z => ?_⟩
    · have hz : zro c j = true := decide_eq_true z
      have e1 : smj g how F C c w (j + 1) = smj g how F C c w j + cvj g how F C c w j := fo_yes hz
      have e2 : mxj g how F C c w (j + 1) = max (mxj g how F C c w j) (cvj g how F C c w j) := fo_yes hz
      have e3 : mnj g how F C c w (j + 1) = min (mnj g how F C c w j) (cvj g how F C c w j) := fo_yes hz
      have e4 : cOj c (j + 1) = cOj c j + 1 := fa_cnt_yes (p := fun j => decide (dg c j = 0)) (decide_eq_true z)
      rw [e1, e2, e3, e4, if_neg (Nat.succ_ne_zero _)] at ih
      obtain ⟨x1, x2, -⟩ := ixw hw (by omega) hlt z hc
      have hval : AI h 41 (2 * (c + (w + 1) * 3 ^ j) + (1 - w)) = nI (cvj g how F C c w j) := hj _ (by omega) x1 (1 - w) (by omega)
      have v1 : cvj g how F C c w j ≤ 3628800 := cv_le ho (by omega)
      have v2 := mxj_le ho (how := how) (F := F) (C := C) (c := c) (w := w) j
      have v3 := mnj_le (g := g) (how := how) (F := F) (C := C) (c := c) (w := w) j
      have m1 : ((if cOj c j = 0 then (-1 : Int32) else nI (mxj g how F C c w j)) < nI (cvj g how F C c w j) → nI (max (mxj g how F C c w j) (cvj g how F C c w j)) = nI (cvj g how F C c w j)) ∧ (¬ (if cOj c j = 0 then (-1 : Int32) else nI (mxj g how F C c w j)) < nI (cvj g how F C c w j) → nI (max (mxj g how F C c w j) (cvj g how F C c w j)) = (if cOj c j = 0 then (-1 : Int32) else nI (mxj g how F C c w j))) := by
        by_cases h0 : cOj c j = 0
        · rw [if_pos h0]
          have e0 : mxj g how F C c w j = 0 := by
            have nz : ∀ k, k < j → zro c k = false := cnt_zero h0
            show fo (zro c) _ j 0 = 0
            rw [fo_skip (Nat.zero_le j) (fun k _ hk => nz k hk)]
            rfl
          have hm1 : (-1 : Int32) < nI (cvj g how F C c w j) := by
            rw [fa_lt, nI_toInt (by omega)]
            show (-1 : Int) < _
            omega
          exact ⟨fun _ => by rw [e0, Nat.max_eq_right (Nat.zero_le _)], fun q => absurd hm1 q⟩
        · rw [if_neg h0, nI_ltI (by omega) (by omega)]
          exact ⟨fun q => by rw [Nat.max_eq_right (by omega)], fun q => by rw [Nat.max_eq_left (by omega)]⟩
      have m2 : (nI (cvj g how F C c w j) < nI (mnj g how F C c w j) → nI (min (mnj g how F C c w j) (cvj g how F C c w j)) = nI (cvj g how F C c w j)) ∧ (¬ nI (cvj g how F C c w j) < nI (mnj g how F C c w j) → nI (min (mnj g how F C c w j) (cvj g how F C c w j)) = nI (mnj g how F C c w j)) := by
        rw [nI_ltI (by omega) (by omega)]
        exact ⟨fun q => by rw [Nat.min_eq_right (by omega)], fun q => by rw [Nat.min_eq_left (by omega)]⟩
      have mid : ∀ x, x = nI (w + 1) → Wp (d + 1) 175 51 [.ref 23, .int (nI c), .int (nI w), .int (nI how), .int (nI (smj g how F C c w j)), .int (if cOj c j = 0 then -1 else nI (mxj g how F C c w j)), .int (nI (mnj g how F C c w j)), .int (nI j), mk0] [.int x, .int (nI c), .int 2, .ref 41] h Q := by
        intro x hx
        refine g175_51 (d + 1) _ _ _ _ _ _ _ _ _ _ _ h HS Q ?_
        rw [tnI (by omega), hy.2.2.2.1 j (by omega), stepI c w _ hw hx, tnI (by omega), hval, nI_1, nI_add]
        refine ⟨ixR_nI (by omega) (by decide), kS HS 41 rfl, in41 HS (by omega), fun q => ⟨fun q2 => ?_, fun q2 => ?_⟩, fun q => ⟨fun q2 => ?_, fun q2 => ?_⟩⟩
        · rw [m1.1 q, m2.1 q2] at ih
          exact ih
        · rw [m1.1 q, m2.2 q2] at ih
          exact ih
        · rw [m1.2 q, m2.1 q2] at ih
          exact ih
        · rw [m1.2 q, m2.2 q2] at ih
          exact ih
      exact ⟨fun z2 => mid _ (by rw [z2]; rfl), fun z2 => mid _ (by rw [show w = 1 from by omega]; rfl)⟩
    · have hz : zro c j = false := decide_eq_false z
      have e1 : smj g how F C c w (j + 1) = smj g how F C c w j := fo_no hz
      have e2 : mxj g how F C c w (j + 1) = mxj g how F C c w j := fo_no hz
      have e3 : mnj g how F C c w (j + 1) = mnj g how F C c w j := fo_no hz
      have e4 : cOj c (j + 1) = cOj c j := fa_cnt_no (p := fun j => decide (dg c j = 0)) (decide_eq_false z)
      rw [e1, e2, e3, e4] at ih
      exact ih
theorem c175 {d : Nat} {h : AH} (HS : Sh h) {g : G} (ho : GOK g) (hn9 : g.n ≤ 9) {how F C c w : Nat} (h3 : how ≤ 3) (hs : VS g.n F C) (hc : c < 3 ^ oc g.n F C) (hw : w < 2) (hy : Lay h g F C) (hj : CH h g how F C (c + 1)) (n1 : jn g (cF g.n F C c) = false) (n2 : jn g (unc g.n (cC g.n F C c)) = true) {Q : Option Value → AH → Prop} (K : Q (some (.int (nI (cv g how (cF g.n F C c) (cC g.n F C c) w)))) h) : Cl (d + 1) 175 [.ref 23, .int (nI c), .int (nI w), .int (nI how)] h Q := by
  have V := cVS hs c
  have hne : cOj c (oc g.n F C) ≠ 0 := by
    rw [cOj_end]
    intro z
    rw [unc_none V z, n1] at n2
    cases n2
  refine Cl.enter rfl (g175_0 (d + 1) _ _ _ h HS Q (w175 HS ho hn9 h3 hc hw hy hj hne ?_ (oc g.n F C) 0 (Nat.zero_add _)))
  have eqv := cv_eq (how := how) (w := w) V
  rw [if_neg (by rw [n1]; decide), if_pos n2] at eqv
  rw [eqv] at K
  have hw2 : w = 0 ∨ w = 1 := by omega
  have child : ∀ k, k < g.n → opb (cF g.n F C c) (cC g.n F C c) k = true → cvj g how F C c w (rk F C k) = if w = 0 then cv g how (cF g.n F C c ||| 2 ^ k) (cC g.n F C c) 1 else cv g how (cF g.n F C c) (cC g.n F C c ||| 2 ^ k) 0 := by
    intro k hk hp
    rw [cop hk, Bool.and_eq_true] at hp
    unfold cvj
    rcases hw2 with rfl | rfl
    · have := chF hk hp.1 (of_decide_eq_true hp.2)
      rw [this.1, this.2]
      rfl
    · have := chC hk hp.1 (of_decide_eq_true hp.2)
      rw [this.1, this.2]
      rfl
  have es : smj g how F C c w (oc g.n F C) = fo (opb (cF g.n F C c) (cC g.n F C c)) (fun k y => y + (if w = 0 then cv g how (cF g.n F C c ||| 2 ^ k) (cC g.n F C c) 1 else cv g how (cF g.n F C c) (cC g.n F C c ||| 2 ^ k) 0)) g.n 0 := fo_rank (fun k hk => cop hk) (fun k hk hp y => by
    show y + cvj g how F C c w (rk F C k) = _
    rw [child k hk hp]) g.n (Nat.le_refl _)
  rw [es]
  rcases hw2 with rfl | rfl
  · have em : mxj g how F C c 0 (oc g.n F C) = fo (opb (cF g.n F C c) (cC g.n F C c)) (fun k y => max y (cv g how (cF g.n F C c ||| 2 ^ k) (cC g.n F C c) 1)) g.n 0 := fo_rank (fun k hk => cop hk) (fun k hk hp y => by
      show max y (cvj g how F C c 0 (rk F C k)) = _
      rw [child k hk hp]
      rfl) g.n (Nat.le_refl _)
    rw [if_pos rfl, em]
    exact K
  · have em : mnj g how F C c 1 (oc g.n F C) = fo (opb (cF g.n F C c) (cC g.n F C c)) (fun k y => min y (cv g how (cF g.n F C c) (cC g.n F C c ||| 2 ^ k) 0)) g.n 1073741824 := fo_rank (fun k hk => cop hk) (fun k hk hp y => by
      show min y (cvj g how F C c 1 (rk F C k)) = _
      rw [child k hk hp]
      rfl) g.n (Nat.le_refl _)
    rw [if_neg (c := (1 : Nat) = 0) (by decide), em]
    exact K
theorem gcd_step (x y : Nat) : Nat.gcd x y = Nat.gcd y (x % y) := by
  rw [Nat.gcd_comm x y, Nat.gcd_rec y x, Nat.gcd_comm]
theorem w176 {d : Nat} {h : AH} (HS : Sh h) {a b p : Nat} (ha : a < 2 ^ 31) (hb : b < 2 ^ 31) (hb0 : 0 < b) (hp : p < 2) {Q : Option Value → AH → Prop} (K : Q (some (.int (nI ((if p = 0 then a else b) / Nat.gcd a b)))) h) : ∀ m x y, y ≤ m → x < 2 ^ 31 → y < 2 ^ 31 → Nat.gcd x y = Nat.gcd a b → Wp d 176 5 [.int (nI a), .int (nI b), .int (nI p), .int (nI x), .int (nI y), mk0] [] h Q := by
  have done : ∀ x, x < 2 ^ 31 → Nat.gcd x 0 = Nat.gcd a b → Wp d 176 5 [.int (nI a), .int (nI b), .int (nI p), .int (nI x), .int (nI 0), mk0] [] h Q := by
    intro x hx hg
    rw [Nat.gcd_zero_right] at hg
    have hx0 : 0 < x := by rw [hg]; exact Nat.gcd_pos_of_pos_right a hb0
    refine g176_5 d _ _ _ _ _ h HS Q ⟨fun _ => ?_, fun z => absurd rfl z⟩
    rw [nI_eq0 (by omega), nI_eq0 (by omega), pk_div ha hx0 hx, pk_div hb hx0 hx, hg]
    rw [hg] at hx0
    refine ⟨fun z => ⟨by omega, ?_⟩, fun z => ⟨by omega, ?_⟩⟩
    · rwa [if_pos z] at K
    · rwa [if_neg z] at K
  intro m
  induction m with
  | zero =>
    intro x y hy hx hy2 hg
    have e : y = 0 := Nat.le_zero.mp hy
    subst e
    exact done x hx hg
  | succ m ih =>
    intro x y hy hx hy2 hg
    by_cases e : y = 0
    · subst e
      exact done x hx hg
    · have hlt : x % y < y := Nat.mod_lt _ (by omega)
      refine g176_5 d _ _ _ _ _ h HS Q ⟨fun z => absurd ((nI_eq0 hy2).mp z) e, fun z => ⟨z, ?_⟩⟩
      rw [pk_rem hx (by omega) hy2]
      exact ih y (x % y) (by omega) hy2 (by omega) ((gcd_step x y).symm.trans hg)
theorem c176 {d : Nat} {h : AH} (HS : Sh h) {a b p : Nat} (ha : a < 2 ^ 31) (hb : b < 2 ^ 31) (hb0 : 0 < b) (hp : p < 2) {Q : Option Value → AH → Prop} (K : Q (some (.int (nI ((if p = 0 then a else b) / Nat.gcd a b)))) h) : Cl d 176 [.int (nI a), .int (nI b), .int (nI p)] h Q :=
  Cl.enter rfl (g176_0 d _ _ _ h HS Q (w176 HS ha hb hb0 hp K b a b (Nat.le_refl _) ha hb rfl))
theorem w125 {d : Nat} {h : AH} (HS : Sh h) {z : Nat} {Q : Option Value → AH → Prop} (K : Q (some (.int (nI z))) h) : ∀ m x y i, x < 2 ^ 31 → y < 2 ^ 31 → y < 2 ^ m → i + 2 * m + 1 ≤ 100 → Nat.gcd x y = z → Wp d 125 7 [mk0, mk0, .int (nI x), .int (nI y), .int (nI i), mk0] [] h Q := by
  have lt100 : ∀ i, i < 100 → nI i < 100 := fun i hi => (ltC (y := 100) (b := 100) rfl rfl (by omega) (by omega)).mpr hi
  have done : ∀ x i, x < 2 ^ 31 → i < 100 → Nat.gcd x 0 = z → Wp d 125 7 [mk0, mk0, .int (nI x), .int (nI 0), .int (nI i), mk0] [] h Q := by
    intro x i hx hi hg
    rw [Nat.gcd_zero_right] at hg
    refine g125_7 d _ _ _ h HS Q ⟨fun _ => ⟨fun _ => ?_, fun q => absurd rfl q⟩, fun q => absurd (lt100 i hi) q⟩
    rw [hg]
    exact K
  intro m
  induction m with
  | zero =>
    intro x y i hx hy2 hy hi hg
    have e : y = 0 := by omega
    subst e
    exact done x i hx (by omega) hg
  | succ m ih =>
    intro x y i hx hy2 hy hi hg
    by_cases e : y = 0
    · subst e
      exact done x i hx (by omega) hg
    · have hlt : x % y < y := Nat.mod_lt _ (by omega)
      refine g125_7 d _ _ _ h HS Q ⟨fun _ => ⟨fun q => absurd ((nI_eq0 hy2).mp q) e, fun q => ⟨q, ?_⟩⟩, fun q => absurd (lt100 i (by omega)) q⟩
      rw [pk_rem hx (by omega) hy2, nI_1]
      have hg2 := (gcd_step x y).symm.trans hg
      by_cases e2 : x % y = 0
      · rw [e2] at hg2 ⊢
        exact done y (i + 1) hy2 (by omega) hg2
      · have hlt2 : y % (x % y) < x % y := Nat.mod_lt _ (by omega)
        have hle2 : y % (x % y) + x % y ≤ y := by
          have h1 := Nat.div_add_mod y (x % y)
          have h2 : 1 ≤ y / (x % y) := Nat.div_pos (by omega) (by omega)
          have h3 : x % y * 1 ≤ x % y * (y / (x % y)) := Nat.mul_le_mul_left _ h2
          omega
        have hp : 2 ^ (m + 1) = 2 ^ m * 2 := Nat.pow_succ 2 m
        refine g125_7 d _ _ _ h HS Q ⟨fun _ => ⟨fun q => absurd ((nI_eq0 (by omega)).mp q) e2, fun q => ⟨q, ?_⟩⟩, fun q => absurd (lt100 (i + 1) (by omega)) q⟩
        rw [pk_rem hy2 (by omega) (by omega), nI_1]
        exact ih (x % y) (y % (x % y)) (i + 1 + 1) (by omega) (by omega) (by omega) (by omega) ((gcd_step y (x % y)).symm.trans hg2)
theorem c125 {d : Nat} {h : AH} (HS : Sh h) {a b : Nat} (ha : a < 2 ^ 31) (hb : b < 2 ^ 30) {Q : Option Value → AH → Prop} (K : Q (some (.int (nI (Nat.gcd a b)))) h) : Cl d 125 [.int (nI a), .int (nI b)] h Q :=
  Cl.enter rfl (g125_0 d _ _ h HS Q (w125 HS K 30 a b 0 ha (by omega) hb (by omega) rfl))
theorem w177a {d : Nat} {g : G} (ho : GOK g) (hn9 : g.n ≤ 9) {how F C c p : Nat} (h3 : how ≤ 3) (hs : VS g.n F C) (hc : c < 3 ^ oc g.n F C) {h0 : AH} {Q : Option Value → AH → Prop} (nx : ∀ h, Sh h → Lay h g F C → WH h how (oc g.n F C) → CH h g how F C c → Fr lkP h0 h → Wp (d + 2) 177 25 [.ref 23, .int (nI how), .int (nI p), .int (nI c - 1), mk0, mk0, mk0, mk0] [] h Q) : ∀ m w h, w + m = 2 → Sh h → Lay h g F C → WH h how (oc g.n F C) → CH h g how F C (c + 1) → (∀ w', w' < w → AI h 41 (2 * c + w') = nI (cv g how (cF g.n F C c) (cC g.n F C c) w')) → Fr lkP h0 h → Wp (d + 2) 177 73 [.ref 23, .int (nI how), .int (nI p), .int (nI c), .int (b01 (jn g (cF g.n F C c))), .int (b01 (!jn g (unc g.n (cC g.n F C c)))), .int (nI (oc g.n (cF g.n F C c) (cC g.n F C c))), .int (nI w)] [] h Q
  | 0, w, h, hw, HS, hy, hW, hj, hd, hf => by
    have e : w = 2 := by omega
    subst e
    refine g177_73 (d + 1) _ _ _ _ _ _ _ h HS Q ⟨fun z => absurd z (by decide), fun _ => ?_⟩
    have e1 : nI c + (-1) = nI c - 1 := (Int32.sub_eq_add_neg _ _).symm
    rw [e1]
    refine nx h HS hy hW (fun c' h1 h2 w hw2 => ?_) hf
    by_cases e : c' = c
    · rw [e]; exact hd w hw2
    · exact hj c' (by omega) h2 w hw2
  | m + 1, w, h, hw, HS, hy, hW, hj, hd, hf => by
    have hoc : oc g.n F C ≤ 9 := Nat.le_trans (oc_le _ _ _) hn9
    have q3 := p3_9 hoc
    have hw2 : w < 2 := by omega
    have V := cVS hs c
    have hoc2 : oc g.n (cF g.n F C c) (cC g.n F C c) ≤ oc g.n F C := by
      rw [← cOj_end]
      exact fa_cnt_le _ _
    have eqv := cv_eq (how := how) (w := w) V
    have put : ∀ x, x = cv g how (cF g.n F C c) (cC g.n F C c) w → Wp (d + 2) 177 73 [.ref 23, .int (nI how), .int (nI p), .int (nI c), .int (b01 (jn g (cF g.n F C c))), .int (b01 (!jn g (unc g.n (cC g.n F C c)))), .int (nI (oc g.n (cF g.n F C c) (cC g.n F C c))), .int (nI (w + 1))] [] (stI h 41 (2 * c + w) (nI x)) Q := by
      intro x hx
      have f2 : Fr (fun i j => i = 41 ∧ j = 2 * c + w) h (stI h 41 (2 * c + w) (nI x)) := Fr.stI ⟨rfl, rfl⟩
      refine w177a ho hn9 h3 hs hc nx m (w + 1) _ (by omega) (f2.Sh HS) (hy.fr f2 ⟨fun z => by have := z.1; omega, fun z => by have := z.1; omega⟩ (fun a b h1 h2 z => by have := z.1; omega)) (fun l hl w' hw' => by rw [f2.I (fun z => by have := z.1; omega)]; exact hW l hl w' hw') (fun c' g1 g2 w' g3 => ?_) (fun w' g3 => ?_) (hf.trans (f2.weak (fun a b z => Or.inr ⟨by have := z.1; omega, by have := z.1; omega⟩)))
      · rw [f2.I (fun z => by have := z.2; omega)]
        exact hj c' g1 g2 w' g3
      · by_cases e : w' = w
        · rw [e, AI_stI_s, hx]
        · rw [f2.I (fun z => by have := z.2; omega)]
          exact hd w' (by omega)
    have eix : 2 * nI c + nI w = nI (2 * c + w) := by rw [show (2 : Int32) = nI 2 from rfl, pk_mul, nI_add]
    have eix2 : 2 * nI (oc g.n (cF g.n F C c) (cC g.n F C c)) + nI w = nI (2 * oc g.n (cF g.n F C c) (cC g.n F C c) + w) := by rw [show (2 : Int32) = nI 2 from rfl, pk_mul, nI_add]
    refine g177_73 (d + 1) _ _ _ _ _ _ _ h HS Q ⟨fun _ => ?_, fun z => absurd ((ltC (y := 2) (b := 2) rfl rfl (by omega) (by omega)).mpr hw2) z⟩
    rw [eix, eix2, tnI (by omega), tnI (by omega), nI_1, b01_0, b01_0, hW _ hoc2 w hw2]
    refine ⟨fun z => ⟨fun z2 => ?_, fun z2 => ⟨ixR_nI (by omega) (by decide), ?_⟩⟩, fun z => ⟨ixR_nI (by omega) (by decide), ixR_nI (by omega) (by decide), ?_⟩⟩
    · have hu : jn g (unc g.n (cC g.n F C c)) = true := by
        cases hj2 : jn g (unc g.n (cC g.n F C c)) with
        | true => rfl
        | false => rw [hj2] at z2; cases z2
      refine c175 HS ho hn9 h3 hs hc hw2 hy hj z hu ⟨_, rfl, HS, ixR_nI (by omega) (by decide), put _ rfl⟩
    · refine put 0 ?_
      have hu : jn g (unc g.n (cC g.n F C c)) = false := by
        cases hj2 : jn g (unc g.n (cC g.n F C c)) with
        | false => rfl
        | true => rw [hj2] at z2; exact absurd rfl z2
      rw [eqv, z, hu]
      rfl
    · refine put _ ?_
      rw [eqv, ts_nf z]
      rfl
def lkA (g : G) (how F C w p : Nat) : Nat := (if p = 0 then cv g how F C w else whl how (oc g.n F C) w) / Nat.gcd (cv g how F C w) (whl how (oc g.n F C) w)
theorem w177 {d : Nat} {g : G} (ho : GOK g) (hn9 : g.n ≤ 9) {how F C w p : Nat} (h3 : how ≤ 3) (hs : VS g.n F C) (hw : w < 2) (hp : p < 2) {h0 : AH} (hM : AI h0 23 8 = nI w) {Q : Option Value → AH → Prop} (K : ∀ h', Fr lkP h0 h' → Q (some (.int (nI (lkA g how F C w p)))) h') : ∀ m h, m ≤ 3 ^ oc g.n F C → Sh h → Lay h g F C → WH h how (oc g.n F C) → CH h g how F C m → Fr lkP h0 h → Wp (d + 2) 177 25 [.ref 23, .int (nI how), .int (nI p), .int (nI m - 1), mk0, mk0, mk0, mk0] [] h Q
  | 0, h, hm, HS, hy, hW, hj, hf => by
    have hoc : oc g.n F C ≤ 9 := Nat.le_trans (oc_le _ _ _) hn9
    have e8 : AI h 23 8 = nI w := by
      rw [hf.I (by rintro (⟨-, z, -⟩ | ⟨z, -⟩) <;> omega), hM]
    have eix : 2 * nI (oc g.n F C) + nI w = nI (2 * oc g.n F C + w) := by rw [show (2 : Int32) = nI 2 from rfl, pk_mul, nI_add]
    have ch0 := hj 0 (Nat.le_refl _) (Nat.pow_pos (by decide)) w hw
    rw [c0F hs, c0C hs, Nat.mul_zero, Nat.zero_add] at ch0
    have l1 := cv_le ho (how := how) (F := F) (C := C) hw
    have l2 := Nat.le_trans (whl_le how (oc g.n F C) w) (fct10 (by omega))
    refine g177_25 (d + 1) _ _ _ h HS Q ⟨fun _ => ?_, fun z => absurd (by decide) z⟩
    rw [e8, hy.1, eix, tnI (by omega), tnI (by omega), ch0, hW _ (Nat.le_refl _) w hw]
    refine ⟨ixR_nI (by omega) (by decide), ixR_nI (by omega) (by decide), c176 HS (by omega) (by omega) (whl_pos how _ w) hp ⟨_, rfl, HS, K h hf⟩⟩
  | c + 1, h, hm, HS, hy, hW, hj, hf => by
    have hoc := oc_10 F C ho.1
    have q3 := p3_10 hoc
    rw [nI_pred]
    refine g177_25 (d + 1) _ _ _ h HS Q ⟨fun z => absurd z (nI_pos (by omega)), fun _ => ?_⟩
    refine c147 HS ho hs (by omega) hy (fun h1 f1 a1 a2 a3 => ⟨rfl, f1.Sh HS, ?_⟩)
    have V := cVS hs c
    have l1 := p2_10 V.1 ho.1
    have l2 := p2_10 (unc_lt g.n (cC g.n F C c)) ho.1
    have S1 := f1.Sh HS
    have y1 : Lay h1 g F C := hy.fr f1 ⟨fun z => absurd z.2.1 (by decide), fun z => absurd z.2.1 (by decide)⟩ (fun a b h1 h2 z => by have := z.1; omega)
    have j1 : CH h1 g how F C (c + 1) := fun c' g1 g2 w g3 => by
      rw [f1.I (fun z => by have := z.1; omega)]
      exact hj c' g1 g2 w g3
    have W1 : WH h1 how (oc g.n F C) := fun l hl w' hw' => by
      rw [f1.I (fun z => by have := z.1; omega)]
      exact hW l hl w' hw'
    have f2 : Fr lkP h0 h1 := hf.trans (f1.weak (fun a b z => Or.inl ⟨z.1, by have := z.2.1; omega, z.2.2⟩))
    rw [a1, a2, a3, tnI (by omega), tnI (by omega), y1.2.2.2.2 _ V.1, y1.2.2.2.2 _ (unc_lt _ _), b01_0]
    have go := w177a (d := d) (p := p) ho hn9 h3 hs (c := c) (by omega) (h0 := h0) (Q := Q) (fun h' S' y' W' j' f' => w177 ho hn9 h3 hs hw hp hM K c h' (by omega) S' y' W' j' f') 2 0 h1 rfl S1 y1 W1 j1 (fun w' z => absurd z (Nat.not_lt_zero w')) f2
    refine ⟨ixR_nI l1 (by decide), ixR_nI l2 (by decide), fun z => ?_, fun z => ?_⟩
    · rw [z] at go
      exact go
    · rw [ts_nf z] at go
      exact go
theorem c177 {d : Nat} {h : AH} (HS : Sh h) {g : G} (ho : GOK g) (hn9 : g.n ≤ 9) {how F C w p : Nat} (h3 : how ≤ 3) (hs : VS g.n F C) (hw : w < 2) (hp : p < 2) (hl : LnR h g) (hN : AI h 23 0 = nI g.n) (hls : LsR h g.n F C) (hM : AI h 23 8 = nI w) {Q : Option Value → AH → Prop} (K : ∀ h', Fr lkP h h' → Q (some (.int (nI (lkA g how F C w p)))) h') : Cl (d + 4) 177 [.ref 23, .int (nI how), .int (nI p)] h Q := by
  have hoc : oc g.n F C ≤ 9 := Nat.le_trans (oc_le _ _ _) hn9
  refine Cl.enter rfl (g177_0 (d + 3) _ _ h HS Q ?_)
  rw [hN]
  refine c146 HS ho hs hl hls (fun h1 f1 y1 => ⟨rfl, f1.Sh HS, ?_⟩)
  refine c174 (f1.Sh HS) h3 hoc y1.1 (fun h2 f2 W2 => ⟨rfl, f2.Sh (f1.Sh HS), ?_⟩)
  have S2 := f2.Sh (f1.Sh HS)
  have y2 : Lay h2 g F C := y1.fr f2 ⟨by decide, by decide⟩ (fun a b h1 h2 z => by omega)
  rw [y2.1, tnI (by omega), y2.2.2.2.1 _ (Nat.le_refl _)]
  refine ⟨ixR_nI (by omega) (by decide), ?_⟩
  refine w177 ho hn9 h3 hs hw hp hM K (3 ^ oc g.n F C) h2 (Nat.le_refl _) S2 y2 W2 (fun c' g1 g2 => by omega) ((f1.weak (fun a b z => sol_lk z)).trans (f2.weak (fun a b z => Or.inr ⟨by omega, by omega⟩)))
