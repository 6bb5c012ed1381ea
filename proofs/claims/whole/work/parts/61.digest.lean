/-! the class's digest -/
def dmx (v : Int64) (x : Int32) : Int64 := (31 : Int64) * v + x.toInt64
def lnV (w : WD) (i k : Nat) : Int32 := if k = 0 then nI (w.g.a i) else if k = 1 then nI (w.g.b i) else if k = 2 then nI (sta w.t.F w.t.C i) else nI (w.g.c i)
def dI (w : WD) (i : Nat) (v : Int64) : Nat → Int64
  | 0 => v
  | k + 1 => dmx (dI w i v k) (lnV w i k)
def dL (w : WD) : Nat → Int64
  | 0 => 587
  | i + 1 => dI w i (dL w i) 4
def dW (w : WD) (v : Int64) : Nat → Int64
  | 0 => v
  | i + 1 => dmx (dmx (dW w v i) (nI (lkA w.g i w.t.F w.t.C w.t.w 0))) (nI (lkA w.g i w.t.F w.t.C w.t.w 1))
def dN (w : WD) (v : Int64) : Int64 := dmx (dmx (dmx (dmx (dmx (dmx (dmx (dmx (dmx (dmx (dmx v (nI (outc w.g w.t.F w.t.C))) (whA w.g w.t.F w.t.C 0)) (whA w.g w.t.F w.t.C 1)) (lsg w.g w.t.F w.t.C 0)) (lsg w.g w.t.F w.t.C 1)) (lsA w.g w.t)) (fsI (wyp w.g w.t.F w.t.C) (2 ^ w.g.n))) (bsA pop 0 (ptn w.g w.t.F w.t.C))) (bsA pop 1 (ptn w.g w.t.F w.t.C))) (bgA w.g w.t.F w.t.C 0)) (bgA w.g w.t.F w.t.C 1)
def dQ (w : WD) (v : Int64) : Int64 := if w.g.n = 0 then v else dW w (dN w v) 3
def dK (w : WD) (v : Int64) : Nat → Int64
  | 0 => v
  | p + 1 => if p < w.np then dmx (dK w v p) (nI (w.kf p)) else dK w v p
def dP (w : WD) (v : Int64) : Nat → Int64
  | 0 => v
  | i + 1 => dmx (dP w v i) (nI (w.cd i))
def dC (w : WD) (v : Int64) : Nat → Int64
  | 0 => v
  | i + 1 => dmx (dC w v i) (ctA w (nI i))
def dgA (w : WD) : Int64 := dC w (dP w (dK w (dQ w (dL w w.g.n)) 5) w.L) 10
theorem dK_end (w : WD) (v : Int64) : ∀ k, dK w v (w.np + k) = dK w v w.np
  | 0 => rfl
  | k + 1 => by
    show (if w.np + k < w.np then _ else dK w v (w.np + k)) = _
    rw [if_neg (by omega)]
    exact dK_end w v k
theorem lnQ_nI {n i : Nat} (hi : i < n) (hn : n ≤ 10) : lnQ n (nI i) = some i := by
  unfold lnQ
  rw [if_neg (nI_pos (by omega)), tnI (by omega), if_pos hi]
theorem whQ_nI {m k : Nat} (hk : k ≤ m) (hm : m < 1000) : whQ m (nI k) = some k := by
  unfold whQ
  rw [if_neg (nI_pos (by omega)), if_neg (fun z => by rw [nI_ltI (by omega) (by omega)] at z; omega), tnI (by omega)]
theorem lnR_nI {w : WD} (ok : WdOK w) {i k : Nat} (hi : i < w.g.n) (hk : k < 4) : lnR w (nI i) (nI k) = (lnV w i k, w) := by
  have es : ∀ q, q < 8 → (nI k = Int32.ofNat q ↔ k = q) := fun q hq => eqN (by omega) (by omega)
  unfold lnR lnV
  rw [lnQ_nI hi ok.2.1.1]
  dsimp only
  by_cases k0 : k = 0
  · rw [if_pos ((es 0 (by decide)).mpr k0), if_pos k0]
  rw [if_neg (fun z => k0 ((es 0 (by decide)).mp z)), if_neg k0]
  by_cases k1 : k = 1
  · rw [if_pos ((es 1 (by decide)).mpr k1), if_pos k1]
  rw [if_neg (fun z => k1 ((es 1 (by decide)).mp z)), if_neg k1]
  by_cases k2 : k = 2
  · rw [if_pos ((es 2 (by decide)).mpr k2), if_pos k2]
  rw [if_neg (fun z => k2 ((es 2 (by decide)).mp z)), if_neg k2, if_pos ((es 3 (by decide)).mpr (by omega))]
theorem callC {d m : Nat} {args : List Value} {w : WD} {p : Int32 × WD} {a : Int32} (f : CFp d m args w p) (e : p = (a, w)) {h0 h : AH} (c : CI h w) (fr : FrC h0 h) {Q : Option Value → AH → Prop} (K : ∀ h', CI h' w → FrC h0 h' → Q (some (.int a)) h') : Cl d m args h Q := by
  subst e
  exact f h Q c (fun h' c' f' => K h' c' (fr.trans f'))
theorem w114e {d : Nat} {w : WD} (ok : WdOK w) {v : Int64} {h0 : AH} {Q : Option Value → AH → Prop} (K : ∀ h', CI h' w → FrC h0 h' → Q (some (.long (dC w v 10))) h') : ∀ r i h, i + r = 10 → CI h w → FrC h0 h → Wp (d + 60) 114 321 [.ref 2, .long (dC w v i), mk0, .int (nI i), mk0] [] h Q
  | 0, i, h, hi, c, f => by
    have e : i = 10 := hi
    subst e
    exact g114_321 (d + 59) _ _ h c.Sh Q ⟨fun z => absurd z (by decide), fun _ => K h c f⟩
  | r + 1, i, h, hi, c, f => by
    refine g114_321 (d + 59) _ _ h c.Sh Q ⟨fun _ => ?_, fun z => absurd ((ltC (y := 10) (b := 10) rfl rfl (by omega) (by omega)).mpr (by omega)) z⟩
    refine callC (fC113 (d := d + 19) ok (nI i)) rfl c f (fun h' c' f' => ⟨_, rfl, c'.Sh, ?_⟩)
    rw [nI_1]
    exact w114e ok K r (i + 1) h' (by omega) c' f'
theorem w114d {d : Nat} {w : WD} (ok : WdOK w) {v : Int64} {h0 : AH} {Q : Option Value → AH → Prop} (K : ∀ h', CI h' w → FrC h0 h' → Q (some (.long (dC w (dP w v w.L) 10))) h') : ∀ r i h, i + r = w.L → CI h w → FrC h0 h → Wp (d + 60) 114 286 [.ref 2, .long (dP w v i), mk0, .int (nI i), mk0] [] h Q
  | 0, i, h, hi, c, f => by
    have hL := ok.1.1
    have e : i = w.L := hi
    subst e
    refine g114_286 (d + 58) _ _ h c.Sh Q ⟨fun z => ?_, fun _ => w114e ok K 10 0 h rfl c f⟩
    rw [c.1.1.1, nI_ltI (by omega) (by omega)] at z
    omega
  | r + 1, i, h, hi, c, f => by
    have hL := ok.1.1
    refine g114_286 (d + 58) _ _ h c.Sh Q ⟨fun _ => ?_, fun z => absurd (by rw [c.1.1.1, nI_ltI (by omega) (by omega)]; omega) z⟩
    rw [atS c.Sh 4 rfl (n := 50) (c := 20) (by omega), c.1.1.2 i (by omega), nI_1]
    exact w114d ok K r (i + 1) h (by omega) c f
theorem c_kind {d : Nat} {h : AH} (HS : Sh h) {id kd : Nat} (hk : kd < 5) (pk : PlK h id kd) {Q : Option Value → AH → Prop} (K : Q (some (.int (nI kd))) h) : ∃ j6 : Nat, ([(7, 52), (0, 1), (1, 4), (2, 7), (4, 14)] : List (Nat × Nat)).lookup (AK h id).1 = some j6 ∧ (exL [.ref id]).length ≤ mMax j6 ∧ Cl d j6 [.ref id] h Q := by
  rw [pk.2.1]
  have : kd = 0 ∨ kd = 1 ∨ kd = 2 ∨ kd = 3 ∨ kd = 4 := by omega
  rcases this with rfl | rfl | rfl | rfl | rfl
  · exact ⟨52, by decide, Nat.le_of_ble_eq_true rfl, Cl.enter rfl (g52_0 d _ h HS Q K)⟩
  · exact ⟨1, by decide, Nat.le_of_ble_eq_true rfl, Cl.enter rfl (g1_0 d _ h HS Q K)⟩
  · exact ⟨14, by decide, Nat.le_of_ble_eq_true rfl, Cl.enter rfl (g14_0 d _ h HS Q K)⟩
  · exact ⟨7, by decide, Nat.le_of_ble_eq_true rfl, Cl.enter rfl (g7_0 d _ h HS Q K)⟩
  · exact ⟨4, by decide, Nat.le_of_ble_eq_true rfl, Cl.enter rfl (g4_0 d _ h HS Q K)⟩
theorem w114c {d : Nat} {w : WD} (ok : WdOK w) {v : Int64} {h0 : AH} {Q : Option Value → AH → Prop} (K : ∀ h', CI h' w → FrC h0 h' → Q (some (.long (dC w (dP w (dK w v 5) w.L) 10))) h') : ∀ r i h, i + r = 5 → CI h w → FrC h0 h → Wp (d + 60) 114 243 [.ref 2, .long (dK w v i), mk0, .int (nI i), mk0] [] h Q
  | 0, i, h, hi, c, f => by
    have HS := c.Sh
    have e : i = 5 := hi
    subst e
    refine g114_243 (d + 59) _ _ h HS Q ⟨Or.inr (Or.inr (kS HS 22 rfl)), ?_⟩
    rw [K0_len HS 22 (c := 24) (n := 5) rfl]
    exact ⟨fun z => absurd z (by decide), fun _ => w114d ok K w.L 0 h (Nat.zero_add _) c f⟩
  | r + 1, i, h, hi, c, f => by
    have HS := c.Sh
    have hnp := ok.2.2.2.2.2.1
    have c7 := c.1.2.2.2.1
    refine g114_243 (d + 59) _ _ h HS Q ⟨Or.inr (Or.inr (kS HS 22 rfl)), ?_⟩
    rw [K0_len HS 22 (c := 24) (n := 5) rfl, tnI (by omega)]
    refine ⟨fun _ => ⟨ixR_nI (by omega) (by decide), fun z => ?_, fun id z => ?_⟩, fun z => absurd (by rw [nI_fold, nI_ltI (by omega) (by omega)]; omega) z⟩
    · have hge : ¬ i < w.np := fun q => by
        obtain ⟨id, e1, -⟩ := c7.1 i q
        rw [z] at e1
        cases e1
      have nx := w114c (d := d) ok K r (i + 1) h (by omega) c f
      rw [show dK w v (i + 1) = dK w v i from if_neg hge] at nx
      rw [nI_1]
      exact nx
    · have hlt : i < w.np := by
        apply Classical.byContradiction
        intro q
        rw [c7.2.1 i (by omega) (by omega)] at z
        cases z
      obtain ⟨id', e1, e2⟩ := c7.1 i hlt
      rw [z] at e1
      cases e1
      have nx := w114c (d := d) ok K r (i + 1) h (by omega) c f
      rw [show dK w v (i + 1) = dmx (dK w v i) (nI (w.kf i)) from if_pos hlt] at nx
      refine c_kind HS (ok.2.2.2.2.2.2.1 i hlt) e2 ⟨_, rfl, HS, ?_⟩
      rw [nI_1]
      exact nx
theorem w114b {d : Nat} {w : WD} (ok : WdOK w) (h0n : 0 < w.g.n) {v : Int64} {h0 : AH} {Q : Option Value → AH → Prop} (K : ∀ h', CI h' w → FrC h0 h' → Wp (d + 60) 114 243 [.ref 2, .long (dW w v 3), mk0, .int 0, mk0] [] h' Q) : ∀ r i h, i + r = 3 → CI h w → FrC h0 h → Wp (d + 60) 114 202 [.ref 2, .long (dW w v i), mk0, .int (nI i), mk0] [] h Q
  | 0, i, h, hi, c, f => by
    have e : i = 3 := hi
    subst e
    exact g114_202 (d + 59) _ _ h c.Sh Q ⟨fun z => absurd z (by decide), fun _ => K h c f⟩
  | r + 1, i, h, hi, c, f => by
    refine g114_202 (d + 59) _ _ h c.Sh Q ⟨fun _ => ?_, fun z => absurd ((ltC (y := 3) (b := 3) rfl rfl (by omega) (by omega)).mpr (by omega)) z⟩
    have e : ∀ p, p ≤ 1 → lkR w (nI i) (nI p) = (nI (lkA w.g i w.t.F w.t.C w.t.w p), w) := fun p hp => by
      unfold lkR
      rw [if_neg (by omega), whQ_nI (by omega) (by decide)]
      dsimp only
      rw [whQ_nI hp (by decide)]
    refine callC (fC106 (d := d + 19) ok (nI i) (nI 0)) (e 0 (by decide)) c f (fun h' c' f' => ⟨_, rfl, c'.Sh, ?_⟩)
    refine callC (fC106 (d := d + 19) ok (nI i) (nI 1)) (e 1 (by decide)) c' f' (fun h2 c2 f2 => ⟨_, rfl, c2.Sh, ?_⟩)
    rw [nI_1]
    exact w114b ok h0n K r (i + 1) h2 (by omega) c2 f2
theorem w114n {d : Nat} {w : WD} (ok : WdOK w) {h0 : AH} {Q : Option Value → AH → Prop} (K : ∀ h', CI h' w → FrC h0 h' → Wp (d + 60) 114 243 [.ref 2, .long (dQ w (dL w w.g.n)), mk0, .int 0, mk0] [] h' Q) {h : AH} (c : CI h w) (f : FrC h0 h) : Wp (d + 60) 114 6 [.ref 2, .long (dL w w.g.n), mk0, .int (nI w.g.n), mk0] [] h Q := by
  have hg := ok.2.1.1
  refine g114_6 (d + 58) _ _ h c.Sh Q ⟨fun z => ?_, fun _ => ?_⟩
  · rw [c.2.2.1.1, nI_ltI (by omega) (by omega)] at z
    omega
  · rw [c.NP ok]
    unfold dQ at K
    refine ⟨fun z => ?_, fun z => ?_⟩
    · rw [if_neg (by omega)] at K
      have n0 : ¬ w.g.n = 0 := by omega
      refine callC (fC94 (d := d + 19) ok) (if_neg n0) c f (fun h c f => ⟨_, rfl, c.Sh, ?_⟩)
      refine callC (fC98 (d := d + 19) ok 0) (if_neg n0) c f (fun h c f => ⟨_, rfl, c.Sh, ?_⟩)
      refine callC (fC98 (d := d + 19) ok 1) (if_neg n0) c f (fun h c f => ⟨_, rfl, c.Sh, ?_⟩)
      refine callC (fC99 (d := d + 19) ok 0) (if_neg n0) c f (fun h c f => ⟨_, rfl, c.Sh, ?_⟩)
      refine callC (fC99 (d := d + 19) ok 1) (if_neg n0) c f (fun h c f => ⟨_, rfl, c.Sh, ?_⟩)
      refine callC (fC101 (d := d + 19) ok) (if_neg n0) c f (fun h c f => ⟨_, rfl, c.Sh, ?_⟩)
      refine callC (fC102 (d := d + 19) ok) (if_neg n0) c f (fun h c f => ⟨_, rfl, c.Sh, ?_⟩)
      refine callC (fC103 (d := d + 19) ok 0) (if_neg n0) c f (fun h c f => ⟨_, rfl, c.Sh, ?_⟩)
      refine callC (fC103 (d := d + 19) ok 1) (if_neg n0) c f (fun h c f => ⟨_, rfl, c.Sh, ?_⟩)
      refine callC (fC105 (d := d + 19) ok 0) (if_neg n0) c f (fun h c f => ⟨_, rfl, c.Sh, ?_⟩)
      refine callC (fC105 (d := d + 19) ok 1) (if_neg n0) c f (fun h c f => ⟨_, rfl, c.Sh, ?_⟩)
      exact w114b ok z K 3 0 h rfl c f
    · rw [if_pos (by omega)] at K
      exact K h c f
theorem w114i {d : Nat} {w : WD} (ok : WdOK w) {i : Nat} (hi : i < w.g.n) {v : Int64} {h0 : AH} {Q : Option Value → AH → Prop} (K : ∀ h', CI h' w → FrC h0 h' → Wp (d + 60) 114 6 [.ref 2, .long (dI w i v 4), mk0, .int (nI (i + 1)), mk0] [] h' Q) : ∀ r k h, k + r = 4 → CI h w → FrC h0 h → Wp (d + 60) 114 20 [.ref 2, .long (dI w i v k), mk0, .int (nI i), .int (nI k)] [] h Q
  | 0, k, h, hk, c, f => by
    have e : k = 4 := hk
    subst e
    refine g114_20 (d + 59) _ _ _ h c.Sh Q ⟨fun _ => ?_, fun z => absurd (by decide) z⟩
    rw [nI_1]
    exact K h c f
  | r + 1, k, h, hk, c, f => by
    refine g114_20 (d + 59) _ _ _ h c.Sh Q ⟨fun z => ?_, fun _ => ?_⟩
    · rw [ltC (x := 3) (a := 3) rfl rfl (by omega) (by omega)] at z
      omega
    · refine callC (fC93 (d := d + 19) ok (nI i) (nI k)) (lnR_nI ok hi (by omega)) c f (fun h' c' f' => ⟨_, rfl, c'.Sh, ?_⟩)
      rw [nI_1]
      exact w114i ok hi K r (k + 1) h' (by omega) c' f'
theorem w114l {d : Nat} {w : WD} (ok : WdOK w) {h0 : AH} {Q : Option Value → AH → Prop} (K : ∀ h', CI h' w → FrC h0 h' → Wp (d + 60) 114 243 [.ref 2, .long (dQ w (dL w w.g.n)), mk0, .int 0, mk0] [] h' Q) : ∀ r i h, i + r = w.g.n → CI h w → FrC h0 h → Wp (d + 60) 114 6 [.ref 2, .long (dL w i), mk0, .int (nI i), mk0] [] h Q
  | 0, i, h, hi, c, f => by
    have e : i = w.g.n := hi
    rw [e]
    exact w114n ok K c f
  | r + 1, i, h, hi, c, f => by
    have hg := ok.2.1.1
    refine g114_6 (d + 58) _ _ h c.Sh Q ⟨fun _ => ?_, fun z => absurd (by rw [c.2.2.1.1, nI_ltI (by omega) (by omega)]; omega) z⟩
    exact w114i ok (by omega) (fun h' c' f' => w114l ok K r (i + 1) h' (by omega) c' f') 4 0 h rfl c f
theorem fC114 {d : Nat} {w : WD} (ok : WdOK w) {h : AH} (c : CI h w) {Q : Option Value → AH → Prop} (K : ∀ h', CI h' w → FrC h h' → Q (some (.long (dgA w))) h') : Cl (d + 60) 114 [.ref 2] h Q := by
  have HS := c.Sh
  refine Cl.enter rfl (g114_0 (d + 60) h HS Q ?_)
  exact w114l ok (fun h' c' f' => w114c ok K 5 0 h' rfl c' f') w.g.n 0 h (Nat.zero_add _) c (FrC.rfl HS)
