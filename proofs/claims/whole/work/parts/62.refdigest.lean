/-! the reference's digest -/
def RV (h0 h : AH) (w : WD) (v : Int64) : Prop := RI h w ∧ AL h 23 46 = v ∧ Sh h ∧ Fr rgP h0 h
theorem RV.mix {h0 h : AH} {w : WD} {v : Int64} (r : RV h0 h w v) {y : Int64} (x : Int32) (e : y = x.toInt64) : RV h0 (stL h 23 46 ((31 : Int64) * AL h 23 46 + y)) w (dmx v x) := by
  obtain ⟨a, b, c, f⟩ := r
  have g : Fr (fun i j => i = 23 ∧ j = 46) h (stL h 23 46 ((31 : Int64) * AL h 23 46 + y)) := Fr.stL ⟨rfl, rfl⟩
  refine ⟨a.sch0 g (fun i j z => by omega), ?_, g.Sh c, f.trans (g.weak (fun i j z => by unfold rgP; omega))⟩
  rw [AL_stL, if_pos ⟨rfl, rfl⟩, b, e]
  rfl
theorem RV.sch {P : Nat → Nat → Prop} {h0 h h' : AH} {w : WD} {v : Int64} (r : RV h0 h w v) (f : Fr P h h') (hp : ∀ i j, P i j → (i = 23 ∧ 32 ≤ j) ∨ (37 ≤ i ∧ i < 46)) (h46 : ¬ P 23 46) : RV h0 h' w v := by
  obtain ⟨a, b, c, g⟩ := r
  exact ⟨a.sch0 f hp, by rw [f.L h46]; exact b, f.Sh c, g.trans (f.weak (fun i j z => by have := hp i j z; unfold rgP; omega))⟩
theorem RV.lost {h0 h h' : AH} {w : WD} {v : Int64} (r : RV h0 h w v) (f : Fr rlP h h') (ls : LsR h' w.g.n w.t.F w.t.C) : RV h0 h' w v := by
  obtain ⟨c, b, s, g⟩ := r
  have hp : ∀ i j, rlP i j → (i = 23 ∧ 32 ≤ j ∧ j ≤ 39) ∨ (24 ≤ i ∧ i ≤ 26) ∨ (37 ≤ i ∧ i < 46) := fun i j z => by
    rcases z with z | z
    · unfold solP at z
      omega
    · omega
  have hno : ∀ i j, (i = 23 ∧ j ≤ 31) ∨ i = 24 ∨ i = 25 → ¬ rlP i j := fun i j z y => by
    rcases y with y | y
    · have := sol_in y
      omega
    · omega
  refine ⟨c.sch f (fun i j z => by have := hp i j z; omega) ⟨c.2.1.1.fr f ⟨hno _ _ (by decide), hno _ _ (by decide)⟩ (fun j => ⟨hno _ _ (by simp), hno _ _ (by simp)⟩), by rw [f.I (hno _ _ (by decide))]; exact c.2.1.2.1, ls⟩, by rw [f.L (fun z => by have := hp _ _ z; omega)]; exact b, f.Sh s, g.trans (f.weak (fun i j z => by have := hp i j z; unfold rgP; omega))⟩
theorem w197c {d : Nat} {w : WD} (ok : WdOK w) {v : Int64} {h0 : AH} {Q : Option Value → AH → Prop} (K : ∀ h', RV h0 h' w (dW w v 3) → Q none h') : ∀ r i h, i + r = 3 → RV h0 h w (dW w v i) → Wp (d + 50) 197 133 [.ref 23, .int (nI i)] [] h Q
  | 0, i, h, hi, rv => by
    have e : i = 3 := hi
    subst e
    exact g197_133 (d + 49) _ h rv.2.2.1 Q ⟨fun z => absurd z (by decide), fun _ => K h rv⟩
  | r + 1, i, h, hi, rv => by
    have hT := ok.2.2.2.1
    refine g197_133 (d + 49) _ h rv.2.2.1 Q ⟨fun _ => ?_, fun z => absurd ((ltC (y := 3) (b := 3) rfl rfl (by omega) (by omega)).mpr (by omega)) z⟩
    have c1 := rv.1
    refine c177 (d := d + 45) (p := 0) rv.2.2.1 ok.2.1 ok.2.2.1 (by omega) hT.1 hT.2.1 (by decide) c1.2.1.1 c1.2.1.2.1 c1.2.1.2.2 c1.2.2.2.1 (fun h1 f1 => ⟨_, rfl, f1.Sh rv.2.2.1, ?_⟩)
    have rv1 := (rv.sch f1 (fun i j z => lk_in z) (by unfold lkP; omega)).mix (nI (lkA w.g i w.t.F w.t.C w.t.w 0)) rfl
    have c2 := rv1.1
    refine c177 (d := d + 45) (p := 1) rv1.2.2.1 ok.2.1 ok.2.2.1 (by omega) hT.1 hT.2.1 (by decide) c2.2.1.1 c2.2.1.2.1 c2.2.1.2.2 c2.2.2.2.1 (fun h2 f2 => ⟨_, rfl, f2.Sh rv1.2.2.1, ?_⟩)
    have rv2 := (rv1.sch f2 (fun i j z => lk_in z) (by unfold lkP; omega)).mix (nI (lkA w.g i w.t.F w.t.C w.t.w 1)) rfl
    rw [nI_1]
    exact w197c ok K r (i + 1) _ (by omega) rv2
theorem w197b {d : Nat} {w : WD} (ok : WdOK w) (h0n : 0 < w.g.n) {v : Int64} {h0 : AH} {Q : Option Value → AH → Prop} (K : ∀ h', RV h0 h' w (dW w (dN w v) 3) → Q none h') {h : AH} (rv : RV h0 h w (dmx (dmx v (nI (outc w.g w.t.F w.t.C))) (whA w.g w.t.F w.t.C 0))) {y : Int64} (ey : y = (whA w.g w.t.F w.t.C 1).toInt64) : Wp (d + 50) 197 50 [.ref 23, mk0] [.long y, .ref 23] h Q := by
  have hT := ok.2.2.2.1
  have so : ∀ i j, solP i j → (i = 23 ∧ 32 ≤ j) ∨ (37 ≤ i ∧ i < 46) := fun i j z => sol_in z
  have s46 : ¬ solP 23 46 := by unfold solP; omega
  refine g197_50 (d + 49) _ _ h rv.2.2.1 Q ⟨kS rv.2.2.1 23 rfl, okS rv.2.2.1 23 rfl rfl, by decide, ?_⟩
  replace rv := rv.mix _ ey
  refine c154 (d := d + 44) (w := 0) rv.2.2.1 ok.2.1 hT.1 (by decide) rv.1.2.1.1 rv.1.2.1.2.1 rv.1.2.1.2.2 (fun h f => ⟨_, rfl, f.Sh rv.2.2.1, ?_⟩)
  replace rv := (rv.sch f so s46).mix (lsg w.g w.t.F w.t.C 0) rfl
  refine c154 (d := d + 44) (w := 1) rv.2.2.1 ok.2.1 hT.1 (by decide) rv.1.2.1.1 rv.1.2.1.2.1 rv.1.2.1.2.2 (fun h f => ⟨_, rfl, f.Sh rv.2.2.1, ?_⟩)
  replace rv := (rv.sch f so s46).mix (lsg w.g w.t.F w.t.C 1) rfl
  refine c160 (d := d + 44) rv.2.2.1 ok.2.1 ok.2.2.1 hT rv.1.2.1 rv.1.2.2.2 (fun h f ls => ⟨_, rfl, f.Sh rv.2.2.1, ?_⟩)
  replace rv := (rv.lost f ls).mix (lsA w.g w.t) rfl
  refine c163 (d := d + 47) rv.2.2.1 rv.1.2.1 ok.2.1 hT.1 ⟨_, rfl, rv.2.2.1, ?_⟩
  replace rv := rv.mix (fsI (wyp w.g w.t.F w.t.C) (2 ^ w.g.n)) rfl
  refine c166 (d := d + 46) (what := 0) rv.2.2.1 rv.1.2.1 ok.2.1 hT.1 (by decide) ⟨_, rfl, rv.2.2.1, ?_⟩
  replace rv := rv.mix (bsA pop 0 (ptn w.g w.t.F w.t.C)) rfl
  refine c166 (d := d + 46) (what := 1) rv.2.2.1 rv.1.2.1 ok.2.1 hT.1 (by decide) ⟨_, rfl, rv.2.2.1, ?_⟩
  replace rv := rv.mix (bsA pop 1 (ptn w.g w.t.F w.t.C)) rfl
  refine c171 (d := d + 44) (what := 0) rv.2.2.1 rv.1.2.1 rv.1.2.2.1 ok.2.1 hT.1 (by decide) (fun h f => ⟨_, rfl, f.Sh rv.2.2.1, ?_⟩)
  replace rv := (rv.sch f so s46).mix (bgA w.g w.t.F w.t.C 0) rfl
  refine c171 (d := d + 44) (what := 1) rv.2.2.1 rv.1.2.1 rv.1.2.2.1 ok.2.1 hT.1 (by decide) (fun h f => ⟨_, rfl, f.Sh rv.2.2.1, ?_⟩)
  replace rv := (rv.sch f so s46).mix (bgA w.g w.t.F w.t.C 1) rfl
  exact w197c ok K 3 0 _ rfl rv
theorem c197 {d : Nat} {w : WD} (ok : WdOK w) (h0n : 0 < w.g.n) {v : Int64} {h0 : AH} {Q : Option Value → AH → Prop} (K : ∀ h', RV h0 h' w (dW w (dN w v) 3) → Q none h') {h : AH} (rv : RV h0 h w v) : Cl (d + 50) 197 [.ref 23] h Q := by
  have hT := ok.2.2.2.1
  have so : ∀ i j, solP i j → (i = 23 ∧ 32 ≤ j) ∨ (37 ≤ i ∧ i < 46) := fun i j z => sol_in z
  have s46 : ¬ solP 23 46 := by unfold solP; omega
  refine Cl.enter rfl (g197_0 (d + 49) h rv.2.2.1 Q ?_)
  refine c144 (d := d + 46) rv.2.2.1 rv.1.2.1.1 ok.2.1 rv.1.2.1.2.1 hT.1 rv.1.2.1.2.2 ⟨_, rfl, rv.2.2.1, ?_⟩
  have rv1 := rv.mix (nI (outc w.g w.t.F w.t.C)) rfl
  rw [show AI (stL h 23 46 ((31 : Int64) * AL h 23 46 + (nI (outc w.g w.t.F w.t.C)).toInt64)) 23 0 = nI w.g.n from rv1.1.2.1.2.1]
  refine c150 (d := d + 45) rv1.2.2.1 ok.2.1 hT.1 rv1.1.2.1.1 rv1.1.2.1.2.2 (fun h4 f so4 => ⟨rfl, f.Sh rv1.2.2.1, (ixR_nI (by decide) (by decide) : ixR (nI 0) 118098), ?_⟩)
  have rv4 := rv1.sch f so s46
  have a0 : AI h4 40 ((0 : Int32)).toNatClampNeg = b01 (hv w.g w.t.F w.t.C 0) := so4.at0 hT.1 (by decide)
  have a1 : ∀ x, AI (stL h4 23 46 x) 40 ((1 : Int32)).toNatClampNeg = b01 (hv w.g w.t.F w.t.C 1) := fun x => so4.at0 (w := 1) hT.1 (by decide)
  rw [a0, a1, a1, b01_0, b01_0]
  have i1' : ixR (1 : Int32) 118098 := (ixR_nI (by decide) (by decide) : ixR (nI 1) 118098)
  have go : ∀ y0 y1 : Int64, y0 = (whA w.g w.t.F w.t.C 0).toInt64 → y1 = (whA w.g w.t.F w.t.C 1).toInt64 → Wp (d + 50) 197 50 [.ref 23, mk0] [.long y1, .ref 23] (stL h4 23 46 ((31 : Int64) * AL h4 23 46 + y0)) Q := fun y0 y1 e0 e1 => w197b ok h0n K (rv4.mix _ e0) e1
  have yes : ∀ k, hv w.g w.t.F w.t.C k = false → (1 : Int64) = (whA w.g w.t.F w.t.C k).toInt64 := fun k z => by
    unfold whA
    rw [if_neg (by rw [z]; decide)]
    rfl
  have no : ∀ k, ¬ hv w.g w.t.F w.t.C k = false → (0 : Int64) = (whA w.g w.t.F w.t.C k).toInt64 := fun k z => by
    unfold whA
    rw [if_pos (ts_nf z)]
    rfl
  exact ⟨fun z0 => ⟨i1', fun z1 => go 1 1 (yes 0 z0) (yes 1 z1), fun z1 => go 1 0 (yes 0 z0) (no 1 z1)⟩, fun z0 => ⟨i1', fun z1 => go 0 1 (no 0 z0) (yes 1 z1), fun z1 => go 0 0 (no 0 z0) (no 1 z1)⟩⟩
theorem w198e {d : Nat} {w : WD} (ok : WdOK w) {v : Int64} {h0 : AH} {Q : Option Value → AH → Prop} (K : ∀ h', RV h0 h' w (dC w v 10) → Q (some (.long (dC w v 10))) h') : ∀ r i h, i + r = 10 → RV h0 h w (dC w v i) → Wp (d + 60) 198 114 [.ref 23, .int (nI i), mk0] [] h Q
  | 0, i, h, hi, rv => by
    have e : i = 10 := hi
    subst e
    refine g198_114 (d + 59) _ h rv.2.2.1 Q ⟨fun z => absurd z (by decide), fun _ => ?_⟩
    rw [rv.2.1]
    exact K h rv
  | r + 1, i, h, hi, rv => by
    refine g198_114 (d + 59) _ h rv.2.2.1 Q ⟨fun _ => ?_, fun z => absurd ((ltC (y := 10) (b := 10) rfl rfl (by omega) (by omega)).mpr (by omega)) z⟩
    refine c194p (d := d + 20) ok (nI i) rv.1 rv.2.2.1 ⟨_, rfl, rv.2.2.1, ?_⟩
    rw [nI_1]
    exact w198e ok K r (i + 1) _ (by omega) (rv.mix (ctA w (nI i)) rfl)
theorem w198d {d : Nat} {w : WD} (ok : WdOK w) {v : Int64} {h0 : AH} {Q : Option Value → AH → Prop} (K : ∀ h', RV h0 h' w (dC w (dP w v w.L) 10) → Q (some (.long (dC w (dP w v w.L) 10))) h') : ∀ r i h, i + r = w.L → RV h0 h w (dP w v i) → Wp (d + 60) 198 87 [.ref 23, .int (nI i), mk0] [] h Q
  | 0, i, h, hi, rv => by
    have hL := ok.1.1
    have e : i = w.L := hi
    subst e
    refine g198_87 (d + 59) _ h rv.2.2.1 Q ⟨fun z => ?_, fun _ => w198e ok K 10 0 h rfl rv⟩
    rw [rv.1.1.1.1, nI_ltI (by omega) (by omega)] at z
    omega
  | r + 1, i, h, hi, rv => by
    have hL := ok.1.1
    refine g198_87 (d + 59) _ h rv.2.2.1 Q ⟨fun _ => ⟨ixR_nI (by omega) (by decide), ?_⟩, fun z => absurd (by rw [rv.1.1.1.1, nI_ltI (by omega) (by omega)]; omega) z⟩
    rw [tnI (by omega), rv.1.1.1.2 i (by omega), nI_1]
    exact w198d ok K r (i + 1) _ (by omega) (rv.mix (nI (w.cd i)) rfl)
theorem w198c {d : Nat} {w : WD} (ok : WdOK w) {v : Int64} {h0 : AH} {Q : Option Value → AH → Prop} (K : ∀ h', RV h0 h' w (dC w (dP w (dK w v 5) w.L) 10) → Q (some (.long (dC w (dP w (dK w v 5) w.L) 10))) h') : ∀ r i h, i + r = w.np → RV h0 h w (dK w v i) → Wp (d + 60) 198 60 [.ref 23, .int (nI i), mk0] [] h Q
  | 0, i, h, hi, rv => by
    have hnp := ok.2.2.2.2.2.1
    have e : i = w.np := hi
    subst e
    have e5 : dK w v 5 = dK w v w.np := by
      have := dK_end w v (5 - w.np)
      rwa [show w.np + (5 - w.np) = 5 by omega] at this
    rw [e5] at K
    refine g198_60 (d + 59) _ h rv.2.2.1 Q ⟨fun z => ?_, fun _ => w198d ok K w.L 0 h (Nat.zero_add _) rv⟩
    rw [rv.1.1.2.1, nI_ltI (by omega) (by omega)] at z
    omega
  | r + 1, i, h, hi, rv => by
    have hnp := ok.2.2.2.2.2.1
    refine g198_60 (d + 59) _ h rv.2.2.1 Q ⟨fun _ => ⟨ixR_nI (by omega) (by decide), ?_⟩, fun z => absurd (by rw [rv.1.1.2.1, nI_ltI (by omega) (by omega)]; omega) z⟩
    rw [tnI (by omega), rv.1.1.2.2.1 i (by omega), nI_1]
    have nx := rv.mix (nI (w.kf i)) rfl
    rw [show dmx (dK w v i) (nI (w.kf i)) = dK w v (i + 1) from (if_pos (show i < w.np by omega)).symm] at nx
    exact w198c ok K r (i + 1) _ (by omega) nx
theorem w198i {d : Nat} {w : WD} (ok : WdOK w) {i : Nat} (hi : i < w.g.n) {v : Int64} {h0 : AH} {Q : Option Value → AH → Prop} (K : ∀ h', RV h0 h' w (dI w i v 4) → Wp (d + 60) 198 9 [.ref 23, .int (nI (i + 1)), mk0] [] h' Q) : ∀ r k h, k + r = 4 → RV h0 h w (dI w i v k) → Wp (d + 60) 198 19 [.ref 23, .int (nI i), .int (nI k)] [] h Q
  | 0, k, h, hk, rv => by
    have e : k = 4 := hk
    subst e
    refine g198_19 (d + 59) _ _ h rv.2.2.1 Q ⟨fun z => absurd z (by decide), fun _ => ?_⟩
    rw [nI_1]
    exact K h rv
  | r + 1, k, h, hk, rv => by
    refine g198_19 (d + 59) _ _ h rv.2.2.1 Q ⟨fun _ => ?_, fun z => absurd ((ltC (y := 4) (b := 4) rfl rfl (by omega) (by omega)).mpr (by omega)) z⟩
    refine c139 rv.2.2.1 rv.1 ok hi (by omega) ⟨_, rfl, rv.2.2.1, ?_⟩
    rw [nI_1]
    exact w198i ok hi K r (k + 1) _ (by omega) (rv.mix (lnV w i k) rfl)
theorem w198l {d : Nat} {w : WD} (ok : WdOK w) {h0 : AH} {Q : Option Value → AH → Prop} (K : ∀ h', RV h0 h' w (dQ w (dL w w.g.n)) → Wp (d + 60) 198 60 [.ref 23, .int 0, mk0] [] h' Q) : ∀ r i h, i + r = w.g.n → RV h0 h w (dL w i) → Wp (d + 60) 198 9 [.ref 23, .int (nI i), mk0] [] h Q
  | 0, i, h, hi, rv => by
    have hg := ok.2.1.1
    have e : i = w.g.n := hi
    subst e
    refine g198_9 (d + 59) _ h rv.2.2.1 Q ⟨fun z => ?_, fun _ => ?_⟩
    · rw [rv.1.2.1.2.1, nI_ltI (by omega) (by omega)] at z
      omega
    · unfold dQ at K
      rw [rv.1.2.1.2.1, ltC (x := 0) (a := 0) rfl rfl (by omega) (by omega)]
      refine ⟨fun z => ?_, fun z => ?_⟩
      · rw [if_neg (by omega)] at K
        exact c197 (d := d + 9) ok z (fun h' rv' => ⟨rfl, rv'.2.2.1, K h' rv'⟩) rv
      · rw [if_pos (by omega)] at K
        exact K h rv
  | r + 1, i, h, hi, rv => by
    have hg := ok.2.1.1
    refine g198_9 (d + 59) _ h rv.2.2.1 Q ⟨fun _ => ?_, fun z => absurd (by rw [rv.1.2.1.2.1, nI_ltI (by omega) (by omega)]; omega) z⟩
    exact w198i ok (by omega) (fun h' rv' => w198l ok K r (i + 1) h' (by omega) rv') 4 0 h rfl rv
theorem fR198 {d : Nat} {w : WD} (ok : WdOK w) {h : AH} (c : RI h w) (HS : Sh h) {Q : Option Value → AH → Prop} (K : ∀ h', RI h' w → Fr rgP h h' → Q (some (.long (dgA w))) h') : Cl (d + 60) 198 [.ref 23] h Q := by
  refine Cl.enter rfl (g198_0 (d + 60) h HS Q ?_)
  have g : Fr (fun i j => i = 23 ∧ j = 46) h (stL h 23 46 587) := Fr.stL ⟨rfl, rfl⟩
  have rv : RV h (stL h 23 46 587) w (dL w 0) := by
    refine ⟨c.sch0 g (fun i j z => by omega), ?_, g.Sh HS, g.weak (fun i j z => by unfold rgP; omega)⟩
    rw [AL_stL, if_pos ⟨rfl, rfl⟩]
    rfl
  exact w198l ok (fun h' rv' => w198c ok (fun h2 rv2 => K h2 rv2.1 rv2.2.2.2) w.np 0 h' (Nat.zero_add _) rv') w.g.n 0 _ (Nat.zero_add _) rv
