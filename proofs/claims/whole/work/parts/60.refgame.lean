/-! the reference's game -/
def rgmP (i j : Nat) : Prop := tkP i j ∨ i = 26 ∨ i = 45
theorem rgm_in {i j : Nat} (h : rgmP i j) : (i = 23 ∧ 32 ≤ j) ∨ (24 ≤ i ∧ i ≤ 26) ∨ (37 ≤ i ∧ i < 46) := by
  rcases h with h | h
  · have := tk_in h
    omega
  · omega
theorem rgm_no {i j : Nat} (h : (i = 23 ∧ j < 32) ∨ i = 24 ∨ i = 25 ∨ (27 ≤ i ∧ i ≤ 36)) : ¬ rgmP i j := fun z => by
  rcases z with z | z
  · have := tk_in z
    omega
  · omega
theorem w190a {d : Nat} {n : Nat} (hn : n ≤ 9) {v1 v2 v3 : Int32} {h0 : AH} (hN : AI h0 23 0 = nI n) {Q : Option Value → AH → Prop} (K : ∀ h', Fr (fun i _ => i = 45) h0 h' → (∀ j, j < n → AI h' 45 j = AI h0 26 j) → Wp d 190 35 [.ref 23, .int v1, .int v2, .int v3, .int 0, mk0, mk0, mk0] [] h' Q) : ∀ r i h, i + r = n → Sh h → Fr (fun i _ => i = 45) h0 h → (∀ j, j < i → AI h 45 j = AI h0 26 j) → Wp d 190 3 [.ref 23, .int v1, .int v2, .int v3, .int (nI i), mk0, mk0, mk0] [] h Q
  | 0, i, h, hi, HS, hf, hd => by
    have e : i = n := hi
    subst e
    refine g190_3 d _ _ _ _ h HS Q ⟨fun z => ?_, fun _ => K h hf hd⟩
    rw [hf.I (by omega), hN, nI_ltI (by omega) (by omega)] at z
    omega
  | r + 1, i, h, hi, HS, hf, hd => by
    have hlt : i < n := by omega
    refine g190_3 d _ _ _ _ h HS Q ⟨fun _ => ⟨ixR_nI (by omega) (by decide), ixR_nI (by omega) (by decide), ?_⟩, fun z => absurd (by rw [hf.I (by omega), hN, nI_ltI (by omega) (by omega)]; exact hlt) z⟩
    rw [tnI (by omega), nI_1]
    have f : Fr (fun i _ => i = 45) h (stI h 45 i (AI h 26 i)) := Fr.stI rfl
    refine w190a hn hN K r (i + 1) _ (by omega) (f.Sh HS) (hf.trans f) (fun j hj => ?_)
    by_cases e : j = i
    · rw [e, AI_stI_s, hf.I (by omega)]
    · rw [AI_stI_o _ _ (Or.inr e)]
      exact hd j (by omega)
theorem w190c {d : Nat} {n : Nat} (hn : n ≤ 9) {k : Nat} (hk : k ≤ 3) {x0 x1 x2 : Int32} {h0 : AH} (hN : AI h0 23 0 = nI n) {Q : Option Value → AH → Prop} (K : ∀ h', Fr (fun i _ => i = 26) h0 h' → (∀ j, j < n → AI h' 26 j = AI h0 45 j) → Q (some (.int (if k = 0 then x0 else if k = 1 then x1 else if k = 2 then x2 else (AL h0 23 42).toInt32))) h') : ∀ r i h, i + r = n → Sh h → Fr (fun i _ => i = 26) h0 h → (∀ j, j < i → AI h 26 j = AI h0 45 j) → Wp d 190 112 [.ref 23, mk0, mk0, .int (nI k), .int x1, .int x0, .int x2, .int (nI i)] [] h Q
  | 0, i, h, hi, HS, hf, hd => by
    have e : i = n := hi
    subst e
    have K' := K h hf hd
    refine g190_112 d _ _ _ _ _ h HS Q ⟨fun z => ?_, fun _ => ?_⟩
    · rw [hf.I (by omega), hN, nI_ltI (by omega) (by omega)] at z
      omega
    · rw [nI_eq0 (by omega), show (1 : Int32) = nI 1 from rfl, nI_eq (by omega) (by omega), show (2 : Int32) = nI 2 from rfl, nI_eq (by omega) (by omega), hf.L (by omega)]
      refine ⟨fun b => ?_, fun b => ⟨fun b1 => ?_, fun b1 => ⟨fun b2 => ?_, fun b2 => ?_⟩⟩⟩
      · rwa [if_pos b] at K'
      · rwa [if_neg b, if_pos b1] at K'
      · rwa [if_neg b, if_neg b1, if_pos b2] at K'
      · rwa [if_neg b, if_neg b1, if_neg b2] at K'
  | r + 1, i, h, hi, HS, hf, hd => by
    have hlt : i < n := by omega
    refine g190_112 d _ _ _ _ _ h HS Q ⟨fun _ => ⟨ixR_nI (by omega) (by decide), ixR_nI (by omega) (by decide), ?_⟩, fun z => absurd (by rw [hf.I (by omega), hN, nI_ltI (by omega) (by omega)]; exact hlt) z⟩
    rw [tnI (by omega), nI_1]
    have f : Fr (fun i _ => i = 26) h (stI h 26 i (AI h 45 i)) := Fr.stI rfl
    refine w190c hn hk hN K r (i + 1) _ (by omega) (f.Sh HS) (hf.trans f) (fun j hj => ?_)
    by_cases e : j = i
    · rw [e, AI_stI_s, hf.I (by omega)]
    · rw [AI_stI_o _ _ (Or.inr e)]
      exact hd j (by omega)
theorem w190 {d : Nat} {w : WD} (ok : WdOK w) {p q k : Nat} (hp : p < w.np) (hq : q < w.np) (hk : k ≤ 3) {h0 : AH} {Q : Option Value → AH → Prop} : ∀ f m t h, oc w.g.n t.F t.C ≤ f → m + f = 9 → TOK w.g t → t.w = (w.t.w + m) % 2 → Sh h → Fr rgmP h0 h → RI h0 w → IR h w.g t.F t.C → (∀ j, j < w.g.n → AI h 45 j = nI (sta w.t.F w.t.C j)) → (∀ h', Fr rgmP h0 h' → IR h' w.g w.t.F w.t.C → Q (some (.int (if k = 0 then (if outc w.g (gpl w.g (w.kf p) (w.kf q) f t (AL h 23 42)).1.F (gpl w.g (w.kf p) (w.kf q) f t (AL h 23 42)).1.C = 1 then 0 else 1) else if k = 1 then nI (m + (gpl w.g (w.kf p) (w.kf q) f t (AL h 23 42)).2.2) else if k = 2 then nI (gpl w.g (w.kf p) (w.kf q) f t (AL h 23 42)).1.F else (gpl w.g (w.kf p) (w.kf q) f t (AL h 23 42)).2.1.toInt32))) h') → Wp (d + 20) 190 35 [.ref 23, .int (nI p), .int (nI q), .int (nI k), .int (nI m), mk0, mk0, mk0] [] h Q := by
  have h9 := ok.2.2.1
  have hnp := ok.2.2.2.2.2.1
  have fin : ∀ f m t h, m ≤ 9 → ¬ outc w.g t.F t.C = 0 → TOK w.g t → Sh h → Fr rgmP h0 h → IR h w.g t.F t.C → (∀ j, j < w.g.n → AI h 45 j = nI (sta w.t.F w.t.C j)) → (∀ h', Fr rgmP h0 h' → IR h' w.g w.t.F w.t.C → Q (some (.int (if k = 0 then (if outc w.g (gpl w.g (w.kf p) (w.kf q) f t (AL h 23 42)).1.F (gpl w.g (w.kf p) (w.kf q) f t (AL h 23 42)).1.C = 1 then 0 else 1) else if k = 1 then nI (m + (gpl w.g (w.kf p) (w.kf q) f t (AL h 23 42)).2.2) else if k = 2 then nI (gpl w.g (w.kf p) (w.kf q) f t (AL h 23 42)).1.F else (gpl w.g (w.kf p) (w.kf q) f t (AL h 23 42)).2.1.toInt32))) h') → Cl (d + 19) 144 [.ref 23] h (fun r h6 => ∃ x8 : Int32, r = some (.int x8) ∧ Sh h6 ∧ (Cl (d + 19) 143 [.ref 23, .int 1] h6 (fun r h9 => ∃ x11 : Int32, r = some (.int x11) ∧ Sh h9 ∧ Wp (d + 20) 190 112 [.ref 23, mk0, mk0, .int (nI k), .int (nI m), .int (x8 - 1), .int x11, .int 0] [] h9 Q))) := by
    intro f m t h hm9 hne ht HS hf R h45 K
    rw [gpl_end hne] at K
    refine c144 (d := d + 16) HS R.1 ok.2.1 R.2.1 ht.1 R.2.2 ⟨_, rfl, HS, ?_⟩
    refine c143 (is := 1) HS ok.2.1.1 R.2.1 R.2.2 (by decide) ⟨_, rfl, HS, ?_⟩
    rw [stm1 ht.1]
    refine w190c h9 hk R.2.1 (fun h' f' hd => ?_) w.g.n 0 h (Nat.zero_add _) HS Fr.rfl (fun j hj => absurd hj (Nat.not_lt_zero j))
    have K' := K h' (hf.trans (f'.weak (fun i j z => Or.inr (Or.inl z)))) ⟨R.1.fr f' ⟨by omega, by omega⟩ (fun j => ⟨by omega, by omega⟩), by rw [f'.I (by omega)]; exact R.2.1, fun j hj => by rw [hd j hj]; exact h45 j hj⟩
    dsimp only at K'
    have e1 : (if outc w.g t.F t.C = 1 then (0 : Int32) else 1) = nI (outc w.g t.F t.C) - 1 := by
      have := outc_lt w.g t.F t.C
      have : outc w.g t.F t.C = 1 ∨ outc w.g t.F t.C = 2 := by omega
      rcases this with e | e
      · rw [e]; decide
      · rw [e]; decide
    rw [e1] at K'
    exact K'
  intro f
  induction f with
  | zero =>
    intro m t h hoc hm ht hw HS hf R0 R h45 K
    refine g190_35 (d + 19) _ _ _ _ h HS Q ?_
    have hne : ¬ outc w.g t.F t.C = 0 := fun z => by
      have := oc_pos ht.1 z
      omega
    refine c144 (d := d + 16) HS R.1 ok.2.1 R.2.1 ht.1 R.2.2 ⟨_, rfl, HS, ?_⟩
    have := outc_lt w.g t.F t.C
    rw [nI_eq0 (by omega)]
    exact ⟨fun z => absurd z hne, fun _ => fin 0 m t h (by omega) hne ht HS hf R h45 K⟩
  | succ f ih =>
    intro m t h hoc hm ht hw HS hf R0 R h45 K
    refine g190_35 (d + 19) _ _ _ _ h HS Q ?_
    refine c144 (d := d + 16) HS R.1 ok.2.1 R.2.1 ht.1 R.2.2 ⟨_, rfl, HS, ?_⟩
    have := outc_lt w.g t.F t.C
    rw [nI_eq0 (by omega)]
    refine ⟨fun z => ?_, fun z => fin (f + 1) m t h (by omega) z ht HS hf R h45 K⟩
    have hw2 := ok.2.2.2.1.2.1
    have e8 : AI h 23 8 = nI w.t.w := by rw [hf.I (rgm_no (by omega)), R0.2.2.2.1]
    have who : (nI w.t.w + nI m) - (nI w.t.w + nI m) / 2 * 2 = nI t.w := by
      rw [nI_add, show (2 : Int32) = nI 2 from rfl, pk_rem (by omega) (by decide) (by decide), hw]
    rw [e8, who]
    have htw := ht.2.1
    obtain ⟨l, hl, hop, e⟩ := tkA_ok (w := t.w) (kd := if t.w = 0 then w.kf p else w.kf q) (s := AL h 23 42) ok.2.1 ht.1 z
    have el : (tkA w.g t.F t.C t.w (if t.w = 0 then w.kf p else w.kf q) (AL h 23 42)).toNatClampNeg = l := by
      rw [e]
      exact tnI (by omega)
    rw [gpl_go z el] at K
    have hoc2 := oc_ply hl hop
    have cc : CoR h w.g := R0.2.2.1.fr hf (fun j => rgm_no (by omega))
    have go : ∀ y kd, y < w.np → kd = w.kf y → kd = (if t.w = 0 then w.kf p else w.kf q) → Wp (d + 20) 190 64 [.ref 23, .int (nI p), .int (nI q), .int (nI k), .int (nI m), .int (nI t.w), mk0, mk0] [.int (nI y), .ref 23] h Q := by
      intro y kd hy hkd ekd
      refine g190_64 (d + 19) _ _ _ _ _ _ _ h HS Q ⟨kS HS 23 rfl, ?_⟩
      have k29 : AI h 29 y = nI kd := by rw [hf.I (rgm_no (by omega)), R0.1.2.2.1 y hy, hkd]
      refine c188 (d := d + 12) HS ok.2.1 ht.1 htw z (by omega) (by rw [hkd]; exact ok.2.2.2.2.2.2.1 y hy) R cc k29 (fun h' f' s' => ⟨_, rfl, f'.Sh HS, ?_⟩)
      rw [ekd, e, nI_eq0 (by omega), tnI (by omega), nI_1]
      have R' : IR h' w.g t.F t.C := R.fr f' (fun i j a y => by have := tk_in y; omega)
      have f2 : ∀ x, Fr (fun i _ => i = 26) h' (stI h' 26 l x) := fun x => Fr.stI rfl
      have nx : ∀ x, x = nI (if t.w = 0 then 1 else 2) → Wp (d + 20) 190 35 [.ref 23, .int (nI p), .int (nI q), .int (nI k), .int (nI (m + 1)), mk0, mk0, mk0] [] (stI h' 26 l x) Q := by
        intro x hx
        have l42 : AL (stI h' 26 l x) 23 42 = sdA (if t.w = 0 then w.kf p else w.kf q) (AL h 23 42) := by
          show AL h' 23 42 = _
          rw [s', ekd]
        refine ih (m + 1) (plyT t l) _ (by omega) (by omega) (ht.ply hl hop) ?_ ((f2 x).Sh (f'.Sh HS)) ((hf.trans (f'.weak (fun i j y => Or.inl y))).trans ((f2 x).weak (fun i j y => Or.inr (Or.inl y)))) R0 ⟨R'.1.fr (f2 x) ⟨by omega, by omega⟩ (fun j => ⟨by omega, by omega⟩), by rw [(f2 x).I (by omega)]; exact R'.2.1, ?_⟩ (fun j hj => ?_) (fun h3 f3 R3 => ?_)
        · show 1 - t.w = (w.t.w + (m + 1)) % 2
          omega
        · rw [hx]
          exact R'.2.2.st (sta_ply hop)
        · rw [(f2 x).I (by omega), f'.I (by unfold tkP solP; omega)]
          exact h45 j hj
        · have K' := K h3 f3 R3
          rw [show m + ((gpl w.g (w.kf p) (w.kf q) f (plyT t l) (sdA (if t.w = 0 then w.kf p else w.kf q) (AL h 23 42))).2.2 + 1) = m + 1 + (gpl w.g (w.kf p) (w.kf q) f (plyT t l) (sdA (if t.w = 0 then w.kf p else w.kf q) (AL h 23 42))).2.2 by omega] at K'
          rw [l42]
          exact K'
      refine ⟨fun y0 => ⟨ixR_nI (by omega) (by decide), nx 1 (by rw [if_pos y0]; rfl)⟩, fun y0 => ⟨ixR_nI (by omega) (by decide), nx 2 (by rw [if_neg y0]; rfl)⟩⟩
    rw [nI_eq0 (by omega)]
    refine ⟨fun y => go p (w.kf p) hp rfl (by rw [if_pos y]), fun y => go q (w.kf q) hq rfl (by rw [if_neg y])⟩
theorem fR191 {d : Nat} {w : WD} (ok : WdOK w) (xj xc xs xw : Int32) : RFp (d + 40) 191 [.ref 23, .int xj, .int xc, .int xs, .int xw] w (gmR w xj xc xs xw) := by
  intro h Q c HS K
  have hnp := ok.2.2.2.2.2.1
  have hT := ok.2.2.2.1
  have h9 := ok.2.2.1
  unfold gmR at K
  refine Cl.enter rfl (g191_0 (d + 38) _ _ _ _ h HS Q ?_)
  rw [c.1.2.1]
  refine ⟨fun z => ?_, fun z => ?_⟩
  · rw [lnQ_neg z] at K
    exact K h c Fr.rfl
  rw [ltm (by omega) z]
  refine ⟨fun z2 => ?_, fun z2 => ?_⟩
  · rw [lnQ_ge (by omega) z z2] at K
    exact K h c Fr.rfl
  obtain ⟨p, hp, rfl, e⟩ := lnQ_lt (by omega) z (Decidable.byContradiction z2)
  rw [e] at K
  dsimp only at K
  refine ⟨fun z => ?_, fun z => ?_⟩
  · rw [lnQ_neg z] at K
    exact K h c Fr.rfl
  rw [ltm (by omega) z]
  refine ⟨fun z2 => ?_, fun z2 => ?_⟩
  · rw [lnQ_ge (by omega) z z2] at K
    exact K h c Fr.rfl
  obtain ⟨q, hq, rfl, e2⟩ := lnQ_lt (by omega) z (Decidable.byContradiction z2)
  rw [e2] at K
  dsimp only at K
  rw [c.NZ ok]
  refine ⟨fun n0 => ?_, fun n0 => ?_⟩
  · rw [if_pos n0] at K
    exact K h c Fr.rfl
  rw [if_neg n0] at K
  refine ⟨fun y0 => ?_, fun y0 => ⟨fun a => ?_, fun a => ⟨fun a2 => ?_, fun a2 => ?_⟩⟩⟩
  · rw [if_pos y0] at K
    exact K h c Fr.rfl
  · rw [if_neg y0, whQ_neg a] at K
    exact K h c Fr.rfl
  · rw [if_neg y0, whQ_big a a2] at K
    exact K h c Fr.rfl
  · obtain ⟨k, hk, rfl, e3⟩ := whQ_in (m := 3) (by decide) a a2
    rw [if_neg y0, e3] at K
    dsimp only at K
    have f1 : Fr rgmP h (stL h 23 42 xs.toInt64) := Fr.stL (Or.inl (by unfold tkP; omega))
    have f1' : Fr (fun i j => i = 23 ∧ j = 42) h (stL h 23 42 xs.toInt64) := Fr.stL ⟨rfl, rfl⟩
    have l1 : AL (stL h 23 42 xs.toInt64) 23 42 = xs.toInt64 := by rw [AL_stL, if_pos ⟨rfl, rfl⟩]
    have HS1 := f1.Sh HS
    have c1 : RI (stL h 23 42 xs.toInt64) w := c.sch0 f1' (fun i j z => by omega)
    have hoc : oc w.g.n w.t.F w.t.C ≤ 9 := Nat.le_trans (oc_le _ _ _) h9
    refine Cl.enter rfl (g190_0 (d + 39) _ _ _ _ HS1 _ (w190a h9 c1.2.1.2.1 (fun h2 f2 hd => ?_) w.g.n 0 _ (Nat.zero_add _) HS1 Fr.rfl (fun j hj => absurd hj (Nat.not_lt_zero j))))
    have l2 : AL h2 23 42 = xs.toInt64 := by rw [f2.L (by omega), l1]
    have ff2 : Fr rgmP h h2 := f1.trans (f2.weak (fun i j z => Or.inr (Or.inr z)))
    refine w190 (d := d + 19) ok hp hq hk 9 0 w.t h2 hoc rfl hT (by have := hT.2.1; omega) (f2.Sh HS1) ff2 c (c1.2.1.fr f2 (fun i j a z => by omega)) (fun j hj => by rw [hd j hj]; exact c1.2.1.2.2 j hj) (fun h3 f3 R3 => ⟨_, rfl, f3.Sh HS, ?_⟩)
    rw [l2, Nat.zero_add]
    exact K h3 (c.sch f3 (fun i j z => rgm_in z) R3) (rg_of f3 (fun i j z => rgm_in z))
