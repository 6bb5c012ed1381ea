/-! the law's moves, and all rounds -/
def A89 (w : WD) (t : Nat) (h : AH) (Q : Option Value → AH → Prop) : Prop := Wp 1000 204 89 [.ref 0, .ref 2, .ref 23, .ref 24, .ref 25, .int (nI w.g.n), .int (nI w.t.w), mk0, .int (nI w.t.k), .int (lsA w.g w.t), .ref 26, .int (nI t), mk0, mk0, mk0, mk0, mk0] [] h Q
theorem LX.wr {Ls : Nat} {h h' h3 : AH} {w : WD} {t' : ST} {F C F' C' c : Nat} (V : LX Ls h w F C c) (D : CI h' (wT w t')) (f : FrC h h') (ok : TOK w.g t') (f3 : Fr (fun a _ => a = 24 ∨ a = 26) h' h3) (r24 : ∀ i, i < w.g.n → AI h3 24 i = nI (sta F' C' i)) (r26 : ∀ j, j < t'.k → AI h3 26 j = nI (t'.m j)) : LX Ls h3 (wT w t') F' C' c := by
  obtain ⟨v1, v2, v3, ⟨l1, l2, l3⟩, ⟨r1, r2⟩, v6, ⟨q1, q2⟩, v8, v9, b1, b2⟩ := V
  have e := f.2.1
  have eN : AN h3 = AN h := f3.1.trans e.1
  have eT : AT h3 = AT h := f3.2.1.trans e.2.1
  have eK : ∀ a, AK h3 a = AK h a := fun a => by rw [f3.2.2.1, f.K]
  have eI : ∀ a j, a = 23 ∨ a = 25 → AI h3 a j = AI h a j := fun a j ha => by rw [f3.I (by omega), f.I (by omega)]
  exact ⟨D.row f3 (fun a j z => by omega), v2.wT ok, v3, ⟨fun i hi => by
    show AI h3 23 (2 * i) = nI (w.g.a i) ∧ AI h3 23 (2 * i + 1) = nI (w.g.b i)
    rw [eI _ _ (Or.inl (Eq.refl _)), eI _ _ (Or.inl (Eq.refl _))]
    exact l1 i hi, by
    rw [eI _ _ (Or.inl (Eq.refl _))]
    exact l2, by
    rw [eI _ _ (Or.inl (Eq.refl _))]
    exact l3⟩, ⟨by rw [eK]; exact r1, r24⟩, fun k hk => by rw [eI _ _ (Or.inr (Eq.refl _))]; exact v6 k hk, ⟨by rw [eK]; exact q1, r26⟩, by rw [eK]; exact v8, by omega, by omega, by omega⟩
theorem nI_p1 {k : Nat} (h : 0 < k) : nI k - 1 = nI (k - 1) ∧ nI k + (-1) = nI (k - 1) := by
  obtain ⟨m, rfl⟩ : ∃ m, k = m + 1 := ⟨k - 1, by omega⟩
  exact ⟨nI_pred m, nI_m m⟩
theorem pos_nI {k : Nat} (h : 0 < k) (hk : k < 2 ^ 31) : (0 : Int32) < nI k := (ltC (x := 0) (a := 0) rfl rfl (by omega) hk).mpr h
section MOVES
variable {Ls : Nat} {Q : Option Value → AH → Prop}
/-- a move is taken back -/
theorem wBack {w : WD} {t c : Nat} {h : AH} (V : LX Ls h w w.t.F w.t.C c) (K : ∀ h' w', LX Ls h' w' w'.t.F w'.t.C c → A89 w' (t + 1) h' Q) : Cl 999 97 [.ref 2] h (fun r h18 => ∃ x20 : Int32, r = some (.int x20) ∧ Sh h18 ∧ (((0 : Int32) < nI w.t.k → Wp 1000 204 530 [.ref 0, .ref 2, .ref 23, .ref 24, .ref 25, .int (nI w.g.n), .int (nI w.t.w), mk0, .int (nI w.t.k), .int (lsA w.g w.t), .ref 26, .int (nI t), mk0, mk0, mk0, mk0, mk0] [.int (nI w.t.k - ((1 : Int32))), .int x20] h18 Q) ∧ (¬ (0 : Int32) < nI w.t.k → Wp 1000 204 530 [.ref 0, .ref 2, .ref 23, .ref 24, .ref 25, .int (nI w.g.n), .int (nI w.t.w), mk0, .int (nI w.t.k), .int (lsA w.g w.t), .ref 26, .int (nI t), mk0, mk0, mk0, mk0, mk0] [.int (-103 : Int32), .int x20] h18 Q))) := by
  have hn := V.2.2.1
  have hT := V.2.1.2.2.2.1
  have hkn := hT.k_le
  by_cases hk : w.t.k = 0
  · have e : bkR w = (-103, w) := if_pos (Or.inr hk)
    have no : ¬ (0 : Int32) < nI w.t.k := by rw [hk]; decide
    refine useP (fC97 (d := 959) V.2.1) e h _ V.1 (fun h2 C2 f2 => ⟨_, rfl, f2.1, fun z => absurd z no, fun _ => ?_⟩)
    refine g204_530 1000 _ _ _ _ _ _ _ h2 f2.1 Q ⟨fun _ => ⟨fun z => absurd z no, fun _ => ?_⟩, fun z => absurd rfl z⟩
    rw [nI_1]
    exact K h2 w (V.frC C2 f2)
  · have e : bkR w = (nI (w.t.k - 1), wT w (undT w.t)) := if_neg (fun q => q.elim (fun z => by omega) hk)
    have yes : (0 : Int32) < nI w.t.k := pos_nI (by omega) (by omega)
    have hp := nI_p1 (k := w.t.k) (by omega)
    refine useP (fC97 (d := 959) V.2.1) e h _ V.1 (fun h2 C2 f2 => ⟨_, rfl, f2.1, fun _ => ?_, fun z => absurd yes z⟩)
    have mo : AK h2 26 = (20, 12) ∧ AI h2 26 (w.t.k - 1) = nI (w.t.m (w.t.k - 1)) := by
      obtain ⟨-, -, -, -, -, -, ⟨q1, q2⟩, -⟩ := V
      exact ⟨by rw [f2.K]; exact q1, by rw [f2.I (by decide)]; exact q2 _ (by omega)⟩
    have hm := (hT.2.2.2.1 (w.t.k - 1) (by omega)).1
    have lt := hT.lt V.2.1.2.1.1
    rw [hp.1]
    refine g204_530 1000 _ _ _ _ _ _ _ h2 f2.1 Q ⟨fun _ => ⟨fun _ => ?_, fun z => absurd yes z⟩, fun z => absurd rfl z⟩
    rw [hp.2, tnI (by omega), mo.2, tnI (by omega)]
    refine ⟨by rw [mo.1], in12 mo.1 (by omega), ixR_nI (by omega) (by decide), ?_⟩
    have V3 : LX Ls (stI h2 24 (w.t.m (w.t.k - 1)) (nI 0)) (wT w (undT w.t)) (undT w.t).F (undT w.t).C c := by
      have r2 := V.2.2.2.2.1.2
      have q2 := V.2.2.2.2.2.2.1.2
      refine V.wr C2 f2 (hT.und V.2.1.2.1.1 (by omega)) (Fr.stI (P := fun a _ => a = 24 ∨ a = 26) (Or.inl rfl)) (fun i hi => ?_) (fun j hj => ?_)
      · show AI (stI h2 24 (w.t.m (w.t.k - 1)) (nI 0)) 24 i = nI (sta (dif w.t.F (2 ^ w.t.m (w.t.k - 1))) (dif w.t.C (2 ^ w.t.m (w.t.k - 1))) i)
        rw [sta_und lt.1 lt.2]
        by_cases z : i = w.t.m (w.t.k - 1)
        · rw [if_pos z, z, AI_stI_s]
        · rw [if_neg z, AI_stI_o _ _ (Or.inr z), f2.I (by decide)]
          exact r2 i hi
      · have hj2 : j < w.t.k - 1 := hj
        rw [AI_stI_o _ _ (Or.inl (by decide)), f2.I (by decide)]
        exact q2 j (by omega)
    have kk := K _ _ V3
    have e6 : (1 : Int32) - nI w.t.w = nI (1 - w.t.w) := by
      have := hT.2.1
      rw [fa_lit 1, pk_sub (by omega)]
    have e9 : lsA w.g (undT w.t) = if lsA w.g w.t < nI (w.t.k - 1) then lsA w.g w.t else -1 := lsA_und (by omega) (by omega)
    unfold A89 at kk
    have kk2 : Wp 1000 204 89 [.ref 0, .ref 2, .ref 23, .ref 24, .ref 25, .int (nI w.g.n), .int (nI (1 - w.t.w)), mk0, .int (nI (w.t.k - 1)), .int (lsA w.g (undT w.t)), .ref 26, .int (nI (t + 1)), mk0, mk0, mk0, mk0, mk0] [] (stI h2 24 (w.t.m (w.t.k - 1)) (nI 0)) Q := kk
    rw [e9] at kk2
    rw [e6, nI_1]
    refine ⟨fun z => ?_, fun z => ?_⟩
    · rw [if_pos z] at kk2
      exact kk2
    · rw [if_neg z] at kk2
      exact kk2
/-- a lane that can't be taken is refused -/
theorem wNo {w : WD} {t c l : Nat} (hl : l < w.g.n) {h : AH} (V : LX Ls h w w.t.F w.t.C c) (hno : ¬ (outc w.g w.t.F w.t.C = 0 ∧ opb w.t.F w.t.C l = true)) (K : ∀ h' w', LX Ls h' w' w'.t.F w'.t.C c → A89 w' (t + 1) h' Q) : Wp 1000 204 592 [.ref 0, .ref 2, .ref 23, .ref 24, .ref 25, .int (nI w.g.n), .int (nI w.t.w), mk0, .int (nI w.t.k), .int (lsA w.g w.t), .ref 26, .int (nI t), mk0, .int (nI l), mk0, mk0, mk0] [.int (0 : Int32)] h Q := by
  have hn := V.2.2.1
  have e : tkR w (nI l) = (-103, w) := by
    unfold tkR
    rw [lnQ_j hl (by omega)]
    exact if_neg hno
  refine g204_592 999 _ _ _ _ _ _ _ h V.1.Sh Q ⟨fun _ => ?_, fun z => absurd rfl z⟩
  refine useP (fC96 (d := 959) V.2.1 (nI l)) e h _ V.1 (fun h2 C2 f2 => ⟨_, rfl, f2.1, ?_⟩)
  refine g204_648 999 _ _ _ _ _ _ _ _ _ _ h2 f2.1 Q ⟨fun _ => ⟨fun _ => ?_, fun z => absurd rfl z⟩, fun z => absurd rfl z⟩
  rw [nI_1]
  exact K h2 w (V.frC C2 f2)
/-- a lane is taken -/
theorem wYes {w : WD} {t c l : Nat} (hl : l < w.g.n) {h : AH} (V : LX Ls h w w.t.F w.t.C c) (h0c : outc w.g w.t.F w.t.C = 0) (ho : opb w.t.F w.t.C l = true) (K : ∀ h' w', LX Ls h' w' w'.t.F w'.t.C (c + 2) → A89 w' (t + 1) h' Q) : Wp 1000 204 592 [.ref 0, .ref 2, .ref 23, .ref 24, .ref 25, .int (nI w.g.n), .int (nI w.t.w), mk0, .int (nI w.t.k), .int (lsA w.g w.t), .ref 26, .int (nI t), mk0, .int (nI l), mk0, mk0, mk0] [.int (1 : Int32)] h Q := by
  have hn := V.2.2.1
  have hT := V.2.1.2.2.2.1
  have hw := hT.2.1
  have hkn := hT.k_lt hl ho
  have lt := hT.lt V.2.1.2.1.1
  have e : tkR w (nI l) = (nI (w.t.k + 1), wT w (plyT w.t l)) := by
    unfold tkR
    rw [lnQ_j hl (by omega)]
    exact if_pos ⟨h0c, ho⟩
  have e6 : (1 : Int32) - nI w.t.w = nI (1 - w.t.w) := by rw [fa_lit 1, pk_sub (by omega)]
  have e6a : (1 : Int32) + nI w.t.w = nI (1 + w.t.w) := by rw [fa_lit 1, nI_add]
  refine g204_592 999 _ _ _ _ _ _ _ h V.1.Sh Q ⟨fun z => absurd z (by decide), fun _ => ?_⟩
  refine jh V V.vs hw (fun h1 V1 HS1 => ⟨_, rfl, HS1, ?_⟩)
  -- what is asked of the mover afterwards
  have at707 : ∀ (had : Bool) (s0 : Int32) (b : Bool) (h4 : AH), had = (hv w.g w.t.F w.t.C w.t.w == decide (w.t.w = 0)) → b = (hv w.g (plyT w.t l).F (plyT w.t l).C (plyT w.t l).w == decide (w.t.w = 0)) → (s0 = 0 ↔ b = false) → LX Ls h4 (wT w (plyT w.t l)) (plyT w.t l).F (plyT w.t l).C (c + 2) → Wp 1000 204 707 [.ref 0, .ref 2, .ref 23, .ref 24, .ref 25, .int (nI w.g.n), .int (nI (1 - w.t.w)), mk0, .int (nI w.t.k), .int (lsA w.g w.t), .ref 26, .int (nI t), mk0, mk0, mk0, .int (b01 had), mk0] [.int s0] h4 Q := by
    intro had s0 b h4 ehad eb hs V4
    have kk := K _ _ V4
    unfold A89 at kk
    have kk2 : Wp 1000 204 89 [.ref 0, .ref 2, .ref 23, .ref 24, .ref 25, .int (nI w.g.n), .int (nI (1 - w.t.w)), mk0, .int (nI (w.t.k + 1)), .int (lsA w.g (plyT w.t l)), .ref 26, .int (nI (t + 1)), mk0, mk0, mk0, mk0, mk0] [] h4 Q := kk
    have el : lose w.g w.t l = (had && !b) := by rw [ehad, eb]; rfl
    rw [lsA_ply (by omega) lt.1 lt.2 (by omega) ho hw, el] at kk2
    have hls : lsA w.g w.t = -1 ∨ ∃ j, j < w.t.k ∧ lsA w.g w.t = nI j := fsI_or _ _
    have neg : lsA w.g w.t < 0 ↔ lsA w.g w.t = -1 := by
      rcases hls with z | ⟨j, hj, z⟩
      · rw [z]
        decide
      · rw [z]
        exact ⟨fun q => absurd q (nI_pos (by omega)), fun q => absurd q (nI_m1 (by omega))⟩
    refine g204_707 1000 _ _ _ _ _ _ _ h4 V4.1.Sh Q ?_
    rw [nI_1, nI_1, neg, b01_0, hs]
    refine ⟨fun z => ?_, fun z => ?_⟩
    · rw [if_pos z] at kk2
      refine ⟨fun y => ?_, fun y => ⟨fun x => ?_, fun x => ?_⟩⟩
      · rw [y, Bool.false_and, if_neg (by decide)] at kk2
        rw [z]
        exact kk2
      · rw [ts_nf y, x, if_pos (show (true && !false) = true from rfl)] at kk2
        exact kk2
      · rw [ts_nf x, Bool.not_true, Bool.and_false, if_neg (by decide)] at kk2
        rw [z]
        exact kk2
    · rw [if_neg z] at kk2
      exact kk2
  have at648 : ∀ (had : Bool) (v15 : Int32) (h2 : AH), had = (hv w.g w.t.F w.t.C w.t.w == decide (w.t.w = 0)) → v15 = b01 had → CI h2 (wT w (plyT w.t l)) → FrC h1 h2 → Wp 1000 204 648 [.ref 0, .ref 2, .ref 23, .ref 24, .ref 25, .int (nI w.g.n), .int (nI w.t.w), mk0, .int (nI w.t.k), .int (lsA w.g w.t), .ref 26, .int (nI t), mk0, .int (nI l), .int (1 : Int32), .int v15, mk0] [.int (nI w.t.k + ((1 : Int32))), .int (nI (w.t.k + 1))] h2 Q := by
    intro had v15 h2 ehad e15 C2 f2
    subst e15
    have k26 : AK h2 26 = (20, 12) := by
      rw [f2.K]
      exact V1.2.2.2.2.2.2.1.1
    refine g204_648 999 _ _ _ _ _ _ _ _ _ _ h2 f2.1 Q ⟨fun _ => ⟨fun z => absurd z (by decide), fun _ => ?_⟩, fun z => absurd (nI_1 _).symm z⟩
    rw [e6, e6a, tnI (by omega), tnI (by omega)]
    refine ⟨ixR_nI (by omega) (by decide), by rw [k26], in12 k26 (by omega), ?_⟩
    have V3 : LX Ls (stI (stI h2 24 l (nI (1 + w.t.w))) 26 w.t.k (nI l)) (wT w (plyT w.t l)) (plyT w.t l).F (plyT w.t l).C (c + 1) := by
      have r2 := V1.2.2.2.2.1.2
      have q2 := V1.2.2.2.2.2.2.1.2
      refine V1.wr C2 f2 (hT.ply hl ho) ((Fr.stI (P := fun a _ => a = 24 ∨ a = 26) (Or.inl rfl)).trans (Fr.stI (P := fun a _ => a = 24 ∨ a = 26) (Or.inr rfl))) (fun i hi => ?_) (fun j hj => ?_)
      · rw [AI_stI_o _ _ (Or.inl (by decide)), sta_ply ho]
        by_cases z : i = l
        · rw [if_pos z, z, AI_stI_s]
          by_cases y : w.t.w = 0
          · rw [if_pos y, y]
          · rw [if_neg y, show w.t.w = 1 from by omega]
        · rw [if_neg z, AI_stI_o _ _ (Or.inr z), f2.I (by decide)]
          exact r2 i hi
      · have hj2 : j < w.t.k + 1 := hj
        show AI (stI (stI h2 24 l (nI (1 + w.t.w))) 26 w.t.k (nI l)) 26 j = nI (upN w.t.m w.t.k l j)
        by_cases z : j = w.t.k
        · rw [z, AI_stI_s, upN_s]
        · rw [AI_stI_o _ _ (Or.inr z), AI_stI_o _ _ (Or.inl (by decide)), upN_o _ _ z, f2.I (by decide)]
          exact q2 j (by omega)
    have hw2 : 1 - w.t.w < 2 := by omega
    refine jh (w := wT w (plyT w.t l)) (who := 1 - w.t.w) V3 V3.vs hw2 (fun h4 V4 HS4 => ⟨_, rfl, HS4, ?_⟩)
    have o1 : nI (1 - w.t.w) = 1 ↔ 1 - w.t.w = 1 := by
      have := nI_eq (a := 1 - w.t.w) (b := 1) (by omega) (by omega)
      exact this
    have at7 : ∀ (s0 : Int32), (s0 = 0 ↔ (hv w.g (plyT w.t l).F (plyT w.t l).C (1 - w.t.w) == decide (w.t.w = 0)) = false) → Wp 1000 204 707 [.ref 0, .ref 2, .ref 23, .ref 24, .ref 25, .int (nI w.g.n), .int (nI (1 - w.t.w)), mk0, .int (nI w.t.k), .int (lsA w.g w.t), .ref 26, .int (nI t), mk0, mk0, mk0, .int (b01 had), mk0] [.int s0] h4 Q := fun s0 hs => at707 had s0 _ h4 ehad rfl hs V4
    show (nI (1 - w.t.w) = 1 → (b01 (hv w.g (plyT w.t l).F (plyT w.t l).C (1 - w.t.w)) = 1 → _) ∧ (¬ b01 (hv w.g (plyT w.t l).F (plyT w.t l).C (1 - w.t.w)) = 1 → _)) ∧ (¬ nI (1 - w.t.w) = 1 → (b01 (hv w.g (plyT w.t l).F (plyT w.t l).C (1 - w.t.w)) = 0 → _) ∧ (¬ b01 (hv w.g (plyT w.t l).F (plyT w.t l).C (1 - w.t.w)) = 0 → _))
    rw [o1, b01_0, b01_1]
    refine ⟨fun z => ⟨fun y => at7 1 ?_, fun y => at7 0 ?_⟩, fun z => ⟨fun y => at7 1 ?_, fun y => at7 0 ?_⟩⟩
    · rw [y, decide_eq_true (show w.t.w = 0 by omega)]; decide
    · rw [ts_nt y, decide_eq_true (show w.t.w = 0 by omega)]; decide
    · rw [y, decide_eq_false (show ¬ w.t.w = 0 by omega)]; decide
    · rw [ts_nf y, decide_eq_false (show ¬ w.t.w = 0 by omega)]; decide
  have at618 : ∀ (s0 : Int32) (had : Bool), had = (hv w.g w.t.F w.t.C w.t.w == decide (w.t.w = 0)) → (b01 (hv w.g w.t.F w.t.C w.t.w) = s0 ↔ had = true) → Wp 1000 204 618 [.ref 0, .ref 2, .ref 23, .ref 24, .ref 25, .int (nI w.g.n), .int (nI w.t.w), mk0, .int (nI w.t.k), .int (lsA w.g w.t), .ref 26, .int (nI t), mk0, .int (nI l), .int (1 : Int32), mk0, mk0] [.int s0, .int (b01 (hv w.g w.t.F w.t.C w.t.w))] h1 Q := by
    intro s0 had ehad hs
    refine g204_618 999 _ _ _ _ _ _ _ _ _ h1 HS1 Q ⟨fun z => ?_, fun z => ?_⟩
    · refine useP (fC96 (d := 959) V1.2.1 (nI l)) e h1 _ V1.1 (fun h2 C2 f2 => ⟨_, rfl, f2.1, fun y => absurd y (by decide), fun _ => ?_⟩)
      exact at648 had 1 h2 ehad (by rw [hs.mp z]; rfl) C2 f2
    · refine useP (fC96 (d := 959) V1.2.1 (nI l)) e h1 _ V1.1 (fun h2 C2 f2 => ⟨_, rfl, f2.1, fun y => absurd y (by decide), fun _ => ?_⟩)
      exact at648 had 0 h2 ehad (by rw [ts_nt (fun q => z (hs.mpr q))]; rfl) C2 f2
  have ub : nI w.t.w = 0 ↔ w.t.w = 0 := nI_eq0 (by omega)
  rw [ub]
  refine ⟨fun y => at618 1 _ rfl ?_, fun y => at618 0 _ rfl ?_⟩
  · rw [decide_eq_true y]
    cases hv w.g w.t.F w.t.C w.t.w <;> decide
  · rw [decide_eq_false y]
    cases hv w.g w.t.F w.t.C w.t.w <;> decide
/-- a round's move -/
theorem wMove (hLs : Ls < 2 ^ 31) {w : WD} {t c : Nat} (ht : t < 8) {h : AH} (V : LX Ls h w w.t.F w.t.C c) (K : ∀ h' w', LX Ls h' w' w'.t.F w'.t.C (c + 2) → A89 w' (t + 1) h' Q) : Wp 1000 204 365 [.ref 0, .ref 2, .ref 23, .ref 24, .ref 25, .int (nI w.g.n), .int (nI w.t.w), .int (nI (outc w.g w.t.F w.t.C)), .int (nI w.t.k), .int (lsA w.g w.t), .ref 26, .int (nI t), .int (nI w.g.n), mk0, mk0, mk0, mk0] [] h Q := by
  have hn := V.2.2.1
  have hT := V.2.1.2.2.2.1
  have K0' : ∀ h' w', LX Ls h' w' w'.t.F w'.t.C c → A89 w' (t + 1) h' Q := fun h' w' V' => K h' w' (V'.up (by omega))
  have ho := outc_lt w.g w.t.F w.t.C
  refine g204_365 999 _ _ _ _ _ _ _ h V.1.Sh Q ⟨fun z => absurd z (by rw [nI_ltI (by omega) (by omega)]; omega), fun _ => ?_⟩
  have e6 : (6 : Int32) + nI t = nI (6 + t) := by rw [fa_lit 6, nI_add]
  rw [e6]
  refine c128 (d := 999) (k := 6 + t) V.1.Sh V.2.2.2.2.2.2.2.1 hLs (by omega) (fun x hx => ⟨_, rfl, V.1.Sh, by rw [nI_eq0 (by omega)]; omega, fun _ => wBack V K0', fun _ => ?_⟩)
  have el : nI x - nI x / nI w.g.n * nI w.g.n = nI (x % w.g.n) := pk_rem (by omega) (by omega) (by omega)
  have hl : x % w.g.n < w.g.n := Nat.mod_lt _ (by omega)
  rw [el]
  generalize x % w.g.n = l at hl
  rw [nI_eq0 (by omega)]
  refine ⟨fun z0 => ⟨ixR_nI (by omega) (by decide), ?_⟩, fun z0 => wNo hl V (fun q => z0 q.1) K0'⟩
  have hst := sta_lt w.t.F w.t.C l
  rw [tnI (by omega), V.2.2.2.2.1.2 l hl, nI_eq0 (by omega), sta_opb]
  exact ⟨fun z => wYes hl V z0 z K, fun z => wNo hl V (fun q => z q.2) K0'⟩
/-- all rounds -/
theorem w89 (hLs : Ls < 2 ^ 31) (KQ : ∀ h, LB h 800 → Q (some (.int 1)) h) : ∀ r t h w, t + r = 8 → LX Ls h w w.t.F w.t.C (100 * t) → A89 w t h Q
  | 0, t, h, w, ht, V => by
    have hn := V.2.2.1
    have ok := V.2.1
    have e8 : t = 8 := by omega
    subst e8
    have hk := ok.2.2.2.1.k_le
    unfold A89
    have q93 : lnR w (nI w.g.n) 0 = (-101, w) := by
      unfold lnR
      rw [lnQ_n (by omega)]
    have q93b : lnR w 0 4 = (-102, w) := by
      have : lnQ w.g.n 0 = some 0 := lnQ_j (n := w.g.n) (j := 0) (by omega) (by omega)
      unfold lnR
      rw [this]
      exact (if_neg (by decide)).trans ((if_neg (by decide)).trans ((if_neg (by decide)).trans (if_neg (by decide))))
    have q96 : tkR w (nI w.g.n) = (-101, w) := by
      unfold tkR
      rw [lnQ_n (by omega)]
    have q100 : anR w (nI w.g.n) = (-101, w) := by
      unfold anR
      rw [lnQ_n (by omega)]
    have q98 : whR w 2 = (-101, w) := rfl
    have q99 : byR w (-1) = (-101, w) := rfl
    have q95 : bgnR w 2 = (-101, w) := rfl
    refine g204_89 999 _ _ _ _ _ h V.1.Sh Q ⟨fun z => absurd z (by decide), fun _ => ?_⟩
    refine useP (fC93 (d := 959) ok (nI w.g.n) 0) q93 h _ V.1 (fun h1 C1 f1 => ⟨_, rfl, f1.1, fun _ => ?_, fun z => absurd rfl z⟩)
    have V1 := V.frC C1 f1
    refine useP (fC93 (d := 959) ok 0 4) q93b h1 _ V1.1 (fun h2 C2 f2 => ⟨_, rfl, f2.1, fun _ => ?_, fun z => absurd rfl z⟩)
    have V2 := V1.frC C2 f2
    refine useP (fC96 (d := 959) ok (nI w.g.n)) q96 h2 _ V2.1 (fun h3 C3 f3 => ⟨_, rfl, f3.1, fun _ => ?_, fun z => absurd rfl z⟩)
    have V3 := V2.frC C3 f3
    refine useP (fC100 (d := 959) ok (nI w.g.n)) q100 h3 _ V3.1 (fun h4 C4 f4 => ⟨_, rfl, f4.1, fun _ => ?_, fun z => absurd rfl z⟩)
    have V4 := V3.frC C4 f4
    refine useP (fC98 (d := 959) ok 2) q98 h4 _ V4.1 (fun h5 C5 f5 => ⟨_, rfl, f5.1, fun _ => ?_, fun z => absurd rfl z⟩)
    have V5 := V4.frC C5 f5
    refine useP (fC99 (d := 959) ok (-1)) q99 h5 _ V5.1 (fun h6 C6 f6 => ⟨_, rfl, f6.1, fun _ => ?_, fun z => absurd rfl z⟩)
    have V6 := V5.frC C6 f6
    refine useP (fC95 (d := 959) ok 2) q95 h6 _ V6.1 (fun h7 C7 f7 => ⟨_, rfl, f7.1, fun _ => ?_, fun z => absurd rfl z⟩)
    have V7 := V6.frC C7 f7
    have bd : ∀ {h}, LX Ls h w w.t.F w.t.C (100 * 8) → LB h 800 := fun V => V.2.2.2.2.2.2.2.2.2
    rw [nI_eq0 (by omega)]
    refine ⟨fun _ => KQ h7 (bd V7), fun z => ?_⟩
    have q950 : bgnR w 0 = (-103, w) := by
      show (if w.g.n = 0 then ((-103 : Int32), w) else if 0 < w.t.k then (-103, w) else (nI w.t.w, wT w (bgnT w.t 0))) = _
      rw [if_neg (by omega), if_pos (by omega)]
    refine useP (fC95 (d := 959) ok 0) q950 h7 _ V7.1 (fun h8 C8 f8 => ⟨_, rfl, f8.1, fun _ => KQ h8 (bd (V7.frC C8 f8)), fun z => absurd rfl z⟩)
  | r + 1, t, h, w, ht, V => by
    have hn := V.2.2.1
    have ok := V.2.1
    have ht8 : t < 8 := by omega
    unfold A89
    have q94 : stR1 w = (nI (outc w.g w.t.F w.t.C), w) := if_neg V.n0
    have q101 : loR w = (lsA w.g w.t, w) := if_neg V.n0
    have q4 : (ctA w 4, w) = (nI w.t.k, w) := rfl
    have q5 : (ctA w 5, w) = (nI w.t.w, w) := rfl
    refine g204_89 999 _ _ _ _ _ h V.1.Sh Q ⟨fun _ => ?_, fun z => absurd ((ltC (y := 8) (b := 8) rfl rfl (by omega) (by omega)).mpr ht8) z⟩
    refine sj V V.vs ⟨_, rfl, V.1.Sh, ?_⟩
    refine useP (fC94 (d := 959) ok) q94 h _ V.1 (fun h1 C1 f1 => ⟨_, rfl, f1.1, fun _ => ?_, fun z => absurd rfl z⟩)
    have V1 := V.frC C1 f1
    refine useP (fC113 (d := 959) ok 4) q4 h1 _ V1.1 (fun h2 C2 f2 => ⟨_, rfl, f2.1, fun _ => ?_, fun z => absurd rfl z⟩)
    have V2 := V1.frC C2 f2
    refine useP (fC113 (d := 959) ok 5) q5 h2 _ V2.1 (fun h3 C3 f3 => ⟨_, rfl, f3.1, fun _ => ?_, fun z => absurd rfl z⟩)
    have V3 := V2.frC C3 f3
    refine useP (fC101 (d := 959) ok) q101 h3 _ V3.1 (fun h4 C4 f4 => ⟨_, rfl, f4.1, fun _ => ?_, fun z => absurd rfl z⟩)
    have V4 := V3.frC C4 f4
    refine w148 (w := w) (t := t) (c := 100 * t) (fun a Va => ?_) w.g.n 0 h4 (Nat.zero_add _) V4
    refine w229 (w := w) (t := t) (c := 100 * t) (fun b Vb => ?_) 2 0 a rfl Va
    refine w365 (w := w) (t := t) (c := 100 * t + 14) (fun e Ve => ?_) w.g.n 0 b (Nat.zero_add _) Vb
    exact wMove hLs ht8 Ve (fun h' w' V' => w89 hLs KQ r (t + 1) h' w' (by omega) (V'.up (by omega)))
end MOVES
