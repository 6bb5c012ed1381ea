/-! player of the reference, as, move -/
theorem fR179 {d : Nat} {w : WD} (ok : WdOK w) (x : Int32) : RFp (d + 40) 179 [.ref 23, .int x] w (plR w x) := by
  intro h Q c HS K
  have hnp := ok.2.2.2.2.2.1
  unfold plR at K
  obtain ⟨⟨r1, r2, r3, r4, r5, r6⟩, c2, c3, c4⟩ := id c
  refine Cl.enter rfl (g179_0 (d + 39) _ h HS Q ⟨fun z => ?_, fun z => ⟨fun z2 => ?_, fun z2 => ?_⟩⟩)
  · rw [whQ_neg z] at K
    exact K h c Fr.rfl
  · rw [whQ_big z z2] at K
    exact K h c Fr.rfl
  · obtain ⟨kd, hk, rfl, e⟩ := whQ_in (m := 4) (by decide) z z2
    rw [e] at K
    dsimp only at K
    rw [r2, show (5 : Int32) = nI 5 from rfl, nI_eq (by omega) (by omega)]
    refine ⟨fun y => ?_, fun y => ?_⟩
    · rw [if_pos y] at K
      exact K h c Fr.rfl
    · rw [if_neg y] at K
      have n11 : AI (stI h 29 w.np (nI kd)) 23 11 = nI w.np := by rw [AI_stI_o _ _ (Or.inl (by decide)), r2]
      rw [tnI (by omega), n11, nI_1, AI_stI_s, show (1 : Int32) = nI 1 from rfl, pk_sub (by omega), Nat.add_sub_cancel]
      have ff : Fr (fun i j => (i = 23 ∧ j = 11) ∨ (i = 29 ∧ j = w.np)) h (stI (stI h 29 w.np (nI kd)) 23 11 (nI (w.np + 1))) := (Fr.stI (P := fun i j => (i = 23 ∧ j = 11) ∨ (i = 29 ∧ j = w.np)) (Or.inr ⟨rfl, rfl⟩)).trans (Fr.stI (P := fun i j => (i = 23 ∧ j = 11) ∨ (i = 29 ∧ j = w.np)) (Or.inl ⟨rfl, rfl⟩))
      refine ⟨ixR_nI (by omega) (by decide), K _ ⟨⟨r1.fr ff (by omega) (fun j => by omega), AI_stI_s _ _ _ _, fun p hp => ?_, ?_, ?_, fun z => ?_, fun z => ?_⟩, c2.fr ff (fun i j a z => by omega), c3.fr ff (fun j z => by omega), c4.fr ff ⟨by omega, by omega⟩ (fun j z => by omega)⟩ (ff.weak (fun i j z => by unfold rgP; omega))⟩
      · have hp2 : p < w.np + 1 := hp
        show _ = nI (upN w.kf w.np kd p)
        by_cases ep : p = w.np
        · rw [ep, upN_s, AI_stI_o _ _ (Or.inl (by decide)), AI_stI_s]
        · rw [upN_o _ _ ep, ff.I (by omega)]
          exact r3 p (by omega)
      · rw [ff.I (by omega)]; exact r4
      · rw [ff.I (by omega)]; exact r5
      · obtain ⟨k1, k2, k3, k4, k5, k6⟩ := r6.1 z
        rw [ff.I (by omega), ff.I (by omega), ff.I (by omega), ff.I (by omega)]
        refine ⟨k1, k2, k3, k4, fun i hi => ?_, fun i hi => ?_⟩
        · rw [ff.I (by omega)]; exact k5 i hi
        · rw [ff.I (by omega)]; exact k6 i hi
      · rw [ff.I (by omega), ff.I (by omega)]
        exact r6.2 z
/-- the player at a number -/
theorem c120 {d : Nat} {w : WD} (ok : WdOK w) {h : AH} (c : CI h w) (x : Int32) {Q : Option Value → AH → Prop} (K0 : lnQ w.np x = none → Q (some .null) h) (K1 : ∀ p id, p < w.np → x = nI p → lnQ w.np x = some p → PlK h id (w.kf p) → Q (some (.ref id)) h) : Cl d 120 [.ref 2, .int x] h Q := by
  have HS := c.Sh
  have hnp := ok.2.2.2.2.2.1
  have c7 := c.1.2.2.2.1
  refine Cl.enter rfl (g120_0 d _ h HS Q ⟨fun z => K0 (lnQ_neg z), fun z => ⟨Or.inr (Or.inr (kS HS 22 rfl)), ?_⟩⟩)
  rw [K0_len HS 22 (c := 24) (n := 5) rfl]
  obtain ⟨j, hj, rfl⟩ := x_of z
  rw [nI_fold, nI_ltI hj (by omega), tnI hj]
  have eq : lnQ w.np (nI j) = if j < w.np then some j else none := by
    unfold lnQ
    rw [if_neg z, tnI hj]
  refine ⟨fun y => ⟨ixR_nI y (by decide), fun y2 => K0 ?_, fun id y2 => ?_⟩, fun y => K0 ?_⟩
  · rw [eq]
    by_cases hl : j < w.np
    · obtain ⟨id, e1, -⟩ := c7.1 j hl
      rw [y2] at e1
      cases e1
    · rw [if_neg hl]
  · by_cases hl : j < w.np
    · obtain ⟨id', e1, e2⟩ := c7.1 j hl
      rw [y2] at e1
      cases e1
      exact K1 j id hl rfl (by rw [eq, if_pos hl]) e2
    · rw [c7.2.1 j (by omega) y] at y2
      cases y2
  · rw [eq, if_neg (by omega)]
def isK (kd k : Nat) : Bool := k == 0 || kd == k || (k == 2 && kd == 3)
theorem c122 {d : Nat} {h : AH} (HS : Sh h) {id kd k : Nat} (hkd : kd < 5) (hk : k ≤ 4) (hc : (AK h id).1 = clsK kd) {Q : Option Value → AH → Prop} (K : Q (some (.int (b01 (isK kd k)))) h) : Cl d 122 [.ref id, .int (nI k)] h Q := by
  have es : ∀ q, q < 8 → (nI k = Int32.ofNat q ↔ k = q) := fun q hq => eqN (by omega) (by omega)
  have t1 : ∀ kd, kd < 5 → ([(0, 1), (1, 0), (2, 0), (4, 0), (7, 0)] : List (Nat × Nat)).lookup (clsK kd) = some (if isK kd 1 = true then 1 else 0) := by decide
  have t2 : ∀ kd, kd < 5 → ([(0, 0), (1, 0), (2, 1), (4, 1), (7, 0)] : List (Nat × Nat)).lookup (clsK kd) = some (if isK kd 2 = true then 1 else 0) := by decide
  have t3 : ∀ kd, kd < 5 → ([(0, 0), (1, 0), (2, 1), (4, 0), (7, 0)] : List (Nat × Nat)).lookup (clsK kd) = some (if isK kd 3 = true then 1 else 0) := by decide
  have t4 : ∀ kd, kd < 5 → ([(0, 0), (1, 1), (2, 0), (4, 0), (7, 0)] : List (Nat × Nat)).lookup (clsK kd) = some (if isK kd 4 = true then 1 else 0) := by decide
  have on : ∀ b : Bool, Int32.ofNat (if b = true then 1 else 0) = b01 b := by decide
  refine Cl.enter rfl (g122_0 d _ _ h HS Q ?_)
  rw [es 1 (by decide), es 2 (by decide), es 3 (by decide), es 4 (by decide), hc]
  refine ⟨fun z => ⟨_, t1 kd hkd, ?_, ?_⟩, fun z1 => ⟨fun z => ⟨_, t2 kd hkd, ?_, ?_⟩, fun z2 => ⟨fun z => ⟨_, t3 kd hkd, ?_, ?_⟩, fun z3 => ⟨fun z => ⟨_, t4 kd hkd, ?_, ?_⟩, fun z4 => ?_⟩⟩⟩⟩
  · rw [on]; exact b01_or _
  · rw [on]
    subst z
    exact K
  · rw [on]; exact b01_or _
  · rw [on]
    subst z
    exact K
  · rw [on]; exact b01_or _
  · rw [on]
    subst z
    exact K
  · rw [on]; exact b01_or _
  · rw [on]
    subst z
    exact K
  · have e : k = 0 := by omega
    subst e
    exact K
def asR (w : WD) (x y : Int32) : Int32 × WD := match lnQ w.np x with
  | none => (-101, w)
  | some p => match whQ 4 y with
    | none => (-102, w)
    | some k => (if isK (w.kf p) k = true then nI p else -1, w)
theorem fC108 {d : Nat} {w : WD} (ok : WdOK w) (x y : Int32) : CFp (d + 40) 108 [.ref 2, .int x, .int y] w (asR w x y) := by
  intro h Q c K
  have HS := c.Sh
  unfold asR at K
  refine Cl.enter rfl (g108_0 (d + 39) _ _ h HS Q ?_)
  refine c120 ok c x (fun e => Or.inr ⟨rfl, HS, ?_⟩) (fun p id hp ex e pk => Or.inl ⟨id, rfl, HS, ?_⟩)
  · rw [e] at K
    exact K h c (FrC.rfl HS)
  · rw [e] at K
    dsimp only at K
    refine ⟨fun z => ?_, fun z => ?_⟩
    · rw [whQ_neg z] at K
      exact K h c (FrC.rfl HS)
    rw [lt5 z]
    refine ⟨fun z2 => ?_, fun z2 => ?_⟩
    · obtain ⟨k, hk, rfl, e2⟩ := whQ_in (m := 4) (by decide) z z2
      rw [e2] at K
      dsimp only at K
      have K' := K h c (FrC.rfl HS)
      refine c122 HS (ok.2.2.2.2.2.2.1 p hp) hk pk.2.1 ⟨_, rfl, HS, ?_⟩
      rw [b01_0]
      refine ⟨fun q => ?_, fun q => ?_⟩
      · rwa [if_neg (by rw [q]; decide)] at K'
      · rw [if_pos (ts_nf q)] at K'
        rw [ex]
        exact K'
    · rw [whQ_big z (Decidable.byContradiction z2)] at K
      exact K h c (FrC.rfl HS)
theorem fR181 {d : Nat} {w : WD} (ok : WdOK w) (x y : Int32) : RFp (d + 40) 181 [.ref 23, .int x, .int y] w (asR w x y) := by
  intro h Q c HS K
  have hnp := ok.2.2.2.2.2.1
  unfold asR at K
  obtain ⟨⟨r1, r2, r3, r4, r5, r6⟩, c2, c3, c4⟩ := id c
  refine Cl.enter rfl (g181_0 (d + 38) _ _ h HS Q ?_)
  rw [r2]
  refine ⟨fun z => ?_, fun z => ?_⟩
  · rw [lnQ_neg z] at K
    exact K h c Fr.rfl
  rw [ltm (by omega) z]
  refine ⟨fun z2 => ?_, fun z2 => ?_⟩
  · rw [lnQ_ge (by omega) z z2] at K
    exact K h c Fr.rfl
  · obtain ⟨p, hp, rfl, e⟩ := lnQ_lt (by omega) z (Decidable.byContradiction z2)
    rw [e] at K
    dsimp only at K
    refine ⟨fun y0 => ?_, fun y0 => ⟨fun y1 => ?_, fun y1 => ?_⟩⟩
    · rw [whQ_neg y0] at K
      exact K h c Fr.rfl
    · rw [whQ_big y0 y1] at K
      exact K h c Fr.rfl
    · obtain ⟨k, hk, rfl, e2⟩ := whQ_in (m := 4) (by decide) y0 y1
      rw [e2] at K
      dsimp only at K
      have K' := K h c Fr.rfl
      have hkd := ok.2.2.2.2.2.2.1 p hp
      rw [tnI (by omega), r3 p hp, nI_eq0 (by omega), nI_eq (by omega) (by omega), show (2 : Int32) = nI 2 from rfl, nI_eq (by omega) (by omega), show (3 : Int32) = nI 3 from rfl, nI_eq (by omega) (by omega)]
      have yes : isK (w.kf p) k = true → Q (some (.int (nI p))) h := fun q => by rwa [if_pos q] at K'
      have no : isK (w.kf p) k = false → Q (some (.int (-1))) h := fun q => by rwa [if_neg (by rw [q]; decide)] at K'
      refine ⟨ixR_nI (by omega) (by decide), fun q => yes ?_, fun q => ⟨fun q1 => yes ?_, fun q1 => ⟨fun q2 => ⟨fun q3 => yes ?_, fun q3 => no ?_⟩, fun q2 => no ?_⟩⟩⟩
      · rw [q]; rfl
      · rw [q1]
        unfold isK
        rw [beq_self_eq_true, Bool.or_true]
        rfl
      · rw [q2, q3]; rfl
      · unfold isK
        rw [beq_eq_false_iff_ne.mpr q, beq_eq_false_iff_ne.mpr q1, beq_eq_false_iff_ne.mpr q3, Bool.and_false]
        rfl
      · unfold isK
        rw [beq_eq_false_iff_ne.mpr q, beq_eq_false_iff_ne.mpr q1, beq_eq_false_iff_ne.mpr q2]
        rfl
def mvR (w : WD) (x y : Int32) : Int32 × WD := match lnQ w.np x with
  | none => (-101, w)
  | some p => if w.g.n = 0 ∨ ¬ outc w.g w.t.F w.t.C = 0 then (-103, w) else if y < 0 then (-102, w) else (tkA w.g w.t.F w.t.C w.t.w (w.kf p) y.toInt64, w)
theorem fC109 {d : Nat} {w : WD} (ok : WdOK w) (x y : Int32) : CFp (d + 40) 109 [.ref 2, .int x, .int y] w (mvR w x y) := by
  intro h Q c K
  have HS := c.Sh
  have hT := ok.2.2.2.1
  unfold mvR at K
  refine Cl.enter rfl (g109_0 (d + 38) _ _ h HS Q ?_)
  refine c120 ok c x (fun e => Or.inr ⟨rfl, HS, ?_⟩) (fun p id hp ex e pk => Or.inl ⟨id, rfl, HS, ?_⟩)
  · rw [e] at K
    exact K h c (FrC.rfl HS)
  · rw [e] at K
    dsimp only at K
    rw [c.NP ok]
    refine ⟨fun z => ?_, fun z => ?_⟩
    · have S := c.si z
      rw [c.2.1.2.1, c.2.1.2.2.1]
      refine c37 HS S.2.1 S.2.2.1 ok.2.1 hT.1.1 ⟨_, rfl, HS, ?_⟩
      have := outc_lt w.g w.t.F w.t.C
      rw [nI_eq0 (by omega)]
      refine ⟨fun ho => ⟨fun y0 => ?_, fun y0 => ?_⟩, fun ho => ?_⟩
      · rw [if_neg (by omega), if_pos y0] at K
        exact K h c (FrC.rfl HS)
      · rw [if_neg (by omega), if_neg y0] at K
        have f1 : Fr (fun i _ => i = 21) h (stL h 21 0 y.toInt64) := Fr.stL rfl
        have S1 := S.fr f1 (fun i j a z => by omega)
        have l1 : AL (stL h 21 0 y.toInt64) 21 0 = y.toInt64 := by rw [AL_stL, if_pos ⟨rfl, rfl⟩]
        have c1 : CI (stL h 21 0 y.toInt64) w := c.sch f1 (fun i j z => by unfold csP; omega) S1
        obtain ⟨j, j1, j2, j3⟩ := cCh (d := d + 13) S1 ok.2.1 ok.2.2.1 hT (v := 11) (Or.inl rfl) c1.2.1 ho (ok.2.2.2.2.2.2.1 p hp) (pk.fr f1) (Q := fun r h13 => ∃ x15 : Int32, r = some (.int x15) ∧ Sh h13 ∧ Q (some (.int x15)) h13) (fun h' f S' _ => ⟨_, rfl, S'.1, by
          rw [l1]
          exact K h' (c1.sch f (fun i j z => by unfold chP at z; unfold csP; omega) S') ((FrC.sch c f1 (fun i j z => by unfold csP; omega)).trans (FrC.sch c1 f (fun i j z => by unfold chP at z; unfold csP; omega)))⟩)
        exact ⟨j, j1, j2, j3⟩
      · rw [if_pos (Or.inr ho)] at K
        exact K h c (FrC.rfl HS)
    · rw [if_pos (by omega)] at K
      exact K h c (FrC.rfl HS)
theorem fR189 {d : Nat} {w : WD} (ok : WdOK w) (x y : Int32) : RFp (d + 40) 189 [.ref 23, .int x, .int y] w (mvR w x y) := by
  intro h Q c HS K
  have hnp := ok.2.2.2.2.2.1
  have hT := ok.2.2.2.1
  unfold mvR at K
  obtain ⟨⟨r1, r2, r3, r4, r5, r6⟩, c2, c3, m1, m2, m3⟩ := id c
  refine Cl.enter rfl (g189_0 (d + 38) _ _ h HS Q ?_)
  rw [r2]
  refine ⟨fun z => ?_, fun z => ?_⟩
  · rw [lnQ_neg z] at K
    exact K h c Fr.rfl
  rw [ltm (by omega) z]
  refine ⟨fun z2 => ?_, fun z2 => ?_⟩
  · rw [lnQ_ge (by omega) z z2] at K
    exact K h c Fr.rfl
  · obtain ⟨p, hp, rfl, e⟩ := lnQ_lt (by omega) z (Decidable.byContradiction z2)
    rw [e] at K
    dsimp only at K
    rw [c.NZ ok]
    refine ⟨fun n0 => ?_, fun n0 => ?_⟩
    · rw [if_pos (Or.inl n0)] at K
      exact K h c Fr.rfl
    · refine c144 HS c2.1 ok.2.1 c2.2.1 hT.1 c2.2.2 ⟨_, rfl, HS, ?_⟩
      have := outc_lt w.g w.t.F w.t.C
      rw [nI_eq0 (by omega)]
      refine ⟨fun ho => ⟨fun y0 => ?_, fun y0 => ?_⟩, fun ho => ?_⟩
      · rw [if_neg (by omega), if_pos y0] at K
        exact K h c Fr.rfl
      · rw [if_neg (by omega), if_neg y0] at K
        have f1 : Fr (fun i j => i = 23 ∧ j = 42) h (stL h 23 42 y.toInt64) := Fr.stL ⟨rfl, rfl⟩
        have l1 : AL (stL h 23 42 y.toInt64) 23 42 = y.toInt64 := by rw [AL_stL, if_pos ⟨rfl, rfl⟩]
        have c1 : RI (stL h 23 42 y.toInt64) w := c.sch0 f1 (fun i j z => by omega)
        rw [show AI (stL h 23 42 y.toInt64) 23 8 = nI w.t.w from m1]
        refine c188 (d := d + 32) (f1.Sh HS) ok.2.1 hT.1 hT.2.1 ho (by omega) (ok.2.2.2.2.2.2.1 p hp) c1.2.1 c1.2.2.1 (c1.1.2.2.1 p hp) (fun h' f _ => ⟨_, rfl, f.Sh (f1.Sh HS), ?_⟩)
        rw [l1]
        exact K h' (c1.sch0 f (fun i j z => tk_in z)) ((f1.weak (fun i j z => by unfold rgP; omega)).trans (rg_of f (fun i j z => by have := tk_in z; omega)))
      · rw [if_pos (Or.inr ho)] at K
        exact K h c Fr.rfl
