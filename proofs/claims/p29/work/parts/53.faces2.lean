/-! lane, status, begin, take, back -/
def CFp (d m : Nat) (args : List Value) (w : WD) (p : Int32 × WD) : Prop := CFs d m args w p.1 p.2
def RFp (d m : Nat) (args : List Value) (w : WD) (p : Int32 × WD) : Prop := RFs d m args w p.1 p.2
theorem tb_or (F j i : Nat) : (F ||| 2 ^ j).testBit i = (F.testBit i || decide (j = i)) := by rw [Nat.testBit_or, Nat.testBit_two_pow]
theorem sta_F {F C j : Nat} (i : Nat) : sta (F ||| 2 ^ j) C i = if i = j then 1 else sta F C i := by
  unfold sta
  rw [tb_or]
  by_cases e : i = j
  · rw [if_pos e, decide_eq_true e.symm, Bool.or_true, if_pos rfl]
  · rw [if_neg e, decide_eq_false (fun z => e z.symm), Bool.or_false]
theorem sta_C {F C j : Nat} (ho : opb F C j = true) (i : Nat) : sta F (C ||| 2 ^ j) i = if i = j then 2 else sta F C i := by
  unfold sta
  rw [tb_or]
  by_cases e : i = j
  · rw [if_pos e, decide_eq_true e.symm, Bool.or_true, e, (opb_not ho).1]
    rfl
  · rw [if_neg e, decide_eq_false (fun z => e z.symm), Bool.or_false]
theorem sta_ply {t : ST} {j : Nat} (ho : opb t.F t.C j = true) (i : Nat) : sta (plyT t j).F (plyT t j).C i = if i = j then (if t.w = 0 then 1 else 2) else sta t.F t.C i := by
  show sta (if t.w = 0 then t.F ||| 2 ^ j else t.F) (if t.w = 0 then t.C else t.C ||| 2 ^ j) i = _
  by_cases e : t.w = 0
  · rw [if_pos e, if_pos e, if_pos e, sta_F]
  · rw [if_neg e, if_neg e, if_neg e, sta_C ho]
theorem sta_und {F C l : Nat} (hF : F < 1024) (hC : C < 1024) (i : Nat) : sta (dif F (2 ^ l)) (dif C (2 ^ l)) i = if i = l then 0 else sta F C i := by
  unfold sta
  rw [dif_two hF, dif_two hC]
  by_cases e : i = l
  · rw [if_pos e, decide_eq_true e.symm, Bool.not_true, Bool.and_false, Bool.and_false]
    rfl
  · rw [if_neg e, decide_eq_false (fun z => e z.symm), Bool.not_false, Bool.and_true, Bool.and_true]
theorem LsR.st {h : AH} {n F C F' C' j v : Nat} (R : LsR h n F C) (e : ∀ i, sta F' C' i = if i = j then v else sta F C i) : LsR (stI h 26 j (nI v)) n F' C' := by
  intro i hi
  rw [e i]
  by_cases z : i = j
  · rw [if_pos z, z, AI_stI_s]
  · rw [if_neg z, AI_stI_o _ _ (Or.inr z)]
    exact R i hi
theorem CI.NP {h : AH} {w : WD} (c : CI h w) (ok : WdOK w) : (0 : Int32) < AI h 5 5 ↔ 0 < w.g.n := netPos c.2.2.1 ok.2.1.1
theorem RI.NZ {h : AH} {w : WD} (c : RI h w) (ok : WdOK w) : AI h 23 0 = 0 ↔ w.g.n = 0 := netZ c.2.1 ok.2.1.1
theorem CI.si {h : AH} {w : WD} (c : CI h w) (h0 : 0 < w.g.n) : SI h w.g := by
  obtain ⟨-, -, -, -, s⟩ := c
  exact s h0
theorem FrC.rfl {h : AH} (hs : Sh h) : FrC h h := ⟨hs, ⟨Eq.refl _, Eq.refl _, Eq.refl _, Eq.refl _⟩, fun _ _ _ => ⟨Eq.refl _, Eq.refl _⟩⟩
/-- lane -/
def lnR (w : WD) (x y : Int32) : Int32 × WD := match lnQ w.g.n x with
  | none => (-101, w)
  | some j => if y = Int32.ofNat 0 then (nI (w.g.a j), w) else if y = Int32.ofNat 1 then (nI (w.g.b j), w) else if y = Int32.ofNat 2 then (nI (sta w.t.F w.t.C j), w) else if y = Int32.ofNat 3 then (nI (w.g.c j), w) else (-102, w)
theorem fC93 {d : Nat} {w : WD} (ok : WdOK w) (x y : Int32) : CFp (d + 40) 93 [.ref 2, .int x, .int y] w (lnR w x y) := by
  intro h Q c K
  have HS := c.Sh
  have hn := c.2.2.1
  have hg := ok.2.1.1
  have K' := K h
  refine Cl.enter rfl (g93_0 (d + 38) _ _ h HS Q ?_)
  rw [hn.1]
  unfold lnR at K'
  refine ⟨fun z => ?_, fun z => ⟨fun z2 => ?_, fun z2 => ?_⟩⟩
  · rw [lnQ_neg z] at K'
    exact K' c (FrC.rfl HS)
  · obtain ⟨j, hj, rfl, e⟩ := lnQ_lt hg z z2
    rw [e] at K'
    dsimp only at K'
    obtain ⟨n1, n2, n3, n4⟩ := hn
    obtain ⟨m1, m2, m3, -⟩ := n4 j hj
    rw [atS HS 6 rfl (n := 10) (c := 20) (by omega), atS HS 7 rfl (n := 10) (c := 20) (by omega), atS HS 8 rfl (n := 10) (c := 20) (by omega), m1, m2, m3]
    refine ⟨fun y0 => ?_, fun y0 => ⟨fun y1 => ?_, fun y1 => ⟨fun y2 => ?_, fun y2 => ⟨fun y3 => ?_, fun y3 => ?_⟩⟩⟩⟩
    · rw [if_pos y0] at K'
      exact K' c (FrC.rfl HS)
    · rw [if_neg y0, if_pos y1] at K'
      exact K' c (FrC.rfl HS)
    · rw [if_neg y0, if_neg y1, if_pos y2] at K'
      exact c78 HS (Or.inl rfl) c.2.1 (by omega) ⟨_, rfl, HS, K' c (FrC.rfl HS)⟩
    · rw [if_neg y0, if_neg y1, if_neg y2, if_pos y3] at K'
      exact K' c (FrC.rfl HS)
    · rw [if_neg y0, if_neg y1, if_neg y2, if_neg y3] at K'
      exact K' c (FrC.rfl HS)
  · rw [lnQ_ge hg z z2] at K'
    exact K' c (FrC.rfl HS)
theorem neg_ne {y : Int32} (h : y < 0) : ∀ k, k < 10 → ¬ y = Int32.ofNat k := by
  intro k hk e
  rw [e] at h
  have : ∀ k, k < 10 → ¬ (Int32.ofNat k < 0) := by decide
  exact this k hk h
theorem big_ne {y : Int32} {m : Nat} (hm : m < 10) (h : nI m < y) : ∀ k, k ≤ m → ¬ y = Int32.ofNat k := by
  intro k hk e
  rw [e] at h
  have h2 := (nI_ltI (a := m) (b := k) (by omega) (by omega)).mp h
  omega
/-- status -/
def stR1 (w : WD) : Int32 × WD := if w.g.n = 0 then (-103, w) else (nI (outc w.g w.t.F w.t.C), w)
theorem fC94 {d : Nat} {w : WD} (ok : WdOK w) : CFp (d + 40) 94 [.ref 2] w (stR1 w) := by
  intro h Q c K
  have HS := c.Sh
  have K' := K h
  refine Cl.enter rfl (g94_0 (d + 38) h HS Q ?_)
  rw [c.NP ok]
  unfold stR1 at K'
  refine ⟨fun z => ?_, fun z => ?_⟩
  · rw [if_neg (by omega)] at K'
    have S := c.si z
    rw [c.2.1.2.1, c.2.1.2.2.1]
    exact c37 HS S.2.1 S.2.2.1 ok.2.1 ok.2.2.2.1.1.1 ⟨_, rfl, HS, K' c (FrC.rfl HS)⟩
  · rw [if_pos (by omega)] at K'
    exact K' c (FrC.rfl HS)
/-- begin -/
def sdQ (x : Int32) : Option Nat := if x = 0 then some 0 else if x = 1 then some 1 else none
theorem sdQ_neg {x : Int32} (h : x < 0) : sdQ x = none := by
  unfold sdQ
  rw [if_neg (show ¬ x = 0 from neg_ne h 0 (by decide)), if_neg (show ¬ x = 1 from neg_ne h 1 (by decide))]
theorem sdQ_big {x : Int32} (h : (1 : Int32) < x) : sdQ x = none := by
  have ne := big_ne (m := 1) (by decide) h
  unfold sdQ
  rw [if_neg (show ¬ x = 0 from ne 0 (by decide)), if_neg (show ¬ x = 1 from ne 1 (by decide))]
theorem sdQ_in {x : Int32} (h : ¬ x < 0) (h2 : ¬ (1 : Int32) < x) : ∃ who, who < 2 ∧ x = nI who ∧ sdQ x = some who := by
  obtain ⟨k, hk, rfl⟩ := rng (m := 1) (by decide) h h2
  have : k = 0 ∨ k = 1 := by omega
  rcases this with rfl | rfl
  · exact ⟨0, by decide, rfl, rfl⟩
  · exact ⟨1, by decide, rfl, rfl⟩
theorem sdQ_1 : sdQ 1 = some 1 := rfl
def bgnT (t : ST) (who : Nat) : ST := mkT t.F t.C who t.k t.m
def bgnR (w : WD) (x : Int32) : Int32 × WD := match sdQ x with
  | none => (-101, w)
  | some who => if w.g.n = 0 then (-103, w) else if 0 < w.t.k then (-103, w) else (nI w.t.w, wT w (bgnT w.t who))
theorem bgn_ok {g : G} {t : ST} {who : Nat} (h : TOK g t) (h0 : ¬ 0 < t.k) (hw : who < 2) : TOK g (bgnT t who) := by
  obtain ⟨a, b, c, d, e⟩ := h
  refine ⟨a, hw, c, fun i hi => ?_, fun i j hi => ?_⟩
  · have : i < t.k := hi
    omega
  · have : i < t.k := hi
    omega
theorem fC95 {d : Nat} {w : WD} (ok : WdOK w) (x : Int32) : CFp (d + 40) 95 [.ref 2, .int x] w (bgnR w x) := by
  intro h Q c K
  have HS := c.Sh
  have hk := ok.2.2.2.1.k_le
  have hg := ok.2.1.1
  have body : ∀ who, sdQ x = some who → x = nI who → (((0 : Int32) < AI h 5 5 → (((0 : Int32) < AI h 11 2 → Q (some (.int (-103))) h) ∧ (¬ (0 : Int32) < AI h 11 2 → Q (some (.int (AI h 11 5))) (stI h 11 5 x)))) ∧ (¬ (0 : Int32) < AI h 5 5 → Q (some (.int (-103))) h)) := by
    intro who hs hx
    unfold bgnR at K
    rw [hs] at K
    dsimp only at K
    rw [c.NP ok, c.2.1.1, ltC (x := 0) (a := 0) rfl rfl (by omega) (by omega)]
    refine ⟨fun z => ⟨fun z2 => ?_, fun z2 => ?_⟩, fun z => ?_⟩
    · rw [if_neg (by omega), if_pos z2] at K
      exact K h c (FrC.rfl HS)
    · rw [if_neg (by omega), if_neg z2] at K
      have f : Fr (fun i j => i = 11 ∧ j = 5) h (stI h 11 5 x) := Fr.stI ⟨rfl, rfl⟩
      obtain ⟨s1, s2, s3, s4, s5⟩ := c.2.1
      rw [s4]
      refine K _ ⟨CK.fr (w := w) c.1 f (fun i j a z => by omega), ⟨?_, ?_, ?_, ?_, fun i hi => ?_⟩, CS.fr (w := w) c.2.2 f (fun i j a z => by omega)⟩ (FrC.of HS f (fun i j z => by unfold cfP; omega))
      · rw [f.I (by omega)]; exact s1
      · rw [f.I (by omega)]; exact s2
      · rw [f.I (by omega)]; exact s3
      · rw [AI_stI_s]; exact hx
      · rw [f.I (by omega)]; exact s5 i hi
    · rw [if_pos (by omega)] at K
      exact K h c (FrC.rfl HS)
  refine Cl.enter rfl (g95_0 (d + 38) _ h HS Q ⟨fun z => ?_, fun z => ⟨fun z2 => ?_, fun z2 => ?_⟩⟩)
  · exact body 0 (by rw [z]; rfl) z
  · exact body 1 (by rw [z2]; rfl) z2
  · unfold bgnR at K
    have hs : sdQ x = none := by
      unfold sdQ
      rw [if_neg z, if_neg z2]
    rw [hs] at K
    exact K h c (FrC.rfl HS)
/-- take -/
def tkR (w : WD) (x : Int32) : Int32 × WD := match lnQ w.g.n x with
  | none => (-101, w)
  | some j => if outc w.g w.t.F w.t.C = 0 ∧ opb w.t.F w.t.C j = true then (nI (w.t.k + 1), wT w (plyT w.t j)) else (-103, w)
theorem outc_lt (g : G) (F C : Nat) : outc g F C < 3 := by
  unfold outc
  split
  · decide
  · split <;> decide
theorem fC96 {d : Nat} {w : WD} (ok : WdOK w) (x : Int32) : CFp (d + 40) 96 [.ref 2, .int x] w (tkR w x) := by
  intro h Q c K
  have HS := c.Sh
  have hn := c.2.2.1
  have hg := ok.2.1.1
  have hT := ok.2.2.2.1
  unfold tkR at K
  refine Cl.enter rfl (g96_0 (d + 37) _ h HS Q ?_)
  rw [hn.1]
  refine ⟨fun z => ?_, fun z => ⟨fun z2 => ?_, fun z2 => ?_⟩⟩
  · rw [lnQ_neg z] at K
    exact K h c (FrC.rfl HS)
  · obtain ⟨j, hj, rfl, e⟩ := lnQ_lt hg z z2
    rw [e] at K
    dsimp only at K
    have S := c.si (by omega)
    rw [c.2.1.2.1, c.2.1.2.2.1]
    refine c37 HS S.2.1 S.2.2.1 ok.2.1 hT.1.1 ⟨_, rfl, HS, ?_⟩
    have := outc_lt w.g w.t.F w.t.C
    rw [nI_eq0 (by omega)]
    refine ⟨fun y => ?_, fun y => ?_⟩
    · refine c78 HS (Or.inl rfl) c.2.1 (by omega) ⟨_, rfl, HS, ?_⟩
      have := sta_lt w.t.F w.t.C j
      rw [nI_eq0 (by omega), sta0]
      refine ⟨fun y2 => ?_, fun y2 => ?_⟩
      · rw [if_pos ⟨y, y2⟩] at K
        have hkl := hT.k_lt hj y2
        have h9 := ok.2.2.1
        refine c74 (d := d + 38) HS (Or.inl rfl) c.2.1 (by omega) hT.2.1 (by omega) (fun h' f s => ⟨rfl, f.Sh HS, ?_⟩)
        rw [s.1]
        exact K h' ⟨CK.fr (w := w) c.1 f (fun i j a z => by unfold stP at z; omega), s, CS.fr (w := w) c.2.2 f (fun i j a z => by unfold stP at z; omega)⟩ (FrC.of HS f (fun i j z => by unfold stP at z; unfold cfP; omega))
      · rw [if_neg (fun q => y2 q.2)] at K
        exact K h c (FrC.rfl HS)
    · rw [if_neg (fun q => y q.1)] at K
      exact K h c (FrC.rfl HS)
  · rw [lnQ_ge hg z z2] at K
    exact K h c (FrC.rfl HS)
/-- back -/
def bkR (w : WD) : Int32 × WD := if w.g.n = 0 ∨ w.t.k = 0 then (-103, w) else (nI (w.t.k - 1), wT w (undT w.t))
theorem fC97 {d : Nat} {w : WD} (ok : WdOK w) : CFp (d + 40) 97 [.ref 2] w (bkR w) := by
  intro h Q c K
  have HS := c.Sh
  have hg := ok.2.1.1
  have hT := ok.2.2.2.1
  have hk := hT.k_le
  unfold bkR at K
  refine Cl.enter rfl (g97_0 (d + 38) h HS Q ?_)
  rw [c.NP ok, c.2.1.1, nI_eq0 (by omega)]
  refine ⟨fun z => ⟨fun z2 => ?_, fun z2 => ?_⟩, fun z => ?_⟩
  · rw [if_pos (Or.inr z2)] at K
    exact K h c (FrC.rfl HS)
  · rw [if_neg (by omega)] at K
    have lt := hT.lt hg
    have hm := (hT.2.2.2.1 (w.t.k - 1) (by omega)).1
    have h9 := ok.2.2.1
    refine c75 HS (Or.inl rfl) c.2.1 (by omega) (by omega) hT.2.1 lt.1 lt.2 (by omega) (fun h' f s => ⟨rfl, f.Sh HS, ?_⟩)
    rw [s.1]
    exact K h' ⟨CK.fr (w := w) c.1 f (fun i j a z => by omega), s, CS.fr (w := w) c.2.2 f (fun i j a z => by omega)⟩ (FrC.of HS f (fun i j z => by unfold cfP; omega))
  · rw [if_pos (by omega)] at K
    exact K h c (FrC.rfl HS)
