/-! whose, by, answer, lost, ways, parting, mend, bought, likely -/
theorem CI.sr {h h' : AH} {w : WD} (c : CI h w) (S : SI h' w.g) (r : SR h h') : CI h' w ∧ FrC h h' := ⟨c.sch r (fun i j z => by unfold csP; omega) S, FrC.sch c r (fun i j z => by unfold csP; omega)⟩
theorem CI.sw {h h' : AH} {w : WD} (c : CI h w) (S : SI h' w.g) (r : Fr wqP h h') : CI h' w ∧ FrC h h' := ⟨c.sch r (fun i j z => by unfold wqP at z; unfold csP; omega) S, FrC.sch c r (fun i j z => by unfold wqP at z; unfold csP; omega)⟩
theorem RI.sol {h h' : AH} {w : WD} (c : RI h w) (f : Fr solP h h') : RI h' w ∧ Fr rgP h h' := ⟨c.sch0 f (fun i j z => sol_in z), rg_of f (fun i j z => by have := sol_in z; omega)⟩
/-- whose -/
def whA (g : G) (F C who : Nat) : Int32 := if hv g F C who = true then 0 else 1
def whR (w : WD) (x : Int32) : Int32 × WD := match sdQ x with
  | none => (-101, w)
  | some who => if w.g.n = 0 then (-103, w) else (whA w.g w.t.F w.t.C who, w)
theorem fC98 {d : Nat} {w : WD} (ok : WdOK w) (x : Int32) : CFp (d + 40) 98 [.ref 2, .int x] w (whR w x) := by
  intro h Q c K
  have HS := c.Sh
  have hT := ok.2.2.2.1
  have body : ∀ who, who < 2 → sdQ x = some who → x = nI who → (((0 : Int32) < AI h 5 5 → (Cl (d + 39) 58 [.ref 17, .int (AI h 11 3), .int (AI h 11 4), .int x] h (fun r h3 => ∃ x5 : Int32, r = some (.int x5) ∧ Sh h3 ∧ Q (some (.int x5)) h3))) ∧ (¬ (0 : Int32) < AI h 5 5 → Q (some (.int (-103))) h)) := by
    intro who hw hs hx
    unfold whR at K
    rw [hs] at K
    dsimp only at K
    rw [c.NP ok, c.2.1.2.1, c.2.1.2.2.1, hx]
    refine ⟨fun z => ?_, fun z => ?_⟩
    · rw [if_neg (by omega)] at K
      have S := c.si z
      refine c58 (d := d + 15) ok.2.1 hw hT.1 S (fun h' S' r => ⟨_, rfl, S'.1, ?_⟩)
      obtain ⟨c', f'⟩ := c.sr S' r
      exact K h' c' f'
    · rw [if_pos (by omega)] at K
      exact K h c (FrC.rfl HS)
  refine Cl.enter rfl (g98_0 (d + 38) _ h HS Q ⟨fun z => ?_, fun z => ⟨fun z2 => ?_, fun z2 => ?_⟩⟩)
  · exact body 0 (by decide) (by rw [z]; rfl) z
  · exact body 1 (by decide) (by rw [z2]; rfl) z2
  · unfold whR at K
    have hs : sdQ x = none := by
      unfold sdQ
      rw [if_neg z, if_neg z2]
    rw [hs] at K
    exact K h c (FrC.rfl HS)
theorem fR152 {d : Nat} {w : WD} (ok : WdOK w) (x : Int32) : RFp (d + 40) 152 [.ref 23, .int x] w (whR w x) := by
  intro h Q c HS K
  have hT := ok.2.2.2.1
  unfold whR at K
  refine Cl.enter rfl (g152_0 (d + 38) _ h HS Q ⟨fun z => ?_, fun z => ⟨fun z2 => ?_, fun z2 => ?_⟩⟩)
  · rw [sdQ_neg z] at K
    exact K h c Fr.rfl
  · rw [sdQ_big z2] at K
    exact K h c Fr.rfl
  · obtain ⟨who, hw, rfl, hs⟩ := sdQ_in z z2
    rw [hs] at K
    dsimp only at K
    rw [c.NZ ok]
    refine ⟨fun z => ?_, fun z => ?_⟩
    · rw [if_pos z] at K
      exact K h c Fr.rfl
    · rw [if_neg z] at K
      rw [c.2.1.2.1]
      refine c150 (d := d + 35) HS ok.2.1 hT.1 c.2.1.1 c.2.1.2.2 (fun h' f so => ⟨rfl, f.Sh HS, ixR_nI (by omega) (by decide), ?_⟩)
      rw [tnI (by omega), so.at0 hT.1 hw, b01_0]
      obtain ⟨c', f'⟩ := c.sol f
      have K' := K h' c' f'
      refine ⟨fun z => ?_, fun z => ?_⟩
      · rwa [show (whA w.g w.t.F w.t.C who, w).1 = 1 from if_neg (by rw [z]; decide)] at K'
      · rwa [show (whA w.g w.t.F w.t.C who, w).1 = 0 from if_pos (ts_nf z)] at K'
/-- by -/
def byR (w : WD) (x : Int32) : Int32 × WD := match sdQ x with
  | none => (-101, w)
  | some who => if w.g.n = 0 then (-103, w) else (lsg w.g w.t.F w.t.C who, w)
theorem fC99 {d : Nat} {w : WD} (ok : WdOK w) (x : Int32) : CFp (d + 40) 99 [.ref 2, .int x] w (byR w x) := by
  intro h Q c K
  have HS := c.Sh
  have hT := ok.2.2.2.1
  have body : ∀ who, who < 2 → sdQ x = some who → x = nI who → (((0 : Int32) < AI h 5 5 → (Cl (d + 39) 59 [.ref 17, .int (AI h 11 3), .int (AI h 11 4), .int x] h (fun r h3 => ∃ x5 : Int32, r = some (.int x5) ∧ Sh h3 ∧ Q (some (.int x5)) h3))) ∧ (¬ (0 : Int32) < AI h 5 5 → Q (some (.int (-103))) h)) := by
    intro who hw hs hx
    unfold byR at K
    rw [hs] at K
    dsimp only at K
    rw [c.NP ok, c.2.1.2.1, c.2.1.2.2.1, hx]
    refine ⟨fun z => ?_, fun z => ?_⟩
    · rw [if_neg (by omega)] at K
      have S := c.si z
      refine c59 (d := d + 14) ok.2.1 hw hT.1 S (fun h' S' r => ⟨_, rfl, S'.1, ?_⟩)
      obtain ⟨c', f'⟩ := c.sr S' r
      exact K h' c' f'
    · rw [if_pos (by omega)] at K
      exact K h c (FrC.rfl HS)
  refine Cl.enter rfl (g99_0 (d + 38) _ h HS Q ⟨fun z => ?_, fun z => ⟨fun z2 => ?_, fun z2 => ?_⟩⟩)
  · exact body 0 (by decide) (by rw [z]; rfl) z
  · exact body 1 (by decide) (by rw [z2]; rfl) z2
  · unfold byR at K
    have hs : sdQ x = none := by
      unfold sdQ
      rw [if_neg z, if_neg z2]
    rw [hs] at K
    exact K h c (FrC.rfl HS)
theorem fR155 {d : Nat} {w : WD} (ok : WdOK w) (x : Int32) : RFp (d + 40) 155 [.ref 23, .int x] w (byR w x) := by
  intro h Q c HS K
  have hT := ok.2.2.2.1
  unfold byR at K
  refine Cl.enter rfl (g155_0 (d + 38) _ h HS Q ⟨fun z => ?_, fun z => ⟨fun z2 => ?_, fun z2 => ?_⟩⟩)
  · rw [sdQ_neg z] at K
    exact K h c Fr.rfl
  · rw [sdQ_big z2] at K
    exact K h c Fr.rfl
  · obtain ⟨who, hw, rfl, hs⟩ := sdQ_in z z2
    rw [hs] at K
    dsimp only at K
    rw [c.NZ ok]
    refine ⟨fun z => ?_, fun z => ?_⟩
    · rw [if_pos z] at K
      exact K h c Fr.rfl
    · rw [if_neg z] at K
      refine c154 (d := d + 34) HS ok.2.1 hT.1 hw c.2.1.1 c.2.1.2.1 c.2.1.2.2 (fun h' f => ⟨_, rfl, f.Sh HS, ?_⟩)
      obtain ⟨c', f'⟩ := c.sol f
      exact K h' c' f'
/-- answer -/
def anR (w : WD) (x : Int32) : Int32 × WD := match lnQ w.g.n x with
  | none => (-101, w)
  | some j => if outc w.g w.t.F w.t.C = 0 ∧ opb w.t.F w.t.C j = true then (lsg w.g w.t.F (w.t.C ||| 2 ^ j) 0, w) else (-103, w)
theorem fC100 {d : Nat} {w : WD} (ok : WdOK w) (x : Int32) : CFp (d + 40) 100 [.ref 2, .int x] w (anR w x) := by
  intro h Q c K
  have HS := c.Sh
  have hn := c.2.2.1
  have hg := ok.2.1.1
  have hT := ok.2.2.2.1
  unfold anR at K
  refine Cl.enter rfl (g100_0 (d + 37) _ h HS Q ?_)
  rw [hn.1]
  refine ⟨fun z => ?_, fun z => ⟨fun z2 => ?_, fun z2 => ?_⟩⟩
  · rw [lnQ_neg z] at K
    exact K h c (FrC.rfl HS)
  · obtain ⟨j, hj, rfl, e⟩ := lnQ_lt hg z z2
    rw [e] at K
    dsimp only at K
    have S := c.si (by omega)
    rw [c.2.1.2.1, c.2.1.2.2.1]
    refine c37 HS S.2.1 S.2.2.1 ok.2.1 hT.1.1 ⟨_, rfl, HS, ?_⟩
    have := outc_lt w.g w.t.F w.t.C
    rw [nI_eq0 (by omega)]
    refine ⟨fun y => ?_, fun y => ?_⟩
    · refine c78 HS (Or.inl rfl) c.2.1 (by omega) ⟨_, rfl, HS, ?_⟩
      have := sta_lt w.t.F w.t.C j
      rw [nI_eq0 (by omega), sta0]
      refine ⟨fun y2 => ?_, fun y2 => ?_⟩
      · rw [if_pos ⟨y, y2⟩] at K
        rw [i1 j (by omega), c.2.1.2.1, c.2.1.2.2.1, fa_or]
        refine c59 (d := d + 14) (w := 0) ok.2.1 (by decide) (hT.1.C hj y2) S (fun h' S' r => ⟨_, rfl, S'.1, ?_⟩)
        obtain ⟨c', f'⟩ := c.sr S' r
        exact K h' c' f'
      · rw [if_neg (fun q => y2 q.2)] at K
        exact K h c (FrC.rfl HS)
    · rw [if_neg (fun q => y q.1)] at K
      exact K h c (FrC.rfl HS)
  · rw [lnQ_ge hg z z2] at K
    exact K h c (FrC.rfl HS)
theorem fR159 {d : Nat} {w : WD} (ok : WdOK w) (x : Int32) : RFp (d + 40) 159 [.ref 23, .int x] w (anR w x) := by
  intro h Q c HS K
  have hg := ok.2.1.1
  have hT := ok.2.2.2.1
  unfold anR at K
  refine Cl.enter rfl (g159_0 (d + 38) _ h HS Q ?_)
  rw [c.2.1.2.1]
  refine ⟨fun z => ?_, fun z => ?_⟩
  · rw [lnQ_neg z] at K
    exact K h c Fr.rfl
  rw [ltm hg z]
  refine ⟨fun z2 => ?_, fun z2 => ?_⟩
  · rw [lnQ_ge hg z z2] at K
    exact K h c Fr.rfl
  · obtain ⟨j, hj, rfl, e⟩ := lnQ_lt hg z (Decidable.byContradiction z2)
    rw [e] at K
    dsimp only at K
    refine c144 HS c.2.1.1 ok.2.1 c.2.1.2.1 hT.1 c.2.1.2.2 ⟨_, rfl, HS, ?_⟩
    have := outc_lt w.g w.t.F w.t.C
    have := sta_lt w.t.F w.t.C j
    rw [nI_eq0 (by omega), tnI (by omega), c.2.1.2.2 j hj, nI_eq0 (by omega), sta0]
    refine ⟨fun y => ⟨ixR_nI (by omega) (by decide), fun y2 => ?_, fun y2 => ?_⟩, fun y => ?_⟩
    · rw [if_pos ⟨y, y2⟩] at K
      have f1 : Fr (fun a b => a = 26) h (stI h 26 j 2) := Fr.stI rfl
      have R1 : LsR (stI h 26 j 2) w.g.n w.t.F (w.t.C ||| 2 ^ j) := c.2.1.2.2.st (v := 2) (sta_C y2)
      refine c154 (d := d + 34) (w := 0) (f1.Sh HS) ok.2.1 (hT.1.C hj y2) (by decide) (c.2.1.1.fr f1 ⟨by decide, by decide⟩ (fun j => ⟨by decide, by decide⟩)) (by rw [f1.I (by decide)]; exact c.2.1.2.1) R1 (fun h' f => ⟨_, rfl, f.Sh (f1.Sh HS), ixR_nI (by omega) (by decide), ?_⟩)
      have f3 : Fr (fun a b => a = 26) h' (stI h' 26 j 0) := Fr.stI rfl
      have R3 : LsR (stI h' 26 j 0) w.g.n w.t.F w.t.C := (R1.sol f).st (v := 0) (fun i => by
        rw [sta_C y2]
        by_cases ei : i = j
        · rw [if_pos ei, ei]
          exact sta0.mpr y2
        · rw [if_neg ei, if_neg ei])
      have ff : Fr (fun a b => (a = 23 ∧ 32 ≤ b) ∨ a = 26 ∨ (37 ≤ a ∧ a < 46)) h (stI h' 26 j 0) := ((f1.weak (fun a b z => Or.inr (Or.inl z))).trans (f.weak (fun a b z => by have := sol_in z; omega))).trans (f3.weak (fun a b z => Or.inr (Or.inl z)))
      exact K _ (c.sch ff (fun i j z => by omega) ⟨c.2.1.1.fr ff ⟨by omega, by omega⟩ (fun j => ⟨by omega, by omega⟩), by rw [ff.I (by omega)]; exact c.2.1.2.1, R3⟩) (rg_of ff (fun i j z => by omega))
    · rw [if_neg (fun q => y2 q.2)] at K
      exact K h c Fr.rfl
    · rw [if_neg (fun q => y q.1)] at K
      exact K h c Fr.rfl
/-- lost -/
def loR (w : WD) : Int32 × WD := if w.g.n = 0 then (-103, w) else (lsA w.g w.t, w)
theorem fC101 {d : Nat} {w : WD} (ok : WdOK w) : CFp (d + 40) 101 [.ref 2] w (loR w) := by
  intro h Q c K
  have HS := c.Sh
  unfold loR at K
  by_cases z : w.g.n = 0
  · rw [if_pos z] at K
    refine Cl.enter rfl (g101_0 (d + 38) h HS Q ?_)
    rw [c.NP ok]
    exact ⟨fun y => by omega, fun _ => K h c (FrC.rfl HS)⟩
  · rw [if_neg z] at K
    have S := c.si (by omega)
    refine c101 (d := d + 15) S ok.2.1 ok.2.2.1 (by omega) ok.2.2.2.1 c.2.1 (fun h' f S' => ?_)
    exact K h' (c.sch f (fun i j z => by unfold ltP at z; unfold csP; omega) S') (FrC.sch c f (fun i j z => by unfold ltP at z; unfold csP; omega))
theorem fR162 {d : Nat} {w : WD} (ok : WdOK w) : RFp (d + 40) 162 [.ref 23] w (loR w) := by
  intro h Q c HS K
  unfold loR at K
  refine Cl.enter rfl (g162_0 (d + 39) h HS Q ?_)
  rw [c.NZ ok]
  refine ⟨fun z => ?_, fun z => ?_⟩
  · rw [if_pos z] at K
    exact K h c Fr.rfl
  · rw [if_neg z] at K
    refine c160 (d := d + 34) HS ok.2.1 ok.2.2.1 ok.2.2.2.1 c.2.1 c.2.2.2 (fun h' f ls => ⟨_, rfl, f.Sh HS, ?_⟩)
    have hp : ∀ i j, rlP i j → (i = 23 ∧ 32 ≤ j) ∨ (24 ≤ i ∧ i ≤ 26) ∨ (37 ≤ i ∧ i < 46) := fun i j z => by
      rcases z with z | z
      · have := sol_in z
        omega
      · omega
    have hno : ∀ i j, (i = 23 ∧ j ≤ 31) ∨ i = 24 ∨ i = 25 → ¬ rlP i j := fun i j z y => by
      rcases y with y | y
      · have := sol_in y
        omega
      · omega
    exact K h' (c.sch f hp ⟨c.2.1.1.fr f ⟨hno _ _ (by decide), hno _ _ (by decide)⟩ (fun j => ⟨hno _ _ (by simp), hno _ _ (by simp)⟩), by rw [f.I (hno _ _ (by decide))]; exact c.2.1.2.1, ls⟩) (rg_of f hp)
/-- ways -/
def wyR (w : WD) : Int32 × WD := if w.g.n = 0 then (-103, w) else (fsI (wyp w.g w.t.F w.t.C) (2 ^ w.g.n), w)
theorem fC102 {d : Nat} {w : WD} (ok : WdOK w) : CFp (d + 40) 102 [.ref 2] w (wyR w) := by
  intro h Q c K
  have HS := c.Sh
  unfold wyR at K
  refine Cl.enter rfl (g102_0 (d + 38) h HS Q ?_)
  rw [c.NP ok]
  refine ⟨fun z => ?_, fun z => ?_⟩
  · rw [if_neg (by omega)] at K
    have S := c.si z
    rw [c.2.1.2.1, c.2.1.2.2.1]
    exact c66 (d := d + 37) ⟨HS, S.2.1, S.2.2.1⟩ ok.2.1 ok.2.2.2.1.1.1 ⟨_, rfl, HS, K h c (FrC.rfl HS)⟩
  · rw [if_pos (by omega)] at K
    exact K h c (FrC.rfl HS)
theorem fR164 {d : Nat} {w : WD} (ok : WdOK w) : RFp (d + 40) 164 [.ref 23] w (wyR w) := by
  intro h Q c HS K
  unfold wyR at K
  refine Cl.enter rfl (g164_0 (d + 39) h HS Q ?_)
  rw [c.NZ ok]
  refine ⟨fun z => ?_, fun z => ?_⟩
  · rw [if_pos z] at K
    exact K h c Fr.rfl
  · rw [if_neg z] at K
    exact c163 (d := d + 37) HS c.2.1 ok.2.1 ok.2.2.2.1.1 ⟨_, rfl, HS, K h c Fr.rfl⟩
/-- parting, bought -/
def whQ (m : Nat) (x : Int32) : Option Nat := if x < 0 then none else if nI m < x then none else some x.toNatClampNeg
theorem whQ_neg {m : Nat} {x : Int32} (h : x < 0) : whQ m x = none := if_pos h
theorem whQ_big {m : Nat} {x : Int32} (h : ¬ x < 0) (h2 : nI m < x) : whQ m x = none := by
  unfold whQ
  rw [if_neg h, if_pos h2]
theorem whQ_in {m : Nat} (hm : m < 1000) {x : Int32} (h : ¬ x < 0) (h2 : ¬ nI m < x) : ∃ k, k ≤ m ∧ x = nI k ∧ whQ m x = some k := by
  obtain ⟨k, hk, rfl⟩ := rng hm h h2
  refine ⟨k, hk, rfl, ?_⟩
  unfold whQ
  rw [if_neg h, if_neg h2, tnI (by omega)]
def ptR (w : WD) (x : Int32) : Int32 × WD := if w.g.n = 0 then (-103, w) else match whQ 1 x with
  | none => (-102, w)
  | some what => (bsA pop what (ptn w.g w.t.F w.t.C), w)
theorem lst_lt {p : Nat → Bool} {m : Nat → Nat} {n b : Nat} (h : lst p m n = some b) : b < n := (lst_in h).1
theorem fC103 {d : Nat} {w : WD} (ok : WdOK w) (x : Int32) : CFp (d + 40) 103 [.ref 2, .int x] w (ptR w x) := by
  intro h Q c K
  have HS := c.Sh
  unfold ptR at K
  refine Cl.enter rfl (g103_0 (d + 38) _ h HS Q ?_)
  rw [c.NP ok]
  refine ⟨fun z => ?_, fun z => ?_⟩
  · rw [if_neg (by omega)] at K
    have S := c.si z
    refine ⟨fun y => ?_, fun y => ⟨fun y2 => ?_, fun y2 => ?_⟩⟩
    · rw [whQ_neg y] at K
      exact K h c (FrC.rfl HS)
    · rw [whQ_big y y2] at K
      exact K h c (FrC.rfl HS)
    · obtain ⟨k, hk, rfl, e⟩ := whQ_in (m := 1) (by decide) y y2
      rw [e] at K
      dsimp only at K
      have K' := K h c (FrC.rfl HS)
      rw [c.2.1.2.1, c.2.1.2.2.1]
      refine c67 (d := d + 37) ⟨HS, S.2.1, S.2.2.1⟩ ok.2.1 ok.2.2.1 ⟨_, rfl, HS, ?_⟩
      cases hp : ptn w.g w.t.F w.t.C with
      | none =>
        rw [hp] at K'
        exact ⟨fun _ => K', fun q => absurd rfl q⟩
      | some b =>
        have hb : b < 1024 := p2_10 (lst_lt hp) ok.2.1.1
        rw [hp] at K'
        refine ⟨fun q => absurd q (nI_m1 (by omega)), fun _ => ?_⟩
        rw [show (1 : Int32) = nI 1 from rfl, nI_eq (by omega) (by omega)]
        refine ⟨fun q => ?_, fun q => ?_⟩
        · rw [show bsA pop k (some b) = nI b from if_pos q] at K'
          exact K'
        · rw [show bsA pop k (some b) = nI (pop b) from if_neg q] at K'
          exact c199 HS hb ⟨_, rfl, HS, K'⟩
  · rw [if_pos (by omega)] at K
    exact K h c (FrC.rfl HS)
theorem fR167 {d : Nat} {w : WD} (ok : WdOK w) (x : Int32) : RFp (d + 40) 167 [.ref 23, .int x] w (ptR w x) := by
  intro h Q c HS K
  unfold ptR at K
  refine Cl.enter rfl (g167_0 (d + 39) _ h HS Q ?_)
  rw [c.NZ ok]
  refine ⟨fun z => ?_, fun z => ?_⟩
  · rw [if_pos z] at K
    exact K h c Fr.rfl
  · rw [if_neg z] at K
    refine ⟨fun y => ?_, fun y => ⟨fun y2 => ?_, fun y2 => ?_⟩⟩
    · rw [whQ_neg y] at K
      exact K h c Fr.rfl
    · rw [whQ_big y y2] at K
      exact K h c Fr.rfl
    · obtain ⟨k, hk, rfl, e⟩ := whQ_in (m := 1) (by decide) y y2
      rw [e] at K
      exact c166 (d := d + 36) HS c.2.1 ok.2.1 ok.2.2.2.1.1 (by omega) ⟨_, rfl, HS, K h c Fr.rfl⟩
def boR (w : WD) (x : Int32) : Int32 × WD := if w.g.n = 0 then (-103, w) else match whQ 1 x with
  | none => (-102, w)
  | some what => (bgA w.g w.t.F w.t.C what, w)
theorem fC105 {d : Nat} {w : WD} (ok : WdOK w) (x : Int32) : CFp (d + 40) 105 [.ref 2, .int x] w (boR w x) := by
  intro h Q c K
  have HS := c.Sh
  unfold boR at K
  refine Cl.enter rfl (g105_0 (d + 38) _ h HS Q ?_)
  rw [c.NP ok]
  refine ⟨fun z => ?_, fun z => ?_⟩
  · rw [if_neg (by omega)] at K
    have S := c.si z
    refine ⟨fun y => ?_, fun y => ⟨fun y2 => ?_, fun y2 => ?_⟩⟩
    · rw [whQ_neg y] at K
      exact K h c (FrC.rfl HS)
    · rw [whQ_big y y2] at K
      exact K h c (FrC.rfl HS)
    · obtain ⟨k, hk, rfl, e⟩ := whQ_in (m := 1) (by decide) y y2
      rw [e] at K
      dsimp only at K
      unfold bgA at K
      rw [c.2.1.2.1, c.2.1.2.2.1]
      refine c68 (d := d + 14) ok.2.1 ok.2.2.2.1.1 S (fun h' S' r => ⟨_, rfl, S'.1, ?_⟩)
      obtain ⟨c', f'⟩ := c.sr S' r
      have K' := K h' c' f'
      cases hp : bgt w.g w.t.F w.t.C with
      | none =>
        rw [hp] at K'
        exact ⟨fun _ => K', fun q => absurd rfl q⟩
      | some b =>
        have hb : b < 1024 := p2_10 (lst_lt hp) ok.2.1.1
        rw [hp] at K'
        refine ⟨fun q => absurd q (nI_m1 (by omega)), fun _ => ?_⟩
        rw [show (1 : Int32) = nI 1 from rfl, nI_eq (by omega) (by omega)]
        refine ⟨fun q => ?_, fun q => ?_⟩
        · rw [show bsA (fun s => csm w.g.c s w.g.n) k (some b) = nI b from if_pos q] at K'
          exact K'
        · rw [show bsA (fun s => csm w.g.c s w.g.n) k (some b) = nI (csm w.g.c b w.g.n) from if_neg q] at K'
          exact c33 S'.1 S'.2.1 ok.2.1 ⟨_, rfl, S'.1, K'⟩
  · rw [if_pos (by omega)] at K
    exact K h c (FrC.rfl HS)
theorem fR172 {d : Nat} {w : WD} (ok : WdOK w) (x : Int32) : RFp (d + 40) 172 [.ref 23, .int x] w (boR w x) := by
  intro h Q c HS K
  unfold boR at K
  refine Cl.enter rfl (g172_0 (d + 39) _ h HS Q ?_)
  rw [c.NZ ok]
  refine ⟨fun z => ?_, fun z => ?_⟩
  · rw [if_pos z] at K
    exact K h c Fr.rfl
  · rw [if_neg z] at K
    refine ⟨fun y => ?_, fun y => ⟨fun y2 => ?_, fun y2 => ?_⟩⟩
    · rw [whQ_neg y] at K
      exact K h c Fr.rfl
    · rw [whQ_big y y2] at K
      exact K h c Fr.rfl
    · obtain ⟨k, hk, rfl, e⟩ := whQ_in (m := 1) (by decide) y y2
      rw [e] at K
      refine c171 (d := d + 34) HS c.2.1 c.2.2.1 ok.2.1 ok.2.2.2.1.1 (by omega) (fun h' f => ⟨_, rfl, f.Sh HS, ?_⟩)
      obtain ⟨c', f'⟩ := c.sol f
      exact K h' c' f'
