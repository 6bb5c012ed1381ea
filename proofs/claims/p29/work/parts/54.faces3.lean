/-! whose, by, answer, lost, ways, parting, mend, bought, likely -/
theorem CI.sr {h h' : AH} {w : WD} (c : CI h w) (S : SI h' w.g) (r : SR h h') : CI h' w ∧ FrC h h' := ⟨c.sch r (fun i j z => by unfold csP; omega) S, FrC.sch c r (fun i j z => by unfold csP; omega)⟩
theorem CI.sw {h h' : AH} {w : WD} (c : CI h w) (S : SI h' w.g) (r : Fr wqP h h') : CI h' w ∧ FrC h h' := ⟨c.sch r (fun i j z => by unfold wqP at z; unfold csP; omega) S, FrC.sch c r (fun i j z => by unfold wqP at z; unfold csP; omega)⟩
theorem RI.sol {h h' : AH} {w : WD} (c : RI h w) (f : Fr solP h h') : RI h' w ∧ Fr rgP h h' := ⟨c.sch0 f (fun i j z => sol_in z), rg_of f (fun i j z => by have := sol_in z; omega)⟩
/-- whose -/
def whA (g : G) (F C who : Nat) : Int32 := if hv g F C who = true then 0 else 1
def whR (w : WD) (x : Int32) : Int32 × WD := match sdQ x with
  | none => (-101, w)
  | some who => if w.g.n = 0 then (-103, w) else (whA w.g w.t.F w.t.C who, w)
theorem fC98 {d : Nat} {w : WD} (ok : WdOK w) (x : Int32) : CFp (d + 40) 98 [.ref 2, .int x] w (whR w x) := by
  intro h Q c K
  have HS := c.Sh
  have hT := ok.2.2.2.1
  have body : ∀ who, who < 2 → sdQ x = some who → x = nI who → (((0 : Int32) < AI h 5 5 → (Cl (d + 39) 58 [.ref 17, .int (AI h 11 3), .int (AI h 11 4), .int x] h (fun r h3 => ∃ x5 : Int32, r = some (.int x5) ∧ Sh h3 ∧ Q (some (.int x5)) h3))) ∧ (¬ (0 : Int32) < AI h 5 5 → Q (some (.int (-103))) h)) := by
    intro who hw hs hx
    unfold whR at K
    rw [hs] at K
    dsimp only at K
    rw [c.NP ok, c.2.1.2.1, c.2.1.2.2.1, hx]
    refine ⟨fun z => ?_, fun z => ?_⟩
    · rw [if_neg (by omega)] at K
      have S := c.si z
      refine c58 (d := d + 15) ok.2.1 hw hT.1 S (fun h' S' r => ⟨_, rfl, S'.1, ?_⟩)
      obtain ⟨c', f'⟩ := c.sr S' r
      exact K h' c' f'
    · rw [if_pos (by omega)] at K
      exact K h c (FrC.rfl HS)
  refine Cl.enter rfl (g98_0 (d + 38) _ h HS Q ⟨fun z => ?_, fun z => ⟨fun z2 => ?_, fun z2 => ?_⟩⟩)
  · exact body 0 (by decide) (by rw [z]; rfl) z
  · exact body 1 (by decide) (by rw [z2]; rfl) z2
  · unfold whR at K
    have hs : sdQ x = none := by
      unfold sdQ
      rw [if_neg z, if_neg z2]
    rw [hs] at K
    exact K h c (FrC.rfl HS)
/-- by -/
def byR (w : WD) (x : Int32) : Int32 × WD := match sdQ x with
  | none => (-101, w)
  | some who => if w.g.n = 0 then (-103, w) else (lsg w.g w.t.F w.t.C who, w)
theorem fC99 {d : Nat} {w : WD} (ok : WdOK w) (x : Int32) : CFp (d + 40) 99 [.ref 2, .int x] w (byR w x) := by
  intro h Q c K
  have HS := c.Sh
  have hT := ok.2.2.2.1
  have body : ∀ who, who < 2 → sdQ x = some who → x = nI who → (((0 : Int32) < AI h 5 5 → (Cl (d + 39) 59 [.ref 17, .int (AI h 11 3), .int (AI h 11 4), .int x] h (fun r h3 => ∃ x5 : Int32, r = some (.int x5) ∧ Sh h3 ∧ Q (some (.int x5)) h3))) ∧ (¬ (0 : Int32) < AI h 5 5 → Q (some (.int (-103))) h)) := by
    intro who hw hs hx
    unfold byR at K
    rw [hs] at K
    dsimp only at K
    rw [c.NP ok, c.2.1.2.1, c.2.1.2.2.1, hx]
    refine ⟨fun z => ?_, fun z => ?_⟩
    · rw [if_neg (by omega)] at K
      have S := c.si z
      refine c59 (d := d + 14) ok.2.1 hw hT.1 S (fun h' S' r => ⟨_, rfl, S'.1, ?_⟩)
      obtain ⟨c', f'⟩ := c.sr S' r
      exact K h' c' f'
    · rw [if_pos (by omega)] at K
      exact K h c (FrC.rfl HS)
  refine Cl.enter rfl (g99_0 (d + 38) _ h HS Q ⟨fun z => ?_, fun z => ⟨fun z2 => ?_, fun z2 => ?_⟩⟩)
  · exact body 0 (by decide) (by rw [z]; rfl) z
  · exact body 1 (by decide) (by rw [z2]; rfl) z2
  · unfold byR at K
    have hs : sdQ x = none := by
      unfold sdQ
      rw [if_neg z, if_neg z2]
    rw [hs] at K
    exact K h c (FrC.rfl HS)
/-- answer -/
def anR (w : WD) (x : Int32) : Int32 × WD := match lnQ w.g.n x with
  | none => (-101, w)
  | some j => if outc w.g w.t.F w.t.C = 0 ∧ opb w.t.F w.t.C j = true then (lsg w.g w.t.F (w.t.C ||| 2 ^ j) 0, w) else (-103, w)
theorem fC100 {d : Nat} {w : WD} (ok : WdOK w) (x : Int32) : CFp (d + 40) 100 [.ref 2, .int x] w (anR w x) := by
  intro h Q c K
  have HS := c.Sh
  have hn := c.2.2.1
  have hg := ok.2.1.1
  have hT := ok.2.2.2.1
  unfold anR at K
  refine Cl.enter rfl (g100_0 (d + 37) _ h HS Q ?_)
  rw [hn.1]
  refine ⟨fun z => ?_, fun z => ⟨fun z2 => ?_, fun z2 => ?_⟩⟩
  · rw [lnQ_neg z] at K
    exact K h c (FrC.rfl HS)
  · obtain ⟨j, hj, rfl, e⟩ := lnQ_lt hg z z2
    rw [e] at K
    dsimp only at K
    have S := c.si (by omega)
    rw [c.2.1.2.1, c.2.1.2.2.1]
    refine c37 HS S.2.1 S.2.2.1 ok.2.1 hT.1.1 ⟨_, rfl, HS, ?_⟩
    have := outc_lt w.g w.t.F w.t.C
    rw [nI_eq0 (by omega)]
    refine ⟨fun y => ?_, fun y => ?_⟩
    · refine c78 HS (Or.inl rfl) c.2.1 (by omega) ⟨_, rfl, HS, ?_⟩
      have := sta_lt w.t.F w.t.C j
      rw [nI_eq0 (by omega), sta0]
      refine ⟨fun y2 => ?_, fun y2 => ?_⟩
      · rw [if_pos ⟨y, y2⟩] at K
        rw [i1 j (by omega), c.2.1.2.1, c.2.1.2.2.1, fa_or]
        refine c59 (d := d + 14) (w := 0) ok.2.1 (by decide) (hT.1.C hj y2) S (fun h' S' r => ⟨_, rfl, S'.1, ?_⟩)
        obtain ⟨c', f'⟩ := c.sr S' r
        exact K h' c' f'
      · rw [if_neg (fun q => y2 q.2)] at K
        exact K h c (FrC.rfl HS)
    · rw [if_neg (fun q => y q.1)] at K
      exact K h c (FrC.rfl HS)
  · rw [lnQ_ge hg z z2] at K
    exact K h c (FrC.rfl HS)
/-- lost -/
def loR (w : WD) : Int32 × WD := if w.g.n = 0 then (-103, w) else (lsA w.g w.t, w)
theorem fC101 {d : Nat} {w : WD} (ok : WdOK w) : CFp (d + 40) 101 [.ref 2] w (loR w) := by
  intro h Q c K
  have HS := c.Sh
  unfold loR at K
  by_cases z : w.g.n = 0
  · rw [if_pos z] at K
    refine Cl.enter rfl (g101_0 (d + 38) h HS Q ?_)
    rw [c.NP ok]
    exact ⟨fun y => by omega, fun _ => K h c (FrC.rfl HS)⟩
  · rw [if_neg z] at K
    have S := c.si (by omega)
    refine c101 (d := d + 15) S ok.2.1 ok.2.2.1 (by omega) ok.2.2.2.1 c.2.1 (fun h' f S' => ?_)
    exact K h' (c.sch f (fun i j z => by unfold ltP at z; unfold csP; omega) S') (FrC.sch c f (fun i j z => by unfold ltP at z; unfold csP; omega))
/-- ways -/
def wyR (w : WD) : Int32 × WD := if w.g.n = 0 then (-103, w) else (fsI (wyp w.g w.t.F w.t.C) (2 ^ w.g.n), w)
/-- parting, bought -/
def whQ (m : Nat) (x : Int32) : Option Nat := if x < 0 then none else if nI m < x then none else some x.toNatClampNeg
theorem whQ_neg {m : Nat} {x : Int32} (h : x < 0) : whQ m x = none := if_pos h
theorem whQ_big {m : Nat} {x : Int32} (h : ¬ x < 0) (h2 : nI m < x) : whQ m x = none := by
  unfold whQ
  rw [if_neg h, if_pos h2]
theorem whQ_in {m : Nat} (hm : m < 1000) {x : Int32} (h : ¬ x < 0) (h2 : ¬ nI m < x) : ∃ k, k ≤ m ∧ x = nI k ∧ whQ m x = some k := by
  obtain ⟨k, hk, rfl⟩ := rng hm h h2
  refine ⟨k, hk, rfl, ?_⟩
  unfold whQ
  rw [if_neg h, if_neg h2, tnI (by omega)]
def ptR (w : WD) (x : Int32) : Int32 × WD := if w.g.n = 0 then (-103, w) else match whQ 1 x with
  | none => (-102, w)
  | some what => (bsA pop what (ptn w.g w.t.F w.t.C), w)
theorem lst_lt {p : Nat → Bool} {m : Nat → Nat} {n b : Nat} (h : lst p m n = some b) : b < n := (lst_in h).1
def boR (w : WD) (x : Int32) : Int32 × WD := if w.g.n = 0 then (-103, w) else match whQ 1 x with
  | none => (-102, w)
  | some what => (bgA w.g w.t.F w.t.C what, w)
