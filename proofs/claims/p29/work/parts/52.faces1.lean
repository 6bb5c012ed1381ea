/-! the class's and the reference's methods: the page, the net, the lanes, the moves -/
theorem x_of {x : Int32} (h : ¬ x < 0) : ∃ j, j < 2 ^ 31 ∧ x = nI j := nI_of h
def lnQ (n : Nat) (x : Int32) : Option Nat := if x < 0 then none else if x.toNatClampNeg < n then some x.toNatClampNeg else none
theorem lnQ_neg {n : Nat} {x : Int32} (h : x < 0) : lnQ n x = none := if_pos h
theorem lnQ_ge {n : Nat} {x : Int32} (hn : n ≤ 10) (h : ¬ x < 0) (h2 : ¬ x < nI n) : lnQ n x = none := by
  obtain ⟨j, hj, rfl⟩ := x_of h
  rw [nI_ltI hj (by omega)] at h2
  unfold lnQ
  rw [if_neg h, tnI hj, if_neg h2]
theorem lnQ_lt {n : Nat} {x : Int32} (hn : n ≤ 10) (h : ¬ x < 0) (h2 : x < nI n) : ∃ j, j < n ∧ x = nI j ∧ lnQ n x = some j := by
  obtain ⟨j, hj, rfl⟩ := x_of h
  rw [nI_ltI hj (by omega)] at h2
  refine ⟨j, h2, rfl, ?_⟩
  unfold lnQ
  rw [if_neg h, tnI hj, if_pos h2]
/-- the reference's test -/
theorem ltm {n : Nat} {x : Int32} (hn : n ≤ 10) (h : ¬ x < 0) : nI n - 1 < x ↔ ¬ x < nI n := by
  obtain ⟨j, hj, rfl⟩ := x_of h
  rw [nI_ltI hj (by omega)]
  cases n with
  | zero =>
    have : nI 0 - 1 < nI j := by
      have e : nI 0 - 1 = (-1 : Int32) := by decide
      rw [e]
      have h2 : ((-1 : Int32) : Int32) < 0 := by decide
      have h3 := fa_of_nlt h
      exact fa_trans h2 h3
    exact ⟨fun _ => Nat.not_lt_zero j, fun _ => this⟩
  | succ k =>
    rw [show (1 : Int32) = nI 1 from rfl, pk_sub (by omega), Nat.add_sub_cancel, nI_ltI (by omega) hj]
    omega
theorem rng {m : Nat} (hm : m < 1000) {x : Int32} (h : ¬ x < 0) (h2 : ¬ nI m < x) : ∃ j, j ≤ m ∧ x = nI j := by
  obtain ⟨j, hj, rfl⟩ := x_of h
  rw [nI_ltI (by omega) hj] at h2
  exact ⟨j, by omega, rfl⟩
theorem netPos {h : AH} {g : G} (hn : NetC h g) (hg : g.n ≤ 10) : (0 : Int32) < AI h 5 5 ↔ 0 < g.n := ltC (x := 0) (a := 0) rfl hn.1 (by omega) (by omega)
theorem netZ {h : AH} {g : G} {F C : Nat} (R : IR h g F C) (hg : g.n ≤ 10) : AI h 23 0 = 0 ↔ g.n = 0 := by
  rw [R.2.1]
  exact nI_eq0 (by omega)
/-- letters -/
theorem fC89 {d : Nat} {w : WD} (ok : WdOK w) (W : Int64) : CFs (d + 40) 89 [.ref 2, .long W] w (ltA W w.L) (wP w (ltL W w.L) (lcC W w.L w.cd)) := by
  intro h Q c K
  obtain ⟨⟨c1, c2, c3, c4, c5, c6⟩, c7, c8⟩ := id c
  have HS := c.Sh
  refine Cl.enter rfl (g89_0 (d + 39) _ h HS Q ?_)
  refine c42 (d := d + 38) HS c1 ok.1.1 (fun h' f p => ⟨_, rfl, f.Sh HS, K h' ⟨⟨p, ?_, ?_, ?_, ?_, ?_⟩, ?_, ?_⟩ (FrC.of HS f ?_)⟩)
  · exact fun z => (c2 z).fr f (fun j => ⟨fun z => by unfold pgP at z; omega, fun z => by unfold pgP at z; omega⟩)
  · obtain ⟨a1, a2, a3, a4⟩ := c3
    refine ⟨?_, ?_, ?_, ?_⟩
    · rw [f.I (by unfold pgP; omega)]; exact a1
    · rw [f.I (by unfold pgP; omega)]; exact a2
    · rw [f.I (by unfold pgP; omega)]; exact a3
    · rw [f.I (by unfold pgP; omega)]; exact a4
  · exact c4.fr f
  · rw [f.1]; exact c5
  · rw [f.2.1]; exact c6
  · exact c7.fr f (fun j => ⟨fun z => by unfold pgP at z; omega, fun z => by unfold pgP at z; omega⟩)
  · exact CS.fr c8 f (fun i j a z => by unfold pgP at z; omega)
  · intro i j z
    unfold pgP at z
    unfold cfP
    omega
/-- fault -/
theorem fC91 {d : Nat} {w : WD} (ok : WdOK w) : CFs (d + 40) 91 [.ref 2] w (nI (ftl w.cd w.L)) w := by
  intro h Q c K
  have HS := c.Sh
  refine Cl.enter rfl (g91_0 (d + 39) h HS Q ?_)
  refine c45 (d := d + 36) ok.1 HS c.1.1 (fun h' f _ => ⟨_, rfl, f.Sh HS, K h' ⟨c.1.fr f (fun i j a z => by unfold lsP at z; omega), c.2.1.fr f (fun j => ⟨by unfold lsP; omega, by unfold lsP; omega⟩), c.2.2.fr f (fun i j a z => by unfold lsP at z; omega)⟩ (FrC.of HS f (fun i j z => by unfold lsP at z; unfold cfP; omega))⟩)
theorem RI.rd {h h' : AH} {w : WD} (c : RI h w) (f : Fr rdP h h') : RI h' w := ⟨c.1.fr f (fun i j a z => by unfold rdP at z; omega), c.2.1.fr f (fun i j a z => by unfold rdP at z; omega), c.2.2.1.fr f (fun j z => by unfold rdP at z; omega), c.2.2.2.fr f ⟨by unfold rdP; omega, by unfold rdP; omega⟩ (fun j z => by unfold rdP at z; omega)⟩
/-- net -/
def ntA (w : WD) : Int32 := match ntQ w.cd w.L with
  | none => -103
  | some m => nI m
def ntW (w : WD) : WD := match ntQ w.cd w.L with
  | none => w
  | some m => wN w (fnG (dtt w.cd w.L) m) (fnT (dtt w.cd w.L) m)
theorem fC92 {d : Nat} {w : WD} (ok : WdOK w) (hnn : w.nn ≤ 1000) : CFs (d + 40) 92 [.ref 2] w (ntA w) (ntW w) := by
  intro h Q c K
  have HS := c.Sh
  obtain ⟨⟨c1, c2, ⟨c3, c4, c5, c6⟩, c7, c8, c9⟩, c10, c11, S, -⟩ := id c
  have hmd := ok.2.2.2.2.2.2.2
  refine c92 (d := d + 34) ok.1 S c1 c4 (fun hq h' f => ?_) (fun m hq h' f S' s' e3 e12 e10 => ?_)
  · have eA : ntA w = -103 := by unfold ntA; rw [hq]
    have eW : ntW w = w := by unfold ntW; rw [hq]
    rw [eA, eW] at K
    exact K h' ⟨c.1.fr f (fun i j a z => by unfold lsP at z; omega), c.2.1.fr f (fun j => ⟨by unfold lsP; omega, by unfold lsP; omega⟩), c.2.2.fr f (fun i j a z => by unfold lsP at z; omega)⟩ (FrC.of HS f (fun i j z => by unfold lsP at z; unfold cfP; omega))
  · have eA : ntA w = nI m := by unfold ntA; rw [hq]
    have eW : ntW w = wN w (fnG (dtt w.cd w.L) m) (fnT (dtt w.cd w.L) m) := by unfold ntW; rw [hq]
    rw [eA, eW] at K
    refine K h' ⟨⟨⟨e3, fun i hi => absurd hi (Nat.not_lt_zero i)⟩, fun z => (by cases z), ⟨?_, e10, ?_, e12⟩, c7.fr f, by rw [f.1]; exact c8, by rw [f.2.1]; exact c9⟩, s', S'.2.1, S'.SB, fun _ => S'⟩ (FrC.of HS f (fun i j z => by unfold ncP at z; unfold cfP; omega))
    · rw [f.I (by unfold ncP; omega)]; exact c3
    · rw [f.I (by unfold ncP; omega)]; exact c5
theorem ntW_ok {w : WD} (ok : WdOK w) : WdOK (ntW w) := by
  unfold ntW
  cases hq : ntQ w.cd w.L with
  | none => exact ok
  | some m =>
    obtain ⟨o1, o2, o3, o4, o5, o6, o7, o8⟩ := ok
    obtain ⟨-, -, -, -, h9⟩ := ntQ_some hq
    exact ⟨⟨Nat.zero_le _, fun i hi => absurd hi (Nat.not_lt_zero i)⟩, fnG_ok hq, h9, fnT_ok _ _, fun z => (by cases z), o6, o7, o8⟩
