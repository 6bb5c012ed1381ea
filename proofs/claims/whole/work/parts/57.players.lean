/-! player, as -/
def FrN (h h' : AH) : Prop := AN h ≤ AN h' ∧ ∀ i, i < AN h → AK h' i = AK h i ∧ ∀ j, AI h' i j = AI h i j ∧ AL h' i j = AL h i j ∧ AR h' i j = AR h i j
/-- an object made when all known ones stand -/
def newP (h : AH) (kd len : Nat) : AH := ((h.1.1 + 1, h.1.2 + len), up1 h.2.1 h.1.1 (kd, len), up1 h.2.2.1 h.1.1 (fun _ => 0), up1 h.2.2.2.1 h.1.1 (fun _ => 0), up1 h.2.2.2.2 h.1.1 (fun _ => none))
theorem newO_big {h : AH} (b : 47 ≤ AN h) (kd n : Nat) : newO h kd n = newP h kd n := by
  unfold newO newP
  rw [show sgm h.1.1 = h.1.1 from sgm_47 b]
theorem NX_big {h : AH} (b : 47 ≤ AN h) : NX h = AN h := sgm_47 b
theorem AK_newP (h : AH) (kd n i : Nat) : AK (newP h kd n) i = if i = AN h then (kd, n) else AK h i := rfl
theorem AR_newP (h : AH) (kd n i j : Nat) : AR (newP h kd n) i j = if i = AN h then none else AR h i j := by
  show up1 (AR h) (AN h) (fun _ => none) i j = _
  unfold up1
  split <;> rfl
theorem AI_newP (h : AH) (kd n i j : Nat) : AI (newP h kd n) i j = if i = AN h then 0 else AI h i j := by
  show up1 (AI h) (AN h) (fun _ => 0) i j = _
  unfold up1
  split <;> rfl
theorem AL_newP (h : AH) (kd n i j : Nat) : AL (newP h kd n) i j = if i = AN h then 0 else AL h i j := by
  show up1 (AL h) (AN h) (fun _ => 0) i j = _
  unfold up1
  split <;> rfl
theorem AN_newP (h : AH) (kd n : Nat) : AN (newP h kd n) = AN h + 1 := rfl
theorem AT_newP (h : AH) (kd n : Nat) : AT (newP h kd n) = AT h + n := rfl
theorem AR_stR (h : AH) (i j : Nat) (v : Option Nat) (a b : Nat) : AR (stR h i j v) a b = if a = i ∧ b = j then v else AR h a b := rfl
theorem FrN.new (h : AH) (kd n : Nat) : FrN h (newP h kd n) := by
  refine ⟨by rw [AN_newP]; omega, fun i hi => ⟨by rw [AK_newP, if_neg (by omega)], fun j => ⟨by rw [AI_newP, if_neg (by omega)], by rw [AL_newP, if_neg (by omega)], by rw [AR_newP, if_neg (by omega)]⟩⟩⟩
theorem FrN.trans {h h1 h2 : AH} (a : FrN h h1) (b : FrN h1 h2) : FrN h h2 := by
  obtain ⟨a1, a2⟩ := a
  obtain ⟨b1, b2⟩ := b
  refine ⟨by omega, fun i hi => ⟨(b2 i (by omega)).1.trans (a2 i hi).1, fun j => ⟨((b2 i (by omega)).2 j).1.trans ((a2 i hi).2 j).1, ((b2 i (by omega)).2 j).2.1.trans ((a2 i hi).2 j).2.1, ((b2 i (by omega)).2 j).2.2.trans ((a2 i hi).2 j).2.2⟩⟩⟩
/-- a link written in a new object -/
theorem FrN.stR {h h1 : AH} (a : FrN h h1) {i j : Nat} {v : Option Nat} (hi : AN h ≤ i) : FrN h (stR h1 i j v) := by
  obtain ⟨a1, a2⟩ := a
  refine ⟨a1, fun k hk => ⟨(a2 k hk).1, fun b => ⟨((a2 k hk).2 b).1, ((a2 k hk).2 b).2.1, ?_⟩⟩⟩
  rw [AR_stR, if_neg (by omega)]
  exact ((a2 k hk).2 b).2.2
theorem FrN.Sh {h h' : AH} (a : FrN h h') (hs : Sh h) : Sh h' := by
  obtain ⟨a1, a2⟩ := a
  obtain ⟨s1, s2, s3⟩ := hs
  refine ⟨by omega, fun i hi => ?_, fun i b v hv => ?_⟩
  · have := (K0_lt hi).2
    rw [(a2 i (by omega)).1]
    exact s2 i hi
  · have hlt : i < 46 := by
      rcases Nat.lt_or_ge i 46 with z | z
      · exact z
      · exfalso
        unfold R0 at hv
        rw [List.getD_eq_getElem?_getD (l := R0l), List.getElem?_eq_none (by show 46 ≤ i; exact z)] at hv
        cases hv
    rw [((a2 i (by omega)).2 b).2.2]
    exact s3 i b v hv
/-- the objects below 47 stand as they were -/
def E46 (h h' : AH) : Prop := ∀ i, i < 47 → AK h' i = AK h i ∧ ∀ j, AI h' i j = AI h i j ∧ AL h' i j = AL h i j
theorem frN_E {h h' : AH} (a : FrN h h') (hs : Sh h) : E46 h h' := fun i hi => ⟨(a.2 i (by have := hs.1; omega)).1, fun j => ⟨((a.2 i (by have := hs.1; omega)).2 j).1, ((a.2 i (by have := hs.1; omega)).2 j).2.1⟩⟩
theorem E46.I {h h' : AH} (e : E46 h h') {i j : Nat} (hi : i < 47) : AI h' i j = AI h i j := ((e i hi).2 j).1
theorem E46.Ln {h h' : AH} (e : E46 h h') {i j : Nat} (hi : i < 47) : AL h' i j = AL h i j := ((e i hi).2 j).2
theorem E46.page {h h' : AH} (e : E46 h h') {L : Nat} {cd : Nat → Nat} (p : PgC h L cd) : PgC h' L cd := ⟨by rw [e.I (by decide)]; exact p.1, fun i hi => by rw [e.I (by decide)]; exact p.2 i hi⟩
theorem E46.stC {h h' : AH} (e : E46 h h') {v : Nat} {t : ST} (hv : v + 1 < 46) (s : StC h v t) : StC h' v t := by
  obtain ⟨s1, s2, s3, s4, s5⟩ := s
  exact ⟨by rw [e.I (by omega)]; exact s1, by rw [e.I (by omega)]; exact s2, by rw [e.I (by omega)]; exact s3, by rw [e.I (by omega)]; exact s4, fun i hi => by rw [e.I (by omega)]; exact s5 i hi⟩
theorem E46.net {h h' : AH} (e : E46 h h') {g : G} (s : NetC h g) : NetC h' g := by
  obtain ⟨s1, s2, s3, s4⟩ := s
  refine ⟨by rw [e.I (by omega)]; exact s1, by rw [e.I (by omega)]; exact s2, by rw [e.I (by omega)]; exact s3, fun i hi => ?_⟩
  rw [e.I (by omega), e.I (by omega), e.I (by omega), e.I (by omega)]
  exact s4 i hi
theorem E46.sb {h h' : AH} (e : E46 h h') (hs : Sh h') (s : SB h) : SB h' := by
  obtain ⟨s1, s2, s3⟩ := s
  exact ⟨hs, fun q hq => by rw [e.I (by omega)]; exact s2 q hq, ⟨by rw [(e 1 (by omega)).1]; exact s3.1, fun j hj => by rw [e.I (by omega)]; exact s3.2 j hj⟩⟩
theorem E46.si {h h' : AH} (e : E46 h h') (hs : Sh h') {g : G} (s : SI h g) : SI h' g := by
  obtain ⟨s1, s2, s3, s4, s5, s6, s7⟩ := s
  refine ⟨hs, e.net s2, fun q hq => by rw [e.I (by omega)]; exact s3 q hq, fun q hq => by rw [e.I (by omega)]; exact s4 q hq, ⟨by rw [(e 1 (by omega)).1]; exact s5.1, fun j hj => by rw [e.I (by omega)]; exact s5.2 j hj⟩, fun w F C hw hv => ?_, ?_⟩
  · unfold ow
    rw [e.Ln (by omega)]
    exact s6 w F C hw hv
  · unfold WtC
    rw [e.I (by omega)]
    rcases s7 with z | ⟨tk, a, b, c⟩
    · exact Or.inl z
    · refine Or.inr ⟨tk, a, b, fun how F C w h3 hw hv he => ?_⟩
      unfold wt
      rw [e.Ln (by omega)]
      exact c how F C w h3 hw hv he
theorem clsK_99 (kd : Nat) : clsK kd ≠ 99 := by
  unfold clsK
  repeat' split
  all_goals decide
theorem PlK.frN {h h' : AH} {id kd : Nat} (p : PlK h id kd) (hf : FrN h h') (h99 : ∀ i, AN h ≤ i → (AK h i).1 = 99) : PlK h' id kd := by
  obtain ⟨a, b, c⟩ := p
  have lt : ∀ i, (AK h i).1 ≠ 99 → i < AN h := fun i hi => by
    rcases Nat.lt_or_ge i (AN h) with z | z
    · exact z
    · exact absurd (h99 i z) hi
  have hid : id < AN h := lt id (by rw [b]; exact clsK_99 kd)
  refine ⟨a, by rw [(hf.2 id hid).1]; exact b, fun hk => ?_⟩
  obtain ⟨i, j, e1, e2, e3, e4, e5⟩ := c hk
  have hi := lt i (by rw [e3.2]; decide)
  have hj := lt j (by rw [e4.2]; decide)
  refine ⟨i, j, by rw [((hf.2 id hid).2 0).2.2]; exact e1, by rw [((hf.2 id hid).2 1).2.2]; exact e2, ⟨e3.1, by rw [(hf.2 i hi).1]; exact e3.2⟩, ⟨e4.1, by rw [(hf.2 j hj).1]; exact e4.2⟩, e5⟩
theorem c51 {d n : Nat} {h : AH} {Q : Option Value → AH → Prop} (K : Q none h) : Cl d 51 [.ref n] h Q := Cl.enter rfl (g51_0 d n h Q K)
/-- what two rows and their owner look like -/
theorem near_new {d n : Nat} {h0 h : AH} {c : Nat} (hc : okC 4 c = true) (hn : n = NX h0) (e : h = newO h0 c 2) (h46 : 47 ≤ AN h0) (h99 : ∀ i, AN h0 ≤ i → (AK h0 i).1 = 99) {Q : Option Value → AH → Prop} (K : ∀ h', FrN h0 h' → (AK h' n).1 = c → (∃ i j, AR h' n 0 = some i ∧ AR h' n 1 = some j ∧ Row6 h' i ∧ Row6 h' j ∧ i ≠ j) → (∀ i, AN h' ≤ i → (AK h' i).1 = 99) → AN h' = AN h0 + 3 → AT h' = AT h0 + 14 → Q none h') : Cl (d + 1) 13 [.ref n] h Q := by
  rw [NX_big h46] at hn
  rw [newO_big h46] at e
  have b0 : 47 ≤ AN h := by rw [e, AN_newP]; omega
  refine Cl.enter rfl (g13_0 d n h Q (c51 ⟨rfl, fun n3 e3 h4 e4 => ?_⟩))
  rw [NX_big b0] at e3
  rw [newO_big b0] at e4
  have b1 : 47 ≤ AN (stR h4 n 0 (some n3)) := by
    show 47 ≤ AN h4
    rw [e4, AN_newP]
    omega
  refine ⟨?_, by omega, fun n9 e9 h10 e10 => ?_⟩
  · rw [e4, AK_newP, e, AN_newP, if_neg (by omega), AK_newP, if_pos hn]
    exact hc
  rw [NX_big b1] at e9
  rw [newO_big b1] at e10
  refine ⟨?_, ?_⟩
  · rw [e10, AK_newP, e4]
    show okC 4 (if n = AN (newP h 20 6) then _ else AK (newP h 20 6) n).1 = true
    rw [AN_newP, e, AN_newP, if_neg (by omega), AK_newP, AN_newP, if_neg (by omega), AK_newP, if_pos hn]
    exact hc
  · have a3 : n3 = AN h0 + 1 := by rw [e3, e, AN_newP]
    have a9 : n9 = AN h0 + 2 := by
      rw [e9, e4]
      show AN (newP h 20 6) = _
      rw [AN_newP, e, AN_newP]
    have f1 : FrN h0 h := by rw [e]; exact FrN.new h0 c 2
    have f2 : FrN h0 h4 := by rw [e4]; exact f1.trans (FrN.new h 20 6)
    have f3 : FrN h0 (stR h4 n 0 (some n3)) := f2.stR (by omega)
    have f4 : FrN h0 h10 := by rw [e10]; exact f3.trans (FrN.new _ 20 6)
    have f5 : FrN h0 (stR h10 n 1 (some n9)) := f4.stR (by omega)
    have n4 : AN h4 = AN h0 + 2 := by rw [e4, AN_newP, e, AN_newP]
    have n10 : AN h10 = AN h0 + 3 := by
      rw [e10, AN_newP]
      show AN h4 + 1 = _
      omega
    have k10 : ∀ i, AK h10 i = if i = AN h0 + 2 then (20, 6) else if i = AN h0 + 1 then (20, 6) else if i = AN h0 then (c, 2) else AK h0 i := by
      intro i
      rw [e10, AK_newP]
      show (if i = AN h4 then _ else AK h4 i) = _
      rw [n4, e4, AK_newP, e, AN_newP, AK_newP]
    refine K _ f5 ?_ ⟨n3, n9, ?_, ?_, ⟨by omega, ?_⟩, ⟨by omega, ?_⟩, by omega⟩ (fun i hi => ?_) n10 ?_
    · show (AK h10 n).1 = c
      rw [k10, if_neg (by omega), if_neg (by omega), if_pos hn]
    · rw [AR_stR, if_neg (by omega), e10, AR_newP]
      show (if n = AN h4 then none else AR (stR h4 n 0 (some n3)) n 0) = some n3
      rw [if_neg (by omega), AR_stR, if_pos ⟨rfl, rfl⟩]
    · rw [AR_stR, if_pos ⟨rfl, rfl⟩]
    · show AK h10 n3 = (20, 6)
      rw [k10, if_neg (by omega), if_pos a3]
    · show AK h10 n9 = (20, 6)
      rw [k10, if_pos a9]
    · have hi2 : AN h10 ≤ i := hi
      show (AK h10 i).1 = 99
      rw [k10, if_neg (by omega), if_neg (by omega), if_neg (by omega)]
      exact h99 i (by omega)
    · show AT h10 = _
      rw [e10, AT_newP]
      show AT h4 + 6 = _
      rw [e4, AT_newP, e, AT_newP]
theorem c121 {d kd : Nat} (hk : kd < 5) {h : AH} (HS : Sh h) (h99 : ∀ i, AN h ≤ i → (AK h i).1 = 99) {Q : Option Value → AH → Prop} (K : ∀ h' id, FrN h h' → PlK h' id kd → (∀ i, AN h' ≤ i → (AK h' i).1 = 99) → AN h' ≤ AN h + 3 → AT h' ≤ AT h + 14 → Q (some (.ref id)) h') : Cl (d + 3) 121 [.int (nI kd)] h Q := by
  have h46 := HS.1
  have es : ∀ q, q < 8 → (nI kd = Int32.ofNat q ↔ kd = q) := fun q hq => eqN (by omega) (by omega)
  have one : ∀ c, c = clsK kd → (kd ≠ 2 ∧ kd ≠ 3) → ∀ h3, h3 = newO h c 0 → Q (some (.ref (NX h))) h3 := by
    intro c hc hne h3 e3
    rw [NX_big h46]
    rw [newO_big h46] at e3
    refine K h3 (AN h) (by rw [e3]; exact FrN.new h c 0) ⟨h46, by rw [e3, AK_newP, if_pos rfl]; exact hc, fun z => by omega⟩ (fun i hi => ?_) (by rw [e3, AN_newP]; omega) (by rw [e3, AT_newP]; omega)
    rw [e3, AN_newP] at hi
    rw [e3, AK_newP, if_neg (by omega)]
    exact h99 i (by omega)
  refine Cl.enter rfl (g121_0 (d + 2) _ h HS Q ?_)
  rw [es 1 (by decide), es 2 (by decide), es 3 (by decide), es 4 (by decide)]
  refine ⟨fun z => (fun n2 e2 h3 e3 => ?_), fun z1 => ⟨fun z => (fun n2 e2 h3 e3 => ?_), fun z2 => ⟨fun z => (fun n2 e2 h3 e3 => ?_), fun z3 => ⟨fun z => (fun n2 e2 h3 e3 => ?_), fun z4 => (fun n2 e2 h3 e3 => ?_)⟩⟩⟩⟩
  · refine Cl.enter rfl (g0_0 (d + 1) n2 h3 _ (c51 ⟨rfl, rfl, ?_, ?_⟩))
    · rw [e3]; exact HS.newO 0 0
    · rw [e2]; exact one 0 (by rw [z]; rfl) (by omega) h3 e3
  · refine near_new (c := 4) (by decide) e2 e3 h46 h99 (fun h' f a b q1 q2 q3 => ⟨rfl, f.Sh HS, ?_⟩)
    exact K h' n2 f ⟨by rw [e2, NX_big h46]; omega, by rw [a, z]; rfl, fun _ => b⟩ q1 (by omega) (by omega)
  · refine Cl.enter rfl (g6_0 (d + 1) n2 h3 _ ?_)
    refine near_new (c := 2) (by decide) e2 e3 h46 h99 (fun h' f a b q1 q2 q3 => ⟨rfl, rfl, f.Sh HS, ?_⟩)
    exact K h' n2 f ⟨by rw [e2, NX_big h46]; omega, by rw [a, z]; rfl, fun _ => b⟩ q1 (by omega) (by omega)
  · refine Cl.enter rfl (g3_0 (d + 1) n2 h3 _ (c51 ⟨rfl, rfl, ?_, ?_⟩))
    · rw [e3]; exact HS.newO 1 0
    · rw [e2]; exact one 1 (by rw [z]; rfl) (by omega) h3 e3
  · refine c51 ⟨rfl, ?_, ?_⟩
    · rw [e3]; exact HS.newO 7 0
    · have : kd = 0 := by omega
      rw [e2]; exact one 7 (by rw [this]; rfl) (by omega) h3 e3
def plR (w : WD) (x : Int32) : Int32 × WD := match whQ 4 x with
  | none => (-102, w)
  | some kd => if w.np = 5 then (-104, w) else (nI w.np, wY w kd)
theorem plR_ok {w : WD} (ok : WdOK w) (x : Int32) : WdOK (plR w x).2 := by
  unfold plR
  split
  · exact ok
  · rename_i kd hk
    split
    · exact ok
    · obtain ⟨o1, o2, o3, o4, o5, o6, o7, o8⟩ := ok
      refine ⟨o1, o2, o3, o4, o5, by show w.np + 1 ≤ 5; omega, fun p hp => ?_, o8⟩
      have hp2 : p < w.np + 1 := hp
      show upN w.kf w.np kd p < 5
      by_cases e : p = w.np
      · rw [e, upN_s]
        unfold whQ at hk
        split at hk
        · cases hk
        · rename_i hn
          split at hk
          · cases hk
          · rename_i hn2
            obtain ⟨j, hj, rfl⟩ := rng (m := 4) (by decide) hn hn2
            rw [tnI (by omega)] at hk
            cases hk
            omega
      · rw [upN_o _ _ e]
        exact o7 p (by omega)
theorem lt5 {x : Int32} (h : ¬ x < 0) : x < 5 ↔ ¬ nI 4 < x := by
  obtain ⟨j, hj, rfl⟩ := x_of h
  rw [ltC (y := 5) (b := 5) rfl rfl hj (by omega), nI_ltI (by omega) hj]
  omega
theorem clsK_ok (kd : Nat) : (Nat.beq (clsK kd) 0 || Nat.beq (clsK kd) 1 || Nat.beq (clsK kd) 2 || Nat.beq (clsK kd) 4 || Nat.beq (clsK kd) 7) = true := by
  unfold clsK
  repeat' split
  all_goals rfl
theorem act_aa {h : AH} {i j : Nat} (HS : Sh h) (h2 : 2 ≤ i) (hk : (Nat.beq (AK h i).1 0 || Nat.beq (AK h i).1 1 || Nat.beq (AK h i).1 2 || Nat.beq (AK h i).1 4 || Nat.beq (AK h i).1 7) = true) (hj : j < 5) (L : List Value) : act 107 44 (1, .aastore, x0) L [.ref i, .int (nI j), .ref 22] h = some (.inl (45, L, [], stR h 22 (nI j).toNatClampNeg (some i))) := by
  unfold act ast
  dsimp only
  rw [if_pos (by rw [kS HS 22 rfl, inS HS 22 (n := 5) (c := 24) rfl (ixR_nI hj (by decide))]; rfl), if_pos (by rw [hk, Nat.ble_eq_true_of_le h2]; rfl)]
  rfl
theorem fC107 {d : Nat} {w : WD} (ok : WdOK w) (x : Int32) : CFp (d + 40) 107 [.ref 2, .int x] w (plR w x) := by
  intro h Q c K
  have HS := c.Sh
  have hnp := ok.2.2.2.2.2.1
  unfold plR at K
  obtain ⟨⟨c1, c2, ⟨c3, c4, c5, c6⟩, c7, c8, c9⟩, c10, c11, sb, si⟩ := id c
  refine Cl.enter rfl (g107_0 (d + 39) _ h HS Q ?_)
  refine ⟨fun z => ?_, fun z => ?_⟩
  · rw [whQ_neg z] at K
    exact K h c (FrC.rfl HS)
  rw [lt5 z]
  refine ⟨fun z2 => ?_, fun z2 => ?_⟩
  · obtain ⟨kd, hk, rfl, e⟩ := whQ_in (m := 4) (by decide) z z2
    rw [e] at K
    dsimp only at K
    rw [c3, K0_len HS 22 (c := 24) (n := 5) rfl]
    refine ⟨fun y => absurd y (nI_pos (by omega)), fun _ => ⟨Or.inr (Or.inr (kS HS 22 rfl)), ?_⟩⟩
    rw [nI_fold, nI_ltI (by omega) (by omega)]
    refine ⟨fun y => ?_, fun y => ?_⟩
    · rw [if_neg (by omega)] at K
      refine c121 (d := d + 36) (by omega) HS c7.2.2 (fun h6 id f p h99 q1 q2 => ⟨id, rfl, f.Sh HS, ?_⟩)
      have HS6 := f.Sh HS
      refine ⟨act_aa HS6 (by have := p.1; omega) (by rw [p.2.1]; exact clsK_ok kd) y _, ?_⟩
      rw [tnI (by omega)]
      have E6 := frN_E f HS
      have n9 : AI (stR h6 22 w.np (some id)) 2 9 = nI w.np := by
        show AI h6 2 9 = _
        rw [E6.I (by decide), c3]
      rw [n9, nI_1, AI_stI_s, show (1 : Int32) = nI 1 from rfl, pk_sub (by omega), Nat.add_sub_cancel]
      have HS7 : Sh (stI (stR h6 22 w.np (some id)) 2 9 (nI (w.np + 1))) := (HS6.stR (fun b => rfl)).stI _ _ _
      have E7 : ∀ i j, i < 46 → (i ≠ 2 ∨ j ≠ 9) → AI (stI (stR h6 22 w.np (some id)) 2 9 (nI (w.np + 1))) i j = AI h i j := fun i j hi hne => by
        rw [AI_stI_o _ _ hne]
        show AI h6 i j = _
        exact E6.I (by omega)
      have fr7 : Fr (fun i j => i = 2 ∧ j = 9) (stR h6 22 w.np (some id)) (stI (stR h6 22 w.np (some id)) 2 9 (nI (w.np + 1))) := Fr.stI ⟨rfl, rfl⟩
      have Er : E46 h (stR h6 22 w.np (some id)) := fun i hi => ⟨(E6 i hi).1, fun j => (E6 i hi).2 j⟩
      have HSr : Sh (stR h6 22 w.np (some id)) := HS6.stR (fun b => rfl)
      have pl7 : ∀ i k, i ≠ 22 → PlK h6 i k → PlK (stI (stR h6 22 w.np (some id)) 2 9 (nI (w.np + 1))) i k := by
        intro i k hne pk
        obtain ⟨a, b, q⟩ := pk
        refine ⟨a, b, fun z => ?_⟩
        obtain ⟨x, y, e1, e2, e3, e4, e5⟩ := q z
        refine ⟨x, y, ?_, ?_, e3, e4, e5⟩
        · show AR (stR h6 22 w.np (some id)) i 0 = some x
          rw [AR_stR, if_neg (fun z => hne z.1)]
          exact e1
        · show AR (stR h6 22 w.np (some id)) i 1 = some y
          rw [AR_stR, if_neg (fun z => hne z.1)]
          exact e2
      refine K _ ⟨⟨(Er.page c1).fr fr7 (by omega) (fun j => by omega), fun z => ((Er.stC (by decide) (c2 z)).fr fr7 (fun j => ⟨by omega, by omega⟩)), ⟨AI_stI_s _ _ _ _, ?_, ?_, ?_⟩, ⟨fun q hq => ?_, fun q h1 h2 => ?_, h99⟩, ?_, ?_⟩, (Er.stC (by decide) c10).fr fr7 (fun j => ⟨by omega, by omega⟩), (Er.net c11).fr fr7 (fun i j a b => by omega), (Er.sb HSr sb).fr fr7 (fun i j z => by omega), fun z => (Er.si HSr (si z)).fr fr7 (fun i j z => by omega)⟩ ⟨HS7, ?_, fun i j hi => ⟨?_, ?_⟩⟩
      · rw [E7 _ _ (by decide) (Or.inr (by decide))]; exact c4
      · rw [E7 _ _ (by decide) (Or.inr (by decide))]; exact c5
      · rw [E7 _ _ (by decide) (Or.inr (by decide))]; exact c6
      · have hq2 : q < w.np + 1 := hq
        by_cases eq : q = w.np
        · refine ⟨id, ?_, ?_⟩
          · show AR (stR h6 22 w.np (some id)) 22 q = some id
            rw [AR_stR, if_pos ⟨rfl, eq⟩]
          · have e2 : (wY w kd).kf q = kd := by
              show upN w.kf w.np kd q = kd
              rw [eq, upN_s]
            rw [e2]
            exact pl7 id kd (fun e => by have := p.1; omega) p
        · obtain ⟨id', r1, r2⟩ := c7.1 q (by omega)
          refine ⟨id', ?_, ?_⟩
          · show AR (stR h6 22 w.np (some id)) 22 q = some id'
            rw [AR_stR, if_neg (fun z => eq z.2), ((f.2 22 (by have := HS.1; omega)).2 q).2.2]
            exact r1
          · have e2 : (wY w kd).kf q = w.kf q := upN_o w.kf (i := w.np) (j := q) kd eq
            rw [e2]
            exact pl7 id' _ (fun e => by have := r2.1; omega) (r2.frN f c7.2.2)
      · have h1' : w.np + 1 ≤ q := h1
        show AR (stR h6 22 w.np (some id)) 22 q = none
        rw [AR_stR, if_neg (by omega), ((f.2 22 (by have := HS.1; omega)).2 q).2.2]
        exact c7.2.1 q (by omega) h2
      · show AN h6 ≤ 47 + 3 * (w.np + 1)
        omega
      · show AT h6 ≤ 500000 + 100 * (w.np + 1)
        omega
      · show AK h6 0 = AK h 0
        exact (E6 0 (by decide)).1
      · rcases hi with hi | hi
        · exact E7 i j (by omega) (Or.inl (by omega))
        · exact E7 i j (by omega) (Or.inl (by omega))
      · show AL h6 i j = AL h i j
        exact E6.Ln (by omega)
    · rw [if_pos (by omega)] at K
      exact K h c (FrC.rfl HS)
  · rw [whQ_big z (Decidable.byContradiction z2)] at K
    exact K h c (FrC.rfl HS)
