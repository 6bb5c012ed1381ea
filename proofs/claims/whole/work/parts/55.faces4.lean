/-! mend, likely, image, restore, count -/
def mdR (w : WD) (x : Int32) : Int32 × WD := if w.g.n = 0 ∨ w.md = 20 then (-103, w) else match whQ 2 x with
  | none => (-102, w)
  | some what => (mnA w.g w.t.F w.t.C what, wM w)
theorem mend_ans {g : G} (ho : GOK g) (hn9 : g.n ≤ 9) {F C k : Nat} (hs : VS g.n F C) (hk : k ≤ 2) {Q : Int32 → Prop} (K : Q (mnA g F C k)) : ((nI k = 0 → ((omr g F C = -1 → Q 0) ∧ (¬ omr g F C = -1 → ((omr g F C = -2 → Q 2) ∧ (¬ omr g F C = -2 → Q 1))))) ∧ (¬ nI k = 0 → ((omr g F C < 0 → Q (-1)) ∧ (¬ omr g F C < 0 → ((nI k = 1 → Q (omr g F C / 6)) ∧ (¬ nI k = 1 → Q (omr g F C - omr g F C / 6 * 6))))))) := by
  rw [nI_eq0 (by omega), show (1 : Int32) = nI 1 from rfl, nI_eq (by omega) (by omega)]
  unfold omr
  unfold mnA at K
  by_cases h1 : hv g F C 1 = true
  · rw [if_pos h1] at K
    rw [if_pos h1]
    refine ⟨fun z => ⟨fun _ => ?_, fun y => absurd rfl y⟩, fun z => ⟨fun _ => ?_, fun y => absurd (by decide) y⟩⟩
    · rwa [if_pos z] at K
    · rwa [if_neg z] at K
  · rw [if_neg h1] at K
    rw [if_neg h1]
    by_cases h0 : hv g F C 0 = true
    · rw [if_pos h0]
      by_cases hf : fa_first (mnp g F C) 36 < 36
      · rw [if_pos hf] at K
        rw [if_pos hf]
        refine ⟨fun z => ⟨fun y => absurd y (nI_m1 (by omega)), fun _ => ⟨fun y => absurd y (nI_m2 (by omega)), fun _ => ?_⟩⟩, fun z => ⟨fun y => absurd y (nI_pos (by omega)), fun _ => ⟨fun y => ?_, fun y => ?_⟩⟩⟩
        · rwa [if_pos z] at K
        · rw [if_neg z, if_pos y] at K
          rwa [show (6 : Int32) = nI 6 from rfl, pk_div (by omega) (by decide) (by decide)]
        · rw [if_neg z, if_neg y] at K
          rwa [show (6 : Int32) = nI 6 from rfl, pk_rem (by omega) (by decide) (by decide)]
      · rw [if_neg hf] at K
        rw [if_neg hf]
        refine ⟨fun z => ⟨fun y => absurd y (by decide), fun _ => ⟨fun _ => ?_, fun y => absurd rfl y⟩⟩, fun z => ⟨fun _ => ?_, fun y => absurd (by decide) y⟩⟩
        · rwa [if_pos z] at K
        · rwa [if_neg z] at K
    · rw [if_neg h0]
      have hf : fa_first (mnp g F C) 36 = 36 := first_none (no_mend ho hn9 hs (ts_nt h0))
      rw [if_neg (show ¬ fa_first (mnp g F C) 36 < 36 by omega)] at K
      refine ⟨fun z => ⟨fun y => absurd y (by decide), fun _ => ⟨fun _ => ?_, fun y => absurd rfl y⟩⟩, fun z => ⟨fun _ => ?_, fun y => absurd (by decide) y⟩⟩
      · rwa [if_pos z] at K
      · rwa [if_neg z] at K
theorem fC104 {d : Nat} {w : WD} (ok : WdOK w) (hnn : w.nn ≤ 1000) (x : Int32) : CFp (d + 40) 104 [.ref 2, .int x] w (mdR w x) := by
  intro h Q c K
  have HS := c.Sh
  have hmd := ok.2.2.2.2.2.2.2
  have hT := ok.2.2.2.1
  unfold mdR at K
  refine Cl.enter rfl (g104_0 (d + 38) _ h HS Q ?_)
  rw [c.NP ok, c.1.2.2.1.2.2.1, ltC (y := 20) (b := 20) rfl rfl (by omega) (by omega)]
  refine ⟨fun z => ⟨fun zm => ?_, fun zm => ?_⟩, fun z => ?_⟩
  · rw [if_neg (by omega)] at K
    have S := c.si z
    refine ⟨fun y => ?_, fun y => ⟨fun y2 => ?_, fun y2 => ?_⟩⟩
    · rw [whQ_neg y] at K
      exact K h c (FrC.rfl HS)
    · rw [whQ_big y y2] at K
      exact K h c (FrC.rfl HS)
    · obtain ⟨k, hk, rfl, e⟩ := whQ_in (m := 2) (by decide) y y2
      rw [e] at K
      dsimp only at K
      rw [nI_1, AI_stI_o _ _ (Or.inl (by decide)), AI_stI_o _ _ (Or.inl (by decide)), c.2.1.2.1, c.2.1.2.2.1]
      have f1 : Fr (fun i j => i = 2 ∧ j = 11) h (stI h 2 11 (nI (w.md + 1))) := Fr.stI ⟨rfl, rfl⟩
      have S1 : SI (stI h 2 11 (nI (w.md + 1))) w.g := S.fr f1 (fun i j a z => by omega)
      obtain ⟨⟨c1, c2, ⟨c3, c4, c5, c6⟩, c7, c8, c9⟩, c10, -⟩ := id c
      have ck1 : CK (stI h 2 11 (nI (w.md + 1))) (wM w) := by
        refine ⟨c1.fr f1 (by omega) (fun j => by omega), fun z => (c2 z).fr f1 (fun j => ⟨by omega, by omega⟩), ⟨?_, ?_, AI_stI_s _ _ _ _, ?_⟩, c7.fr f1, c8, c9⟩
        · rw [f1.I (by omega)]; exact c3
        · rw [f1.I (by omega)]; exact c4
        · rw [f1.I (by omega)]; exact c6
      have s1 : StC (stI h 2 11 (nI (w.md + 1))) 11 w.t := c10.fr f1 (fun j => ⟨by omega, by omega⟩)
      refine c69 (d := d + 13) ok.2.1 ok.2.2.1 hT.1 S1 (fun h' f' S' => ⟨_, rfl, S'.1, ?_⟩)
      have c' : CI h' (wM w) := by
        refine ⟨ck1.fr f' (fun i j a z => by unfold menP netP at z; omega), s1.fr f' (fun j => ⟨by unfold menP netP; omega, by unfold menP netP; omega⟩), S'.2.1, S'.SB, fun _ => S'⟩
      have ff : FrC h h' := (FrC.of HS f1 (fun i j z => by unfold cfP; omega)).trans (FrC.of S1.1 f' (fun i j z => by unfold menP netP at z; unfold cfP; omega))
      have K' := K h' c' ff
      exact mend_ans (Q := fun x => Q (some (.int x)) h') ok.2.1 ok.2.2.1 hT.1 hk K'
  · rw [if_pos (by omega)] at K
    exact K h c (FrC.rfl HS)
  · rw [if_pos (by omega)] at K
    exact K h c (FrC.rfl HS)
theorem fR170 {d : Nat} {w : WD} (ok : WdOK w) (x : Int32) : RFp (d + 40) 170 [.ref 23, .int x] w (mdR w x) := by
  intro h Q c HS K
  have hmd := ok.2.2.2.2.2.2.2
  unfold mdR at K
  refine Cl.enter rfl (g170_0 (d + 39) _ h HS Q ?_)
  obtain ⟨⟨r1, r2, r3, r4, r5, r6⟩, c2, c3, c4⟩ := id c
  rw [c.NZ ok, r5, show (20 : Int32) = nI 20 from rfl, nI_eq (by omega) (by omega)]
  refine ⟨fun z => ?_, fun z => ⟨fun zm => ?_, fun zm => ?_⟩⟩
  · rw [if_pos (Or.inl z)] at K
    exact K h c Fr.rfl
  · rw [if_pos (Or.inr zm)] at K
    exact K h c Fr.rfl
  · rw [if_neg (by omega)] at K
    refine ⟨fun y => ?_, fun y => ⟨fun y2 => ?_, fun y2 => ?_⟩⟩
    · rw [whQ_neg y] at K
      exact K h c Fr.rfl
    · rw [whQ_big y y2] at K
      exact K h c Fr.rfl
    · obtain ⟨k, hk, rfl, e⟩ := whQ_in (m := 2) (by decide) y y2
      rw [e] at K
      dsimp only at K
      rw [nI_1]
      have f1 : Fr (fun i j => i = 23 ∧ j = 13) h (stI h 23 13 (nI (w.md + 1))) := Fr.stI ⟨rfl, rfl⟩
      have rI1 : RI (stI h 23 13 (nI (w.md + 1))) (wM w) := by
        refine ⟨⟨r1.fr f1 (by omega) (fun j => by omega), ?_, fun p hp => ?_, ?_, AI_stI_s _ _ _ _, fun z => ?_, fun z => ?_⟩, c2.fr f1 (fun i j a z => by omega), c3.fr f1 (fun j z => by omega), c4.fr f1 ⟨by omega, by omega⟩ (fun j z => by omega)⟩
        · rw [f1.I (by omega)]; exact r2
        · rw [f1.I (by omega)]; exact r3 p hp
        · rw [f1.I (by omega)]; exact r4
        · obtain ⟨k1, k2, k3, k4, k5, k6⟩ := r6.1 z
          rw [f1.I (by omega), f1.I (by omega), f1.I (by omega), f1.I (by omega)]
          refine ⟨k1, k2, k3, k4, fun i hi => ?_, fun i hi => ?_⟩
          · rw [f1.I (by omega)]; exact k5 i hi
          · rw [f1.I (by omega)]; exact k6 i hi
        · rw [f1.I (by omega), f1.I (by omega)]
          exact r6.2 z
      refine c169 (d := d + 33) (f1.Sh HS) rI1.2.1 ok.2.1 ok.2.2.1 ok.2.2.2.1.1 (by omega) (fun h' f R' => ⟨_, rfl, f.Sh (f1.Sh HS), ?_⟩)
      have hp : ∀ i j, rmP i j → (i = 23 ∧ 32 ≤ j) ∨ (24 ≤ i ∧ i ≤ 26) ∨ (37 ≤ i ∧ i < 46) := fun i j z => by
        rcases z with z | z
        · have := sol_in z
          omega
        · omega
      exact K h' (rI1.sch f hp R') ((f1.weak (fun i j z => by unfold rgP; omega)).trans (rg_of f hp))
/-- likely -/
def lkR (w : WD) (x y : Int32) : Int32 × WD := if w.g.n = 0 then (-103, w) else match whQ 2 x with
  | none => (-102, w)
  | some how => match whQ 1 y with
    | none => (-102, w)
    | some part => (nI (lkA w.g how w.t.F w.t.C w.t.w part), w)
theorem lt3 {x : Int32} (h : ¬ x < 0) : x < 3 ↔ ¬ nI 2 < x := by
  obtain ⟨j, hj, rfl⟩ := x_of h
  rw [ltC (y := 3) (b := 3) rfl rfl hj (by omega), nI_ltI (by omega) hj]
  omega
theorem fC106 {d : Nat} {w : WD} (ok : WdOK w) (x y : Int32) : CFp (d + 40) 106 [.ref 2, .int x, .int y] w (lkR w x y) := by
  intro h Q c K
  have HS := c.Sh
  have hT := ok.2.2.2.1
  unfold lkR at K
  refine Cl.enter rfl (g106_0 (d + 38) _ _ h HS Q ?_)
  rw [c.NP ok]
  refine ⟨fun z => ?_, fun z => ?_⟩
  · rw [if_neg (by omega)] at K
    have S := c.si z
    refine ⟨fun a => ?_, fun a => ?_⟩
    · rw [whQ_neg a] at K
      exact K h c (FrC.rfl HS)
    rw [lt3 a]
    refine ⟨fun a2 => ?_, fun a2 => ?_⟩
    · obtain ⟨how, hk, rfl, e⟩ := whQ_in (m := 2) (by decide) a a2
      rw [e] at K
      dsimp only at K
      refine ⟨fun b => ?_, fun b => ⟨fun b2 => ?_, fun b2 => ?_⟩⟩
      · rw [whQ_neg b] at K
        exact K h c (FrC.rfl HS)
      · rw [whQ_big b b2] at K
        exact K h c (FrC.rfl HS)
      · obtain ⟨part, hp, rfl, e2⟩ := whQ_in (m := 1) (by decide) b b2
        rw [e2] at K
        dsimp only at K
        rw [c.2.1.2.1, c.2.1.2.2.1, c.2.1.2.2.2.1]
        refine c60 (d := d + 16) ok.2.1 (by omega) hT.2.1 hT.1 ok.2.2.1 S (fun h' S' r => ⟨_, rfl, S'.1, ?_⟩)
        obtain ⟨c', f'⟩ := c.sw S' r
        have K' := K h' c' f'
        have hoc := oc_10 w.t.F w.t.C ok.2.1.1
        rw [c'.2.1.2.1, c'.2.1.2.2.1, opnC S'.2.1 ok.2.1]
        refine c199 S'.1 (p2_10 (opn_lt _ _ _) ok.2.1.1) ⟨_, rfl, S'.1, ?_⟩
        rw [pop_opn ok.2.1.1]
        obtain ⟨-, -, -, -, fc, -⟩ := id S'
        refine ⟨by rw [fc.1], by rw [fc.1]; decide, ?_⟩
        rw [atF fc (by omega)]
        have ha := wv_le (how := how) (F := w.t.F) (C := w.t.C) (w := w.t.w) ok.2.1
        have hb := fct10 hoc
        have hbp := fct_pos (oc w.g.n w.t.F w.t.C)
        refine c125 S'.1 (by omega) (by omega) ⟨_, rfl, S'.1, ?_⟩
        have gp : 0 < Nat.gcd (wv w.g how w.t.F w.t.C w.t.w) (fct (oc w.g.n w.t.F w.t.C)) := Nat.gcd_pos_of_pos_right _ hbp
        have gl : Nat.gcd (wv w.g how w.t.F w.t.C w.t.w) (fct (oc w.g.n w.t.F w.t.C)) ≤ fct (oc w.g.n w.t.F w.t.C) := Nat.gcd_le_right _ hbp
        have low := lowest (a := wv w.g how w.t.F w.t.C w.t.w) (b := fct (oc w.g.n w.t.F w.t.C)) (c := cv w.g how w.t.F w.t.C w.t.w) (d := whl how (oc w.g.n w.t.F w.t.C) w.t.w) hbp (whl_pos _ _ _) (wor_chv w.g how _ _ _ _ rfl hT.2.1 hoc)
        unfold lkA at K'
        have n0 : ¬ nI (Nat.gcd (wv w.g how w.t.F w.t.C w.t.w) (fct (oc w.g.n w.t.F w.t.C))) = 0 := fun q => by
          rw [nI_eq0 (by omega)] at q
          omega
        have p0 : (0 : Int32) < nI (Nat.gcd (wv w.g how w.t.F w.t.C w.t.w) (fct (oc w.g.n w.t.F w.t.C))) := (ltC (x := 0) (a := 0) rfl rfl (by omega) (by omega)).mpr gp
        rw [nI_eq0 (by omega)]
        refine ⟨fun q => ⟨fun _ => ⟨n0, ?_⟩, fun q2 => absurd p0 q2⟩, fun q => ⟨fun _ => ⟨n0, ?_⟩, fun q2 => absurd p0 q2⟩⟩
        · rw [if_pos q] at K'
          rw [pk_div (by omega) gp (by omega), low.1]
          exact K'
        · rw [if_neg q] at K'
          rw [pk_div (by omega) gp (by omega), low.2]
          exact K'
    · rw [whQ_big a (Decidable.byContradiction a2)] at K
      exact K h c (FrC.rfl HS)
  · rw [if_pos (by omega)] at K
    exact K h c (FrC.rfl HS)
theorem fR178 {d : Nat} {w : WD} (ok : WdOK w) (x y : Int32) : RFp (d + 40) 178 [.ref 23, .int x, .int y] w (lkR w x y) := by
  intro h Q c HS K
  have hT := ok.2.2.2.1
  unfold lkR at K
  refine Cl.enter rfl (g178_0 (d + 39) _ _ h HS Q ?_)
  rw [c.NZ ok]
  refine ⟨fun z => ?_, fun z => ?_⟩
  · rw [if_pos z] at K
    exact K h c Fr.rfl
  · rw [if_neg z] at K
    refine ⟨fun a => ?_, fun a => ⟨fun a2 => ?_, fun a2 => ?_⟩⟩
    · rw [whQ_neg a] at K
      exact K h c Fr.rfl
    · rw [whQ_big a a2] at K
      exact K h c Fr.rfl
    · obtain ⟨how, hk, rfl, e⟩ := whQ_in (m := 2) (by decide) a a2
      rw [e] at K
      dsimp only at K
      refine ⟨fun b => ?_, fun b => ⟨fun b2 => ?_, fun b2 => ?_⟩⟩
      · rw [whQ_neg b] at K
        exact K h c Fr.rfl
      · rw [whQ_big b b2] at K
        exact K h c Fr.rfl
      · obtain ⟨part, hp, rfl, e2⟩ := whQ_in (m := 1) (by decide) b b2
        rw [e2] at K
        dsimp only at K
        refine c177 (d := d + 35) HS ok.2.1 ok.2.2.1 (by omega) hT.1 hT.2.1 (by omega) c.2.1.1 c.2.1.2.1 c.2.1.2.2 c.2.2.2.1 (fun h' f => ⟨_, rfl, f.Sh HS, ?_⟩)
        exact K h' (c.sch0 f (fun i j z => lk_in z)) (rg_of f (fun i j z => by have := lk_in z; omega))
/-- count -/
theorem opnC' {h : AH} {g : G} (hg : NetC h g) (ho : GOK g) {F C : Nat} (h3 : AI h 11 3 = nI F) (h4 : AI h 11 4 = nI C) : ((((1 : Int32) <<< (AI h 5 5 &&& 31)) - 1) &&& (AI h 11 3 ^^^ (-1))) &&& (AI h 11 4 ^^^ (-1)) = nI (opn g.n F C) := by
  rw [h3, h4]
  exact opnC hg ho
def ctA (w : WD) (x : Int32) : Int32 := if x = Int32.ofNat 0 then nI w.g.n else if x = Int32.ofNat 1 then nI (pop (opn w.g.n w.t.F w.t.C)) else if x = Int32.ofNat 2 then nI (pop w.t.F) else if x = Int32.ofNat 3 then nI (pop w.t.C) else if x = Int32.ofNat 4 then nI w.t.k else if x = Int32.ofNat 5 then nI w.t.w else if x = Int32.ofNat 6 then nI w.np else if x = Int32.ofNat 7 then nI w.L else if x = Int32.ofNat 8 then nI w.nn else if x = Int32.ofNat 9 then nI w.md else -102
theorem fC113 {d : Nat} {w : WD} (ok : WdOK w) (x : Int32) : CFp (d + 40) 113 [.ref 2, .int x] w (ctA w x, w) := by
  intro h Q c K
  have HS := c.Sh
  have hT := ok.2.2.2.1
  have lt := hT.lt ok.2.1.1
  have K' := K h c (FrC.rfl HS)
  unfold ctA at K'
  dsimp only at K'
  obtain ⟨⟨c1, -, ⟨c3, c4, c5, c6⟩, -⟩, ⟨s1, s2, s3, s4, -⟩, n, -⟩ := id c
  refine Cl.enter rfl (g113_0 (d + 38) _ h HS Q ?_)
  rw [opnC' n ok.2.1 s2 s3, s2, s3, n.1, s1, s4, c3, c4, c5, c1.1]
  refine ⟨fun z => ?_, fun z0 => ⟨fun z => ?_, fun z1 => ⟨fun z => ?_, fun z2 => ⟨fun z => ?_, fun z3 => ⟨fun z => ?_, fun z4 => ⟨fun z => ?_, fun z5 => ⟨fun z => ?_, fun z6 => ⟨fun z => ?_, fun z7 => ⟨fun z => ?_, fun z8 => ⟨fun z => ?_, fun z9 => ?_⟩⟩⟩⟩⟩⟩⟩⟩⟩⟩
  · rwa [if_pos z] at K'
  · rw [if_neg z0, if_pos z] at K'
    exact c199 HS (p2_10 (opn_lt _ _ _) ok.2.1.1) ⟨_, rfl, HS, K'⟩
  · rw [if_neg z0, if_neg z1, if_pos z] at K'
    exact c199 HS lt.1 ⟨_, rfl, HS, K'⟩
  · rw [if_neg z0, if_neg z1, if_neg z2, if_pos z] at K'
    exact c199 HS lt.2 ⟨_, rfl, HS, K'⟩
  · rwa [if_neg z0, if_neg z1, if_neg z2, if_neg z3, if_pos z] at K'
  · rwa [if_neg z0, if_neg z1, if_neg z2, if_neg z3, if_neg z4, if_pos z] at K'
  · rwa [if_neg z0, if_neg z1, if_neg z2, if_neg z3, if_neg z4, if_neg z5, if_pos z] at K'
  · rwa [if_neg z0, if_neg z1, if_neg z2, if_neg z3, if_neg z4, if_neg z5, if_neg z6, if_pos z] at K'
  · rwa [if_neg z0, if_neg z1, if_neg z2, if_neg z3, if_neg z4, if_neg z5, if_neg z6, if_neg z7, if_pos z] at K'
  · rwa [if_neg z0, if_neg z1, if_neg z2, if_neg z3, if_neg z4, if_neg z5, if_neg z6, if_neg z7, if_neg z8, if_pos z] at K'
  · rwa [if_neg z0, if_neg z1, if_neg z2, if_neg z3, if_neg z4, if_neg z5, if_neg z6, if_neg z7, if_neg z8, if_neg z9] at K'
theorem c194p {d : Nat} {w : WD} (ok : WdOK w) (x : Int32) {h : AH} (c : RI h w) (HS : Sh h) {Q : Option Value → AH → Prop} (K' : Q (some (.int (ctA w x))) h) : Cl (d + 39) 194 [.ref 23, .int x] h Q := by
  have hT := ok.2.2.2.1
  have lt := hT.lt ok.2.1.1
  unfold ctA at K'
  obtain ⟨⟨r1, r2, r3, r4, r5, r6⟩, ⟨ln, n, ls⟩, c3, m1, m2, m3⟩ := id c
  refine Cl.enter rfl (g194_0 (d + 38) _ h HS Q ?_)
  rw [r1.1, r2, r4, r5, n, m1, m2]
  refine ⟨fun z => ?_, fun z0 => ⟨fun z => ?_, fun z1 => ⟨fun z => ?_, fun z2 => ⟨fun z => ?_, fun z3 => ⟨fun z => ?_, fun z4 => ⟨fun z => ?_, fun z5 => ⟨fun z => ?_, fun z6 => ⟨fun z => ?_, fun z7 => ⟨fun z => ?_, fun z8 => ⟨fun z => ?_, fun z9 => ?_⟩⟩⟩⟩⟩⟩⟩⟩⟩⟩
  · rwa [if_pos z] at K'
  · rw [if_neg z0, if_pos z] at K'
    rw [show x - 1 = nI 0 from by rw [z]; decide]
    refine c143 HS ok.2.1.1 n ls (by decide) ⟨_, rfl, HS, ?_⟩
    rw [stm0]
    exact c165 HS (p2_10 (opn_lt _ _ _) ok.2.1.1) ⟨_, rfl, HS, K'⟩
  · rw [if_neg z0, if_neg z1, if_pos z] at K'
    rw [show x - 1 = nI 1 from by rw [z]; decide]
    refine c143 HS ok.2.1.1 n ls (by decide) ⟨_, rfl, HS, ?_⟩
    rw [stm1 hT.1]
    exact c165 HS lt.1 ⟨_, rfl, HS, K'⟩
  · rw [if_neg z0, if_neg z1, if_neg z2, if_pos z] at K'
    rw [show x - 1 = nI 2 from by rw [z]; decide]
    refine c143 HS ok.2.1.1 n ls (by decide) ⟨_, rfl, HS, ?_⟩
    rw [stm2 hT.1]
    exact c165 HS lt.2 ⟨_, rfl, HS, K'⟩
  · rwa [if_neg z0, if_neg z1, if_neg z2, if_neg z3, if_pos z] at K'
  · rwa [if_neg z0, if_neg z1, if_neg z2, if_neg z3, if_neg z4, if_pos z] at K'
  · rwa [if_neg z0, if_neg z1, if_neg z2, if_neg z3, if_neg z4, if_neg z5, if_pos z] at K'
  · rwa [if_neg z0, if_neg z1, if_neg z2, if_neg z3, if_neg z4, if_neg z5, if_neg z6, if_pos z] at K'
  · rwa [if_neg z0, if_neg z1, if_neg z2, if_neg z3, if_neg z4, if_neg z5, if_neg z6, if_neg z7, if_pos z] at K'
  · rwa [if_neg z0, if_neg z1, if_neg z2, if_neg z3, if_neg z4, if_neg z5, if_neg z6, if_neg z7, if_neg z8, if_pos z] at K'
  · rwa [if_neg z0, if_neg z1, if_neg z2, if_neg z3, if_neg z4, if_neg z5, if_neg z6, if_neg z7, if_neg z8, if_neg z9] at K'
theorem c194 {d : Nat} {w : WD} (ok : WdOK w) (x : Int32) : RFp (d + 39) 194 [.ref 23, .int x] w (ctA w x, w) := fun h Q c HS K => c194p ok x c HS (K h c Fr.rfl)
theorem fR195 {d : Nat} {w : WD} (ok : WdOK w) (x : Int32) : RFp (d + 40) 195 [.ref 23, .int x] w (ctA w x, w) := by
  intro h Q c HS K
  refine Cl.enter rfl (g195_0 (d + 39) _ h HS Q ?_)
  exact c194 ok x h _ c HS (fun h' c' f => ⟨_, rfl, f.Sh HS, K h' c' f⟩)
