/-! mend, likely, image, restore, count -/
def mdR (w : WD) (x : Int32) : Int32 × WD := if w.g.n = 0 ∨ w.md = 20 then (-103, w) else match whQ 2 x with
  | none => (-102, w)
  | some what => (mnA w.g w.t.F w.t.C what, wM w)
theorem mend_ans {g : G} (ho : GOK g) (hn9 : g.n ≤ 9) {F C k : Nat} (hs : VS g.n F C) (hk : k ≤ 2) {Q : Int32 → Prop} (K : Q (mnA g F C k)) : ((nI k = 0 → ((omr g F C = -1 → Q 0) ∧ (¬ omr g F C = -1 → ((omr g F C = -2 → Q 2) ∧ (¬ omr g F C = -2 → Q 1))))) ∧ (¬ nI k = 0 → ((omr g F C < 0 → Q (-1)) ∧ (¬ omr g F C < 0 → ((nI k = 1 → Q (omr g F C / 6)) ∧ (¬ nI k = 1 → Q (omr g F C - omr g F C / 6 * 6))))))) := by
  rw [nI_eq0 (by omega), show (1 : Int32) = nI 1 from rfl, nI_eq (by omega) (by omega)]
  unfold omr
  unfold mnA at K
  by_cases h1 : hv g F C 1 = true
  · rw [if_pos h1] at K
    rw [if_pos h1]
    refine ⟨fun z => ⟨fun _ => ?_, fun y => absurd rfl y⟩, fun z => ⟨fun _ => ?_, fun y => absurd (by decide) y⟩⟩
    · rwa [if_pos z] at K
    · rwa [if_neg z] at K
  · rw [if_neg h1] at K
    rw [if_neg h1]
    by_cases h0 : hv g F C 0 = true
    · rw [if_pos h0]
      by_cases hf : fa_first (mnp g F C) 36 < 36
      · rw [if_pos hf] at K
        rw [if_pos hf]
        refine ⟨fun z => ⟨fun y => absurd y (nI_m1 (by omega)), fun _ => ⟨fun y => absurd y (nI_m2 (by omega)), fun _ => ?_⟩⟩, fun z => ⟨fun y => absurd y (nI_pos (by omega)), fun _ => ⟨fun y => ?_, fun y => ?_⟩⟩⟩
        · rwa [if_pos z] at K
        · rw [if_neg z, if_pos y] at K
          rwa [show (6 : Int32) = nI 6 from rfl, pk_div (by omega) (by decide) (by decide)]
        · rw [if_neg z, if_neg y] at K
          rwa [show (6 : Int32) = nI 6 from rfl, pk_rem (by omega) (by decide) (by decide)]
      · rw [if_neg hf] at K
        rw [if_neg hf]
        refine ⟨fun z => ⟨fun y => absurd y (by decide), fun _ => ⟨fun _ => ?_, fun y => absurd rfl y⟩⟩, fun z => ⟨fun _ => ?_, fun y => absurd (by decide) y⟩⟩
        · rwa [if_pos z] at K
        · rwa [if_neg z] at K
    · rw [if_neg h0]
      have hf : fa_first (mnp g F C) 36 = 36 := first_none (no_mend ho hn9 hs (ts_nt h0))
      rw [if_neg (show ¬ fa_first (mnp g F C) 36 < 36 by omega)] at K
      refine ⟨fun z => ⟨fun y => absurd y (by decide), fun _ => ⟨fun _ => ?_, fun y => absurd rfl y⟩⟩, fun z => ⟨fun _ => ?_, fun y => absurd (by decide) y⟩⟩
      · rwa [if_pos z] at K
      · rwa [if_neg z] at K
/-- likely -/
def lkR (w : WD) (x y : Int32) : Int32 × WD := if w.g.n = 0 then (-103, w) else match whQ 2 x with
  | none => (-102, w)
  | some how => match whQ 1 y with
    | none => (-102, w)
    | some part => (nI (lkA w.g how w.t.F w.t.C w.t.w part), w)
theorem lt3 {x : Int32} (h : ¬ x < 0) : x < 3 ↔ ¬ nI 2 < x := by
  obtain ⟨j, hj, rfl⟩ := x_of h
  rw [ltC (y := 3) (b := 3) rfl rfl hj (by omega), nI_ltI (by omega) hj]
  omega
/-- count -/
theorem opnC' {h : AH} {g : G} (hg : NetC h g) (ho : GOK g) {F C : Nat} (h3 : AI h 11 3 = nI F) (h4 : AI h 11 4 = nI C) : ((((1 : Int32) <<< (AI h 5 5 &&& 31)) - 1) &&& (AI h 11 3 ^^^ (-1))) &&& (AI h 11 4 ^^^ (-1)) = nI (opn g.n F C) := by
  rw [h3, h4]
  exact opnC hg ho
def ctA (w : WD) (x : Int32) : Int32 := if x = Int32.ofNat 0 then nI w.g.n else if x = Int32.ofNat 1 then nI (pop (opn w.g.n w.t.F w.t.C)) else if x = Int32.ofNat 2 then nI (pop w.t.F) else if x = Int32.ofNat 3 then nI (pop w.t.C) else if x = Int32.ofNat 4 then nI w.t.k else if x = Int32.ofNat 5 then nI w.t.w else if x = Int32.ofNat 6 then nI w.np else if x = Int32.ofNat 7 then nI w.L else if x = Int32.ofNat 8 then nI w.nn else if x = Int32.ofNat 9 then nI w.md else -102
theorem fC113 {d : Nat} {w : WD} (ok : WdOK w) (x : Int32) : CFp (d + 40) 113 [.ref 2, .int x] w (ctA w x, w) := by
  intro h Q c K
  have HS := c.Sh
  have hT := ok.2.2.2.1
  have lt := hT.lt ok.2.1.1
  have K' := K h c (FrC.rfl HS)
  unfold ctA at K'
  dsimp only at K'
  obtain ⟨⟨c1, -, ⟨c3, c4, c5, c6⟩, -⟩, ⟨s1, s2, s3, s4, -⟩, n, -⟩ := id c
  refine Cl.enter rfl (g113_0 (d + 38) _ h HS Q ?_)
  rw [opnC' n ok.2.1 s2 s3, s2, s3, n.1, s1, s4, c3, c4, c5, c1.1]
  refine ⟨fun z => ?_, fun z0 => ⟨fun z => ?_, fun z1 => ⟨fun z => ?_, fun z2 => ⟨fun z => ?_, fun z3 => ⟨fun z => ?_, fun z4 => ⟨fun z => ?_, fun z5 => ⟨fun z => ?_, fun z6 => ⟨fun z => ?_, fun z7 => ⟨fun z => ?_, fun z8 => ⟨fun z => ?_, fun z9 => ?_⟩⟩⟩⟩⟩⟩⟩⟩⟩⟩
  · rwa [if_pos z] at K'
  · rw [if_neg z0, if_pos z] at K'
    exact c199 HS (p2_10 (opn_lt _ _ _) ok.2.1.1) ⟨_, rfl, HS, K'⟩
  · rw [if_neg z0, if_neg z1, if_pos z] at K'
    exact c199 HS lt.1 ⟨_, rfl, HS, K'⟩
  · rw [if_neg z0, if_neg z1, if_neg z2, if_pos z] at K'
    exact c199 HS lt.2 ⟨_, rfl, HS, K'⟩
  · rwa [if_neg z0, if_neg z1, if_neg z2, if_neg z3, if_pos z] at K'
  · rwa [if_neg z0, if_neg z1, if_neg z2, if_neg z3, if_neg z4, if_pos z] at K'
  · rwa [if_neg z0, if_neg z1, if_neg z2, if_neg z3, if_neg z4, if_neg z5, if_pos z] at K'
  · rwa [if_neg z0, if_neg z1, if_neg z2, if_neg z3, if_neg z4, if_neg z5, if_neg z6, if_pos z] at K'
  · rwa [if_neg z0, if_neg z1, if_neg z2, if_neg z3, if_neg z4, if_neg z5, if_neg z6, if_neg z7, if_pos z] at K'
  · rwa [if_neg z0, if_neg z1, if_neg z2, if_neg z3, if_neg z4, if_neg z5, if_neg z6, if_neg z7, if_neg z8, if_pos z] at K'
  · rwa [if_neg z0, if_neg z1, if_neg z2, if_neg z3, if_neg z4, if_neg z5, if_neg z6, if_neg z7, if_neg z8, if_neg z9] at K'
