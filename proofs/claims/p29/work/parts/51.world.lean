/-! the world that both hold -/
def WD : Type := (Nat × (Nat → Nat)) × (G × ST) × (Bool × ST) × (Nat × (Nat → Nat)) × (Nat × Nat)
def WD.L (w : WD) : Nat := w.1.1
def WD.cd (w : WD) : Nat → Nat := w.1.2
def WD.g (w : WD) : G := w.2.1.1
def WD.t (w : WD) : ST := w.2.1.2
def WD.kp (w : WD) : Bool := w.2.2.1.1
def WD.kt (w : WD) : ST := w.2.2.1.2
def WD.np (w : WD) : Nat := w.2.2.2.1.1
def WD.kf (w : WD) : Nat → Nat := w.2.2.2.1.2
def WD.nn (w : WD) : Nat := w.2.2.2.2.1
def WD.md (w : WD) : Nat := w.2.2.2.2.2
def mkW (L : Nat) (cd : Nat → Nat) (g : G) (t : ST) (kp : Bool) (kt : ST) (np : Nat) (kf : Nat → Nat) (nn md : Nat) : WD := ((L, cd), (g, t), (kp, kt), (np, kf), (nn, md))
def wP (w : WD) (L : Nat) (cd : Nat → Nat) : WD := mkW L cd w.g w.t w.kp w.kt w.np w.kf w.nn w.md
def wT (w : WD) (t : ST) : WD := mkW w.L w.cd w.g t w.kp w.kt w.np w.kf w.nn w.md
def wK (w : WD) (kt : ST) : WD := mkW w.L w.cd w.g w.t true kt w.np w.kf w.nn w.md
def wM (w : WD) : WD := mkW w.L w.cd w.g w.t w.kp w.kt w.np w.kf w.nn (w.md + 1)
def wY (w : WD) (kd : Nat) : WD := mkW w.L w.cd w.g w.t w.kp w.kt (w.np + 1) (upN w.kf w.np kd) w.nn w.md
def wN (w : WD) (g : G) (t : ST) : WD := mkW 0 w.cd g t false w.kt w.np w.kf (w.nn + 1) w.md
def WdOK (w : WD) : Prop := POK w.L w.cd ∧ GOK w.g ∧ w.g.n ≤ 9 ∧ TOK w.g w.t ∧ (w.kp = true → 0 < w.g.n ∧ TOK w.g w.kt) ∧ w.np ≤ 5 ∧ (∀ p, p < w.np → w.kf p < 5) ∧ w.md ≤ 20
/-- the class's -/
def PLs (h : AH) (w : WD) : Prop := 0 ≤ w.np ∧ (∀ p, w.np ≤ p → p < 5 → AR h 22 p = none) ∧ 0 ≤ AN h
def CK (h : AH) (w : WD) : Prop := PgC h w.L w.cd ∧ (w.kp = true → StC h 13 w.kt) ∧ (AI h 2 9 = nI w.np ∧ AI h 2 10 = nI w.nn ∧ AI h 2 11 = nI w.md ∧ AI h 2 12 = b01 w.kp) ∧ PLs h w ∧ 0 ≤ AN h ∧ 0 ≤ AT h
def CS (h : AH) (w : WD) : Prop := NetC h w.g ∧ SB h ∧ (0 < w.g.n → SI h w.g)
def CI (h : AH) (w : WD) : Prop := CK h w ∧ StC h 11 w.t ∧ CS h w
theorem CI.Sh {h : AH} {w : WD} (c : CI h w) : Sh h := by
  obtain ⟨-, -, -, s, -⟩ := c
  exact s.1
theorem PLs.fr {P : Nat → Nat → Prop} {h h' : AH} {w : WD} (c : PLs h w) (hf : Fr P h h') : PLs h' w := by
  obtain ⟨a, b, e⟩ := c
  exact ⟨Nat.zero_le _, fun p h1 h2 => by rw [hf.2.2.2.1]; exact b p h1 h2, Nat.zero_le _⟩
theorem CK.fr {P : Nat → Nat → Prop} {h h' : AH} {w : WD} (c : CK h w) (hf : Fr P h h') (hp : ∀ i j, (i = 2 ∧ 9 ≤ j) ∨ (i = 3 ∧ j = 1) ∨ i = 4 ∨ i = 13 ∨ i = 14 → ¬ P i j) : CK h' w := by
  obtain ⟨c1, c2, ⟨c3, c4, c5, c6⟩, c7, c8, c9⟩ := c
  refine ⟨c1.fr hf (hp _ _ (by decide)) (fun j => hp _ _ (by simp)), fun z => (c2 z).fr hf (fun j => ⟨hp _ _ (by simp), hp _ _ (by simp)⟩), ⟨?_, ?_, ?_, ?_⟩, c7.fr hf, by rw [hf.1]; exact c8, by rw [hf.2.1]; exact c9⟩
  · rw [hf.I (hp _ _ (by decide)), c3]
  · rw [hf.I (hp _ _ (by decide)), c4]
  · rw [hf.I (hp _ _ (by decide)), c5]
  · rw [hf.I (hp _ _ (by decide)), c6]
theorem CS.fr {P : Nat → Nat → Prop} {h h' : AH} {w : WD} (c : CS h w) (hf : Fr P h h') (hp : ∀ i j, i = 1 ∨ (5 ≤ i ∧ i ≤ 10) ∨ (17 ≤ i ∧ i ≤ 19) ∨ i = 46 → ¬ P i j) : CS h' w := by
  obtain ⟨n, s, i⟩ := c
  exact ⟨n.fr hf (fun i j a b => hp i j (Or.inr (Or.inl ⟨a, by omega⟩))), s.fr hf (fun i j z => hp i j (by omega)), fun z => (i z).fr hf (fun i j z => hp i j (by omega))⟩
/-- the reference's -/
def KpR (h : AH) (w : WD) : Prop := (w.kp = true → AI h 23 16 = 1 ∧ AI h 23 17 = nI w.nn ∧ AI h 23 18 = nI w.kt.w ∧ AI h 23 19 = nI w.kt.k ∧ (∀ i, i < w.g.n → AI h 31 i = nI (sta w.kt.F w.kt.C i)) ∧ ∀ i, i < w.kt.k → AI h 32 i = nI (w.kt.m i)) ∧ (w.kp = false → AI h 23 16 = 0 ∨ ∃ q, q < w.nn ∧ AI h 23 17 = nI q ∧ AI h 23 16 = 1)
def RK (h : AH) (w : WD) : Prop := PgR h w.L w.cd ∧ AI h 23 11 = nI w.np ∧ (∀ p, p < w.np → AI h 29 p = nI (w.kf p)) ∧ AI h 23 1 = nI w.nn ∧ AI h 23 13 = nI w.md ∧ KpR h w
def RI (h : AH) (w : WD) : Prop := RK h w ∧ IR h w.g w.t.F w.t.C ∧ CoR h w.g ∧ MvR h w.t
theorem RK.fr {P : Nat → Nat → Prop} {h h' : AH} {w : WD} (c : RK h w) (hf : Fr P h h') (hp : ∀ i j, (i = 23 ∧ (j = 1 ∨ j = 11 ∨ j = 13 ∨ j = 14 ∨ (16 ≤ j ∧ j ≤ 19))) ∨ (29 ≤ i ∧ i ≤ 32) → ¬ P i j) : RK h' w := by
  obtain ⟨c1, c2, c3, c4, c5, c6, c7⟩ := c
  refine ⟨c1.fr hf (hp _ _ (by decide)) (fun j => hp _ _ (by simp)), ?_, fun p z => ?_, ?_, ?_, fun z => ?_, fun z => ?_⟩
  · rw [hf.I (hp _ _ (by decide)), c2]
  · rw [hf.I (hp _ _ (by simp))]
    exact c3 p z
  · rw [hf.I (hp _ _ (by decide)), c4]
  · rw [hf.I (hp _ _ (by decide)), c5]
  · obtain ⟨k1, k2, k3, k4, k5, k6⟩ := c6 z
    refine ⟨?_, ?_, ?_, ?_, fun i hi => ?_, fun i hi => ?_⟩
    · rw [hf.I (hp _ _ (by decide)), k1]
    · rw [hf.I (hp _ _ (by decide)), k2]
    · rw [hf.I (hp _ _ (by decide)), k3]
    · rw [hf.I (hp _ _ (by decide)), k4]
    · rw [hf.I (hp _ _ (by simp))]
      exact k5 i hi
    · rw [hf.I (hp _ _ (by simp))]
      exact k6 i hi
  · rw [hf.I (hp _ _ (by decide)), hf.I (hp _ _ (by decide))]
    exact c7 z
theorem IR.fr {P : Nat → Nat → Prop} {h h' : AH} {g : G} {F C : Nat} (R : IR h g F C) (hf : Fr P h h') (hp : ∀ i j, (i = 23 ∧ j ≤ 3) ∨ (24 ≤ i ∧ i ≤ 26) → ¬ P i j) : IR h' g F C := by
  obtain ⟨r1, r2, r3⟩ := R
  exact ⟨r1.fr hf ⟨hp _ _ (by decide), hp _ _ (by decide)⟩ (fun j => ⟨hp _ _ (by simp), hp _ _ (by simp)⟩), by rw [hf.I (hp _ _ (by decide))]; exact r2, r3.fr hf (fun j => hp _ _ (by simp))⟩
theorem CoR.fr {P : Nat → Nat → Prop} {h h' : AH} {g : G} (R : CoR h g) (hf : Fr P h h') (hp : ∀ j, ¬ P 27 j) : CoR h' g := fun i hi => by rw [hf.I (hp _)]; exact R i hi
/-- what the class may touch, and what the reference may -/
def cfP (i _j : Nat) : Prop := (2 ≤ i ∧ i < 23) ∨ 46 ≤ i
def rgP (i _j : Nat) : Prop := 23 ≤ i ∧ i < 46
def FrC (h h' : AH) : Prop := Sh h' ∧ (AN h' = AN h ∧ AT h' = AT h ∧ AK h' = AK h ∧ AR h' = AR h) ∧ ∀ i j, i < 2 ∨ (23 ≤ i ∧ i < 46) → AI h' i j = AI h i j ∧ AL h' i j = AL h i j
theorem FrC.of {P : Nat → Nat → Prop} {h h' : AH} (hs : Sh h) (hf : Fr P h h') (hp : ∀ i j, P i j → cfP i j) : FrC h h' := by
  refine ⟨hf.Sh hs, ⟨hf.1, hf.2.1, hf.2.2.1, hf.2.2.2.1⟩, fun i j hi => ⟨hf.I (fun z => ?_), hf.L (fun z => ?_)⟩⟩
  · have := hp i j z
    unfold cfP at this
    omega
  · have := hp i j z
    unfold cfP at this
    omega
theorem FrC.trans {h h1 h2 : AH} (a : FrC h h1) (b : FrC h1 h2) : FrC h h2 := by
  obtain ⟨a1, a2, a3⟩ := a
  obtain ⟨b1, b2, b3⟩ := b
  refine ⟨b1, ⟨b2.1.trans a2.1, b2.2.1.trans a2.2.1, b2.2.2.1.trans a2.2.2.1, b2.2.2.2.trans a2.2.2.2⟩, fun i j z => ⟨(b3 i j z).1.trans (a3 i j z).1, (b3 i j z).2.trans (a3 i j z).2⟩⟩
theorem RI.frC {h h' : AH} {w : WD} (c : RI h w) (hf : FrC h h') : RI h' w := by
  obtain ⟨-, -, hf⟩ := hf
  have e : ∀ i j, 23 ≤ i → i < 46 → AI h' i j = AI h i j := fun i j a b => (hf i j (Or.inr ⟨a, b⟩)).1
  obtain ⟨⟨c1, c2, c3, c4, c5, c6, c7⟩, ⟨⟨r1, r2, r3⟩, r4, r5⟩, r6, r7, r8, r9⟩ := c
  refine ⟨⟨⟨?_, fun i hi => ?_⟩, ?_, fun p z => ?_, ?_, ?_, fun z => ?_, fun z => ?_⟩, ⟨⟨?_, ?_, fun i hi => ?_⟩, ?_, fun i hi => ?_⟩, fun i hi => ?_, ?_, ?_, fun i hi => ?_⟩
  · rw [e _ _ (by decide) (by decide)]; exact c1.1
  · rw [e _ _ (by decide) (by decide)]; exact c1.2 i hi
  · rw [e _ _ (by decide) (by decide)]; exact c2
  · rw [e _ _ (by decide) (by decide)]; exact c3 p z
  · rw [e _ _ (by decide) (by decide)]; exact c4
  · rw [e _ _ (by decide) (by decide)]; exact c5
  · obtain ⟨k1, k2, k3, k4, k5, k6⟩ := c6 z
    rw [e _ _ (by decide) (by decide), e _ _ (by decide) (by decide), e _ _ (by decide) (by decide), e _ _ (by decide) (by decide)]
    refine ⟨k1, k2, k3, k4, fun i hi => ?_, fun i hi => ?_⟩
    · rw [e _ _ (by decide) (by decide)]; exact k5 i hi
    · rw [e _ _ (by decide) (by decide)]; exact k6 i hi
  · rw [e _ _ (by decide) (by decide), e _ _ (by decide) (by decide)]
    exact c7 z
  · rw [e _ _ (by decide) (by decide)]; exact r1
  · rw [e _ _ (by decide) (by decide)]; exact r2
  · rw [e _ _ (by decide) (by decide), e _ _ (by decide) (by decide)]; exact r3 i hi
  · rw [e _ _ (by decide) (by decide)]; exact r4
  · rw [e _ _ (by decide) (by decide)]; exact r5 i hi
  · rw [e _ _ (by decide) (by decide)]; exact r6 i hi
  · rw [e _ _ (by decide) (by decide)]; exact r7
  · rw [e _ _ (by decide) (by decide)]; exact r8
  · rw [e _ _ (by decide) (by decide)]; exact r9 i hi
theorem CI.frR {h h' : AH} {w : WD} (c : CI h w) (hf : Fr rgP h h') : CI h' w := by
  obtain ⟨c1, c2, c3⟩ := c
  refine ⟨c1.fr hf (fun i j a z => ?_), c2.fr hf (fun j => ⟨?_, ?_⟩), c3.fr hf (fun i j a z => ?_)⟩
  · unfold rgP at z; omega
  · unfold rgP; omega
  · unfold rgP; omega
  · unfold rgP at z; omega
/-- what a call of the class, of the reference, answers and leaves -/
def CFs (d m : Nat) (args : List Value) (w : WD) (ans : Int32) (w' : WD) : Prop := ∀ (h : AH) (Q : Option Value → AH → Prop), CI h w → (∀ h', CI h' w' → FrC h h' → Q (some (.int ans)) h') → Cl d m args h Q
def RFs (d m : Nat) (args : List Value) (w : WD) (ans : Int32) (w' : WD) : Prop := ∀ (h : AH) (Q : Option Value → AH → Prop), RI h w → Sh h → (∀ h', RI h' w' → Fr rgP h h' → Q (some (.int ans)) h') → Cl d m args h Q
/-- where the class searched alone -/
def csP (i j : Nat) : Prop := i = 15 ∨ i = 16 ∨ i = 19 ∨ i = 21 ∨ 46 ≤ i ∨ (i = 17 ∧ j = 4)
theorem CI.sch {P : Nat → Nat → Prop} {h h' : AH} {w : WD} (c : CI h w) (hf : Fr P h h') (hp : ∀ i j, P i j → csP i j) (S : SI h' w.g) : CI h' w := by
  obtain ⟨c1, c2, c3⟩ := c
  refine ⟨c1.fr hf (fun i j a z => ?_), c2.fr hf (fun j => ⟨fun z => ?_, fun z => ?_⟩), S.2.1, S.SB, fun _ => S⟩
  · have := hp i j z
    unfold csP at this
    omega
  · have := hp _ j z
    unfold csP at this
    omega
  · have := hp _ j z
    unfold csP at this
    omega
theorem FrC.sch {P : Nat → Nat → Prop} {h h' : AH} {w : WD} (c : CI h w) (hf : Fr P h h') (hp : ∀ i j, P i j → csP i j) : FrC h h' := FrC.of c.Sh hf (fun i j z => by
  have := hp i j z
  unfold csP at this
  unfold cfP
  omega)
theorem RI.sch {P : Nat → Nat → Prop} {h h' : AH} {w : WD} (c : RI h w) (hf : Fr P h h') (hp : ∀ i j, P i j → (i = 23 ∧ 32 ≤ j) ∨ (24 ≤ i ∧ i ≤ 26) ∨ (37 ≤ i ∧ i < 46)) (R : IR h' w.g w.t.F w.t.C) : RI h' w := by
  obtain ⟨c1, -, c3, c4⟩ := c
  refine ⟨c1.fr hf (fun i j a z => ?_), R, c3.fr hf (fun j z => ?_), c4.fr hf ⟨fun z => ?_, fun z => ?_⟩ (fun j z => ?_)⟩
  · have := hp i j z
    omega
  · have := hp _ j z
    omega
  · have := hp _ _ z
    omega
  · have := hp _ _ z
    omega
  · have := hp _ j z
    omega
theorem RI.sch0 {P : Nat → Nat → Prop} {h h' : AH} {w : WD} (c : RI h w) (hf : Fr P h h') (hp : ∀ i j, P i j → (i = 23 ∧ 32 ≤ j) ∨ (37 ≤ i ∧ i < 46)) : RI h' w := c.sch hf (fun i j z => by have := hp i j z; omega) (c.2.1.fr hf (fun i j a z => by have := hp i j z; omega))
theorem rg_of {P : Nat → Nat → Prop} {h h' : AH} (hf : Fr P h h') (hp : ∀ i j, P i j → (i = 23 ∧ 32 ≤ j) ∨ (24 ≤ i ∧ i ≤ 26) ∨ (37 ≤ i ∧ i < 46)) : Fr rgP h h' := hf.weak (fun i j z => by
  have := hp i j z
  unfold rgP
  omega)
theorem sol_in {i j : Nat} (h : solP i j) : (i = 23 ∧ 32 ≤ j) ∨ (37 ≤ i ∧ i < 46) := by
  unfold solP at h
  omega
theorem lk_in {i j : Nat} (h : lkP i j) : (i = 23 ∧ 32 ≤ j) ∨ (37 ≤ i ∧ i < 46) := by
  unfold lkP at h
  omega
theorem tk_in {i j : Nat} (h : tkP i j) : (i = 23 ∧ 32 ≤ j) ∨ (37 ≤ i ∧ i < 46) := by
  unfold tkP solP at h
  omega
theorem n0_t {w : WD} (ok : WdOK w) (h0 : w.g.n = 0) : w.t.k = 0 ∧ w.t.F = 0 ∧ w.t.C = 0 := by
  obtain ⟨-, -, -, t, -⟩ := ok
  have h1 := t.1.1
  have h2 := t.1.2.1
  have h3 := t.k_le
  rw [h0] at h1 h2 h3
  omega
