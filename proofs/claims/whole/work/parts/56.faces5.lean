/-! image, restore, player, as -/
def imR (w : WD) : Int32 × WD := if w.g.n = 0 then (-103, w) else (nI w.t.k, wK w w.t)
theorem fC111 {d : Nat} {w : WD} (ok : WdOK w) : CFp (d + 40) 111 [.ref 2] w (imR w) := by
  intro h Q c K
  have HS := c.Sh
  have hT := ok.2.2.2.1
  have h9 := ok.2.2.1
  have hk := hT.k_le
  unfold imR at K
  refine Cl.enter rfl (g111_0 (d + 38) h HS Q ?_)
  rw [c.NP ok]
  refine ⟨fun z => ?_, fun z => ?_⟩
  · rw [if_neg (by omega)] at K
    refine c73 (d := d + 38) HS (v := 13) (u := 11) (Or.inr (Or.inl rfl)) (Or.inl rfl) (by decide) (by omega) c.2.1 (fun h2 f s => ⟨rfl, f.Sh HS, ?_⟩)
    obtain ⟨⟨c1, c2, ⟨c3, c4, c5, c6⟩, c7, c8, c9⟩, c10, c11⟩ := id c
    have f2 : Fr (fun i j => i = 2 ∧ j = 12) h2 (stI h2 2 12 1) := Fr.stI ⟨rfl, rfl⟩
    have ff : Fr (fun i j => i = 13 ∨ i = 14 ∨ (i = 2 ∧ j = 12)) h (stI h2 2 12 1) := (f.weak (fun i j z => by unfold stP at z; omega)).trans (f2.weak (fun i j z => by omega))
    rw [ff.I (by omega), c10.1]
    refine K _ ⟨⟨c1.fr ff (by omega) (fun j => by omega), fun _ => s.fr f2 (fun j => ⟨by omega, by omega⟩), ⟨?_, ?_, ?_, AI_stI_s _ _ _ _⟩, c7.fr ff, by rw [ff.1]; exact c8, by rw [ff.2.1]; exact c9⟩, c10.fr ff (fun j => ⟨by omega, by omega⟩), CS.fr (w := w) c11 ff (fun i j a z => by omega)⟩ (FrC.of HS ff (fun i j z => by unfold cfP; omega))
    · rw [ff.I (by omega)]; exact c3
    · rw [ff.I (by omega)]; exact c4
    · rw [ff.I (by omega)]; exact c5
  · rw [if_pos (by omega)] at K
    exact K h c (FrC.rfl HS)
theorem w192 {d : Nat} {h0 : AH} {k : Nat} {Q : Option Value → AH → Prop} (hk : AI h0 23 9 = nI k) (K : ∀ h', Fr (fun i _ => i = 31 ∨ i = 32) h0 h' → (∀ j, j < 9 → AI h' 31 j = AI h0 26 j ∧ AI h' 32 j = AI h0 28 j) → Q (some (.int (nI k))) h') : ∀ r i h, i + r = 9 → Sh h → Fr (fun i _ => i = 31 ∨ i = 32) h0 h → (∀ j, j < i → AI h 31 j = AI h0 26 j ∧ AI h 32 j = AI h0 28 j) → Wp d 192 41 [.ref 23, .int (nI i)] [] h Q
  | 0, i, h, hi, HS, hf, hd => by
    have e : i = 9 := hi
    subst e
    refine g192_41 d _ h HS Q ⟨fun z => absurd z (by decide), fun _ => ?_⟩
    rw [hf.I (by omega), hk]
    exact K h hf hd
  | r + 1, i, h, hi, HS, hf, hd => by
    have hlt : i < 9 := by omega
    refine g192_41 d _ h HS Q ⟨fun _ => ?_, fun z => absurd ((ltC (y := 9) (b := 9) rfl rfl (by omega) (by omega)).mpr hlt) z⟩
    have i9 : ixR (nI i) 9 := ixR_nI (by omega) (by decide)
    have i10 : ixR (nI i) 10 := ixR_nI (by omega) (by decide)
    refine ⟨i10, i9, i9, i9, ?_⟩
    rw [tnI (by omega), nI_1, AI_stI_o (i := 31) (a := 28) _ _ (Or.inl (by decide))]
    have f : Fr (fun i _ => i = 31 ∨ i = 32) h (stI (stI h 31 i (AI h 26 i)) 32 i (AI h 28 i)) := (Fr.stI (P := fun i _ => i = 31 ∨ i = 32) (Or.inl rfl)).trans (Fr.stI (P := fun i _ => i = 31 ∨ i = 32) (Or.inr rfl))
    refine w192 hk K r (i + 1) _ (by omega) (f.Sh HS) (hf.trans f) (fun j hj => ?_)
    by_cases e : j = i
    · rw [e, AI_stI_o _ _ (Or.inl (by decide)), AI_stI_s, AI_stI_s, hf.I (by omega), hf.I (by omega)]
      exact ⟨rfl, rfl⟩
    · rw [AI_stI_o _ _ (Or.inr e), AI_stI_o _ _ (Or.inr e), AI_stI_o _ _ (Or.inr e), AI_stI_o _ _ (Or.inr e)]
      exact hd j (by omega)
theorem fR192 {d : Nat} {w : WD} (ok : WdOK w) : RFp (d + 40) 192 [.ref 23] w (imR w) := by
  intro h Q c HS K
  have hT := ok.2.2.2.1
  have h9 := ok.2.2.1
  have hk := hT.k_le
  unfold imR at K
  refine Cl.enter rfl (g192_0 (d + 40) h HS Q ?_)
  obtain ⟨⟨r1, r2, r3, r4, r5, r6⟩, ⟨ln, n, ls⟩, c3, m1, m2, m3⟩ := id c
  rw [c.NZ ok]
  refine ⟨fun z => ?_, fun z => ?_⟩
  · rw [if_pos z] at K
    exact K h c Fr.rfl
  · rw [if_neg z] at K
    have a1 : AI (stI h 23 16 1) 23 1 = nI w.nn := by rw [AI_stI_o _ _ (Or.inr (by decide)), r4]
    have a2 : AI (stI (stI h 23 16 1) 23 17 (nI w.nn)) 23 8 = nI w.t.w := by rw [AI_stI_o _ _ (Or.inr (by decide)), AI_stI_o _ _ (Or.inr (by decide)), m1]
    have a3 : AI (stI (stI (stI h 23 16 1) 23 17 (nI w.nn)) 23 18 (nI w.t.w)) 23 9 = nI w.t.k := by rw [AI_stI_o _ _ (Or.inr (by decide)), AI_stI_o _ _ (Or.inr (by decide)), AI_stI_o _ _ (Or.inr (by decide)), m2]
    rw [a1, a2, a3]
    have f1 : Fr (fun i j => i = 23 ∧ 16 ≤ j ∧ j ≤ 19) h (stI (stI (stI (stI h 23 16 1) 23 17 (nI w.nn)) 23 18 (nI w.t.w)) 23 19 (nI w.t.k)) := (((Fr.stI (P := fun i j => i = 23 ∧ 16 ≤ j ∧ j ≤ 19) (by decide)).trans (Fr.stI (P := fun i j => i = 23 ∧ 16 ≤ j ∧ j ≤ 19) (by decide))).trans (Fr.stI (P := fun i j => i = 23 ∧ 16 ≤ j ∧ j ≤ 19) (by decide))).trans (Fr.stI (P := fun i j => i = 23 ∧ 16 ≤ j ∧ j ≤ 19) (by decide))
    have b16 : AI (stI (stI (stI (stI h 23 16 1) 23 17 (nI w.nn)) 23 18 (nI w.t.w)) 23 19 (nI w.t.k)) 23 16 = 1 := by rw [AI_stI_o _ _ (Or.inr (by decide)), AI_stI_o _ _ (Or.inr (by decide)), AI_stI_o _ _ (Or.inr (by decide)), AI_stI_s]
    have b17 : AI (stI (stI (stI (stI h 23 16 1) 23 17 (nI w.nn)) 23 18 (nI w.t.w)) 23 19 (nI w.t.k)) 23 17 = nI w.nn := by rw [AI_stI_o _ _ (Or.inr (by decide)), AI_stI_o _ _ (Or.inr (by decide)), AI_stI_s]
    have b18 : AI (stI (stI (stI (stI h 23 16 1) 23 17 (nI w.nn)) 23 18 (nI w.t.w)) 23 19 (nI w.t.k)) 23 18 = nI w.t.w := by rw [AI_stI_o _ _ (Or.inr (by decide)), AI_stI_s]
    have b19 : AI (stI (stI (stI (stI h 23 16 1) 23 17 (nI w.nn)) 23 18 (nI w.t.w)) 23 19 (nI w.t.k)) 23 19 = nI w.t.k := AI_stI_s _ _ _ _
    generalize stI (stI (stI (stI h 23 16 1) 23 17 (nI w.nn)) 23 18 (nI w.t.w)) 23 19 (nI w.t.k) = h1 at f1 b16 b17 b18 b19 ⊢
    refine w192 (k := w.t.k) (by rw [f1.I (by omega), m2]) (fun h' f hd => ?_) 9 0 h1 (Nat.zero_add _) (f1.Sh HS) Fr.rfl (fun j hj => absurd hj (Nat.not_lt_zero j))
    have ff : Fr (fun i j => (i = 23 ∧ 16 ≤ j ∧ j ≤ 19) ∨ i = 31 ∨ i = 32) h h' := (f1.weak (fun i j z => Or.inl z)).trans (f.weak (fun i j z => Or.inr z))
    refine K h' ⟨⟨r1.fr ff (by omega) (fun j => by omega), ?_, fun p hp => ?_, ?_, ?_, fun _ => ?_, fun z => (by cases z)⟩, IR.fr ⟨ln, n, ls⟩ ff (fun i j a z => by omega), c3.fr ff (fun j z => by omega), MvR.fr ⟨m1, m2, m3⟩ ff ⟨by omega, by omega⟩ (fun j z => by omega)⟩ (ff.weak (fun i j z => by unfold rgP; omega))
    · rw [ff.I (by omega)]; exact r2
    · rw [ff.I (by omega)]; exact r3 p hp
    · rw [ff.I (by omega)]; exact r4
    · rw [ff.I (by omega)]; exact r5
    · rw [f.I (by omega), f.I (by omega), f.I (by omega), f.I (by omega)]
      refine ⟨b16, b17, b18, b19, fun i hi => ?_, fun i hi => ?_⟩
      · have hi2 : i < w.g.n := hi
        rw [(hd i (by omega)).1, f1.I (by omega)]
        exact ls i hi2
      · have hi2 : i < w.t.k := hi
        rw [(hd i (by omega)).2, f1.I (by omega)]
        exact m3 i hi2
theorem imR_ok {w : WD} (ok : WdOK w) : WdOK (imR w).2 := by
  unfold imR
  split
  · exact ok
  · rename_i z
    obtain ⟨o1, o2, o3, o4, o5, o6, o7, o8⟩ := ok
    exact ⟨o1, o2, o3, o4, fun _ => ⟨by show 0 < w.g.n; omega, o4⟩, o6, o7, o8⟩
/-- restore -/
def rsR (w : WD) : Int32 × WD := if w.kp = false then (-103, w) else (nI w.kt.k, wT w w.kt)
theorem rsR_ok {w : WD} (ok : WdOK w) : WdOK (rsR w).2 := by
  unfold rsR
  split
  · exact ok
  · rename_i z
    obtain ⟨o1, o2, o3, o4, o5, o6, o7, o8⟩ := ok
    exact ⟨o1, o2, o3, (o5 (ts_nf z)).2, o5, o6, o7, o8⟩
theorem fC112 {d : Nat} {w : WD} (ok : WdOK w) : CFp (d + 40) 112 [.ref 2] w (rsR w) := by
  intro h Q c K
  have HS := c.Sh
  unfold rsR at K
  refine Cl.enter rfl (g112_0 (d + 39) h HS Q ?_)
  rw [c.1.2.2.1.2.2.2, b01_0]
  refine ⟨fun z => ?_, fun z => ?_⟩
  · rw [if_pos z] at K
    exact K h c (FrC.rfl HS)
  · rw [if_neg z] at K
    have hT := (ok.2.2.2.2.1 (ts_nf z)).2
    have hk := hT.k_le
    have h9 := ok.2.2.1
    refine c73 (d := d + 38) HS (v := 11) (u := 13) (Or.inl rfl) (Or.inr (Or.inl rfl)) (by decide) (by omega) (c.1.2.1 (ts_nf z)) (fun h2 f s => ⟨rfl, f.Sh HS, ?_⟩)
    rw [s.1]
    exact K h2 ⟨CK.fr (w := w) c.1 f (fun i j a z => by unfold stP at z; omega), s, CS.fr (w := w) c.2.2 f (fun i j a z => by unfold stP at z; omega)⟩ (FrC.of HS f (fun i j z => by unfold stP at z; unfold cfP; omega))
theorem w193 {d : Nat} {h0 : AH} {k : Nat} {Q : Option Value → AH → Prop} (hk : AI h0 23 9 = nI k) (K : ∀ h', Fr (fun i _ => i = 26 ∨ i = 28) h0 h' → (∀ j, j < 9 → AI h' 26 j = AI h0 31 j ∧ AI h' 28 j = AI h0 32 j) → Q (some (.int (nI k))) h') : ∀ r i h, i + r = 9 → Sh h → Fr (fun i _ => i = 26 ∨ i = 28) h0 h → (∀ j, j < i → AI h 26 j = AI h0 31 j ∧ AI h 28 j = AI h0 32 j) → Wp d 193 39 [.ref 23, .int (nI i)] [] h Q
  | 0, i, h, hi, HS, hf, hd => by
    have e : i = 9 := hi
    subst e
    refine g193_39 d _ h HS Q ⟨fun z => absurd z (by decide), fun _ => ?_⟩
    rw [hf.I (by omega), hk]
    exact K h hf hd
  | r + 1, i, h, hi, HS, hf, hd => by
    have hlt : i < 9 := by omega
    refine g193_39 d _ h HS Q ⟨fun _ => ?_, fun z => absurd ((ltC (y := 9) (b := 9) rfl rfl (by omega) (by omega)).mpr hlt) z⟩
    have i9 : ixR (nI i) 9 := ixR_nI (by omega) (by decide)
    have i10 : ixR (nI i) 10 := ixR_nI (by omega) (by decide)
    refine ⟨i9, i10, i9, i9, ?_⟩
    rw [tnI (by omega), nI_1, AI_stI_o (i := 26) (a := 32) _ _ (Or.inl (by decide))]
    have f : Fr (fun i _ => i = 26 ∨ i = 28) h (stI (stI h 26 i (AI h 31 i)) 28 i (AI h 32 i)) := (Fr.stI (P := fun i _ => i = 26 ∨ i = 28) (Or.inl rfl)).trans (Fr.stI (P := fun i _ => i = 26 ∨ i = 28) (Or.inr rfl))
    refine w193 hk K r (i + 1) _ (by omega) (f.Sh HS) (hf.trans f) (fun j hj => ?_)
    by_cases e : j = i
    · rw [e, AI_stI_o _ _ (Or.inl (by decide)), AI_stI_s, AI_stI_s, hf.I (by omega), hf.I (by omega)]
      exact ⟨rfl, rfl⟩
    · rw [AI_stI_o _ _ (Or.inr e), AI_stI_o _ _ (Or.inr e), AI_stI_o _ _ (Or.inr e), AI_stI_o _ _ (Or.inr e)]
      exact hd j (by omega)
theorem fR193 {d : Nat} {w : WD} (ok : WdOK w) (hnn : w.nn ≤ 1000) : RFp (d + 40) 193 [.ref 23] w (rsR w) := by
  intro h Q c HS K
  have h9 := ok.2.2.1
  unfold rsR at K
  refine Cl.enter rfl (g193_0 (d + 40) h HS Q ?_)
  obtain ⟨⟨r1, r2, r3, r4, r5, r6, r7⟩, ⟨ln, n, ls⟩, c3, m1, m2, m3⟩ := id c
  cases hkp : w.kp with
  | false =>
    rw [if_pos hkp] at K
    rcases r7 hkp with q | ⟨q, q1, q2, q3⟩
    · rw [q]
      exact ⟨fun _ => K h c Fr.rfl, fun z => absurd rfl z⟩
    · rw [q3, q2, r4, nI_eq (by omega) (by omega)]
      exact ⟨fun z => absurd z (by decide), fun _ => ⟨fun z => by omega, fun _ => K h c Fr.rfl⟩⟩
  | true =>
    rw [if_neg (by rw [hkp]; decide)] at K
    obtain ⟨k1, k2, k3, k4, k5, k6⟩ := r6 hkp
    have hT := (ok.2.2.2.2.1 hkp).2
    have hk := hT.k_le
    have a1 : AI (stI h 23 8 (nI w.kt.w)) 23 19 = nI w.kt.k := by rw [AI_stI_o _ _ (Or.inr (by decide)), k4]
    rw [k1, k2, r4, k3, a1]
    refine ⟨fun z => absurd z (by decide), fun _ => ⟨fun _ => ?_, fun z => absurd rfl z⟩⟩
    have f1 : Fr (fun i j => i = 23 ∧ (j = 8 ∨ j = 9)) h (stI (stI h 23 8 (nI w.kt.w)) 23 9 (nI w.kt.k)) := (Fr.stI (P := fun i j => i = 23 ∧ (j = 8 ∨ j = 9)) (by decide)).trans (Fr.stI (P := fun i j => i = 23 ∧ (j = 8 ∨ j = 9)) (by decide))
    have b8 : AI (stI (stI h 23 8 (nI w.kt.w)) 23 9 (nI w.kt.k)) 23 8 = nI w.kt.w := by rw [AI_stI_o _ _ (Or.inr (by decide)), AI_stI_s]
    have b9 : AI (stI (stI h 23 8 (nI w.kt.w)) 23 9 (nI w.kt.k)) 23 9 = nI w.kt.k := AI_stI_s _ _ _ _
    generalize stI (stI h 23 8 (nI w.kt.w)) 23 9 (nI w.kt.k) = h1 at f1 b8 b9 ⊢
    refine w193 (k := w.kt.k) b9 (fun h' f hd => ?_) 9 0 h1 (Nat.zero_add _) (f1.Sh HS) Fr.rfl (fun j hj => absurd hj (Nat.not_lt_zero j))
    have ff : Fr (fun i j => (i = 23 ∧ (j = 8 ∨ j = 9)) ∨ i = 26 ∨ i = 28) h h' := (f1.weak (fun i j z => Or.inl z)).trans (f.weak (fun i j z => Or.inr z))
    refine K h' ⟨RK.fr (w := w) ⟨r1, r2, r3, r4, r5, r6, r7⟩ ff (fun i j a z => by omega), ⟨ln.fr ff ⟨by omega, by omega⟩ (fun j => ⟨by omega, by omega⟩), by rw [ff.I (by omega)]; exact n, fun i hi => ?_⟩, c3.fr ff (fun j z => by omega), ?_, ?_, fun i hi => ?_⟩ (ff.weak (fun i j z => by unfold rgP; omega))
    · have hi2 : i < w.g.n := hi
      rw [(hd i (by omega)).1, f1.I (by omega)]
      exact k5 i hi2
    · rw [f.I (by omega)]; exact b8
    · rw [f.I (by omega)]; exact b9
    · have hi2 : i < w.kt.k := hi
      rw [(hd i (by omega)).2, f1.I (by omega)]
      exact k6 i hi2
