/-! the reference's new net -/
def ntQ (cd : Nat → Nat) (L : Nat) : Option Nat := match psr cd L with
  | none => none
  | some (s, m) => if 5 ≤ s then some m else none
def fnG (D : Dt) (m : Nat) : G := mkG m D.A D.B D.C D.o D.t
def fnF (D : Dt) (m : Nat) : Nat := msk (fun k => decide (D.I k = 1)) m
def fnC (D : Dt) (m : Nat) : Nat := msk (fun k => decide (D.I k = 2)) m
def fnT (D : Dt) (m : Nat) : ST := mkT (fnF D m) (fnC D m) 0 0 (fun _ => 0)
theorem ntQ_some {cd : Nat → Nat} {L m : Nat} (h : ntQ cd L = some m) : ∃ s, psr cd L = some (s, m) ∧ 5 ≤ s ∧ 1 ≤ m ∧ m ≤ 9 := by
  unfold ntQ at h
  split at h
  · cases h
  · rename_i s m' hs
    split at h
    · rename_i h5
      cases h
      obtain ⟨v1, v2, v3, v4, v5⟩ := psr_inv hs
      exact ⟨s, hs, h5, v5 h5, v2⟩
    · cases h
theorem fnG_ok {cd : Nat → Nat} {L m : Nat} (h : ntQ cd L = some m) : GOK (fnG (dtt cd L) m) := by
  obtain ⟨s, hs, h5, h1, h9⟩ := ntQ_some h
  obtain ⟨d1, d2, d3, -, -⟩ := dtt_ok hs
  refine ⟨Nat.le_trans h9 (by decide), d1 (by omega), d2 (by omega), fun i hi => ?_⟩
  obtain ⟨a, b, c, e⟩ := d3 i hi
  exact ⟨a, b, e⟩
theorem fnVS (D : Dt) (m : Nat) : VS m (fnF D m) (fnC D m) := by
  refine ⟨msk_lt _ _, msk_lt _ _, fun i hi => ?_⟩
  unfold fnF fnC at hi
  rw [msk_tb, msk_tb, Bool.and_eq_true, Bool.and_eq_true] at hi
  have a := of_decide_eq_true hi.1.2
  have b := of_decide_eq_true hi.2.2
  omega
theorem fnT_ok (D : Dt) (m : Nat) : TOK (fnG D m) (fnT D m) := by
  refine ⟨fnVS D m, (by decide : (0 : Nat) < 2), ?_, fun i hi => absurd hi (Nat.not_lt_zero i), fun i j hi => absurd hi (Nat.not_lt_zero i)⟩
  show 0 + oc m (fnF D m) (fnC D m) ≤ m
  rw [Nat.zero_add]
  exact oc_le m _ _
theorem fn_sta {D : Dt} {m k : Nat} (hk : k < m) (hI : D.I k < 3) : sta (fnF D m) (fnC D m) k = D.I k := by
  unfold sta fnF fnC
  rw [msk_tb, msk_tb, decide_eq_true hk, Bool.true_and, Bool.true_and]
  by_cases h1 : D.I k = 1
  · rw [h1]
    rfl
  · rw [if_neg (fun z => h1 (of_decide_eq_true z))]
    by_cases h2 : D.I k = 2
    · rw [h2]
      rfl
    · rw [if_neg (fun z => h2 (of_decide_eq_true z))]
      omega
def rnwP (i j : Nat) : Prop := (i = 23 ∧ (j ≤ 3 ∨ j = 8 ∨ j = 9 ∨ j = 14 ∨ (22 ≤ j ∧ j ≤ 26))) ∨ (24 ≤ i ∧ i ≤ 27) ∨ (33 ≤ i ∧ i ≤ 36)
def cpy (h : AH) (i : Nat) : AH := stI (stI (stI (stI h 24 i (AI h 33 i)) 25 i (AI h 34 i)) 26 i (AI h 35 i)) 27 i (AI h 36 i)
theorem cpy_a (h : AH) (i : Nat) : AI (cpy h i) 24 i = AI h 33 i ∧ AI (cpy h i) 25 i = AI h 34 i ∧ AI (cpy h i) 26 i = AI h 35 i ∧ AI (cpy h i) 27 i = AI h 36 i := by
  unfold cpy
  refine ⟨?_, ?_, ?_, AI_stI_s _ _ _ _⟩
  · rw [AI_stI_o _ _ (Or.inl (by decide)), AI_stI_o _ _ (Or.inl (by decide)), AI_stI_o _ _ (Or.inl (by decide)), AI_stI_s]
  · rw [AI_stI_o _ _ (Or.inl (by decide)), AI_stI_o _ _ (Or.inl (by decide)), AI_stI_s]
  · rw [AI_stI_o _ _ (Or.inl (by decide)), AI_stI_s]
theorem cpy_o (h : AH) {i a b : Nat} (hn : (a < 24 ∨ 27 < a) ∨ b ≠ i) : AI (cpy h i) a b = AI h a b := by
  unfold cpy
  have q : ∀ x, 24 ≤ x → x ≤ 27 → a ≠ x ∨ b ≠ i := fun x h1 h2 => by
    rcases hn with z | z
    · exact Or.inl (by omega)
    · exact Or.inr z
  rw [AI_stI_o _ _ (q 27 (by decide) (by decide)), AI_stI_o _ _ (q 26 (by decide) (by decide)), AI_stI_o _ _ (q 25 (by decide) (by decide)), AI_stI_o _ _ (q 24 (by decide) (by decide))]
theorem cpy_f (h : AH) (i : Nat) : Fr rnwP h (cpy h i) := (((Fr.stI (P := rnwP) (Or.inr (Or.inl (by decide)))).trans (Fr.stI (P := rnwP) (Or.inr (Or.inl (by decide))))).trans (Fr.stI (P := rnwP) (Or.inr (Or.inl (by decide))))).trans (Fr.stI (P := rnwP) (Or.inr (Or.inl (by decide))))
theorem w137 {d : Nat} {D : Dt} {m nn : Nat} (hm : m ≤ 9) (hI : ∀ k, k < m → D.I k < 3) {h0 : AH} {Q : Option Value → AH → Prop} (K : ∀ h', Fr rnwP h0 h' → IR h' (fnG D m) (fnT D m).F (fnT D m).C → CoR h' (fnG D m) → MvR h' (fnT D m) → AI h' 23 1 = nI (nn + 1) → AI h' 23 14 = 0 → Q (some (.int (nI m))) h') : ∀ r i h, i + r = m → Sh h → Fr rnwP h0 h → AI h 23 0 = nI m → AI h 23 2 = nI D.o → AI h 23 3 = nI D.t → AI h 23 1 = nI nn → (∀ k, k < m → AI h 33 k = nI (D.A k) ∧ AI h 34 k = nI (D.B k) ∧ AI h 35 k = nI (D.I k) ∧ AI h 36 k = nI (D.C k)) → (∀ k, k < i → AI h 24 k = nI (D.A k) ∧ AI h 25 k = nI (D.B k) ∧ AI h 26 k = nI (D.I k) ∧ AI h 27 k = nI (D.C k)) → Wp d 137 40 [.ref 23, .int (nI i)] [] h Q
  | 0, i, h, hi, HS, hf, e0, e2, e3, e1, hs, hd => by
    have e : i = m := by omega
    subst e
    refine g137_40 d _ h HS Q ⟨fun z => ?_, fun _ => ?_⟩
    · rw [e0, nI_ltI (by omega) (by omega)] at z
      omega
    · rw [AI_stI_o (i := 23) (j := 9) _ _ (Or.inr (by decide)), AI_stI_o (i := 23) (j := 8) _ _ (Or.inr (by decide)), e1, nI_1]
      have f : Fr (fun a b => a = 23 ∧ (b = 1 ∨ b = 8 ∨ b = 9 ∨ b = 14)) h (stI (stI (stI (stI h 23 8 0) 23 9 0) 23 1 (nI (nn + 1))) 23 14 0) := (((Fr.stI (P := fun a b => a = 23 ∧ (b = 1 ∨ b = 8 ∨ b = 9 ∨ b = 14)) (by decide)).trans (Fr.stI (P := fun a b => a = 23 ∧ (b = 1 ∨ b = 8 ∨ b = 9 ∨ b = 14)) (by decide))).trans (Fr.stI (P := fun a b => a = 23 ∧ (b = 1 ∨ b = 8 ∨ b = 9 ∨ b = 14)) (by decide))).trans (Fr.stI (P := fun a b => a = 23 ∧ (b = 1 ∨ b = 8 ∨ b = 9 ∨ b = 14)) (by decide))
      have n23 : ∀ a b, a ≠ 23 → AI (stI (stI (stI (stI h 23 8 0) 23 9 0) 23 1 (nI (nn + 1))) 23 14 0) a b = AI h a b := fun a b z => f.I (fun y => z y.1)
      have e0' : AI (stI (stI (stI (stI h 23 8 0) 23 9 0) 23 1 (nI (nn + 1))) 23 14 0) 23 0 = nI i := by rw [f.I (by decide), e0]
      rw [e0']
      refine K _ (hf.trans (f.weak (fun a b z => Or.inl ⟨z.1, by omega⟩))) ⟨⟨?_, ?_, fun k hk => ?_⟩, e0', fun k hk => ?_⟩ (fun k hk => ?_) ⟨?_, ?_, fun k hk => absurd hk (Nat.not_lt_zero k)⟩ ?_ (AI_stI_s _ _ _ _)
      · rw [f.I (by decide), e2]
        rfl
      · rw [f.I (by decide), e3]
        rfl
      · rw [n23 _ _ (by decide), n23 _ _ (by decide)]
        exact ⟨(hd k hk).1, (hd k hk).2.1⟩
      · rw [n23 _ _ (by decide), (hd k hk).2.2.1]
        exact congrArg nI (fn_sta hk (hI k hk)).symm
      · rw [n23 _ _ (by decide), (hd k hk).2.2.2]
        rfl
      · rw [AI_stI_o _ _ (Or.inr (by decide)), AI_stI_o _ _ (Or.inr (by decide)), AI_stI_o _ _ (Or.inr (by decide)), AI_stI_s]
        rfl
      · rw [AI_stI_o _ _ (Or.inr (by decide)), AI_stI_o _ _ (Or.inr (by decide)), AI_stI_s]
        rfl
      · rw [AI_stI_o _ _ (Or.inr (by decide)), AI_stI_s]
  | r + 1, i, h, hi, HS, hf, e0, e2, e3, e1, hs, hd => by
    have hlt : i < m := by omega
    refine g137_40 d _ h HS Q ⟨fun _ => ?_, fun z => absurd (by rw [e0, nI_ltI (by omega) (by omega)]; exact hlt) z⟩
    have i9 : ixR (nI i) 9 := ixR_nI (by omega) (by decide)
    have i10 : ixR (nI i) 10 := ixR_nI (by omega) (by decide)
    refine ⟨i9, i10, i9, i10, i9, i10, i9, i10, ?_⟩
    rw [tnI (by omega), nI_1, AI_stI_o (i := 24) (a := 34) _ _ (Or.inl (by decide)), AI_stI_o (i := 25) (a := 35) _ _ (Or.inl (by decide)), AI_stI_o (i := 24) (a := 35) _ _ (Or.inl (by decide)), AI_stI_o (i := 26) (a := 36) _ _ (Or.inl (by decide)), AI_stI_o (i := 25) (a := 36) _ _ (Or.inl (by decide)), AI_stI_o (i := 24) (a := 36) _ _ (Or.inl (by decide))]
    have f := cpy_f h i
    refine w137 hm hI K r (i + 1) (cpy h i) (by omega) (f.Sh HS) (hf.trans f) ?_ ?_ ?_ ?_ (fun k hk => ?_) (fun k hk => ?_)
    · rw [cpy_o _ (Or.inl (by decide)), e0]
    · rw [cpy_o _ (Or.inl (by decide)), e2]
    · rw [cpy_o _ (Or.inl (by decide)), e3]
    · rw [cpy_o _ (Or.inl (by decide)), e1]
    · rw [cpy_o _ (Or.inl (by decide)), cpy_o _ (Or.inl (by decide)), cpy_o _ (Or.inl (by decide)), cpy_o _ (Or.inl (by decide))]
      exact hs k hk
    · by_cases e : k = i
      · obtain ⟨a1, a2, a3, a4⟩ := cpy_a h i
        rw [e, a1, a2, a3, a4]
        exact hs i hlt
      · rw [cpy_o _ (Or.inr e), cpy_o _ (Or.inr e), cpy_o _ (Or.inr e), cpy_o _ (Or.inr e)]
        exact hd k (by omega)
theorem c137 {d : Nat} {L nn : Nat} {cd : Nat → Nat} (po : POK L cd) {h : AH} (HS : Sh h) (hp : PgR h L cd) (hN : AI h 23 1 = nI nn) {Q : Option Value → AH → Prop} (K0 : ntQ cd L = none → ∀ h', Fr rdP h h' → Q (some (.int (-103))) h') (K : ∀ m, ntQ cd L = some m → ∀ h', Fr rnwP h h' → IR h' (fnG (dtt cd L) m) (fnT (dtt cd L) m).F (fnT (dtt cd L) m).C → CoR h' (fnG (dtt cd L) m) → MvR h' (fnT (dtt cd L) m) → AI h' 23 1 = nI (nn + 1) → AI h' 23 14 = 0 → Q (some (.int (nI m))) h') : Cl (d + 4) 137 [.ref 23] h Q := by
  refine Cl.enter rfl (g137_0 (d + 3) h HS Q ?_)
  refine c135 po HS hp (fun h' f e22 hd e23 => ⟨rfl, f.Sh HS, ?_⟩)
  rw [e23]
  cases hq : psr cd L with
  | none =>
    refine ⟨fun _ => K0 (by unfold ntQ; rw [hq]) h' f, fun z => absurd rfl z⟩
  | some sm =>
    obtain ⟨s, m⟩ := sm
    dsimp only
    by_cases h5 : 5 ≤ s
    · have hq2 : ntQ cd L = some m := by unfold ntQ; rw [hq]; exact if_pos h5
      obtain ⟨d1, d2, d3, d4, -⟩ := hd s m hq
      obtain ⟨-, -, -, -, h9⟩ := ntQ_some hq2
      obtain ⟨-, -, ok, -, -⟩ := dtt_ok hq
      rw [if_pos h5]
      refine ⟨fun z => absurd z (by decide), fun _ => ?_⟩
      rw [AI_stI_o (i := 23) (j := 0) _ _ (Or.inr (by decide)), AI_stI_o (i := 23) (j := 2) _ _ (Or.inr (by decide)), AI_stI_o (i := 23) (j := 0) _ _ (Or.inr (by decide)), d1, d2 (by omega), d3 (by omega)]
      have f3 : Fr (fun a b => a = 23 ∧ (b = 0 ∨ b = 2 ∨ b = 3)) h' (stI (stI (stI h' 23 0 (nI m)) 23 2 (nI (dtt cd L).o)) 23 3 (nI (dtt cd L).t)) := ((Fr.stI (P := fun a b => a = 23 ∧ (b = 0 ∨ b = 2 ∨ b = 3)) (by decide)).trans (Fr.stI (P := fun a b => a = 23 ∧ (b = 0 ∨ b = 2 ∨ b = 3)) (by decide))).trans (Fr.stI (P := fun a b => a = 23 ∧ (b = 0 ∨ b = 2 ∨ b = 3)) (by decide))
      have fa : Fr rnwP h h' := f.weak (fun a b z => by
        rcases z with ⟨z1, z2⟩ | z
        · exact Or.inl ⟨z1, by omega⟩
        · exact Or.inr (Or.inr z))
      refine w137 h9 (fun k hk => (ok k hk).2.2.1) (fun h2 g2 r1 r2 r3 r4 r5 => K m hq2 h2 g2 r1 r2 r3 r4 r5) m 0 _ (Nat.zero_add _) (f3.Sh (f.Sh HS)) (fa.trans (f3.weak (fun a b z => Or.inl ⟨z.1, by omega⟩))) ?_ ?_ (AI_stI_s _ _ _ _) ?_ (fun k hk => ?_) (fun k hk => absurd hk (Nat.not_lt_zero k))
      · rw [AI_stI_o _ _ (Or.inr (by decide)), AI_stI_o _ _ (Or.inr (by decide)), AI_stI_s]
      · rw [AI_stI_o _ _ (Or.inr (by decide)), AI_stI_s]
      · rw [f3.I (by decide), f.I (by rintro (z | z) <;> omega), hN]
      · rw [f3.I (by rintro z; omega), f3.I (by rintro z; omega), f3.I (by rintro z; omega), f3.I (by rintro z; omega)]
        exact d4 k hk
    · rw [if_neg h5]
      exact ⟨fun _ => K0 (by unfold ntQ; rw [hq]; exact if_neg h5) h' f, fun z => absurd rfl z⟩
