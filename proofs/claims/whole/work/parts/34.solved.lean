/-! the reference lays all ways to go on -/
def solP (i j : Nat) : Prop := (i = 23 ∧ 32 ≤ j ∧ j ≤ 39) ∨ (37 ≤ i ∧ i ≤ 40)
def Lay (h : AH) (g : G) (F C : Nat) : Prop := AI h 23 32 = nI (oc g.n F C) ∧ AI h 23 35 = nI F ∧ (∀ k, k < g.n → opb F C k = true → AI h 38 (rk F C k) = nI k) ∧ (∀ j, j ≤ oc g.n F C → AI h 39 j = nI (3 ^ j)) ∧ ∀ s, s < 2 ^ g.n → AI h 37 s = b01 (jn g s)
theorem LnR.sol {h h' : AH} {g : G} (s : LnR h g) (hf : Fr solP h h') : LnR h' g := s.fr hf ⟨by rintro (⟨-, z, -⟩ | ⟨z, -⟩) <;> omega, by rintro (⟨-, z, -⟩ | ⟨z, -⟩) <;> omega⟩ (fun j => ⟨by rintro (⟨z, -⟩ | ⟨z, -⟩) <;> omega, by rintro (⟨z, -⟩ | ⟨z, -⟩) <;> omega⟩)
theorem LsR.sol {h h' : AH} {n F C : Nat} (s : LsR h n F C) (hf : Fr solP h h') : LsR h' n F C := s.fr hf (fun j => by rintro (⟨z, -⟩ | ⟨z, -⟩) <;> omega)
theorem oc_10 {n : Nat} (F C : Nat) (hn : n ≤ 10) : oc n F C ≤ 10 := Nat.le_trans (oc_le n F C) hn
theorem p3_10 {j : Nat} (h : j ≤ 10) : 3 ^ j ≤ 59049 := p3_le h
theorem narB1 : vp_nar .boolean 1 = 1 := by decide
theorem narB0 : vp_nar .boolean 0 = 0 := by decide
theorem w146d {d : Nat} {g : G} (ho : GOK g) {F C : Nat} {h0 : AH} {Q : Option Value → AH → Prop} (K : ∀ h', Fr solP h0 h' → Lay h' g F C → Q none h') : ∀ m i h, i + m = 2 ^ g.n → Sh h → LnR h g → Fr solP h0 h → (AI h 23 32 = nI (oc g.n F C) ∧ AI h 23 35 = nI F ∧ (∀ k, k < g.n → opb F C k = true → AI h 38 (rk F C k) = nI k) ∧ (∀ j, j ≤ oc g.n F C → AI h 39 j = nI (3 ^ j)) ∧ ∀ s, s < i → AI h 37 s = b01 (jn g s)) → Wp (d + 3) 146 119 [.ref 23, .int (nI g.n), .int (nI i)] [] h Q
  | 0, i, h, hi, HS, hl, hf, hy => by
    have hn := ho.1
    have h10 : 2 ^ g.n ≤ 2 ^ 10 := p2_le hn
    have e : i = 2 ^ g.n := by omega
    subst e
    refine g146_119 (d + 1) _ _ h HS Q ⟨fun c => ?_, fun _ => K h hf hy⟩
    rw [i1 _ (by omega), nI_ltI (by omega) (by omega)] at c
    omega
  | m + 1, i, h, hi, HS, hl, hf, hy => by
    have hn := ho.1
    have h10 : 2 ^ g.n ≤ 2 ^ 10 := p2_le hn
    have hlt : i < 2 ^ g.n := by omega
    have nx : Wp (d + 3) 146 119 [.ref 23, .int (nI g.n), .int (nI (i + 1))] [] (stI h 37 i (b01 (jn g i))) Q := by
      have f1 : Fr solP h (stI h 37 i (b01 (jn g i))) := Fr.stI (Or.inr ⟨by decide, by decide⟩)
      refine w146d ho K m (i + 1) _ (by omega) (HS.stI _ _ _) (hl.sol f1) (hf.trans f1) ⟨?_, ?_, fun k hk hp => ?_, fun j hj => ?_, fun s hs => ?_⟩
      · rw [AI_stI_o _ _ (Or.inl (by decide))]; exact hy.1
      · rw [AI_stI_o _ _ (Or.inl (by decide))]; exact hy.2.1
      · rw [AI_stI_o _ _ (Or.inl (by decide))]; exact hy.2.2.1 k hk hp
      · rw [AI_stI_o _ _ (Or.inl (by decide))]; exact hy.2.2.2.1 j hj
      · by_cases e : s = i
        · rw [e, AI_stI_s]
        · rw [AI_stI_o _ _ (Or.inr e)]; exact hy.2.2.2.2 s (by omega)
    refine g146_119 (d + 1) _ _ h HS Q ⟨fun _ => ?_, fun c => absurd (by rw [i1 _ (by omega), nI_ltI (by omega) (by omega)]; exact hlt) c⟩
    rw [hl.1]
    refine c141 HS hl ho (by omega) ⟨_, rfl, HS, ?_⟩
    rw [jnR hl ho, tnI (by omega), nI_1, narB1, narB0]
    unfold b01 at nx
    refine ⟨fun c => ⟨ixR_nI (by omega) (by decide), ?_⟩, fun c => ⟨ixR_nI (by omega) (by decide), ?_⟩⟩
    · rwa [if_pos c] at nx
    · rwa [if_neg c] at nx
theorem w146c {d : Nat} {g : G} (ho : GOK g) {F C : Nat} {h0 : AH} {Q : Option Value → AH → Prop} (K : ∀ h', Fr solP h0 h' → Lay h' g F C → Q none h') : ∀ m i h, i + m = oc g.n F C → Sh h → LnR h g → Fr solP h0 h → (AI h 23 32 = nI (oc g.n F C) ∧ AI h 23 35 = nI F ∧ (∀ k, k < g.n → opb F C k = true → AI h 38 (rk F C k) = nI k) ∧ (∀ j, j ≤ i → AI h 39 j = nI (3 ^ j))) → Wp (d + 3) 146 87 [.ref 23, .int (nI g.n), .int (nI i)] [] h Q
  | 0, i, h, hi, HS, hl, hf, hy => by
    have hoc := oc_10 F C ho.1
    have e : i = oc g.n F C := by omega
    subst e
    refine g146_87 (d + 3) _ _ h HS Q ⟨fun c => ?_, fun _ => ?_⟩
    · rw [hy.1, nI_ltI (by omega) (by omega)] at c
      omega
    · exact w146d ho K (2 ^ g.n) 0 h (Nat.zero_add _) HS hl hf ⟨hy.1, hy.2.1, hy.2.2.1, hy.2.2.2, fun s hs => absurd hs (Nat.not_lt_zero s)⟩
  | m + 1, i, h, hi, HS, hl, hf, hy => by
    have hoc := oc_10 F C ho.1
    refine g146_87 (d + 3) _ _ h HS Q ⟨fun _ => ⟨ixR_nI (by omega) (by decide), ?_, ?_⟩, fun c => absurd (by rw [hy.1, nI_ltI (by omega) (by omega)]; omega) c⟩
    · rw [nI_1]
      exact ixR_nI (by omega) (by decide)
    · have f1 : Fr solP h (stI h 39 (i + 1) (nI (3 ^ (i + 1)))) := Fr.stI (Or.inr ⟨by decide, by decide⟩)
      rw [nI_1, tnI (by omega), tnI (by omega), hy.2.2.2 i (Nat.le_refl _), show (3 : Int32) = nI 3 from rfl, pk_mul, ← Nat.pow_succ']
      refine w146c ho K m (i + 1) _ (by omega) (HS.stI _ _ _) (hl.sol f1) (hf.trans f1) ⟨?_, ?_, fun k hk hp => ?_, fun j hj => ?_⟩
      · rw [AI_stI_o _ _ (Or.inl (by decide))]; exact hy.1
      · rw [AI_stI_o _ _ (Or.inl (by decide))]; exact hy.2.1
      · rw [AI_stI_o _ _ (Or.inl (by decide))]; exact hy.2.2.1 k hk hp
      · by_cases e : j = i + 1
        · rw [e, AI_stI_s]
        · rw [AI_stI_o _ _ (Or.inr e)]; exact hy.2.2.2 j (by omega)
theorem sta1 {F C l : Nat} : sta F C l = 1 ↔ F.testBit l = true := by
  unfold sta
  cases F.testBit l <;> cases C.testBit l <;> simp
theorem w146a {d : Nat} {g : G} (ho : GOK g) {F C : Nat} (hs : VS g.n F C) {h0 : AH} {Q : Option Value → AH → Prop} (K : ∀ h', Fr solP h0 h' → Lay h' g F C → Q none h') : ∀ m i h, i + m = g.n → Sh h → LnR h g → LsR h g.n F C → Fr solP h0 h → (AI h 23 32 = nI (rk F C i) ∧ AI h 23 35 = nI (msk (fun k => F.testBit k) i) ∧ (∀ k, k < i → opb F C k = true → AI h 38 (rk F C k) = nI k)) → Wp (d + 3) 146 12 [.ref 23, .int (nI g.n), .int (nI i)] [] h Q
  | 0, i, h, hi, HS, hl, hls, hf, hy => by
    have hn := ho.1
    have e : i = g.n := by omega
    subst e
    refine g146_12 (d + 3) _ _ h HS Q ⟨fun c => ?_, fun _ => ⟨ixR_nI (j := 0) (by decide) (by decide), ?_⟩⟩
    · rw [nI_ltI (by omega) (by omega)] at c
      omega
    · have f1 : Fr solP h (stI h 39 0 1) := Fr.stI (Or.inr ⟨by decide, by decide⟩)
      show Wp (d + 3) 146 87 [.ref 23, .int (nI g.n), .int (nI 0)] [] (stI h 39 0 1) Q
      refine w146c ho K (oc g.n F C) 0 _ (Nat.zero_add _) (HS.stI _ _ _) (hl.sol f1) (hf.trans f1) ⟨?_, ?_, fun k hk hp => ?_, fun j hj => ?_⟩
      · rw [AI_stI_o _ _ (Or.inl (by decide))]; exact hy.1
      · rw [AI_stI_o _ _ (Or.inl (by decide)), hy.2.1, msk_self hs.1]
      · rw [AI_stI_o _ _ (Or.inl (by decide))]; exact hy.2.2 k hk hp
      · rw [Nat.le_zero.mp hj, AI_stI_s]
        rfl
  | m + 1, i, h, hi, HS, hl, hls, hf, hy => by
    have hn := ho.1
    have hlt : i < g.n := by omega
    have hrk := rk_le F C i
    have hst := sta_lt F C i
    have second : ∀ h1, Sh h1 → Fr solP h h1 → AI h1 23 32 = nI (rk F C (i + 1)) → AI h1 23 35 = nI (msk (fun k => F.testBit k) i) → (∀ k, k < i + 1 → opb F C k = true → AI h1 38 (rk F C k) = nI k) → Wp (d + 3) 146 46 [.ref 23, .int (nI g.n), .int (nI i)] [] h1 Q := by
      intro h1 S1 f1 a1 a2 a3
      have ls1 := hls.sol f1
      have e1 : msk (fun k => F.testBit k) (i + 1) = if F.testBit i = true then msk (fun k => F.testBit k) i ||| 2 ^ i else msk (fun k => F.testBit k) i := rfl
      refine g146_46 (d + 3) _ _ h1 S1 Q ⟨ixR_nI (by omega) (by decide), ?_⟩
      rw [tnI (by omega), ls1 i hlt, eqC (y := 1) (b := 1) rfl rfl (by omega) (by omega), sta1, a2, i1 i (by omega), fa_or, or0, nI_1]
      have fin : ∀ x, nI x = nI (msk (fun k => F.testBit k) (i + 1)) → Wp (d + 3) 146 12 [.ref 23, .int (nI g.n), .int (nI (i + 1))] [] (stI h1 23 35 (nI x)) Q := by
        intro x hx
        have f2 : Fr solP h1 (stI h1 23 35 (nI x)) := Fr.stI (Or.inl ⟨rfl, by decide, by decide⟩)
        refine w146a ho hs K m (i + 1) _ (by omega) (S1.stI _ _ _) ((hl.sol f1).sol f2) (ls1.sol f2) ((hf.trans f1).trans f2) ⟨?_, ?_, fun k hk hp => ?_⟩
        · rw [AI_stI_o _ _ (Or.inr (by decide))]; exact a1
        · rw [AI_stI_s, hx]
        · rw [AI_stI_o _ _ (Or.inl (by decide))]; exact a3 k hk hp
      refine ⟨fun c => fin _ ?_, fun c => fin _ ?_⟩
      · rw [e1, if_pos c]
      · rw [e1, if_neg c]
    refine g146_12 (d + 3) _ _ h HS Q ⟨fun _ => ⟨ixR_nI (by omega) (by decide), ?_⟩, fun c => absurd ((nI_ltI (by omega) (by omega)).mpr hlt) c⟩
    rw [tnI (by omega), hls i hlt, nI_eq0 (by omega), sta0]
    refine ⟨fun c => ⟨?_, ?_⟩, fun c => ?_⟩
    · rw [hy.1]
      exact ixR_nI (by omega) (by decide)
    · rw [hy.1, tnI (by omega), AI_stI_o _ _ (Or.inl (by decide : (23 : Nat) ≠ 38)), hy.1, nI_1]
      have e : rk F C (i + 1) = rk F C i + 1 := fa_cnt_yes c
      refine second _ ((HS.stI _ _ _).stI _ _ _) ((Fr.stI (Or.inr ⟨by decide, by decide⟩)).trans (Fr.stI (Or.inl ⟨rfl, by decide, by decide⟩))) ?_ ?_ (fun k hk hp => ?_)
      · rw [AI_stI_s, e]
      · rw [AI_stI_o _ _ (Or.inr (by decide)), AI_stI_o _ _ (Or.inl (by decide))]; exact hy.2.1
      · rw [AI_stI_o _ _ (Or.inl (by decide))]
        by_cases ek : k = i
        · rw [ek, AI_stI_s]
        · have := rk_lt (F := F) (C := C) (i := k) (j := i) (by omega) hp
          rw [AI_stI_o _ _ (Or.inr (by omega))]
          exact hy.2.2 k (by omega) hp
    · have e : rk F C (i + 1) = rk F C i := fa_cnt_no (ts_nt c)
      refine second h HS Fr.rfl (by rw [e]; exact hy.1) hy.2.1 (fun k hk hp => ?_)
      by_cases ek : k = i
      · rw [ek] at hp
        exact absurd hp c
      · exact hy.2.2 k (by omega) hp
theorem c146 {d : Nat} {h : AH} (HS : Sh h) {g : G} (ho : GOK g) {F C : Nat} (hs : VS g.n F C) (hl : LnR h g) (hls : LsR h g.n F C) {Q : Option Value → AH → Prop} (K : ∀ h', Fr solP h h' → Lay h' g F C → Q none h') : Cl (d + 3) 146 [.ref 23, .int (nI g.n)] h Q := by
  refine Cl.enter rfl (g146_0 (d + 3) _ h HS Q ?_)
  have f1 : Fr solP h (stI (stI h 23 32 0) 23 35 0) := (Fr.stI (Or.inl ⟨rfl, by decide, by decide⟩)).trans (Fr.stI (Or.inl ⟨rfl, by decide, by decide⟩))
  refine w146a ho hs K g.n 0 _ (Nat.zero_add _) ((HS.stI _ _ _).stI _ _ _) (hl.sol f1) (hls.sol f1) f1 ⟨?_, ?_, fun k hk => absurd hk (Nat.not_lt_zero k)⟩
  · rw [AI_stI_o _ _ (Or.inr (by decide)), AI_stI_s]
    rfl
  · rw [AI_stI_s]
    rfl
theorem Lay.fr {P : Nat → Nat → Prop} {h h' : AH} {g : G} {F C : Nat} (s : Lay h g F C) (hf : Fr P h h') (h1 : ¬ P 23 32 ∧ ¬ P 23 35) (h2 : ∀ i j, 37 ≤ i → i ≤ 39 → ¬ P i j) : Lay h' g F C := by
  obtain ⟨a, b, c, e, f⟩ := s
  refine ⟨?_, ?_, fun k hk hp => ?_, fun j hj => ?_, fun s hs => ?_⟩
  · rw [hf.I h1.1, a]
  · rw [hf.I h1.2, b]
  · rw [hf.I (h2 _ _ (by decide) (by decide)), c k hk hp]
  · rw [hf.I (h2 _ _ (by decide) (by decide)), e j hj]
  · rw [hf.I (h2 _ _ (by decide) (by decide)), f s hs]
theorem Lay.ol {h : AH} {g : G} {F C j : Nat} (s : Lay h g F C) (hj : j < oc g.n F C) : AI h 38 j = nI (olN g.n F C j) := by
  obtain ⟨a, b, c⟩ := ol_ok hj
  have := s.2.2.1 _ a b
  rwa [c] at this
def cdP (i j : Nat) : Prop := i = 23 ∧ 37 ≤ j ∧ j ≤ 39
theorem dgI {x : Nat} (hx : x < 2 ^ 31) : nI x - nI x / 3 * 3 = nI (x % 3) := pk_rem (d := 3) hx (by decide) (by decide)
theorem dvI {x : Nat} (hx : x < 2 ^ 31) : nI x / 3 = nI (x / 3) := pk_div (d := 3) hx (by decide) (by decide)
theorem w147 {d : Nat} {g : G} (ho : GOK g) {F C c : Nat} (hc : c < 59049) {h0 : AH} {Q : Option Value → AH → Prop} (K : ∀ h', Fr cdP h0 h' → AI h' 23 37 = nI (cFj g.n F C c (oc g.n F C)) → AI h' 23 38 = nI (cLj g.n F C c (oc g.n F C)) → AI h' 23 39 = nI (cOj c (oc g.n F C)) → Q none h') : ∀ m j h, j + m = oc g.n F C → Sh h → Lay h g F C → Fr cdP h0 h → AI h 23 37 = nI (cFj g.n F C c j) → AI h 23 38 = nI (cLj g.n F C c j) → AI h 23 39 = nI (cOj c j) → Wp d 147 25 [.ref 23, mk0, .int (nI (c / 3 ^ j)), .int (nI j), mk0] [] h Q
  | 0, j, h, hj, HS, hy, hf, a1, a2, a3 => by
    have hoc := oc_10 F C ho.1
    have e : j = oc g.n F C := by omega
    subst e
    refine g147_25 d _ _ h HS Q ⟨fun z => ?_, fun _ => K h hf a1 a2 a3⟩
    rw [hy.1, nI_ltI (by omega) (by omega)] at z
    omega
  | m + 1, j, h, hj, HS, hy, hf, a1, a2, a3 => by
    have hoc := oc_10 F C ho.1
    have hn := ho.1
    have hlt : j < oc g.n F C := by omega
    have hol := hy.ol hlt
    have hol2 := (ol_ok hlt).1
    have hcd : c / 3 ^ j ≤ c := Nat.div_le_self _ _
    have ed : c / 3 ^ j % 3 = dg c j := rfl
    have ed2 : c / 3 ^ j / 3 = c / 3 ^ (j + 1) := by rw [Nat.pow_succ, Nat.div_div_eq_div_mul]
    have hd3 := dg_lt c j
    have k23 : okC 12 (AK h 23).1 = true := okS HS 23 rfl rfl
    have third : ∀ h1 s0 s1, Sh h1 → Fr cdP h h1 → AI h1 23 37 = nI (cFj g.n F C c (j + 1)) → AI h1 23 39 = nI (cOj c j) → s1 ||| s0 = nI (cLj g.n F C c (j + 1)) → Wp d 147 92 [.ref 23, mk0, .int (nI (c / 3 ^ (j + 1))), .int (nI j), .int (nI (dg c j))] [.int s0, .int s1, .ref 23] h1 Q := by
      intro h1 s0 s1 S1 f1 b1 b3 b2
      refine g147_92 d _ _ _ _ _ _ h1 S1 Q ⟨okS S1 23 rfl rfl, by decide, ?_⟩
      rw [b2, AI_stI_o _ _ (Or.inr (by decide)), b3, nI_eq0 (by omega), nI_1, show (1 : Int32) = nI 1 from rfl, nI_add, show (0 : Int32) = nI 0 from rfl, nI_add]
      have fin : ∀ x, x = cOj c (j + 1) → Wp d 147 25 [.ref 23, mk0, .int (nI (c / 3 ^ (j + 1))), .int (nI (j + 1)), mk0] [] (stI (stI h1 23 38 (nI (cLj g.n F C c (j + 1)))) 23 39 (nI x)) Q := by
        intro x hx
        have f2 : Fr cdP h1 (stI (stI h1 23 38 (nI (cLj g.n F C c (j + 1)))) 23 39 (nI x)) := (Fr.stI ⟨rfl, by decide, by decide⟩).trans (Fr.stI ⟨rfl, by decide, by decide⟩)
        refine w147 ho hc K m (j + 1) _ (by omega) ((S1.stI _ _ _).stI _ _ _) (hy.fr (f1.trans f2) ⟨fun z => absurd z.2.1 (by decide), fun z => absurd z.2.1 (by decide)⟩ (fun a b h1 h2 z => by have := z.1; omega)) ((hf.trans f1).trans f2) ?_ ?_ ?_
        · rw [AI_stI_o _ _ (Or.inr (by decide)), AI_stI_o _ _ (Or.inr (by decide))]; exact b1
        · rw [AI_stI_o _ _ (Or.inr (by decide)), AI_stI_s]
        · rw [AI_stI_s, hx]
      refine ⟨fun z => fin _ ?_, fun z => fin _ ?_⟩
      · exact (fa_cnt_yes (p := fun j => decide (dg c j = 0)) (decide_eq_true z)).symm
      · exact (fa_cnt_no (p := fun j => decide (dg c j = 0)) (decide_eq_false z)).symm
    have second : ∀ s0, nI (cFj g.n F C c j) ||| s0 = nI (cFj g.n F C c (j + 1)) → Wp d 147 65 [.ref 23, mk0, .int (nI (c / 3 ^ (j + 1))), .int (nI j), .int (nI (dg c j))] [.int s0, .int (nI (cFj g.n F C c j)), .ref 23] h Q := by
      intro s0 hs0
      refine g147_65 d _ _ _ _ _ _ h HS Q ⟨k23, by decide, ?_⟩
      have f1 : Fr cdP h (stI h 23 37 (nI (cFj g.n F C c (j + 1)))) := Fr.stI ⟨rfl, by decide, by decide⟩
      rw [hs0, AI_stI_o _ _ (Or.inr (by decide)), a2, AI_stI_o _ _ (Or.inl (by decide)), tnI (by omega), hol, i1 _ (by omega), eqC (y := 2) (b := 2) rfl rfl (by omega) (by omega)]
      refine ⟨fun z => ?_, fun z => ⟨ixR_nI (by omega) (by decide), ?_⟩⟩
      · refine third _ _ _ (HS.stI _ _ _) f1 (AI_stI_s _ _ _ _) ?_ ?_
        · rw [AI_stI_o _ _ (Or.inr (by decide))]; exact a3
        · rw [or0]
          exact congrArg nI (fo_no (p := fun j => !decide (dg c j = 2)) (by rw [decide_eq_true z]; rfl)).symm
      · refine third _ _ _ (HS.stI _ _ _) f1 (AI_stI_s _ _ _ _) ?_ ?_
        · rw [AI_stI_o _ _ (Or.inr (by decide))]; exact a3
        · rw [fa_or]
          exact congrArg nI (fo_yes (p := fun j => !decide (dg c j = 2)) (f := fun j y => y ||| 2 ^ olN g.n F C j) (by rw [decide_eq_false z]; rfl)).symm
    refine g147_25 d _ _ h HS Q ⟨fun _ => ?_, fun z => absurd (by rw [hy.1, nI_ltI (by omega) (by omega)]; exact hlt) z⟩
    rw [dgI (by omega), dvI (by omega), ed, ed2, tnI (by omega), hol, i1 _ (by omega), a1, eqC (y := 1) (b := 1) rfl rfl (by omega) (by omega)]
    refine ⟨fun z => ⟨ixR_nI (by omega) (by decide), second _ ?_⟩, fun z => second _ ?_⟩
    · rw [fa_or]
      exact congrArg nI (fo_yes (p := fun j => decide (dg c j = 1)) (f := fun j y => y ||| 2 ^ olN g.n F C j) (decide_eq_true z)).symm
    · rw [or0]
      exact congrArg nI (fo_no (p := fun j => decide (dg c j = 1)) (decide_eq_false z)).symm
theorem c147 {d : Nat} {h : AH} (HS : Sh h) {g : G} (ho : GOK g) {F C c : Nat} (hs : VS g.n F C) (hc : c < 59049) (hy : Lay h g F C) {Q : Option Value → AH → Prop} (K : ∀ h', Fr cdP h h' → AI h' 23 37 = nI (cF g.n F C c) → AI h' 23 38 = nI (unc g.n (cC g.n F C c)) → AI h' 23 39 = nI (oc g.n (cF g.n F C c) (cC g.n F C c)) → Q none h') : Cl d 147 [.ref 23, .int (nI c)] h Q := by
  refine Cl.enter rfl (g147_0 d _ h HS Q ?_)
  have f1 : Fr cdP h (stI (stI (stI h 23 37 (nI F)) 23 38 (nI F)) 23 39 0) := ((Fr.stI ⟨rfl, by decide, by decide⟩).trans (Fr.stI ⟨rfl, by decide, by decide⟩)).trans (Fr.stI ⟨rfl, by decide, by decide⟩)
  rw [hy.2.1, AI_stI_o _ _ (Or.inr (by decide)), hy.2.1]
  have ec : c / 3 ^ 0 = c := Nat.div_one c
  have := w147 (d := d) ho (F := F) (C := C) hc (h0 := h) (Q := Q) (fun h' a b c1 d1 => K h' a (by rw [b, cFj_end hs]) (by rw [c1, cLj_end hs]) (by rw [d1, cOj_end])) (oc g.n F C) 0 _ (Nat.zero_add _) (f1.Sh HS) (hy.fr f1 ⟨fun z => absurd z.2.1 (by decide), fun z => absurd z.2.1 (by decide)⟩ (fun a b h1 h2 z => by have := z.1; omega)) f1 (by
    rw [AI_stI_o _ _ (Or.inr (by decide)), AI_stI_o _ _ (Or.inr (by decide)), AI_stI_s]
    rfl) (by
    rw [AI_stI_o _ _ (Or.inr (by decide)), AI_stI_s]
    rfl) (by
    rw [AI_stI_s]
    rfl)
  rw [ec] at this
  exact this
