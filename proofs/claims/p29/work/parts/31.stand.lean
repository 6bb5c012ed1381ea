/-! what all lanes are, and the moves: the class's stand -/
def ST : Type := Nat × Nat × Nat × Nat × (Nat → Nat)
def ST.F (t : ST) : Nat := t.1
def ST.C (t : ST) : Nat := t.2.1
def ST.w (t : ST) : Nat := t.2.2.1
def ST.k (t : ST) : Nat := t.2.2.2.1
def ST.m (t : ST) : Nat → Nat := t.2.2.2.2
def mkT (F C w k : Nat) (m : Nat → Nat) : ST := (F, C, w, k, m)
def TOK (g : G) (t : ST) : Prop := VS g.n t.F t.C ∧ t.w < 2 ∧ t.k + oc g.n t.F t.C ≤ g.n ∧ (∀ i, i < t.k → t.m i < g.n ∧ ((t.w + t.k + i) % 2 = 0 → t.F.testBit (t.m i) = true) ∧ ((t.w + t.k + i) % 2 = 1 → t.C.testBit (t.m i) = true)) ∧ ∀ i j, i < t.k → j < t.k → t.m i = t.m j → i = j
def plyT (t : ST) (l : Nat) : ST := mkT (if t.w = 0 then t.F ||| 2 ^ l else t.F) (if t.w = 0 then t.C else t.C ||| 2 ^ l) (1 - t.w) (t.k + 1) (upN t.m t.k l)
def undT (t : ST) : ST := mkT (dif t.F (2 ^ t.m (t.k - 1))) (dif t.C (2 ^ t.m (t.k - 1))) (1 - t.w) (t.k - 1) t.m
def unT (t : ST) : Nat → ST
  | 0 => t
  | j + 1 => undT (unT t j)
def StC (h : AH) (v : Nat) (t : ST) : Prop := AI h v 2 = nI t.k ∧ AI h v 3 = nI t.F ∧ AI h v 4 = nI t.C ∧ AI h v 5 = nI t.w ∧ ∀ i, i < t.k → AI h (v + 1) i = nI (t.m i)
theorem StC.fr {P : Nat → Nat → Prop} {h h' : AH} {v : Nat} {t : ST} (s : StC h v t) (hf : Fr P h h') (hp : ∀ j, ¬ P v j ∧ ¬ P (v + 1) j) : StC h' v t := by
  obtain ⟨h1, h2, h3, h4, h5⟩ := s
  refine ⟨?_, ?_, ?_, ?_, fun i hi => ?_⟩
  · rw [hf.I (hp _).1, h1]
  · rw [hf.I (hp _).1, h2]
  · rw [hf.I (hp _).1, h3]
  · rw [hf.I (hp _).1, h4]
  · rw [hf.I (hp _).2, h5 i hi]
theorem dif_two {s l i : Nat} (hs : s < 1024) : (dif s (2 ^ l)).testBit i = (s.testBit i && !decide (l = i)) := by
  rw [dif_tb hs, Nat.testBit_two_pow]
theorem opb_dif {F C l i : Nat} (hF : F < 1024) (hC : C < 1024) : opb (dif F (2 ^ l)) (dif C (2 ^ l)) i = (opb F C i || decide (l = i)) := by
  unfold opb
  rw [dif_two hF, dif_two hC]
  cases F.testBit i <;> cases C.testBit i <;> cases decide (l = i) <;> rfl
theorem oc_dif {n F C l : Nat} (hF : F < 1024) (hC : C < 1024) (hl : l < n) (hc : opb F C l = false) : oc n (dif F (2 ^ l)) (dif C (2 ^ l)) = oc n F C + 1 := by
  refine cnt_drop hl (fun i hi => ?_) ?_ hc
  · rw [opb_dif hF hC, decide_eq_false (fun z => hi z.symm), Bool.or_false]
  · rw [opb_dif hF hC, decide_eq_true rfl, Bool.or_true]
theorem TOK.lt {g : G} {t : ST} (h : TOK g t) (hn : g.n ≤ 10) : t.F < 1024 ∧ t.C < 1024 := ⟨p2_10 h.1.1 hn, p2_10 h.1.2.1 hn⟩
/-- the last lane is closed -/
theorem TOK.closed {g : G} {t : ST} (h : TOK g t) {i : Nat} (hi : i < t.k) : opb t.F t.C (t.m i) = false := by
  obtain ⟨h1, h2, h3, h4, h5⟩ := h
  obtain ⟨a, b, c⟩ := h4 i hi
  unfold opb
  rcases Nat.mod_two_eq_zero_or_one (t.w + t.k + i) with z | z
  · rw [b z]; rfl
  · rw [c z]; simp
theorem dif_sub {s l n : Nat} (h : s < 2 ^ n) (hn : n ≤ 10) : dif s l < 2 ^ n := dif_lt h hn
theorem TOK.und {g : G} {t : ST} (h : TOK g t) (hn : g.n ≤ 10) (hk : 0 < t.k) : TOK g (undT t) := by
  obtain ⟨lF, lC⟩ := h.lt hn
  have hcl := h.closed (i := t.k - 1) (by omega)
  obtain ⟨h1, h2, h3, h4, h5⟩ := h
  have hl := (h4 (t.k - 1) (by omega)).1
  refine ⟨⟨dif_lt h1.1 hn, dif_lt h1.2.1 hn, fun i z => ?_⟩, ?_, ?_, fun i hi => ?_, fun i j hi hj e => h5 i j (Nat.lt_of_lt_of_le hi (Nat.sub_le _ _)) (Nat.lt_of_lt_of_le hj (Nat.sub_le _ _)) e⟩
  · have z1 : (dif t.F (2 ^ t.m (t.k - 1))).testBit i = true ∧ (dif t.C (2 ^ t.m (t.k - 1))).testBit i = true := z
    rw [dif_two lF, dif_two lC, Bool.and_eq_true, Bool.and_eq_true] at z1
    exact h1.2.2 i ⟨z1.1.1, z1.2.1⟩
  · show 1 - t.w < 2
    omega
  · show t.k - 1 + oc g.n (dif t.F (2 ^ t.m (t.k - 1))) (dif t.C (2 ^ t.m (t.k - 1))) ≤ g.n
    rw [oc_dif lF lC hl hcl]
    omega
  · have hi2 : i < t.k - 1 := hi
    obtain ⟨a, b, c⟩ := h4 i (by omega)
    have ne : t.m (t.k - 1) ≠ t.m i := fun z => by have := h5 _ _ (by omega) (by omega) z; omega
    refine ⟨a, fun z => ?_, fun z => ?_⟩
    · have z2 : (1 - t.w + (t.k - 1) + i) % 2 = 0 := z
      show (dif t.F (2 ^ t.m (t.k - 1))).testBit (t.m i) = true
      rw [dif_two lF, decide_eq_false ne, b (by omega)]
      rfl
    · have z2 : (1 - t.w + (t.k - 1) + i) % 2 = 1 := z
      show (dif t.C (2 ^ t.m (t.k - 1))).testBit (t.m i) = true
      rw [dif_two lC, decide_eq_false ne, c (by omega)]
      rfl
theorem TOK.ply {g : G} {t : ST} (h : TOK g t) {l : Nat} (hl : l < g.n) (ho : opb t.F t.C l = true) : TOK g (plyT t l) := by
  obtain ⟨h1, h2, h3, h4, h5⟩ := h
  have hno : ∀ i, i < t.k → t.m i ≠ l := fun i hi z => by
    have := TOK.closed ⟨h1, h2, h3, h4, h5⟩ hi
    rw [z, ho] at this
    cases this
  have hinj : ∀ i j, i < t.k + 1 → j < t.k + 1 → upN t.m t.k l i = upN t.m t.k l j → i = j := by
    intro i j hi hj e
    by_cases ei : i = t.k <;> by_cases ej : j = t.k
    · omega
    · rw [ei, upN_s, upN_o _ _ ej] at e
      exact absurd e.symm (hno j (by omega))
    · rw [ej, upN_s, upN_o _ _ ei] at e
      exact absurd e (hno i (by omega))
    · rw [upN_o _ _ ei, upN_o _ _ ej] at e
      exact h5 i j (by omega) (by omega) e
  have hw : t.w = 0 ∨ t.w = 1 := by omega
  rcases hw with hw | hw
  · have e : plyT t l = mkT (t.F ||| 2 ^ l) t.C 1 (t.k + 1) (upN t.m t.k l) := by
      unfold plyT
      rw [hw]
      rfl
    rw [e]
    refine ⟨h1.F hl ho, Nat.one_lt_two, ?_, fun i hi => ?_, hinj⟩
    · show t.k + 1 + oc g.n (t.F ||| 2 ^ l) t.C ≤ g.n
      have := oc_F hl ho
      omega
    · have hi2 : i < t.k + 1 := hi
      show upN t.m t.k l i < g.n ∧ ((1 + (t.k + 1) + i) % 2 = 0 → (t.F ||| 2 ^ l).testBit (upN t.m t.k l i) = true) ∧ ((1 + (t.k + 1) + i) % 2 = 1 → t.C.testBit (upN t.m t.k l i) = true)
      by_cases ei : i = t.k
      · rw [ei, upN_s, Nat.testBit_or, tb_self, Bool.or_true]
        exact ⟨hl, fun _ => rfl, fun z => by omega⟩
      · rw [upN_o _ _ ei, Nat.testBit_or]
        obtain ⟨a, b, c⟩ := h4 i (by omega)
        exact ⟨a, fun z => by rw [b (by omega)]; rfl, fun z => c (by omega)⟩
  · have e : plyT t l = mkT t.F (t.C ||| 2 ^ l) 0 (t.k + 1) (upN t.m t.k l) := by
      unfold plyT
      rw [hw]
      rfl
    rw [e]
    refine ⟨h1.C hl ho, Nat.zero_lt_two, ?_, fun i hi => ?_, hinj⟩
    · show t.k + 1 + oc g.n t.F (t.C ||| 2 ^ l) ≤ g.n
      have := oc_C hl ho
      omega
    · have hi2 : i < t.k + 1 := hi
      show upN t.m t.k l i < g.n ∧ ((0 + (t.k + 1) + i) % 2 = 0 → t.F.testBit (upN t.m t.k l i) = true) ∧ ((0 + (t.k + 1) + i) % 2 = 1 → (t.C ||| 2 ^ l).testBit (upN t.m t.k l i) = true)
      by_cases ei : i = t.k
      · rw [ei, upN_s, Nat.testBit_or, tb_self, Bool.or_true]
        exact ⟨hl, fun z => by omega, fun _ => rfl⟩
      · rw [upN_o _ _ ei, Nat.testBit_or]
        obtain ⟨a, b, c⟩ := h4 i (by omega)
        exact ⟨a, fun z => b (by omega), fun z => by rw [c (by omega)]; rfl⟩
theorem TOK.k_le {g : G} {t : ST} (h : TOK g t) : t.k ≤ g.n := by have := h.2.2.1; omega
theorem TOK.k_lt {g : G} {t : ST} (h : TOK g t) {l : Nat} (hl : l < g.n) (ho : opb t.F t.C l = true) : t.k < g.n := by
  have h3 := h.2.2.1
  have := oc_F hl ho
  omega
def stP (v i _j : Nat) : Prop := i = v ∨ i = v + 1
theorem c74 {d : Nat} {h : AH} (HS : Sh h) {v : Nat} (hv : St3 v) {t : ST} (s : StC h v t) (hk : t.k < 9) (hw : t.w < 2) {l : Nat} (hl : l < 31) {Q : Option Value → AH → Prop} (K : ∀ h', Fr (stP v) h h' → StC h' v (plyT t l) → Q none h') : Cl (d + 1) 74 [.ref v, .int (nI l)] h Q := by
  obtain ⟨h1, h2, h3, h4, h5⟩ := s
  have nn : v + 1 ≠ v := Nat.succ_ne_self v
  have nn2 : v ≠ v + 1 := fun z => nn z.symm
  have gen : ∀ h1', Sh h1' → Fr (stP v) h h1' → AI h1' v 2 = nI t.k → AI h1' v 3 = nI (plyT t l).F → AI h1' v 4 = nI (plyT t l).C → AI h1' v 5 = nI t.w → (∀ i, i < t.k → AI h1' (v + 1) i = nI (t.m i)) → Wp (d + 1) 74 34 [.ref v, .int (nI l)] [] h1' Q := by
    intro h1' S1 F1 a1 a2 a3 a4 a5
    refine g74_34 d _ _ h1' S1 hv Q (fun h2' e2 => ?_)
    have hlen : (AK h1' (v + 1)).2 = 9 := by rcases hv with rfl | rfl | rfl <;> exact K0_len S1 _ (c := 20) rfl
    rw [a1, putv_nI (by omega) (by omega)] at e2
    have b1 : AI h2' v 2 = nI t.k := by rw [e2, AI_stI_o _ _ (Or.inl nn2), a1]
    rw [b1, nI_1]
    have b2 : AI (stI h2' v 2 (nI (t.k + 1))) v 5 = nI t.w := by rw [AI_stI_o _ _ (Or.inr (by decide)), e2, AI_stI_o _ _ (Or.inl nn2), a4]
    rw [b2, show (1 : Int32) = nI 1 from rfl, pk_sub (by omega)]
    refine K _ ?_ ⟨?_, ?_, ?_, AI_stI_s _ _ _ _, fun i hi => ?_⟩
    · refine (F1.trans ?_).trans (Fr.trans (Fr.stI (Or.inl rfl)) (Fr.stI (Or.inl rfl)))
      rw [e2]
      exact Fr.stI (Or.inr rfl)
    · rw [AI_stI_o _ _ (Or.inr (by decide)), AI_stI_s]
      rfl
    · rw [AI_stI_o _ _ (Or.inr (by decide)), AI_stI_o _ _ (Or.inr (by decide)), e2, AI_stI_o _ _ (Or.inl nn2), a2]
    · rw [AI_stI_o _ _ (Or.inr (by decide)), AI_stI_o _ _ (Or.inr (by decide)), e2, AI_stI_o _ _ (Or.inl nn2), a3]
    · rw [AI_stI_o _ _ (Or.inl nn), AI_stI_o _ _ (Or.inl nn), e2, AI_stI]
      have hi2 : i < t.k + 1 := hi
      show _ = nI (upN t.m t.k l i)
      by_cases ei : i = t.k
      · rw [if_pos ⟨rfl, ei⟩, ei, upN_s]
      · rw [if_neg (fun z => ei z.2), upN_o _ _ ei]
        exact a5 i (by omega)
  refine Cl.enter rfl (g74_0 (d + 1) _ _ h HS hv Q ?_)
  rw [h4, h2, h3, i1 l hl, fa_or, fa_or, nI_eq0 (by omega)]
  refine ⟨fun c => ?_, fun c => ?_⟩
  · refine gen _ (HS.stI _ _ _) (Fr.stI (Or.inl rfl)) ?_ ?_ ?_ ?_ (fun i hi => ?_)
    · rw [AI_stI_o _ _ (Or.inr (by decide)), h1]
    · rw [AI_stI_s]
      show _ = nI (if t.w = 0 then t.F ||| 2 ^ l else t.F)
      rw [if_pos c]
    · rw [AI_stI_o _ _ (Or.inr (by decide)), h3]
      show _ = nI (if t.w = 0 then t.C else t.C ||| 2 ^ l)
      rw [if_pos c]
    · rw [AI_stI_o _ _ (Or.inr (by decide)), h4]
    · rw [AI_stI_o _ _ (Or.inl nn), h5 i hi]
  · refine gen _ (HS.stI _ _ _) (Fr.stI (Or.inl rfl)) ?_ ?_ ?_ ?_ (fun i hi => ?_)
    · rw [AI_stI_o _ _ (Or.inr (by decide)), h1]
    · rw [AI_stI_o _ _ (Or.inr (by decide)), h2]
      show _ = nI (if t.w = 0 then t.F ||| 2 ^ l else t.F)
      rw [if_neg c]
    · rw [AI_stI_s]
      show _ = nI (if t.w = 0 then t.C else t.C ||| 2 ^ l)
      rw [if_neg c]
    · rw [AI_stI_o _ _ (Or.inr (by decide)), h4]
    · rw [AI_stI_o _ _ (Or.inl nn), h5 i hi]
theorem atM {h : AH} (HS : Sh h) {v : Nat} (hv : St3 v) {j : Nat} (hj : j < 9) : atv h (v + 1) (nI j) = AI h (v + 1) j := by
  have hlen : (AK h (v + 1)).2 = 9 := by rcases hv with rfl | rfl | rfl <;> exact K0_len HS _ (c := 20) rfl
  exact atv_nI (by omega) (by omega)
theorem c75 {d : Nat} {h : AH} (HS : Sh h) {v : Nat} (hv : St3 v) {t : ST} (s : StC h v t) (hk0 : 0 < t.k) (hk : t.k ≤ 9) (hw : t.w < 2) (hF : t.F < 1024) (hC : t.C < 1024) (hl : t.m (t.k - 1) < 31) {Q : Option Value → AH → Prop} (K : ∀ h', Fr (fun i _ => i = v) h h' → StC h' v (undT t) → Q none h') : Cl (d + 1) 75 [.ref v] h Q := by
  obtain ⟨h1, h2, h3, h4, h5⟩ := s
  have nn : v + 1 ≠ v := Nat.succ_ne_self v
  refine Cl.enter rfl (g75_0 d _ h HS hv Q ⟨fun _ => ?_, fun c => absurd ?_ c⟩)
  · rw [h1, show nI t.k - 1 = nI (t.k - 1) from pk_sub (b := 1) (by omega)]
    rw [AI_stI_s, atM (HS.stI _ _ _) hv (by omega), AI_stI_o _ _ (Or.inl nn), h5 _ (by omega), i1 _ hl]
    simp only [AI_stI_o (i := v) (j := 2) h _ (Or.inr (by decide : (3 : Nat) ≠ 2)), h2, dif_nI hF]
    rw [AI_stI_o _ _ (Or.inr (by decide : (4 : Nat) ≠ 3)), AI_stI_o _ _ (Or.inr (by decide : (4 : Nat) ≠ 2)), h3, dif_nI hC]
    rw [AI_stI_o _ _ (Or.inr (by decide : (5 : Nat) ≠ 4)), AI_stI_o _ _ (Or.inr (by decide : (5 : Nat) ≠ 3)), AI_stI_o _ _ (Or.inr (by decide : (5 : Nat) ≠ 2)), h4, show (1 : Int32) = nI 1 from rfl, pk_sub (by omega)]
    refine K _ ?_ ⟨?_, ?_, ?_, AI_stI_s _ _ _ _, fun i hi => ?_⟩
    · exact (((Fr.stI (P := fun a _ => a = v) rfl).trans (Fr.stI (P := fun a _ => a = v) rfl)).trans (Fr.stI (P := fun a _ => a = v) rfl)).trans (Fr.stI (P := fun a _ => a = v) rfl)
    · rw [AI_stI_o _ _ (Or.inr (by decide)), AI_stI_o _ _ (Or.inr (by decide)), AI_stI_o _ _ (Or.inr (by decide)), AI_stI_s]
      rfl
    · rw [AI_stI_o _ _ (Or.inr (by decide)), AI_stI_o _ _ (Or.inr (by decide)), AI_stI_s]
      rfl
    · rw [AI_stI_o _ _ (Or.inr (by decide)), AI_stI_s]
      rfl
    · rw [AI_stI_o _ _ (Or.inl nn), AI_stI_o _ _ (Or.inl nn), AI_stI_o _ _ (Or.inl nn), AI_stI_o _ _ (Or.inl nn)]
      have hi2 : i < t.k - 1 := hi
      exact h5 i (by omega)
  · rw [h1]
    exact (ltC (x := 0) (a := 0) rfl rfl (by omega) (by omega)).mpr hk0
theorem w76 {d : Nat} {g : G} (hn : g.n ≤ 9) {v : Nat} (hv : St3 v) {t : ST} (ht : TOK g t) {h0 : AH} {Q : Option Value → AH → Prop} (K : ∀ h', Fr (fun i _ => i = v) h0 h' → StC h' v (unT t t.k) → Q none h') : ∀ m j h, j + m = t.k → Sh h → Fr (fun i _ => i = v) h0 h → StC h v (unT t j) → TOK g (unT t j) → (unT t j).k = m → Wp (d + 2) 76 5 [.ref v, .int (nI m)] [] h Q
  | 0, j, h, hj, HS, hf, s, hT, hk => by
    have e : j = t.k := by omega
    subst e
    exact g76_5 (d + 1) _ _ h HS hv Q ⟨fun c => absurd c (by decide), fun _ => K h hf s⟩
  | m + 1, j, h, hj, HS, hf, s, hT, hk => by
    have hkn := hT.k_le
    have hlt := hT.lt (by omega)
    have hm := (hT.2.2.2.1 ((unT t j).k - 1) (by omega)).1
    refine g76_5 (d + 1) _ _ h HS hv Q ⟨fun _ => ?_, fun c => absurd ((ltC (x := 0) (a := 0) rfl rfl (by omega) (by omega)).mpr (Nat.succ_pos m)) c⟩
    refine c75 HS hv s (by omega) (by omega) hT.2.1 hlt.1 hlt.2 (by omega) (fun h' f' s' => ⟨rfl, f'.Sh HS, ?_⟩)
    rw [pk_m1]
    refine w76 hn hv ht K m (j + 1) h' (by omega) (f'.Sh HS) (hf.trans f') s' (hT.und (by omega) (by omega)) ?_
    show (unT t j).k - 1 = m
    omega
theorem c76 {d : Nat} {h : AH} (HS : Sh h) {g : G} (hn : g.n ≤ 9) {v : Nat} (hv : St3 v) {t : ST} (ht : TOK g t) (s : StC h v t) {Q : Option Value → AH → Prop} (K : ∀ h', Fr (fun i _ => i = v) h h' → StC h' v (unT t t.k) → Q none h') : Cl (d + 2) 76 [.ref v] h Q := by
  refine Cl.enter rfl (g76_0 (d + 2) _ h HS hv Q ?_)
  rw [s.1]
  exact w76 hn hv ht K t.k 0 h (Nat.zero_add _) HS Fr.rfl s ht rfl
theorem c77 {d : Nat} {h : AH} (HS : Sh h) {g : G} (hg : NetC h g) (hr : RchC h g) (ho : GOK g) {v : Nat} (hv : St3 v) {t : ST} (s : StC h v t) (hF : t.F < 2 ^ g.n) {Q : Option Value → AH → Prop} (K : Q (some (.int (nI (outc g t.F t.C)))) h) : Cl (d + 3) 77 [.ref v] h Q := by
  refine Cl.enter rfl (g77_0 (d + 2) _ h HS hv Q ?_)
  rw [s.2.1, s.2.2.1]
  exact c37 HS hg hr ho hF ⟨_, rfl, HS, K⟩
def sta (F C l : Nat) : Nat := if F.testBit l = true then 1 else if C.testBit l = true then 2 else 0
theorem c78 {d : Nat} {h : AH} (HS : Sh h) {v : Nat} (hv : St3 v) {t : ST} (s : StC h v t) {l : Nat} (hl : l < 31) {Q : Option Value → AH → Prop} (K : Q (some (.int (nI (sta t.F t.C l)))) h) : Cl d 78 [.ref v, .int (nI l)] h Q := by
  refine Cl.enter rfl (g78_0 d _ _ h HS hv Q ?_)
  rw [s.2.1, s.2.2.1, bC hl, bC hl]
  unfold sta at K
  refine ⟨fun c => ⟨fun c2 => ?_, fun c2 => ?_⟩, fun c => ?_⟩
  · rwa [if_neg (by rw [c]; decide), if_neg (by rw [c2]; decide)] at K
  · rwa [if_neg (by rw [c]; decide), if_pos (ts_nf c2)] at K
  · rwa [if_pos (ts_nf c)] at K
theorem sta0 {F C l : Nat} : sta F C l = 0 ↔ opb F C l = true := by
  unfold sta opb
  cases F.testBit l <;> cases C.testBit l <;> simp
theorem sta_lt (F C l : Nat) : sta F C l < 3 := by
  unfold sta
  split
  · decide
  · split <;> decide
/-- the open lane ahead of which a stand -/
def nth (n F C a : Nat) : Int32 := fsI (fun k => opb F C k && decide (fa_cnt (opb F C) k = a)) n
def cpP (v i _j : Nat) : Prop := i = v ∨ i = v + 1
theorem w73 {d : Nat} {v u : Nat} (hv : St3 v) (hu : St3 u) (hne : v ≠ u) {t : ST} (hk : t.k ≤ 9) {h0 : AH} {Q : Option Value → AH → Prop} (K : ∀ h', Fr (stP v) h0 h' → StC h' v t → Q none h') : ∀ m i h, i + m = t.k → Sh h → Fr (stP v) h0 h → StC h u t → StC h v (mkT t.F t.C t.w t.k (fun j => t.m j)) ∨ True → AI h v 2 = nI t.k ∧ AI h v 3 = nI t.F ∧ AI h v 4 = nI t.C ∧ AI h v 5 = nI t.w → (∀ j, j < i → AI h (v + 1) j = nI (t.m j)) → Wp (d + 1) 73 34 [.ref v, .ref u, .int (nI i)] [] h Q
  | 0, i, h, hi, HS, hf, su, _, sv, hm => by
    have e : i = t.k := by omega
    subst e
    refine g73_34 d _ _ _ h HS hv hu Q ⟨fun c => ?_, fun _ => K h hf ⟨sv.1, sv.2.1, sv.2.2.1, sv.2.2.2, hm⟩⟩
    rw [sv.1, nI_ltI (by omega) (by omega)] at c
    omega
  | m + 1, i, h, hi, HS, hf, su, _, sv, hm => by
    have nvu : v + 1 ≠ u ∧ u + 1 ≠ v ∧ v + 1 ≠ u + 1 := by
      rcases hv with rfl | rfl | rfl <;> rcases hu with rfl | rfl | rfl <;> first | exact absurd rfl hne | decide
    refine g73_34 d _ _ _ h HS hv hu Q ⟨fun _ => (fun h2 e2 => ?_), fun c => absurd (by rw [sv.1, nI_ltI (by omega) (by omega)]; omega) c⟩
    have hlen : (AK h (v + 1)).2 = 9 := by rcases hv with rfl | rfl | rfl <;> exact K0_len HS _ (c := 20) rfl
    rw [atM HS hu (by omega), su.2.2.2.2 i (by omega), putv_nI (by omega) (by omega)] at e2
    have f2 : Fr (fun a b => a = v + 1 ∧ b = i) h h2 := by rw [e2]; exact Fr.stI ⟨rfl, rfl⟩
    rw [nI_1]
    refine w73 hv hu hne hk K m (i + 1) h2 (by omega) (f2.Sh HS) (hf.trans (f2.weak (fun a b z => Or.inr z.1))) (su.fr f2 (fun j => ⟨fun z => nvu.1 z.1.symm, fun z => nvu.2.2 z.1.symm⟩)) (Or.inr trivial) ?_ (fun j hj => ?_)
    · rw [f2.I (fun z => absurd z.1 (by omega)), f2.I (fun z => absurd z.1 (by omega)), f2.I (fun z => absurd z.1 (by omega)), f2.I (fun z => absurd z.1 (by omega))]
      exact sv
    · by_cases e : j = i
      · rw [e2, e, AI_stI_s]
      · rw [f2.I (fun z => e z.2)]
        exact hm j (by omega)
theorem c73 {d : Nat} {h : AH} (HS : Sh h) {v u : Nat} (hv : St3 v) (hu : St3 u) (hne : v ≠ u) {t : ST} (hk : t.k ≤ 9) (s : StC h u t) {Q : Option Value → AH → Prop} (K : ∀ h', Fr (stP v) h h' → StC h' v t → Q none h') : Cl (d + 1) 73 [.ref v, .ref u] h Q := by
  have nvu : u + 1 ≠ v := by
    rcases hv with rfl | rfl | rfl <;> rcases hu with rfl | rfl | rfl <;> first | exact absurd rfl hne | decide
  have nu : u ≠ v := fun z => hne z.symm
  refine Cl.enter rfl (g73_0 (d + 1) _ _ h HS hv hu Q ?_)
  simp only [AI_stI_o _ _ (Or.inl nu)]
  obtain ⟨h1, h2, h3, h4, h5⟩ := s
  rw [h1, h2, h3, h4]
  have f2 : Fr (fun a _ => a = v) h (stI (stI (stI (stI h v 3 (nI t.F)) v 4 (nI t.C)) v 5 (nI t.w)) v 2 (nI t.k)) := (((Fr.stI (P := fun a _ => a = v) rfl).trans (Fr.stI (P := fun a _ => a = v) rfl)).trans (Fr.stI (P := fun a _ => a = v) rfl)).trans (Fr.stI (P := fun a _ => a = v) rfl)
  refine w73 hv hu hne hk K t.k 0 _ (Nat.zero_add _) (f2.Sh HS) (f2.weak (fun a b z => Or.inl z)) (StC.fr ⟨h1, h2, h3, h4, h5⟩ f2 (fun j => ⟨nu, nvu⟩)) (Or.inr trivial) ⟨?_, ?_, ?_, ?_⟩ (fun j hj => absurd hj (Nat.not_lt_zero j))
  · exact AI_stI_s _ _ _ _
  · rw [AI_stI_o _ _ (Or.inr (by decide)), AI_stI_o _ _ (Or.inr (by decide)), AI_stI_o _ _ (Or.inr (by decide)), AI_stI_s]
  · rw [AI_stI_o _ _ (Or.inr (by decide)), AI_stI_o _ _ (Or.inr (by decide)), AI_stI_s]
  · rw [AI_stI_o _ _ (Or.inr (by decide)), AI_stI_s]
