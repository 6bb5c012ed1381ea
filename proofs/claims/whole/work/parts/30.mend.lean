/-! the lane that mends, of the class -/
def SM (h : AH) (g : G) : Prop := Sh h ∧ NetC h g ∧ RchC h g ∧ ThrC h ∧ FacC h
theorem SI.SM {h : AH} {g : G} (S : SI h g) : SM h g := by
  obtain ⟨s1, s2, s3, s4, s5, s6, s7⟩ := S
  exact ⟨s1, s2, s3, s4, s5⟩
def menP (i j : Nat) : Prop := netP i j ∨ i = 17 ∨ i = 19
/-- all that was found is forgotten -/
def fgt (h : AH) : AH := stI h 17 4 (-1)
theorem SM.forget {h h1 : AH} {g : G} (S : SM h g) (ho : GOK g) (f : Fr (fun i _ => i = 19) h h1) (hz : ∀ j, j < 3691 → AL h1 19 j = 0) : SI (fgt h1) g ∧ Fr (fun i _ => i = 17 ∨ i = 19) h (fgt h1) := by
  obtain ⟨s1, s2, s3, s4, s5⟩ := S
  have f2 : Fr (fun i _ => i = 17 ∨ i = 19) h (fgt h1) := (f.weak (fun i j z => Or.inr z)).trans (Fr.stI (Or.inl rfl))
  refine ⟨⟨f2.Sh s1, s2.fr f2 (fun a b c d z => by omega), s3.fr f2 (fun j z => by omega), fun s hs => ?_, ⟨?_, fun j hj => ?_⟩, OwC.zero ho hz, Or.inl (AI_stI_s _ _ _ _)⟩, f2⟩
  · rw [f2.I (by omega)]
    exact s4 s hs
  · rw [f2.2.2.1]
    exact s5.1
  · rw [f2.I (by omega)]
    exact s5.2 j hj
theorem k19 {h : AH} (S1 : Sh h) : AK h 19 = (21, 3691) := S1.2.1 19 (by decide)
theorem addG_n (g : G) (o t p : Nat) : (addG g o t p).n = g.n + 1 := rfl
theorem VS.up {n F C : Nat} (h : VS n F C) : VS (n + 1) F C := ⟨Nat.lt_of_lt_of_le h.1 (p2_le (Nat.le_succ n)), Nat.lt_of_lt_of_le h.2.1 (p2_le (Nat.le_succ n)), h.2.2⟩
/-- a net forgets its last lane -/
theorem NetC.drop {h : AH} {g : G} {o t p : Nat} (hc : NetC h (addG g o t p)) {h' : AH} (e : h' = stI h 5 5 (nI g.n)) : NetC h' g := by
  subst e
  obtain ⟨h1, h2, h3, h4⟩ := hc
  refine ⟨AI_stI_s _ _ _ _, ?_, ?_, fun i hi => ?_⟩
  · rw [AI_stI_o _ _ (Or.inr (by decide)), h2]
    rfl
  · rw [AI_stI_o _ _ (Or.inr (by decide)), h3]
    rfl
  · have hx := h4 i (Nat.lt_succ_of_lt hi)
    have ea : (addG g o t p).a i = g.a i := upN_o _ _ (by omega)
    have eb : (addG g o t p).b i = g.b i := upN_o _ _ (by omega)
    have ec : (addG g o t p).c i = g.c i := upN_o _ _ (by omega)
    unfold prs at hx ⊢
    rw [ea, eb, ec] at hx
    rw [AI_stI_o _ _ (Or.inl (by decide)), AI_stI_o _ _ (Or.inl (by decide)), AI_stI_o _ _ (Or.inl (by decide)), AI_stI_o _ _ (Or.inl (by decide))]
    exact hx
theorem c70 {d : Nat} {g : G} {F C o t : Nat} (ho : GOK g) (hn : g.n ≤ 9) (h1 : o < 6) (h2 : t < 6) (hs : VS g.n F C) {h : AH} (S : SM h g) {Q : Option Value → AH → Prop} (K : ∀ h', Fr menP h h' → SM h' g → Q (some (.int (if hv (addG g o t 1) F C 1 = true then 1 else 0))) h') : Cl (d + 25) 70 [.ref 20, .int (nI o), .int (nI t), .int (nI F), .int (nI C)] h Q := by
  obtain ⟨s1, s2, s3, s4, s5⟩ := S
  have ho2 := ho.add (p := 1) (Nat.lt_succ_of_le hn) h1 h2 (by decide)
  refine Cl.enter rfl (g70_0 (d + 23) _ _ _ _ h s1 Q ?_)
  refine c22 (d := d + 21) s1 s2 s3 ho (by omega) h1 h2 (p := 1) (by decide) (fun ha fa ca ra => ⟨rfl, fa.Sh s1, ?_⟩)
  have nP : ∀ i j, 11 ≤ i → ¬ netP i j := by
    rintro i j hi (⟨z, -⟩ | ⟨-, z⟩) <;> omega
  have Sa : SM ha (addG g o t 1) := by
    refine ⟨fa.Sh s1, ca, ra, fun s hs2 => ?_, ⟨?_, fun j hj => ?_⟩⟩
    · rw [fa.I (nP _ _ (by decide))]
      exact s4 s hs2
    · rw [fa.2.2.1]
      exact s5.1
    · rw [fa.I (by rintro (⟨z, -⟩ | ⟨z, -⟩) <;> omega)]
      exact s5.2 j hj
  refine c56 (n := 3691) (k19 Sa.1) (by decide) (by decide) Sa.1 (fun hb fb eb hz => ⟨rfl, fb.Sh Sa.1, ?_⟩)
  obtain ⟨Sb, f2⟩ := Sa.forget ho2 fb hz
  refine c58 (d := d) (F := F) (C := C) ho2 (w := 1) (by decide) hs.up Sb (fun hc Sc Rc => ⟨_, rfl, Sc.1, ?_⟩)
  rw [ow0]
  have hcn : AI hc 5 5 = nI (g.n + 1) := Sc.2.1.1
  have pos : (0 : Int32) < AI hc 5 5 := by
    rw [hcn]
    exact (ltC (x := 0) (a := 0) rfl rfl (by omega) (by omega)).mpr (Nat.succ_pos _)
  have kk := K (stI hc 5 5 (nI g.n)) ?_ ?_
  · rw [hcn, nI_pred]
    rw [hcn] at pos
    refine ⟨fun c => ⟨fun _ => ?_, fun z => absurd pos z⟩, fun c => ⟨fun _ => ?_, fun z => absurd pos z⟩⟩
    · rwa [if_pos c] at kk
    · rwa [if_neg c] at kk
  · refine (((fa.weak (fun i j z => Or.inl z)).trans (f2.weak (fun i j z => Or.inr z))).trans (Fr.weak Rc (fun i j z => Or.inr (Or.inr z)))).trans (Fr.stI (Or.inl (Or.inl ⟨rfl, rfl⟩)))
  · obtain ⟨c1, c2, c3, c4, c5, c6, c7⟩ := Sc
    refine ⟨c1.stI _ _ _, c2.drop rfl, fun s hs => ?_, fun s hs => ?_, ⟨c5.1, fun j hj => ?_⟩⟩
    · rw [AI_stI_o _ _ (Or.inl (by decide)), c3 s (Nat.lt_of_lt_of_le hs (p2_le (Nat.le_succ _))), rch_add ho ho2 hs]
    · rw [AI_stI_o _ _ (Or.inl (by decide))]
      exact c4 s hs
    · rw [AI_stI_o _ _ (Or.inl (by decide))]
      exact c5.2 j hj
/-- does the lane of a pair of places mend -/
def mnp (g : G) (F C p : Nat) : Bool := decide (p / 6 < p % 6) && hv (addG g (p / 6) (p % 6) 1) F C 1
def omr (g : G) (F C : Nat) : Int32 := if hv g F C 1 = true then -1 else if hv g F C 0 = true then (if fa_first (mnp g F C) 36 < 36 then nI (fa_first (mnp g F C) 36) else -2) else -2
theorem nI_m2 {p : Nat} (h : p < 2 ^ 31) : ¬ nI p = -2 := by
  intro z
  have : nI p < 0 := by rw [z]; decide
  exact nI_pos h this
theorem w69 {d : Nat} {g : G} {F C : Nat} (ho : GOK g) (hn : g.n ≤ 9) (hs : VS g.n F C) {h0 : AH} {Q : Option Value → AH → Prop} (K : ∀ h', Fr menP h0 h' → SI h' g → Q (some (.int (if fa_first (mnp g F C) 36 < 36 then nI (fa_first (mnp g F C) 36) else -2))) h') : ∀ m i h, i + m = 36 → Fr menP h0 h → SM h g → (∀ k, k < i → mnp g F C k = false) → Wp (d + 26) 69 38 [.ref 20, .int (nI F), .int (nI C), .int (-2), .int (nI i)] [] h Q := by
  have fin : ∀ h x, Fr menP h0 h → SM h g → x = (if fa_first (mnp g F C) 36 < 36 then nI (fa_first (mnp g F C) 36) else (-2 : Int32)) → Cl (d + 24) 56 [.ref 19] h (fun r h8 => r = none ∧ Sh h8 ∧ Q (some (.int x)) (stI h8 17 4 (-1))) := by
    intro h x hf S ex
    refine c56 (n := 3691) (k19 S.1) (by decide) (by decide) S.1 (fun hb fb eb hz => ⟨rfl, fb.Sh S.1, ?_⟩)
    obtain ⟨Sb, f2⟩ := S.forget ho fb hz
    rw [ex]
    exact K _ (hf.trans (f2.weak (fun i j z => Or.inr z))) Sb
  intro m
  induction m with
  | zero =>
    intro i h hi hf S hno
    have e : i = 36 := by omega
    subst e
    refine g69_38 (d + 24) _ _ _ _ h S.1 Q ⟨fun c => absurd c (by decide), fun _ => fin h _ hf S ?_⟩
    rw [first_none hno, if_neg (Nat.lt_irrefl _)]
  | succ m ih =>
    intro i h hi hf S hno
    have hlt : i < 36 := by omega
    refine g69_38 (d + 24) _ _ _ _ h S.1 Q ⟨fun _ => ⟨fun _ => ?_, fun z => absurd rfl z⟩, fun c => absurd ((ltC (y := 36) (b := 36) rfl rfl (by omega) (by omega)).mpr hlt) c⟩
    rw [fa_lit 6, pk_div (by omega) (by decide) (by decide), pk_mul, pk_sub (Nat.div_mul_le_self i 6), show i - i / 6 * 6 = i % 6 from by omega, nI_1, nI_ltI (by omega) (by omega)]
    have nx : mnp g F C i = false → ∀ h', Fr menP h0 h' → SM h' g → Wp (d + 26) 69 38 [.ref 20, .int (nI F), .int (nI C), .int (-2), .int (nI (i + 1))] [] h' Q := fun hg h' hf' S' => ih (i + 1) h' (by omega) hf' S' (fun k hk => by
      by_cases e : k = i
      · rw [e]; exact hg
      · exact hno k (by omega))
    refine ⟨fun c => ?_, fun c => ?_⟩
    · refine c70 ho hn (by omega) (by omega) hs S (fun h' f' S' => ⟨_, rfl, S'.1, ?_⟩)
      have eg : mnp g F C i = hv (addG g (i / 6) (i % 6) 1) F C 1 := by
        unfold mnp
        rw [decide_eq_true c]
        rfl
      by_cases hh : hv (addG g (i / 6) (i % 6) 1) F C 1 = true
      · rw [if_pos hh]
        refine ⟨fun z => absurd z (by decide), fun _ => ?_⟩
        have kk := fin h' (nI i) (hf.trans f') S' (by rw [first_at hlt hno (eg.trans hh), if_pos hlt])
        have n2 := nI_m2 (p := i) (by omega)
        refine g69_38 (d + 24) _ _ _ _ h' S'.1 Q ⟨fun _ => ⟨fun z => absurd z n2, fun _ => kk⟩, fun _ => kk⟩
      · rw [if_neg hh]
        exact ⟨fun _ => nx (eg.trans (ts_nt hh)) h' (hf.trans f') S', fun z => absurd rfl z⟩
    · refine nx ?_ h hf S
      unfold mnp
      rw [decide_eq_false c]
      rfl
theorem SR.men {h h' : AH} (r : SR h h') : Fr menP h h' := Fr.weak r (fun _ _ z => Or.inr (Or.inr z))
theorem c69 {d : Nat} {g : G} {F C : Nat} (ho : GOK g) (hn : g.n ≤ 9) (hs : VS g.n F C) {h : AH} (S : SI h g) {Q : Option Value → AH → Prop} (K : ∀ h', Fr menP h h' → SI h' g → Q (some (.int (omr g F C))) h') : Cl (d + 26) 69 [.ref 20, .int (nI F), .int (nI C)] h Q := by
  refine Cl.enter rfl (g69_0 (d + 25) _ _ h S.1 Q ?_)
  unfold omr at K
  refine c58 (d := d + 1) ho (w := 1) (by decide) hs S (fun ha Sa Ra => ⟨_, rfl, Sa.1, ?_⟩)
  rw [ow0]
  refine ⟨fun c => ?_, fun c => ?_⟩
  · have kk := K ha Ra.men Sa
    rwa [if_pos c] at kk
  · refine c58 (d := d + 1) ho (w := 0) (by decide) hs Sa (fun hb Sb Rb => ⟨_, rfl, Sb.1, ?_⟩)
    rw [ow1]
    refine ⟨fun c2 => ?_, fun c2 => ?_⟩
    · have kk := K hb (Ra.trans Rb).men Sb
      rwa [if_neg c, if_neg c2] at kk
    · refine w69 ho hn hs (fun h' a S' => ?_) 36 0 hb (by decide) (Ra.trans Rb).men Sb.SM (fun k hk => absurd hk (Nat.not_lt_zero k))
      have kk := K h' a S'
      rwa [if_neg c, if_pos (Decidable.not_not.mp c2)] at kk
