/-! the lane that mends, of the class -/
def SL (h : AH) (g : G) (bf last : Nat) : Prop := Sh h ∧ NetC h g ∧ RchC h g ∧ ThrC h ∧ FacC h ∧ AL h 17 4 = lN last ∧ bf ≤ last ∧ KnF h last ∧ MemoAt h bf g
theorem SI.SL {h : AH} {g : G} {st last : Nat} (S : SI h g st last) : SL h g st last := by
  obtain ⟨s1, s2, s3, s4, s5, s6, s7, s8, s9, s10, s11⟩ := S
  exact ⟨s1, s2, s3, s4, s5, s7, s8, s10, s11⟩
def menP (i j : Nat) : Prop := netP i j ∨ i = 17 ∨ i = 19
theorem MemoAt_of {h h' : AH} {st : Nat} {g : G} (hm : MemoAt h st g) (e : ∀ j, AL h' 19 j = AL h 19 j) : MemoAt h' st g := by
  intro how w F C h3 hw hv h9 v hv2 he
  rw [e] at he
  exact hm how w F C h3 hw hv h9 v hv2 he
theorem addG_n (g : G) (o t p : Nat) : (addG g o t p).n = g.n + 1 := rfl
theorem VS.up {n F C : Nat} (h : VS n F C) : VS (n + 1) F C := ⟨Nat.lt_of_lt_of_le h.1 (p2_le (Nat.le_succ n)), Nat.lt_of_lt_of_le h.2.1 (p2_le (Nat.le_succ n)), h.2.2⟩
/-- a net forgets its last lane -/
theorem NetC.drop {h : AH} {g : G} {o t p : Nat} (hc : NetC h (addG g o t p)) {h' : AH} (e : h' = stI h 5 5 (nI g.n)) : NetC h' g := by
  subst e
  obtain ⟨h1, h2, h3, h4⟩ := hc
  refine ⟨AI_stI_s _ _ _ _, ?_, ?_, fun i hi => ?_⟩
  · rw [AI_stI_o _ _ (Or.inr (by decide)), h2]
    rfl
  · rw [AI_stI_o _ _ (Or.inr (by decide)), h3]
    rfl
  · have hx := h4 i (Nat.lt_succ_of_lt hi)
    have ea : (addG g o t p).a i = g.a i := upN_o _ _ (by omega)
    have eb : (addG g o t p).b i = g.b i := upN_o _ _ (by omega)
    have ec : (addG g o t p).c i = g.c i := upN_o _ _ (by omega)
    unfold prs at hx ⊢
    rw [ea, eb, ec] at hx
    rw [AI_stI_o _ _ (Or.inl (by decide)), AI_stI_o _ _ (Or.inl (by decide)), AI_stI_o _ _ (Or.inl (by decide)), AI_stI_o _ _ (Or.inl (by decide))]
    exact hx
theorem c70 {d : Nat} {g : G} {bf last F C o t : Nat} (ho : GOK g) (hn : g.n ≤ 9) (h1 : o < 6) (h2 : t < 6) (hs : VS g.n F C) (hl : last + 1 < 1048576) {h : AH} (S : SL h g bf last) {Q : Option Value → AH → Prop} (K : ∀ h', Fr menP h h' → SL h' g bf (last + 1) → Q (some (.int (if hv (addG g o t 1) F C 1 = true then 1 else 0))) h') : Cl (d + 25) 70 [.ref 20, .int (nI o), .int (nI t), .int (nI F), .int (nI C)] h Q := by
  obtain ⟨s1, s2, s3, s4, s5, s6, s7, s8, s9⟩ := S
  have ho2 := ho.add (p := 1) (Nat.lt_succ_of_le hn) h1 h2 (by decide)
  refine Cl.enter rfl (g70_0 (d + 24) _ _ _ _ h s1 Q ?_)
  refine c22 (d := d + 21) s1 s2 s3 ho (by omega) h1 h2 (p := 1) (by decide) (fun ha fa ca ra => ⟨rfl, fa.Sh s1, ?_⟩)
  have nP : ∀ i j, 11 ≤ i → ¬ netP i j := by
    rintro i j hi (⟨z, -⟩ | ⟨-, z⟩) <;> omega
  have la : AL ha 17 4 = lN last := by rw [fa.L (nP _ _ (by decide)), s6]
  have ka : ∀ j, AL ha 19 j = AL h 19 j := fun j => fa.L (nP _ _ (by decide))
  rw [la, show lN last + (1 : Int64) = lN (last + 1) from lN_add last 1]
  have fb : Fr (fun i _ => i = 17) ha (stL (stL ha 17 4 (lN (last + 1))) 17 3 (AL (stL ha 17 4 (lN (last + 1))) 17 4)) := (Fr.stL (P := fun i _ => i = 17) rfl).trans (Fr.stL (P := fun i _ => i = 17) rfl)
  have e4 : AL (stL ha 17 4 (lN (last + 1))) 17 4 = lN (last + 1) := by rw [AL_stL, if_pos ⟨rfl, rfl⟩]
  rw [e4] at fb ⊢
  generalize ehb : stL (stL ha 17 4 (lN (last + 1))) 17 3 (lN (last + 1)) = hb at fb ⊢
  have kb : ∀ j, AL hb 19 j = AL h 19 j := fun j => (fb.L (by omega)).trans (ka j)
  have Sb : SI hb (addG g o t 1) (last + 1) (last + 1) := by
    refine ⟨fb.Sh (fa.Sh s1), ca.fr fb (fun i j a b z => by omega), ra.fr fb (fun j z => by omega), fun s hs => ?_, ⟨?_, fun j hj => ?_⟩, ?_, ?_, Nat.le_refl _, hl, fun p hp => ?_, fun how w F' C' h3 hw hv' h9 v hv2 he => ?_⟩
    · rw [fb.I (by omega), fa.I (nP _ _ (by decide))]
      exact s4 s hs
    · rw [fb.2.2.1, fa.2.2.1]
      exact s5.1
    · rw [fb.I (by omega), fa.I (by rintro (⟨z, -⟩ | ⟨z, -⟩) <;> omega)]
      exact s5.2 j hj
    · rw [← ehb, AL_stL, if_pos ⟨rfl, rfl⟩]
    · rw [← ehb, AL_stL, if_neg (by rintro ⟨-, z⟩; cases z), AL_stL, if_pos ⟨rfl, rfl⟩]
    · rw [kb]
      obtain ⟨q, v, a, b, c⟩ := s8 p hp
      exact ⟨q, v, a, by omega, c⟩
    · rw [kb] at he
      obtain ⟨q, v', a, b, c⟩ := s8 _ (plN_lt hv' ho2.1 h3 hw h9)
      rw [a] at he
      have := (ent_inj he (by omega) (by omega) c hv2).1
      omega
  refine c58 (d := d) ho2 (w := 1) (by decide) hs.up Sb (fun hc Sc Rc => ⟨_, rfl, Sc.1, ?_⟩)
  rw [ow0]
  have hcn : AI hc 5 5 = nI (g.n + 1) := Sc.2.1.1
  have pos : (0 : Int32) < AI hc 5 5 := by
    rw [hcn]
    exact (ltC (x := 0) (a := 0) rfl rfl (by omega) (by omega)).mpr (Nat.succ_pos _)
  have kk := K (stI hc 5 5 (nI g.n)) ?_ ?_
  · rw [hcn, nI_pred]
    rw [hcn] at pos
    refine ⟨fun c => ⟨fun _ => ?_, fun z => absurd pos z⟩, fun c => ⟨fun _ => ?_, fun z => absurd pos z⟩⟩
    · rwa [if_pos c] at kk
    · rwa [if_neg c] at kk
  · refine (((fa.weak (fun i j z => Or.inl z)).trans (fb.weak (fun i j z => Or.inr (Or.inl z)))).trans (Rc.1.weak (fun i j z => Or.inr (Or.inr z)))).trans (Fr.stI (Or.inl (Or.inl ⟨rfl, rfl⟩)))
  · obtain ⟨c1, c2, c3, c4, c5, c6, c7, c8, c9, c10, c11⟩ := Sc
    refine ⟨c1.stI _ _ _, c2.drop rfl, fun s hs => ?_, fun s hs => ?_, ⟨c5.1, fun j hj => ?_⟩, c7, by omega, c10, ?_⟩
    · rw [AI_stI_o _ _ (Or.inl (by decide)), c3 s (Nat.lt_of_lt_of_le hs (p2_le (Nat.le_succ _))), rch_add ho ho2 hs]
    · rw [AI_stI_o _ _ (Or.inl (by decide))]
      exact c4 s hs
    · rw [AI_stI_o _ _ (Or.inl (by decide))]
      exact c5.2 j hj
    · exact MemoAt_of (Rc.2 bf g (by omega) (by omega) (MemoAt_of s9 kb)) (fun j => rfl)
/-- does the lane of a pair of places mend -/
def mnp (g : G) (F C p : Nat) : Bool := decide (p / 6 < p % 6) && hv (addG g (p / 6) (p % 6) 1) F C 1
def omr (g : G) (F C : Nat) : Int32 := if hv g F C 1 = true then -1 else if hv g F C 0 = true then (if fa_first (mnp g F C) 36 < 36 then nI (fa_first (mnp g F C) 36) else -2) else -2
theorem nI_m2 {p : Nat} (h : p < 2 ^ 31) : ¬ nI p = -2 := by
  intro z
  have : nI p < 0 := by rw [z]; decide
  exact nI_pos h this
theorem w69 {d : Nat} {g : G} {bf F C : Nat} (ho : GOK g) (hn : g.n ≤ 9) (hs : VS g.n F C) {h0 : AH} {last0 : Nat} (hl0 : last0 + 36 < 1048576) {Q : Option Value → AH → Prop} (K : ∀ h' last, last ≤ last0 + 36 → Fr menP h0 h' → SI h' g bf last → Q (some (.int (if fa_first (mnp g F C) 36 < 36 then nI (fa_first (mnp g F C) 36) else -2))) h') : ∀ m i h last, i + m = 36 → last ≤ last0 + i → Fr menP h0 h → SL h g bf last → (∀ k, k < i → mnp g F C k = false) → Wp (d + 26) 69 47 [.ref 20, .int (nI F), .int (nI C), .long (lN bf), mk0, .int (-2), .int (nI i)] [] h Q := by
  have fin : ∀ h last, last ≤ last0 + 36 → Fr menP h0 h → SL h g bf last → Q (some (.int (if fa_first (mnp g F C) 36 < 36 then nI (fa_first (mnp g F C) 36) else -2))) (stL h 17 3 (lN bf)) := by
    intro h last hl hf ⟨s1, s2, s3, s4, s5, s6, s7, s8, s9⟩
    have fb : Fr (fun i j => i = 17 ∧ j = 3) h (stL h 17 3 (lN bf)) := Fr.stL ⟨rfl, rfl⟩
    refine K _ last hl (hf.trans (fb.weak (fun i j z => Or.inr (Or.inl z.1)))) ⟨fb.Sh s1, s2.fr fb (fun i j a b z => by omega), s3.fr fb (fun j z => by omega), s4, s5, ?_, ?_, s7, by omega, fun p hp => ?_, MemoAt_of s9 (fun j => fb.L (by omega))⟩
    · rw [AL_stL, if_pos ⟨rfl, rfl⟩]
    · rw [fb.L (by omega), s6]
    · rw [fb.L (by omega)]
      exact s8 p hp
  intro m
  induction m with
  | zero =>
    intro i h last hi hl hf S hno
    have e : i = 36 := by omega
    subst e
    have kk := fin h last hl hf S
    rw [first_none hno, if_neg (Nat.lt_irrefl _)] at kk
    exact g69_47 (d + 25) _ _ _ _ _ h S.1 Q ⟨fun c => absurd c (by decide), fun _ => kk⟩
  | succ m ih =>
    intro i h last hi hl hf S hno
    have hlt : i < 36 := by omega
    refine g69_47 (d + 25) _ _ _ _ _ h S.1 Q ⟨fun _ => ⟨fun _ => ?_, fun z => absurd rfl z⟩, fun c => absurd ((ltC (y := 36) (b := 36) rfl rfl (by omega) (by omega)).mpr hlt) c⟩
    rw [fa_lit 6, pk_div (by omega) (by decide) (by decide), pk_mul, pk_sub (Nat.div_mul_le_self i 6), show i - i / 6 * 6 = i % 6 from by omega, nI_1, nI_ltI (by omega) (by omega)]
    have nx : mnp g F C i = false → ∀ h' last', last' ≤ last0 + (i + 1) → Fr menP h0 h' → SL h' g bf last' → Wp (d + 26) 69 47 [.ref 20, .int (nI F), .int (nI C), .long (lN bf), mk0, .int (-2), .int (nI (i + 1))] [] h' Q := fun hg h' last' hl' hf' S' => ih (i + 1) h' last' (by omega) hl' hf' S' (fun k hk => by
      by_cases e : k = i
      · rw [e]; exact hg
      · exact hno k (by omega))
    refine ⟨fun c => ?_, fun c => ?_⟩
    · refine c70 ho hn (by omega) (by omega) hs (by omega) S (fun h' f' S' => ⟨_, rfl, S'.1, ?_⟩)
      have eg : mnp g F C i = hv (addG g (i / 6) (i % 6) 1) F C 1 := by
        unfold mnp
        rw [decide_eq_true c]
        rfl
      by_cases hh : hv (addG g (i / 6) (i % 6) 1) F C 1 = true
      · rw [if_pos hh]
        refine ⟨fun z => absurd z (by decide), fun _ => ?_⟩
        have kk := fin h' (last + 1) (by omega) (hf.trans f') S'
        rw [first_at hlt hno (eg.trans hh), if_pos hlt] at kk
        have n2 := nI_m2 (p := i) (by omega)
        refine g69_47 (d + 25) _ _ _ _ _ h' S'.1 Q ⟨fun _ => ⟨fun z => absurd z n2, fun _ => kk⟩, fun _ => kk⟩
      · rw [if_neg hh]
        exact ⟨fun _ => nx (eg.trans (ts_nt hh)) h' (last + 1) (by omega) (hf.trans f') S', fun z => absurd rfl z⟩
    · refine nx ?_ h last (by omega) hf S
      unfold mnp
      rw [decide_eq_false c]
      rfl
theorem SR.men {st : Nat} {h h' : AH} (r : SR st h h') : Fr menP h h' := r.1.weak (fun _ _ z => Or.inr (Or.inr z))
theorem c69 {d : Nat} {g : G} {st last F C : Nat} (ho : GOK g) (hn : g.n ≤ 9) (hs : VS g.n F C) (hl : last + 36 < 1048576) {h : AH} (S : SI h g st last) {Q : Option Value → AH → Prop} (K : ∀ h' last', last' ≤ last + 36 → Fr menP h h' → SI h' g st last' → Q (some (.int (omr g F C))) h') : Cl (d + 26) 69 [.ref 20, .int (nI F), .int (nI C)] h Q := by
  refine Cl.enter rfl (g69_0 (d + 25) _ _ h S.1 Q ?_)
  unfold omr at K
  refine c58 (d := d + 1) ho (w := 1) (by decide) hs S (fun ha Sa Ra => ⟨_, rfl, Sa.1, ?_⟩)
  rw [ow0]
  refine ⟨fun c => ?_, fun c => ?_⟩
  · have kk := K ha last (by omega) Ra.men Sa
    rwa [if_pos c] at kk
  · refine c58 (d := d + 1) ho (w := 0) (by decide) hs Sa (fun hb Sb Rb => ⟨_, rfl, Sb.1, ?_⟩)
    rw [ow1]
    refine ⟨fun c2 => ?_, fun c2 => ?_⟩
    · have kk := K hb last (by omega) (Ra.trans Rb).men Sb
      rwa [if_neg c, if_neg c2] at kk
    · rw [Sb.2.2.2.2.2.1]
      refine w69 ho hn hs hl (fun h' l' a b S' => ?_) 36 0 hb last (by decide) (by omega) (Ra.trans Rb).men Sb.SL (fun k hk => absurd hk (Nat.not_lt_zero k))
      have kk := K h' l' a b S'
      rwa [if_neg c, if_pos (Decidable.not_not.mp c2)] at kk
