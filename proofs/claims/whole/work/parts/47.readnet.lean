/-! the reference reads its page -/
theorem DtR.fr {P : Nat → Nat → Prop} {h h' : AH} {s m : Nat} {D : Dt} (x : DtR h s m D) (hf : Fr P h h') (h1 : ¬ P 23 24 ∧ ¬ P 23 25 ∧ ¬ P 23 26) (h2 : ∀ i j, 33 ≤ i → i ≤ 36 → ¬ P i j) : DtR h' s m D := by
  obtain ⟨d1, d2, d3, d4, d5⟩ := x
  refine ⟨by rw [hf.I h1.1]; exact d1, fun z => by rw [hf.I h1.2.1]; exact d2 z, fun z => by rw [hf.I h1.2.2]; exact d3 z, fun k hk => ?_, fun z => ?_⟩
  · rw [hf.I (h2 33 k (by decide) (by decide)), hf.I (h2 34 k (by decide) (by decide)), hf.I (h2 35 k (by decide) (by decide)), hf.I (h2 36 k (by decide) (by decide))]
    exact d4 k hk
  · rw [hf.I (h2 33 m (by decide) (by decide)), hf.I (h2 35 m (by decide) (by decide)), hf.I (h2 36 m (by decide) (by decide))]
    exact d5 z
theorem rd3 {h h3 : AH} {m : Nat} {D : Dt} {x : Int32} (hd : DtR h 3 m D) (hm : m ≤ 8) (e : h3 = stI (stI (stI h 33 m x) 35 m 0) 36 m 1) : Fr rdP h h3 ∧ (∀ c, x = nI (c - 97) → DtR h3 4 m (mkD (upN D.A m (c - 97)) D.B (upN D.I m 0) (upN D.C m 1) D.o D.t)) := by
  subst e
  have f1 : Fr rdP h (stI h 33 m x) := Fr.stI (Or.inr (by decide))
  have f2 : Fr rdP (stI h 33 m x) (stI (stI h 33 m x) 35 m 0) := Fr.stI (Or.inr (by decide))
  have f3 : Fr rdP (stI (stI h 33 m x) 35 m 0) (stI (stI (stI h 33 m x) 35 m 0) 36 m 1) := Fr.stI (Or.inr (by decide))
  refine ⟨(f1.trans f2).trans f3, fun c hx => ?_⟩
  obtain ⟨d1, d2, d3, d4, d5⟩ := hd
  have ne : ∀ i j, (i ≠ 33 ∧ i ≠ 35 ∧ i ≠ 36) ∨ j ≠ m → AI (stI (stI (stI h 33 m x) 35 m 0) 36 m 1) i j = AI h i j := by
    intro i j hh
    rw [AI_stI_o, AI_stI_o, AI_stI_o]
    · rcases hh with q | q
      · exact Or.inl q.1
      · exact Or.inr q
    · rcases hh with q | q
      · exact Or.inl q.2.1
      · exact Or.inr q
    · rcases hh with q | q
      · exact Or.inl q.2.2
      · exact Or.inr q
  refine ⟨by rw [ne _ _ (Or.inl (by decide))]; exact d1, fun _ => by rw [ne _ _ (Or.inl (by decide))]; exact d2 (by omega), fun _ => by rw [ne _ _ (Or.inl (by decide))]; exact d3 (by omega), fun k hk => ?_, fun _ => ?_⟩
  · have hne : k ≠ m := by omega
    rw [ne _ _ (Or.inr hne), ne _ _ (Or.inr hne), ne _ _ (Or.inr hne), ne _ _ (Or.inr hne)]
    show AI h 33 k = nI (upN D.A m (c - 97) k) ∧ AI h 34 k = nI (D.B k) ∧ AI h 35 k = nI (upN D.I m 0 k) ∧ AI h 36 k = nI (upN D.C m 1 k)
    rw [upN_o _ _ hne, upN_o _ _ hne, upN_o _ _ hne]
    exact d4 k hk
  · show _ = nI (upN D.A m (c - 97) m) ∧ _ = nI (upN D.I m 0 m) ∧ _ = nI (upN D.C m 1 m)
    rw [upN_s, upN_s, upN_s]
    refine ⟨?_, ?_, AI_stI_s _ _ _ _⟩
    · rw [AI_stI_o _ _ (Or.inl (by decide)), AI_stI_o _ _ (Or.inl (by decide)), AI_stI_s]
      exact hx
    · rw [AI_stI_o _ _ (Or.inl (by decide)), AI_stI_s]
      rfl
theorem c133 {d : Nat} {h : AH} (HS : Sh h) {s c p m : Nat} {D : Dt} (iv : PInv s m) (hc : c ≤ 126) (hp : p ≤ 126) (ok : DOK s m p D) (hd : DtR h s m D) {Q : Option Value → AH → Prop} (K : ∀ h', Fr rdP h h' → (∀ s', nxt s c p m = some s' → DtR h' s' (if s' = 5 then m + 1 else m) (dtS s m c D)) → Q (some (.int (oI (nxt s c p m)))) h') : Cl (d + 2) 133 [.ref 23, .int (nI s), .int (nI c)] h Q := by
  obtain ⟨v1, v2, v3, v4, v5⟩ := iv
  obtain ⟨q1, q2, -, -⟩ := plI (c := c) (by omega)
  have d1 := hd.1
  have d2 := hd.2.1
  have d3 := hd.2.2.1
  have d4 := hd.2.2.2.1
  have d5 := hd.2.2.2.2
  have es : ∀ k, k < 8 → (nI s = Int32.ofNat k ↔ s = k) := fun k hk => eqN (by omega) (by omega)
  have m97 : 97 ≤ c → nI c - 97 = nI (c - 97) := fun z => by rw [show (97 : Int32) = nI 97 from rfl, pk_sub z]
  -- the answers where the letter is no place
  have bad0 : s = 0 → ¬ isPl c = true → Q (some (.int (-1))) (stI h 23 25 (nI c - 97)) := by
    intro z hn
    have := K (stI h 23 25 (nI c - 97)) (Fr.stI (Or.inl (by decide)))
    unfold nxt at this
    rw [if_pos z, if_neg hn] at this
    exact this (fun s' y => (by cases y))
  have bad1 : s = 1 → ¬ (isPl c = true ∧ c ≠ p) → Q (some (.int (-1))) (stI h 23 26 (nI c - 97)) := by
    intro z hn
    have := K (stI h 23 26 (nI c - 97)) (Fr.stI (Or.inl (by decide)))
    unfold nxt at this
    rw [if_neg (show ¬ s = 0 by omega), if_pos z, if_neg hn] at this
    exact this (fun s' y => (by cases y))
  have at2 : s = 2 → ((c = 58 → Q (some (.int 3)) h) ∧ (¬ c = 58 → Q (some (.int (-1))) h)) := by
    intro z
    have := K h Fr.rfl
    unfold nxt dtS at this
    rw [if_neg (show ¬ s = 0 by omega), if_neg (show ¬ s = 1 by omega), if_pos z, if_neg (show ¬ s = 0 by omega), if_neg (show ¬ s = 1 by omega), if_pos z] at this
    refine ⟨fun y => ?_, fun y => ?_⟩
    · rw [if_pos y] at this
      exact this (fun s' y => by cases y; exact ⟨d1, fun _ => d2 (by omega), fun _ => d3 (by omega), d4, fun y => (by cases y)⟩)
    · rw [if_neg y] at this
      exact this (fun s' y => (by cases y))
  have at3 : s = 3 → ∀ x : Int32, (isPl c = true → x = 4) → (¬ isPl c = true → x = -1) → ixR (AI h 23 24) 9 ∧ ixR (AI (stI h 33 (AI h 23 24).toNatClampNeg (nI c - 97)) 23 24) 9 ∧ ixR (AI (stI (stI h 33 (AI h 23 24).toNatClampNeg (nI c - 97)) 35 (AI (stI h 33 (AI h 23 24).toNatClampNeg (nI c - 97)) 23 24).toNatClampNeg 0) 23 24) 9 ∧ Q (some (.int x)) (stI (stI (stI h 33 (AI h 23 24).toNatClampNeg (nI c - 97)) 35 (AI (stI h 33 (AI h 23 24).toNatClampNeg (nI c - 97)) 23 24).toNatClampNeg 0) 36 (AI (stI (stI h 33 (AI h 23 24).toNatClampNeg (nI c - 97)) 35 (AI (stI h 33 (AI h 23 24).toNatClampNeg (nI c - 97)) 23 24).toNatClampNeg 0) 23 24).toNatClampNeg 1) := by
    intro z x x1 x2
    have hm := v3 (Or.inl z)
    subst z
    rw [AI_stI_o (i := 35) (a := 23) _ _ (Or.inl (by decide)), AI_stI_o (i := 33) (a := 23) _ _ (Or.inl (by decide)), d1, tnI (by omega)]
    have ir : ixR (nI m) 9 := ixR_nI (by omega) (by decide)
    refine ⟨ir, ir, ir, ?_⟩
    obtain ⟨f, r⟩ := rd3 (x := nI c - 97) hd hm rfl
    have := K _ f
    unfold nxt dtS at this
    rw [if_neg (show ¬ (3 : Nat) = 0 by decide), if_neg (show ¬ (3 : Nat) = 1 by decide), if_neg (show ¬ (3 : Nat) = 2 by decide), if_pos (show (3 : Nat) = 3 from rfl), if_neg (show ¬ (3 : Nat) = 0 by decide), if_neg (show ¬ (3 : Nat) = 1 by decide), if_neg (show ¬ (3 : Nat) = 2 by decide), if_pos (show (3 : Nat) = 3 from rfl)] at this
    by_cases hpl : isPl c = true
    · rw [if_pos hpl] at this
      rw [x1 hpl]
      exact this (fun s' y => by cases y; exact r c (m97 (isPl_r hpl).1))
    · rw [if_neg hpl] at this
      rw [x2 hpl]
      exact this (fun s' y => (by cases y))
  have at4 : s = 4 → ∀ x : Int32, (x = 0 ∧ ¬ (isPl c = true ∧ c ≠ p)) ∨ (x = 1 ∧ isPl c = true ∧ c ≠ p) → Wp (d + 2) 133 171 [.ref 23, mk0, .int (nI c), mk0, mk0] [.int x] h Q := by
    intro z x hx
    have hm := v3 (Or.inr z)
    obtain ⟨w1, w2, w3⟩ := d5 z
    refine g133_171 (d + 2) _ _ h HS Q ?_
    rw [d1, tnI (by omega), AI_stI_o _ _ (Or.inl (by decide)), d1]
    refine ⟨ixR_nI (by omega) (by decide), ?_⟩
    have fr : ∀ y, Fr rdP h (stI (stI h 34 m (nI c - 97)) 23 24 y) := fun y => (Fr.stI (P := rdP) (Or.inr (by decide))).trans (Fr.stI (P := rdP) (Or.inl (by decide)))
    refine ⟨fun y => ?_, fun y => ?_⟩
    · rcases hx with ⟨rfl, hx⟩ | ⟨rfl, hx⟩
      · have := K _ (fr (nI m + 0))
        unfold nxt at this
        rw [if_neg (show ¬ s = 0 by omega), if_neg (show ¬ s = 1 by omega), if_neg (show ¬ s = 2 by omega), if_neg (show ¬ s = 3 by omega), if_pos z, if_neg hx] at this
        exact this (fun s' y => (by cases y))
      · cases y
    · rcases hx with ⟨rfl, hx⟩ | ⟨rfl, hx⟩
      · exact absurd rfl y
      · rw [nI_1]
        have := K _ (fr (nI (m + 1)))
        unfold nxt dtS at this
        rw [if_neg (show ¬ s = 0 by omega), if_neg (show ¬ s = 1 by omega), if_neg (show ¬ s = 2 by omega), if_neg (show ¬ s = 3 by omega), if_pos z, if_pos hx, if_neg (show ¬ s = 0 by omega), if_neg (show ¬ s = 1 by omega), if_neg (show ¬ s = 2 by omega), if_neg (show ¬ s = 3 by omega), if_pos z] at this
        refine this (fun s' y => ?_)
        cases y
        rw [if_pos rfl]
        have ne : ∀ i j, i ≠ 34 → (i ≠ 23 ∨ j ≠ 24) → AI (stI (stI h 34 m (nI c - 97)) 23 24 (nI (m + 1))) i j = AI h i j := by
          intro i j n1 n2
          rw [AI_stI_o _ _ n2, AI_stI_o _ _ (Or.inl n1)]
        refine ⟨AI_stI_s _ _ _ _, fun _ => by rw [ne _ _ (by decide) (Or.inr (by decide))]; exact d2 (by omega), fun _ => by rw [ne _ _ (by decide) (Or.inr (by decide))]; exact d3 (by omega), fun k hk => ?_, fun y => (by cases y)⟩
        rw [ne 33 _ (by decide) (Or.inl (by decide)), ne 35 _ (by decide) (Or.inl (by decide)), ne 36 _ (by decide) (Or.inl (by decide)), AI_stI_o (i := 23) (a := 34) _ _ (Or.inl (by decide))]
        show AI h 33 k = nI (D.A k) ∧ AI (stI h 34 m (nI c - 97)) 34 k = nI (upN D.B m (c - 97) k) ∧ AI h 35 k = nI (D.I k) ∧ AI h 36 k = nI (D.C k)
        by_cases e : k = m
        · rw [e, upN_s, AI_stI_s]
          exact ⟨w1, m97 (isPl_r hx.1).1, w2, w3⟩
        · rw [upN_o _ _ e, AI_stI_o _ _ (Or.inr e)]
          exact d4 k (by omega)
  have at5 : 5 ≤ s → Cl (d + 1) 134 [.ref 23, .int (nI s), .int (nI c)] h (fun r h11 => ∃ x13 : Int32, r = some (.int x13) ∧ Sh h11 ∧ Q (some (.int x13)) h11) := by
    intro z
    exact c134 (p := p) HS z v1 hc v2 (v5 z) hd (fun h' f r => ⟨_, rfl, f.Sh HS, K h' f r⟩)
  refine Cl.enter rfl (g133_0 (d + 1) _ _ h HS Q ?_)
  rw [q1, q2, es 0 (by omega), es 1 (by omega), es 2 (by omega), es 3 (by omega), es 4 (by omega), eqC (y := 58) (b := 58) rfl rfl (by omega) (by omega)]
  refine ⟨fun z => ?_, fun z => ⟨fun z2 => ?_, fun z2 => ?_⟩⟩
  · have np : ¬ isPl c = true := isPl_f1 z
    exact ⟨fun y => bad0 y np, fun y0 => ⟨fun y => bad1 y (fun q => np q.1), fun y1 => ⟨at2, fun y2 => ⟨fun y => at3 y _ (fun q => absurd q np) (fun _ => rfl), fun y3 => ⟨fun y => at4 y 0 (Or.inl ⟨rfl, fun q => np q.1⟩), fun y4 => at5 (by omega)⟩⟩⟩⟩⟩
  · have np : ¬ isPl c = true := isPl_f2 z2
    exact ⟨fun y => bad0 y np, fun y0 => ⟨fun y => bad1 y (fun q => np q.1), fun y1 => ⟨at2, fun y2 => ⟨fun y => at3 y _ (fun q => absurd q np) (fun _ => rfl), fun y3 => ⟨fun y => at4 y 0 (Or.inl ⟨rfl, fun q => np q.1⟩), fun y4 => at5 (by omega)⟩⟩⟩⟩⟩
  · have yp : isPl c = true := isPl_t z z2
    refine ⟨fun y => ?_, fun y0 => ⟨fun y => ?_, fun y1 => ⟨at2, fun y2 => ⟨fun y => at3 y _ (fun _ => rfl) (fun q => absurd yp q), fun y3 => ⟨fun y => ?_, fun y4 => at5 (by omega)⟩⟩⟩⟩⟩
    · have := K (stI h 23 25 (nI c - 97)) (Fr.stI (Or.inl (by decide)))
      unfold nxt dtS at this
      rw [if_pos y, if_pos yp, if_pos y] at this
      refine this (fun s' y => ?_)
      cases y
      exact ⟨by rw [AI_stI_o _ _ (Or.inr (by decide))]; exact d1, fun _ => by rw [AI_stI_s, m97 (by omega)]; rfl, fun y => by omega, fun k hk => by rw [if_neg (by omega)] at hk; have := v4 (by omega); omega, fun y => (by cases y)⟩
    · obtain ⟨p1, p2⟩ := ok.2.2.2.1 y
      rw [AI_stI_s, AI_stI_o _ _ (Or.inr (by decide)), d2 (by omega), p2, m97 (by omega), nI_eq (by omega) (by omega)]
      refine ⟨fun e => ?_, fun e => ?_⟩
      · have := bad1 y (fun q => q.2 (by omega))
        rwa [m97 (by omega)] at this
      · have := K (stI h 23 26 (nI (c - 97))) (Fr.stI (Or.inl (by decide)))
        unfold nxt dtS at this
        rw [if_neg y0, if_pos y, if_pos (show isPl c = true ∧ c ≠ p from ⟨yp, fun q => e (by omega)⟩), if_neg y0, if_pos y] at this
        refine this (fun s' y' => ?_)
        cases y'
        exact ⟨by rw [AI_stI_o _ _ (Or.inr (by decide))]; exact d1, fun _ => by rw [AI_stI_o _ _ (Or.inr (by decide))]; exact d2 (by omega), fun _ => AI_stI_s _ _ _ _, fun k hk => by rw [if_neg (by omega)] at hk; have := v4 (by omega); omega, fun y => (by cases y)⟩
    · have hm := v3 (Or.inr y)
      obtain ⟨p1, p2, -⟩ := ok.2.2.2.2 y
      rw [d1, tnI (by omega), (d5 y).1, p2, m97 (by omega), nI_eq (by omega) (by omega)]
      exact ⟨ixR_nI (by omega) (by decide), fun e => at4 y 0 (Or.inl ⟨rfl, fun q => q.2 (by omega)⟩), fun e => at4 y 1 (Or.inr ⟨rfl, yp, fun q => e (by omega)⟩)⟩
/-- all of the page -/
def rnP (i j : Nat) : Prop := rdP i j
theorem w135 {d : Nat} {L : Nat} {cd : Nat → Nat} (po : POK L cd) {h0 : AH} {Q : Option Value → AH → Prop} (K : ∀ h', Fr rdP h0 h' → AI h' 23 22 = nI (ftl cd L) → (∀ s m, psr cd L = some (s, m) → DtR h' s m (dtt cd L)) → AI h' 23 23 = (match psr cd L with
    | none => 0
    | some (s, _) => if 5 ≤ s then 1 else 0) → Q none h') : ∀ r i s m h, i + r = L → Sh h → PgR h L cd → Fr rdP h0 h → psr cd i = some (s, m) → DtR h s m (dtt cd i) → Wp (d + 3) 135 11 [.ref 23, .int (nI s), .int (nI i), .int 1, mk0] [] h Q := by
  have fin : ∀ i s h, Sh h → PgR h L cd → Fr rdP h0 h → i ≤ L → s ≤ 7 → i = ftl cd L → (i < L → psr cd L = none) → (i = L → ∃ m, psr cd L = some (s, m) ∧ DtR h s m (dtt cd L)) → Wp (d + 3) 135 74 [.ref 23, .int (nI s), .int (nI i), mk0, mk0] [] h Q := by
    intro i s h HS hp hf hi hs ei hn hy
    have hL := po.1
    refine g135_74 (d + 3) _ _ h HS Q ?_
    rw [AI_stI_o _ _ (Or.inr (by decide)), hp.1, nI_eq (by omega) (by omega), ltC (x := 4) (a := 4) rfl rfl (by omega) (by omega)]
    have fr : ∀ x, Fr rdP h0 (stI (stI h 23 22 (nI i)) 23 23 x) := fun x => (hf.trans (Fr.stI (P := rdP) (Or.inl (by decide)))).trans (Fr.stI (P := rdP) (Or.inl (by decide)))
    have e22 : ∀ x, AI (stI (stI h 23 22 (nI i)) 23 23 x) 23 22 = nI (ftl cd L) := fun x => by rw [AI_stI_o _ _ (Or.inr (by decide)), AI_stI_s, ei]
    have dr : ∀ x m D, DtR h s m D → DtR (stI (stI h 23 22 (nI i)) 23 23 x) s m D := fun x m D z => z.fr (P := fun a b => a = 23 ∧ b ≤ 23) ((Fr.stI (P := fun a b => a = 23 ∧ b ≤ 23) (by decide)).trans (Fr.stI (P := fun a b => a = 23 ∧ b ≤ 23) (by decide))) (by decide) (fun a b h1 _ z => by omega)
    refine ⟨fun e => ?_, fun e => ?_⟩
    · obtain ⟨m, h1, h2⟩ := hy e
      refine ⟨fun z => K _ (fr 1) (e22 1) (fun s' m' q => ?_) ?_, fun z => K _ (fr 0) (e22 0) (fun s' m' q => ?_) ?_⟩
      · rw [h1] at q
        cases q
        exact dr _ _ _ h2
      · rw [AI_stI_s, h1]
        show (1 : Int32) = if 5 ≤ s then 1 else 0
        rw [if_pos (by omega)]
      · rw [h1] at q
        cases q
        exact dr _ _ _ h2
      · rw [AI_stI_s, h1]
        show (0 : Int32) = if 5 ≤ s then 1 else 0
        rw [if_neg (by omega)]
    · have hz := hn (by omega)
      refine K _ (fr 0) (e22 0) (fun s' m' q => by rw [hz] at q; cases q) ?_
      rw [AI_stI_s, hz]
  intro r
  induction r with
  | zero =>
    intro i s m h hi HS hp hf hs hd
    have hL := po.1
    have e : i = L := hi
    subst e
    refine g135_11 (d + 2) _ _ _ h HS Q ⟨fun z => ?_, fun _ => ?_⟩
    · rw [hp.1, nI_ltI (by omega) (by omega)] at z
      omega
    · exact fin i s h HS hp hf (Nat.le_refl _) (psr_inv hs).1 (ftl_end hs).symm (fun z => by omega) (fun _ => ⟨m, hs, hd⟩)
  | succ r ih =>
    intro i s m h hi HS hp hf hs hd
    have hL := po.1
    have hlt : i < L := by omega
    have iv := psr_inv hs
    have hc := po.2 i hlt
    have hpv : pv cd i ≤ 126 := by
      unfold pv
      split
      · omega
      · exact po.2 _ (by omega)
    have hs1 := psr_s hs
    refine g135_11 (d + 2) _ _ _ h HS Q ⟨fun _ => ⟨fun z => absurd z (by decide), fun _ => ⟨ixR_nI (by omega) (by decide), ?_⟩⟩, fun z => absurd (by rw [hp.1, nI_ltI (by omega) (by omega)]; exact hlt) z⟩
    rw [tnI (by omega), hp.2 i hlt]
    refine c133 HS iv hc hpv (dtt_ok hs) hd (fun h' f r' => ⟨_, rfl, f.Sh HS, ?_⟩)
    have hp' : PgR h' L cd := hp.fr f (fun z => by rcases z with z | z <;> omega) (fun j z => by rcases z with z | z <;> omega)
    cases hn : nxt s (cd i) (pv cd i) m with
    | none =>
      rw [hn] at hs1
      refine ⟨fun _ => ?_, fun z => absurd rfl z⟩
      refine g135_47 (d + 3) _ _ _ _ h' (f.Sh HS) Q ⟨fun _ => ?_, fun z => absurd rfl z⟩
      rw [show (nI i + 0) = nI i from nI_add i 0]
      refine g135_11 (d + 2) _ _ _ h' (f.Sh HS) Q ⟨fun _ => ⟨fun _ => ?_, fun z => absurd rfl z⟩, fun z => absurd (by rw [hp'.1, nI_ltI (by omega) (by omega)]; exact hlt) z⟩
      exact fin i s h' (f.Sh HS) hp' (hf.trans f) (by omega) iv.1 (ftl_at hlt hs hs1).symm (fun _ => psr_none hs1 L (by omega)) (fun z => by omega)
    | some s' =>
      rw [hn] at hs1
      have iv' := psr_inv hs1
      have nm := nI_m1 (p := s') (by have := iv'.1; omega)
      refine ⟨fun z => absurd z nm, fun _ => ?_⟩
      refine g135_47 (d + 3) _ _ _ _ h' (f.Sh HS) Q ⟨fun z => absurd z (by decide), fun _ => ?_⟩
      rw [nI_1]
      have dd := r' s' hn
      rw [← dtt_s hs] at dd
      exact ih (i + 1) s' _ h' (by omega) (f.Sh HS) hp' (hf.trans f) hs1 dd
theorem c135 {d : Nat} {L : Nat} {cd : Nat → Nat} (po : POK L cd) {h : AH} (HS : Sh h) (hp : PgR h L cd) {Q : Option Value → AH → Prop} (K : ∀ h', Fr rdP h h' → AI h' 23 22 = nI (ftl cd L) → (∀ s m, psr cd L = some (s, m) → DtR h' s m (dtt cd L)) → AI h' 23 23 = (match psr cd L with
    | none => 0
    | some (s, _) => if 5 ≤ s then 1 else 0) → Q none h') : Cl (d + 3) 135 [.ref 23] h Q := by
  refine Cl.enter rfl (g135_0 (d + 3) h HS Q ?_)
  have f1 : Fr rdP h (stI h 23 24 0) := Fr.stI (Or.inl (by decide))
  exact w135 po K L 0 0 0 _ (Nat.zero_add _) (f1.Sh HS) (hp.fr f1 (fun z => by rcases z with z | z <;> omega) (fun j z => by rcases z with z | z <;> omega)) f1 rfl ⟨AI_stI_s _ _ _ _, fun z => by omega, fun z => by omega, fun k hk => absurd hk (Nat.not_lt_zero k), fun z => (by cases z)⟩
theorem c136 {d : Nat} {L : Nat} {cd : Nat → Nat} (po : POK L cd) {h : AH} (HS : Sh h) (hp : PgR h L cd) {Q : Option Value → AH → Prop} (K : ∀ h', Fr rdP h h' → Q (some (.int (nI (ftl cd L)))) h') : Cl (d + 4) 136 [.ref 23] h Q := by
  refine Cl.enter rfl (g136_0 (d + 3) h HS Q ?_)
  refine c135 po HS hp (fun h' f e _ _ => ⟨rfl, f.Sh HS, ?_⟩)
  rw [e]
  exact K h' f
