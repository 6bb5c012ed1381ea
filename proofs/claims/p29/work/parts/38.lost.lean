/-! by which move a game was lost -/
def tI (t : ST) (i : Nat) : ST := unT t (t.k - i)
theorem unT_k (t : ST) : ∀ j, (unT t j).k = t.k - j
  | 0 => rfl
  | j + 1 => by
    show (unT t j).k - 1 = t.k - (j + 1)
    rw [unT_k t j]
    omega
theorem unT_m (t : ST) : ∀ j, (unT t j).m = t.m
  | 0 => rfl
  | j + 1 => unT_m t j
theorem unT_w {t : ST} (hw : t.w < 2) : ∀ j, (unT t j).w = (t.w + j) % 2
  | 0 => by
    show t.w = _
    omega
  | j + 1 => by
    show 1 - (unT t j).w = _
    rw [unT_w hw j]
    omega
theorem unT_ok {g : G} {t : ST} (h : TOK g t) (hn : g.n ≤ 10) : ∀ j, j ≤ t.k → TOK g (unT t j)
  | 0, _ => h
  | j + 1, hj => (unT_ok h hn j (by omega)).und hn (by rw [unT_k]; omega)
theorem tI_end (t : ST) : tI t t.k = t := by
  unfold tI
  rw [Nat.sub_self]
  rfl
theorem tI_s {t : ST} {i : Nat} (hi : i < t.k) : tI t i = undT (tI t (i + 1)) := by
  unfold tI
  rw [show t.k - i = (t.k - (i + 1)) + 1 from by omega]
  rfl
theorem tI_k {t : ST} {i : Nat} (hi : i ≤ t.k) : (tI t i).k = i := by
  unfold tI
  rw [unT_k]
  omega
theorem tI_m (t : ST) (i : Nat) : (tI t i).m = t.m := unT_m t _
theorem tI_w {t : ST} (hw : t.w < 2) {i : Nat} (hi : i ≤ t.k) : (tI t i).w = (t.w + t.k + i) % 2 := by
  unfold tI
  rw [unT_w hw]
  omega
theorem tI_ok {g : G} {t : ST} (h : TOK g t) (hn : g.n ≤ 10) (i : Nat) : TOK g (tI t i) := unT_ok h hn _ (Nat.sub_le _ _)
/-- a move goes from one stand to the next -/
theorem tI_step {g : G} {t : ST} (h : TOK g t) (hn : g.n ≤ 10) {i : Nat} (hi : i < t.k) : (tI t (i + 1)).F = (if (tI t i).w = 0 then (tI t i).F ||| 2 ^ t.m i else (tI t i).F) ∧ (tI t (i + 1)).C = (if (tI t i).w = 0 then (tI t i).C else (tI t i).C ||| 2 ^ t.m i) ∧ (tI t (i + 1)).w = 1 - (tI t i).w ∧ opb (tI t i).F (tI t i).C (t.m i) = true ∧ t.m i < g.n := by
  have hT := tI_ok h hn (i + 1)
  obtain ⟨lF, lC⟩ := hT.lt hn
  have hk := tI_k (t := t) (i := i + 1) hi
  have hm := tI_m t (i + 1)
  have hcl := hT.closed (i := i) (by omega)
  rw [hm] at hcl
  obtain ⟨h1, h2, h3, h4, h5⟩ := hT
  obtain ⟨a, b, c⟩ := h4 i (by omega)
  rw [hm, hk] at b c
  rw [hm] at a
  have eF : (tI t i).F = dif (tI t (i + 1)).F (2 ^ t.m i) := by
    rw [tI_s hi]
    show dif _ (2 ^ (tI t (i + 1)).m ((tI t (i + 1)).k - 1)) = _
    rw [hm, hk, Nat.add_sub_cancel]
  have eC : (tI t i).C = dif (tI t (i + 1)).C (2 ^ t.m i) := by
    rw [tI_s hi]
    show dif _ (2 ^ (tI t (i + 1)).m ((tI t (i + 1)).k - 1)) = _
    rw [hm, hk, Nat.add_sub_cancel]
  have ew : (tI t i).w = 1 - (tI t (i + 1)).w := by
    rw [tI_s hi]
    rfl
  have back : ∀ {s : Nat}, s < 1024 → s.testBit (t.m i) = true → dif s (2 ^ t.m i) ||| 2 ^ t.m i = s := by
    intro s hs hb
    apply tb_ext
    intro j
    rw [Nat.testBit_or, dif_two hs, Nat.testBit_two_pow]
    by_cases e : t.m i = j
    · rw [← e, hb, decide_eq_true rfl]
      rfl
    · rw [decide_eq_false e]
      simp
  have keep : ∀ {s : Nat}, s < 1024 → s.testBit (t.m i) = false → dif s (2 ^ t.m i) = s := by
    intro s hs hb
    apply tb_ext
    intro j
    rw [dif_two hs]
    by_cases e : t.m i = j
    · rw [← e, hb]
      rfl
    · rw [decide_eq_false e]
      simp
  have hopen : opb (tI t i).F (tI t i).C (t.m i) = true := by
    rw [eF, eC, opb_dif lF lC, decide_eq_true rfl, Bool.or_true]
  refine ⟨?_, ?_, ?_, hopen, a⟩
  · rw [eF, ew]
    have hd := h1.2.2 (t.m i)
    rcases (by omega : (tI t (i + 1)).w = 0 ∨ (tI t (i + 1)).w = 1) with z | z
    · rw [z]
      have hC := c (by omega)
      have hF : (tI t (i + 1)).F.testBit (t.m i) = false := by
        cases q : (tI t (i + 1)).F.testBit (t.m i) with
        | false => rfl
        | true => exact absurd ⟨q, hC⟩ hd
      rw [if_neg (by decide), keep lF hF]
    · rw [z]
      rw [if_pos rfl, back lF (b (by omega))]
  · rw [eC, ew]
    have hd := h1.2.2 (t.m i)
    rcases (by omega : (tI t (i + 1)).w = 0 ∨ (tI t (i + 1)).w = 1) with z | z
    · rw [z]
      rw [if_neg (by decide), back lC (c (by omega))]
    · rw [z]
      have hF := b (by omega)
      have hC : (tI t (i + 1)).C.testBit (t.m i) = false := by
        cases q : (tI t (i + 1)).C.testBit (t.m i) with
        | false => rfl
        | true => exact absurd ⟨hF, q⟩ hd
      rw [if_pos rfl, keep lC hC]
  · rw [ew]
    omega
def lsp (g : G) (t : ST) (i : Nat) : Bool := (hv g (tI t i).F (tI t i).C (tI t i).w == decide ((tI t i).w = 0)) && !(hv g (tI t (i + 1)).F (tI t (i + 1)).C (tI t (i + 1)).w == decide ((tI t i).w = 0))
def lsA (g : G) (t : ST) : Int32 := fsI (lsp g t) t.k
theorem fsI_s (p : Nat → Bool) {i : Nat} (hi : i < 2 ^ 31) : fsI p (i + 1) = if fsI p i = -1 then (if p i = true then nI i else -1) else fsI p i := by
  have h1 := fa_first_no p i
  have h2 := fa_first_yes p i
  have h3 := fa_first_le p i
  unfold fsI
  show (if fa_first p (i + 1) < i + 1 then _ else _) = _
  by_cases hf : fa_first p i < i
  · have hp := h2 hf
    rw [first_at (i := fa_first p i) (n := i + 1) (by omega) h1 hp, if_pos hf, if_pos (by omega)]
    by_cases e : nI (fa_first p i) = -1
    · exact absurd e (nI_m1 (by omega))
    · rw [if_neg e]
  · rw [if_neg hf, if_pos rfl]
    have e : fa_first p i = i := by omega
    rw [e] at h1
    cases hp : p i with
    | true => rw [first_at (i := i) (Nat.lt_succ_self i) h1 hp, if_pos (Nat.lt_succ_self i), if_pos rfl]
    | false =>
      rw [first_none (n := i + 1) (fun k hk => by
        by_cases e2 : k = i
        · rw [e2]; exact hp
        · exact h1 k (by omega)), if_neg (Nat.lt_irrefl _)]
      rfl
/-- the class's -/
def ltP (i _j : Nat) : Prop := i = 15 ∨ i = 16 ∨ i = 19
theorem SI.fr {P : Nat → Nat → Prop} {h h' : AH} {g : G} (S : SI h g) (hf : Fr P h h') (hp : ∀ i j, (1 ≤ i ∧ i ≤ 1) ∨ (5 ≤ i ∧ i ≤ 10) ∨ (17 ≤ i ∧ i ≤ 19) ∨ i = 46 → ¬ P i j) : SI h' g := by
  obtain ⟨s1, s2, s3, s4, s5, s6, s7⟩ := S
  refine ⟨hf.Sh s1, s2.fr hf (fun i j a b => hp i j (Or.inr (Or.inl ⟨a, by omega⟩))), s3.fr hf (fun j => hp 10 j (by omega)), fun s hs => ?_, ⟨?_, fun j hj => ?_⟩, s6.fr hf (fun j => hp 19 j (by omega)), s7.fr hf (fun j => hp 46 j (by omega)) (hp 17 4 (by omega))⟩
  · rw [hf.I (hp 18 s (by omega))]
    exact s4 s hs
  · rw [hf.2.2.1]
    exact s5.1
  · rw [hf.I (hp 1 j (by omega))]
    exact s5.2 j hj
theorem SR.lt {h h' : AH} (r : SR h h') : Fr ltP h h' := Fr.weak r (fun _ _ z => Or.inr (Or.inr z))
theorem stcC {g : G} {t : ST} (ht : TOK g t) (hn : g.n ≤ 10) {i : Nat} (hi : i < t.k) {h : AH} {v : Nat} (s : StC h v (plyT (tI t i) (t.m i))) : StC h v (tI t (i + 1)) := by
  obtain ⟨e1, e2, e3, e4, e5⟩ := tI_step ht hn hi
  have hk1 := tI_k (t := t) (i := i) (by omega)
  have hk2 := tI_k (t := t) (i := i + 1) hi
  have hm1 := tI_m t i
  have hm2 := tI_m t (i + 1)
  obtain ⟨a, b, c, d, e⟩ := s
  refine ⟨?_, ?_, ?_, ?_, fun j hj => ?_⟩
  · rw [a, hk2]
    show nI ((tI t i).k + 1) = _
    rw [hk1]
  · rw [b, e1]
    rfl
  · rw [c, e2]
    rfl
  · rw [d, e3]
    rfl
  · rw [hk2] at hj
    have := e j (show j < (tI t i).k + 1 by omega)
    rw [this, hm2]
    show nI (upN (tI t i).m (tI t i).k (t.m i) j) = _
    rw [hk1, hm1]
    by_cases ej : j = i
    · rw [ej, upN_s]
    · rw [upN_o _ _ ej]
theorem eq0I {w : Nat} (hw : w < 2) : (0 : Int32) = nI w ↔ w = 0 := by
  rw [eq_comm, nI_eq0 (by omega)]
theorem eq1I {w : Nat} (hw : w < 2) : (1 : Int32) = nI w ↔ ¬ w = 0 := by
  rw [eq_comm, eqC (y := 1) (b := 1) rfl rfl (by omega) (by omega)]
  omega
theorem w101 {d : Nat} {g : G} (ho : GOK g) (hn9 : g.n ≤ 9) {t : ST} (ht : TOK g t) {h0 : AH} {Q : Option Value → AH → Prop} (K : ∀ h', Fr ltP h0 h' → SI h' g → Q (some (.int (lsA g t))) h') : ∀ m i h, i + m = t.k → SI h g → Fr ltP h0 h → StC h 11 t → StC h 15 (tI t i) → (∀ k, k < i → lsp g t k = false) → Wp (d + 25) 101 30 [.ref 2, .int (nI i), mk0, mk0] [] h Q
  | 0, i, h, hi, S, hf, sn, st15, hno => by
    have hkn := ht.k_le
    have e : i = t.k := by omega
    refine g101_30 (d + 24) _ h S.1 Q ⟨fun z => ?_, fun _ => ?_⟩
    · rw [sn.1, nI_ltI (by omega) (by omega)] at z
      omega
    · have kk := K h hf S
      unfold lsA at kk
      rw [e] at hno
      rwa [fsI_no hno] at kk
  | m + 1, i, h, hi, S, hf, sn, st15, hno => by
    have hkn := ht.k_le
    have hlt : i < t.k := by omega
    have hT := tI_ok ht ho.1 i
    have hT2 := tI_ok ht ho.1 (i + 1)
    obtain ⟨e1, e2, e3, e4, e5⟩ := tI_step ht ho.1 hlt
    have hk1 := tI_k (t := t) (i := i) (by omega)
    have nx : lsp g t i = false → ∀ h', SI h' g → Fr ltP h0 h' → StC h' 11 t → StC h' 15 (tI t (i + 1)) → Wp (d + 25) 101 30 [.ref 2, .int (nI (i + 1)), mk0, mk0] [] h' Q := fun hg h' S' f' sn' s15' => w101 ho hn9 ht K m (i + 1) h' (by omega) S' f' sn' s15' (fun k hk => by
      by_cases e : k = i
      · rw [e]; exact hg
      · exact hno k (by omega))
    have n11 : ∀ j, ¬ ltP 11 j ∧ ¬ ltP (11 + 1) j := fun j => ⟨by rintro (z | z | z) <;> omega, by rintro (z | z | z) <;> omega⟩
    have mid : ∀ x h1, x = b01 (hv g (tI t i).F (tI t i).C (tI t i).w == decide ((tI t i).w = 0)) → SI h1 g → Fr ltP h0 h1 → StC h1 11 t → StC h1 15 (tI t i) → Wp (d + 25) 101 80 [.ref 2, .int (nI i), .int (nI (tI t i).w), mk0] [.int x] h1 Q := by
      intro x h1 hx S1 f1 sn1 s1
      refine g101_80 (d + 23) _ _ _ h1 S1.1 Q ?_
      rw [show atv h1 12 (nI i) = AI h1 12 i from atM S1.1 (v := 11) (Or.inl rfl) (by omega), show AI h1 12 i = nI (t.m i) from sn1.2.2.2.2 i hlt]
      refine c74 S1.1 (Or.inr (Or.inr rfl)) s1 (by omega) hT.2.1 (by omega) (fun h2 f2 s2 => ⟨rfl, f2.Sh S1.1, ?_⟩)
      have s2' := stcC ht ho.1 hlt s2
      have S2 := S1.fr f2 (fun a b z q => by rcases q with q | q <;> omega)
      have f2' : Fr ltP h0 h2 := f1.trans (f2.weak (fun a b z => by rcases z with z | z; exact Or.inl z; exact Or.inr (Or.inl z)))
      have sn2 := sn1.fr (f2.weak (R := ltP) (fun a b z => by rcases z with z | z; exact Or.inl z; exact Or.inr (Or.inl z))) n11
      rw [hx, b01_0, nI_1, s2'.2.1, s2'.2.2.1, s2'.2.2.2.1]
      refine ⟨fun z => nx (by unfold lsp; rw [z]; rfl) h2 S2 f2' sn2 s2', fun z => ?_⟩
      have z1 := ts_nf z
      refine c58 (d := d) ho hT2.2.1 hT2.1 S2 (fun h3 S3 R3 => ⟨_, rfl, S3.1, ?_⟩)
      have f3 := R3.lt
      have sn3 := sn2.fr f3 n11
      have s3 := s2'.fr R3 (fun j => ⟨by omega, by omega⟩)
      have found : lsp g t i = true → Q (some (.int (nI i))) h3 := fun hg => by
        have kk := K h3 (f2'.trans f3) S3
        unfold lsA at kk
        rwa [fsI_at hlt hno hg] at kk
      rw [owW hT.2.1]
      refine ⟨fun z2 => nx ?_ h3 S3 (f2'.trans f3) sn3 s3, fun z2 => found ?_⟩
      · unfold lsp
        rw [z2]
        simp
      · unfold lsp
        rw [z1, ts_nt z2]
        rfl
    refine g101_30 (d + 24) _ h S.1 Q ⟨fun _ => ?_, fun z => absurd (by rw [sn.1, nI_ltI (by omega) (by omega)]; exact hlt) z⟩
    rw [st15.2.1, st15.2.2.1, st15.2.2.2.1]
    refine c58 (d := d) ho hT.2.1 hT.1 S (fun h1 S1 R1 => ⟨_, rfl, S1.1, ?_⟩)
    have f1 := hf.trans R1.lt
    have sn1 := sn.fr R1.lt n11
    have s1 := st15.fr R1 (fun j => ⟨by omega, by omega⟩)
    rw [owW hT.2.1]
    refine ⟨fun z => mid _ h1 ?_ S1 f1 sn1 s1, fun z => mid _ h1 ?_ S1 f1 sn1 s1⟩
    · rw [z]; rfl
    · rw [ts_nt z]; rfl
theorem posN {h : AH} {g : G} (hg : NetC h g) (ho : GOK g) : (0 : Int32) < AI h 5 5 ↔ 0 < g.n := by
  have := ho.1
  rw [hg.1, ltC (x := 0) (a := 0) rfl rfl (by omega) (by omega)]
theorem c101 {d : Nat} {h : AH} {g : G} (S : SI h g) (ho : GOK g) (hn9 : g.n ≤ 9) (h0 : 0 < g.n) {t : ST} (ht : TOK g t) (sn : StC h 11 t) {Q : Option Value → AH → Prop} (K : ∀ h', Fr ltP h h' → SI h' g → Q (some (.int (lsA g t))) h') : Cl (d + 25) 101 [.ref 2] h Q := by
  have hkn := ht.k_le
  have n11 : ∀ j, ¬ stP 15 11 j ∧ ¬ stP 15 (11 + 1) j := fun j => ⟨by rintro (z | z) <;> omega, by rintro (z | z) <;> omega⟩
  refine Cl.enter rfl (g101_0 (d + 23) h S.1 Q ⟨fun _ => ?_, fun z => absurd ((posN S.2.1 ho).mpr h0) z⟩)
  refine c73 S.1 (v := 15) (u := 11) (Or.inr (Or.inr rfl)) (Or.inl rfl) (by decide) (t := t) (by omega) sn (fun h1 f1 s1 => ⟨rfl, f1.Sh S.1, ?_⟩)
  have S1 := S.fr f1 (fun a b z q => by rcases q with q | q <;> omega)
  have sn1 := sn.fr f1 n11
  refine c76 (d := d + 22) S1.1 hn9 (Or.inr (Or.inr rfl)) ht s1 (fun h2 f2 s2 => ⟨rfl, f2.Sh S1.1, ?_⟩)
  have S2 := S1.fr f2 (fun a b z q => by omega)
  have sn2 := sn1.fr f2 (fun j => ⟨by omega, by omega⟩)
  refine w101 ho hn9 ht K t.k 0 h2 (Nat.zero_add _) S2 ((f1.weak (fun a b z => by rcases z with z | z; exact Or.inl z; exact Or.inr (Or.inl z))).trans (f2.weak (fun a b z => Or.inl z))) sn2 s2 (fun k hk => absurd hk (Nat.not_lt_zero k))
