/-! the reference: who has it, of all ways -/
def JH (h : AH) (g : G) (F C c : Nat) : Prop := ∀ c', c ≤ c' → c' < 3 ^ oc g.n F C → ∀ w, w < 2 → AI h 40 (2 * c' + w) = b01 (hv g (cF g.n F C c') (cC g.n F C c') w)
def isQ (g : G) (F C c w j : Nat) : Bool := hv g (cF g.n F C (c + (w + 1) * 3 ^ j)) (cC g.n F C (c + (w + 1) * 3 ^ j)) (1 - w)
def zro (c j : Nat) : Bool := decide (dg c j = 0)
def anB (g : G) (F C c w : Nat) : Nat → Bool := fun j => fo (zro c) (fun j y => y || isQ g F C c w j) j false
def alB (g : G) (F C c w : Nat) : Nat → Bool := fun j => fo (zro c) (fun j y => y && isQ g F C c w j) j true
theorem b01_0 {b : Bool} : b01 b = 0 ↔ b = false := by cases b <;> simp [b01]
theorem b01_1 {b : Bool} : b01 b = 1 ↔ b = true := by cases b <;> simp [b01]
theorem b01_or (b : Bool) : b01 b = 0 ∨ b01 b = 1 := by cases b <;> simp [b01]
/-- the figure's lane and the child it leads to -/
theorem chL {g : G} {F C c w j : Nat} (hw : w < 2) (hj : j < oc g.n F C) (hd : dg c j = 0) : cF g.n F C (c + (w + 1) * 3 ^ j) = (if w = 0 then cF g.n F C c ||| 2 ^ olN g.n F C j else cF g.n F C c) ∧ cC g.n F C (c + (w + 1) * 3 ^ j) = (if w = 0 then cC g.n F C c else cC g.n F C c ||| 2 ^ olN g.n F C j) := by
  obtain ⟨a, b, e⟩ := ol_ok hj
  have hw2 : w = 0 ∨ w = 1 := by omega
  rcases hw2 with rfl | rfl
  · have := chF a b (c := c) (by rw [e]; exact hd)
    rw [e] at this
    exact this
  · have := chC a b (c := c) (by rw [e]; exact hd)
    rw [e] at this
    exact this
theorem ixw {c w j m : Nat} (hw : w < 2) (hm : m ≤ 10) (hj : j < m) (hd : dg c j = 0) (hc : c < 3 ^ m) : c + (w + 1) * 3 ^ j < 3 ^ m ∧ c < c + (w + 1) * 3 ^ j ∧ 2 * (c + (w + 1) * 3 ^ j) + 1 < 118098 := by
  have h1 := dg_bd j hd (x := w + 1) (by omega) hj hc
  have h2 := p3_10 hm
  have h3 : 0 < 3 ^ j := Nat.pow_pos (by decide)
  have h4 : 0 < (w + 1) * 3 ^ j := Nat.mul_pos (by omega) h3
  omega
theorem dgp {x j : Nat} (hx : x < 2 ^ 31) (hj : j ≤ 10) : nI x / nI (3 ^ j) - nI x / nI (3 ^ j) / 3 * 3 = nI (dg x j) := by
  have h1 := p3_10 hj
  have h2 : 0 < 3 ^ j := Nat.pow_pos (by decide)
  rw [pk_div hx h2 (by omega), dgI (Nat.lt_of_le_of_lt (Nat.div_le_self _ _) hx)]
  rfl
theorem stepI (c w p : Nat) (hw : w < 2) {x : Int32} (hx : x = nI (w + 1)) : 2 * (nI c + x * nI p) + 1 - nI w = nI (2 * (c + (w + 1) * p) + (1 - w)) := by
  rw [hx, pk_mul, nI_add, show (2 : Int32) = nI 2 from rfl, pk_mul, nI_1, pk_sub (by omega)]
  congr 1
  omega
theorem in40 {h : AH} (HS : Sh h) {i : Nat} (hi : i < 118098) : inR h 40 (nI i) = true := inS HS 40 (c := 23) (n := 118098) rfl (ixR_nI hi (by decide))
theorem w149 {d : Nat} {h : AH} (HS : Sh h) {g : G} (ho : GOK g) {F C c w : Nat} (hc : c < 3 ^ oc g.n F C) (hw : w < 2) (hy : Lay h g F C) (hj : JH h g F C (c + 1)) {Q : Option Value → AH → Prop} (K : Q (some (.int (b01 (if w = 0 then anB g F C c w (oc g.n F C) else alB g F C c w (oc g.n F C))))) h) : ∀ m j, j + m = oc g.n F C → Wp (d + 1) 149 8 [.ref 23, .int (nI c), .int (nI w), .int (b01 (anB g F C c w j)), .int (b01 (alB g F C c w j)), .int (nI j), mk0] [] h Q
  | 0, j, hjm => by
    have hoc := oc_10 F C ho.1
    have e : j = oc g.n F C := by omega
    subst e
    refine g149_8 d _ _ _ _ _ h HS Q ⟨fun z => ?_, fun _ => ⟨fun z => ⟨b01_or _, ?_⟩, fun z => ⟨b01_or _, ?_⟩⟩⟩
    · rw [hy.1, nI_ltI (by omega) (by omega)] at z
      omega
    · rw [nI_eq0 (by omega)] at z
      rwa [if_pos z] at K
    · rw [nI_eq0 (by omega)] at z
      rwa [if_neg z] at K
  | m + 1, j, hjm => by
    have hoc := oc_10 F C ho.1
    have hlt : j < oc g.n F C := by omega
    have h3 := p3_10 hoc
    have h4 := p3_10 (j := j) (by omega)
    have h5 : 0 < 3 ^ j := Nat.pow_pos (by decide)
    have ih := w149 (d := d) HS ho hc hw hy hj K m (j + 1) (by omega)
    refine g149_8 d _ _ _ _ _ h HS Q ⟨fun _ => ⟨ixR_nI (by omega) (by decide), ?_⟩, fun z => absurd (by rw [hy.1, nI_ltI (by omega) (by omega)]; exact hlt) z⟩
    have hd3 := dg_lt c j
    rw [tnI (by omega), hy.2.2.2.1 j (by omega), dgp (by omega) (by omega), nI_eq0 (by omega), nI_eq0 (by omega), nI_eq0 (by omega), nI_1]
    refine ⟨by omega, fun z => ?_, fun z => ?_⟩
    · have hz : zro c j = true := decide_eq_true z
      have e1 : anB g F C c w (j + 1) = (anB g F C c w j || isQ g F C c w j) := fo_yes hz
      have e2 : alB g F C c w (j + 1) = (alB g F C c w j && isQ g F C c w j) := fo_yes hz
      rw [e1, e2] at ih
      obtain ⟨i1', i2', i3'⟩ := ixw hw hoc hlt z hc
      have hval : AI h 40 (2 * (c + (w + 1) * 3 ^ j) + (1 - w)) = b01 (isQ g F C c w j) := hj _ (by omega) i1' (1 - w) (by omega)
      have mid : ∀ x, x = nI (w + 1) → Wp (d + 1) 149 46 [.ref 23, .int (nI c), .int (nI w), .int (b01 (anB g F C c w j)), .int (b01 (alB g F C c w j)), .int (nI j), mk0] [.int x, .int (nI c), .int 2, .ref 40] h Q := by
        intro x hx
        refine g149_46 (d + 1) _ _ _ _ _ _ _ _ _ h HS Q ?_
        rw [tnI (by omega), hy.2.2.2.1 j (by omega), stepI c w _ hw hx, tnI (by omega), hval]
        refine ⟨ixR_nI (by omega) (by decide), kS HS 40 rfl, in40 HS (by omega), ?_⟩
        have last : ∀ s0, s0 = b01 (anB g F C c w j || isQ g F C c w j) → Wp (d + 1) 149 77 [.ref 23, .int (nI c), .int (nI w), mk0, .int (b01 (alB g F C c w j)), .int (nI j), .int (b01 (isQ g F C c w j))] [.int s0] h Q := by
          intro s0 hs0
          refine g149_77 (d + 1) _ _ _ _ _ _ h HS Q ?_
          rw [b01_0, b01_0, hs0, nI_1]
          refine ⟨fun z2 => ?_, fun z2 => ⟨fun z3 => ?_, fun z3 => ?_⟩⟩
          · rw [z2] at ih
            exact ih
          · rw [z3, Bool.and_false] at ih
            rw [z3]
            exact ih
          · rw [ts_nf z2, ts_nf z3] at ih
            rw [ts_nf z3]
            exact ih
        rw [b01_0, b01_0]
        refine ⟨fun z2 => ⟨fun z3 => last _ ?_, fun z3 => last _ ?_⟩, fun z2 => last _ ?_⟩
        · rw [z2, z3]; rfl
        · rw [z2, ts_nf z3]; rfl
        · rw [ts_nf z2]; rfl
      refine ⟨fun z2 => mid _ (by rw [z2]; rfl), fun z2 => mid _ (by rw [show w = 1 from by omega]; rfl)⟩
    · have hz : zro c j = false := decide_eq_false z
      have e1 : anB g F C c w (j + 1) = anB g F C c w j := fo_no hz
      have e2 : alB g F C c w (j + 1) = alB g F C c w j := fo_no hz
      rw [e1, e2] at ih
      exact ih
theorem c149 {d : Nat} {h : AH} (HS : Sh h) {g : G} (ho : GOK g) {F C c w : Nat} (hc : c < 3 ^ oc g.n F C) (hw : w < 2) (hy : Lay h g F C) (hj : JH h g F C (c + 1)) {Q : Option Value → AH → Prop} (K : Q (some (.int (b01 (if w = 0 then fo (opb (cF g.n F C c) (cC g.n F C c)) (fun k y => y || hv g (cF g.n F C c ||| 2 ^ k) (cC g.n F C c) 1) g.n false else fo (opb (cF g.n F C c) (cC g.n F C c)) (fun k y => y && hv g (cF g.n F C c) (cC g.n F C c ||| 2 ^ k) 0) g.n true)))) h) : Cl (d + 1) 149 [.ref 23, .int (nI c), .int (nI w)] h Q := by
  refine Cl.enter rfl (g149_0 (d + 1) _ _ h HS Q (w149 HS ho hc hw hy hj ?_ (oc g.n F C) 0 (Nat.zero_add _)))
  have hw2 : w = 0 ∨ w = 1 := by omega
  rcases hw2 with rfl | rfl
  · have e : anB g F C c 0 (oc g.n F C) = fo (opb (cF g.n F C c) (cC g.n F C c)) (fun k y => y || hv g (cF g.n F C c ||| 2 ^ k) (cC g.n F C c) 1) g.n false := by
      refine fo_rank (fun k hk => cop hk) (fun k hk hp y => ?_) g.n (Nat.le_refl _)
      rw [cop hk, Bool.and_eq_true] at hp
      have := chF hk hp.1 (of_decide_eq_true hp.2)
      unfold isQ
      rw [this.1, this.2]
    rw [if_pos rfl, e]
    exact K
  · have e : alB g F C c 1 (oc g.n F C) = fo (opb (cF g.n F C c) (cC g.n F C c)) (fun k y => y && hv g (cF g.n F C c) (cC g.n F C c ||| 2 ^ k) 0) g.n true := by
      refine fo_rank (fun k hk => cop hk) (fun k hk hp y => ?_) g.n (Nat.le_refl _)
      rw [cop hk, Bool.and_eq_true] at hp
      have := chC hk hp.1 (of_decide_eq_true hp.2)
      unfold isQ
      rw [this.1, this.2]
    rw [if_neg (by decide), e]
    exact K
def Sol (h : AH) (g : G) (F C : Nat) : Prop := Lay h g F C ∧ JH h g F C 0
theorem w150a {d : Nat} {g : G} (ho : GOK g) {F C c : Nat} (hs : VS g.n F C) (hc : c < 3 ^ oc g.n F C) {h0 : AH} {Q : Option Value → AH → Prop} (nx : ∀ h, Sh h → Lay h g F C → JH h g F C c → Fr solP h0 h → Wp (d + 2) 150 17 [.ref 23, mk0, .int (nI c - 1), mk0, mk0, mk0] [] h Q) : ∀ m w h, w + m = 2 → Sh h → Lay h g F C → JH h g F C (c + 1) → (∀ w', w' < w → AI h 40 (2 * c + w') = b01 (hv g (cF g.n F C c) (cC g.n F C c) w')) → Fr solP h0 h → Wp (d + 2) 150 58 [.ref 23, mk0, .int (nI c), .int (b01 (jn g (cF g.n F C c))), .int (b01 (!jn g (unc g.n (cC g.n F C c)))), .int (nI w)] [] h Q
  | 0, w, h, hw, HS, hy, hj, hd, hf => by
    have e : w = 2 := by omega
    subst e
    refine g150_58 (d + 1) _ _ _ _ h HS Q ⟨fun z => absurd z (by decide), fun _ => ?_⟩
    have e1 : nI c + (-1) = nI c - 1 := (Int32.sub_eq_add_neg _ _).symm
    rw [e1]
    refine nx h HS hy (fun c' h1 h2 w hw2 => ?_) hf
    by_cases e : c' = c
    · rw [e]; exact hd w hw2
    · exact hj c' (by omega) h2 w hw2
  | m + 1, w, h, hw, HS, hy, hj, hd, hf => by
    have hoc := oc_10 F C ho.1
    have h3 := p3_10 hoc
    have hw2 : w < 2 := by omega
    have eqv := hv_eq (w := w) (cVS hs c)
    have put : ∀ h1, Sh h1 → Lay h1 g F C → JH h1 g F C (c + 1) → (∀ w', w' < w → AI h1 40 (2 * c + w') = b01 (hv g (cF g.n F C c) (cC g.n F C c) w')) → Fr solP h0 h1 → ∀ b, b = hv g (cF g.n F C c) (cC g.n F C c) w → Wp (d + 2) 150 58 [.ref 23, mk0, .int (nI c), .int (b01 (jn g (cF g.n F C c))), .int (b01 (!jn g (unc g.n (cC g.n F C c)))), .int (nI (w + 1))] [] (stI h1 40 (2 * c + w) (b01 b)) Q := by
      intro h1 S1 y1 j1 d1 f1 b hb
      have f2 : Fr (fun i j => i = 40 ∧ j = 2 * c + w) h1 (stI h1 40 (2 * c + w) (b01 b)) := Fr.stI ⟨rfl, rfl⟩
      refine w150a ho hs hc nx m (w + 1) _ (by omega) (f2.Sh S1) (y1.fr f2 ⟨fun z => by have := z.1; omega, fun z => by have := z.1; omega⟩ (fun a b h1 h2 z => by have := z.1; omega)) (fun c' g1 g2 w' g3 => ?_) (fun w' g3 => ?_) (f1.trans (f2.weak (fun a b z => Or.inr ⟨by have := z.1; omega, by have := z.1; omega⟩)))
      · rw [f2.I (fun z => by have := z.2; omega)]
        exact j1 c' g1 g2 w' g3
      · by_cases e : w' = w
        · rw [e, AI_stI_s, hb]
        · rw [f2.I (fun z => by have := z.2; omega)]
          exact d1 w' (by omega)
    have eix : 2 * nI c + nI w = nI (2 * c + w) := by rw [show (2 : Int32) = nI 2 from rfl, pk_mul, nI_add]
    refine g150_58 (d + 1) _ _ _ _ h HS Q ⟨fun _ => ?_, fun z => absurd ((ltC (y := 2) (b := 2) rfl rfl (by omega) (by omega)).mpr hw2) z⟩
    rw [eix, tnI (by omega), nI_1, narB1, narB0, b01_0, b01_0]
    refine ⟨fun z => ⟨fun z2 => ?_, fun z2 => ⟨ixR_nI (by omega) (by decide), ?_⟩⟩, fun z => ⟨ixR_nI (by omega) (by decide), ?_⟩⟩
    · refine c149 HS ho hc hw2 hy hj ⟨_, rfl, HS, ?_⟩
      have hu : jn g (unc g.n (cC g.n F C c)) = true := by
        cases hj2 : jn g (unc g.n (cC g.n F C c)) with
        | true => rfl
        | false => rw [hj2] at z2; cases z2
      rw [z, hu, Bool.false_or, Bool.true_and] at eqv
      rw [← eqv, b01_0]
      refine ⟨fun z3 => ⟨ixR_nI (by omega) (by decide), ?_⟩, fun z3 => ⟨ixR_nI (by omega) (by decide), ?_⟩⟩
      · exact put h HS hy hj hd hf false z3.symm
      · exact put h HS hy hj hd hf true (ts_nf z3).symm
    · refine put h HS hy hj hd hf false ?_
      have hu : jn g (unc g.n (cC g.n F C c)) = false := by
        cases hj2 : jn g (unc g.n (cC g.n F C c)) with
        | false => rfl
        | true => rw [hj2] at z2; exact absurd rfl z2
      rw [eqv, z, hu]
      rfl
    · refine put h HS hy hj hd hf true ?_
      rw [eqv, ts_nf z]
      rfl
theorem w150 {d : Nat} {g : G} (ho : GOK g) {F C : Nat} (hs : VS g.n F C) {h0 : AH} {Q : Option Value → AH → Prop} (K : ∀ h', Fr solP h0 h' → Sol h' g F C → Q none h') : ∀ m h, m ≤ 3 ^ oc g.n F C → Sh h → Lay h g F C → JH h g F C m → Fr solP h0 h → Wp (d + 2) 150 17 [.ref 23, mk0, .int (nI m - 1), mk0, mk0, mk0] [] h Q
  | 0, h, hm, HS, hy, hj, hf => g150_17 (d + 1) _ h HS Q ⟨fun _ => K h hf ⟨hy, hj⟩, fun z => absurd (by decide) z⟩
  | c + 1, h, hm, HS, hy, hj, hf => by
    have hoc := oc_10 F C ho.1
    have h3 := p3_10 hoc
    rw [nI_pred]
    refine g150_17 (d + 1) _ h HS Q ⟨fun z => absurd z (nI_pos (by omega)), fun _ => ?_⟩
    refine c147 HS ho hs (by omega) hy (fun h1 f1 a1 a2 a3 => ⟨rfl, f1.Sh HS, ?_⟩)
    have V := cVS hs c
    have l1 := p2_10 V.1 ho.1
    have l2 := p2_10 (unc_lt g.n (cC g.n F C c)) ho.1
    have S1 := f1.Sh HS
    have y1 : Lay h1 g F C := hy.fr f1 ⟨fun z => absurd z.2.1 (by decide), fun z => absurd z.2.1 (by decide)⟩ (fun a b h1 h2 z => by have := z.1; omega)
    have j1 : JH h1 g F C (c + 1) := fun c' g1 g2 w g3 => by
      rw [f1.I (fun z => by have := z.1; omega)]
      exact hj c' g1 g2 w g3
    have f2 : Fr solP h0 h1 := hf.trans (f1.weak (fun a b z => Or.inl ⟨z.1, by have := z.2.1; omega, z.2.2⟩))
    rw [a1, a2, tnI (by omega), tnI (by omega), y1.2.2.2.2 _ V.1, y1.2.2.2.2 _ (unc_lt _ _), b01_0]
    have go := w150a (d := d) ho hs (c := c) (by omega) (h0 := h0) (Q := Q) (fun h' S' y' j' f' => w150 ho hs K c h' (by omega) S' y' j' f') 2 0 h1 rfl S1 y1 j1 (fun w' z => absurd z (Nat.not_lt_zero w')) f2
    refine ⟨ixR_nI l1 (by decide), ixR_nI l2 (by decide), fun z => ?_, fun z => ?_⟩
    · rw [z] at go
      exact go
    · rw [ts_nf z] at go
      exact go
theorem c150 {d : Nat} {h : AH} (HS : Sh h) {g : G} (ho : GOK g) {F C : Nat} (hs : VS g.n F C) (hl : LnR h g) (hls : LsR h g.n F C) {Q : Option Value → AH → Prop} (K : ∀ h', Fr solP h h' → Sol h' g F C → Q none h') : Cl (d + 4) 150 [.ref 23, .int (nI g.n)] h Q := by
  have hoc := oc_10 F C ho.1
  refine Cl.enter rfl (g150_0 (d + 3) _ h HS Q ?_)
  refine c146 HS ho hs hl hls (fun h1 f1 y1 => ⟨rfl, f1.Sh HS, ?_⟩)
  rw [y1.1, tnI (by omega), y1.2.2.2.1 _ (Nat.le_refl _)]
  refine ⟨ixR_nI (by omega) (by decide), ?_⟩
  exact w150 ho hs K (3 ^ oc g.n F C) h1 (Nat.le_refl _) (f1.Sh HS) y1 (fun c' g1 g2 => by omega) f1
theorem Sol.at0 {h : AH} {g : G} {F C w : Nat} (s : Sol h g F C) (hs : VS g.n F C) (hw : w < 2) : AI h 40 w = b01 (hv g F C w) := by
  have := s.2 0 (Nat.le_refl _) (Nat.pow_pos (by decide)) w hw
  rwa [c0F hs, c0C hs, Nat.mul_zero, Nat.zero_add] at this
theorem w153 {d : Nat} {h : AH} (HS : Sh h) {g : G} (ho : GOK g) {F C w : Nat} (hs : VS g.n F C) (hw : w < 2) (hS : Sol h g F C) {Q : Option Value → AH → Prop} (K : Q (some (.int (fsI (goo g F C w) g.n))) h) : ∀ m j, j + m = oc g.n F C → (∀ k, k < g.n → rk F C k < j → goo g F C w k = false) → Wp (d + 1) 153 2 [.ref 23, .int 0, .int (nI w), .int (nI j), mk0] [] h Q
  | 0, j, hjm, hno => by
    have hoc := oc_10 F C ho.1
    have e : j = oc g.n F C := by omega
    subst e
    have hy := hS.1
    refine g153_2 d _ _ _ h HS Q ⟨fun z => ?_, fun _ => ?_⟩
    · rw [hy.1, nI_ltI (by omega) (by omega)] at z
      omega
    · rwa [fsI_no (fun k hk => ?_)] at K
      cases ho2 : opb F C k with
      | false => unfold goo; rw [ho2]; rfl
      | true => exact hno k hk (rk_lt hk ho2)
  | m + 1, j, hjm, hno => by
    have hoc := oc_10 F C ho.1
    have hn := ho.1
    have hlt : j < oc g.n F C := by omega
    have hy := hS.1
    have h4 := p3_10 (j := j) (by omega)
    have h5 : 0 < 3 ^ j := Nat.pow_pos (by decide)
    have hd0 : dg 0 j = 0 := by
      unfold dg
      rw [Nat.zero_div]
    obtain ⟨o1, o2, o3⟩ := ol_ok hlt
    have hch := chL (c := 0) hw hlt hd0
    rw [c0F hs, c0C hs] at hch
    obtain ⟨x1, x2, x3⟩ := ixw hw hoc hlt hd0 (Nat.pow_pos (by decide))
    have hval : AI h 40 (2 * (0 + (w + 1) * 3 ^ j) + (1 - w)) = b01 (hv g (if w = 0 then F ||| 2 ^ olN g.n F C j else F) (if w = 0 then C else C ||| 2 ^ olN g.n F C j) (1 - w)) := by
      have := hS.2 _ (Nat.zero_le _) x1 (1 - w) (by omega)
      rwa [hch.1, hch.2] at this
    have nx : goo g F C w (olN g.n F C j) = false → Wp (d + 1) 153 2 [.ref 23, .int 0, .int (nI w), .int (nI (j + 1)), mk0] [] h Q := fun hg => w153 HS ho hs hw hS K m (j + 1) (by omega) (fun k hk hr => by
      by_cases e : rk F C k < j
      · exact hno k hk e
      · cases ho2 : opb F C k with
        | false => unfold goo; rw [ho2]; rfl
        | true =>
          have : k = olN g.n F C j := rk_inj ho2 o2 (by omega)
          rw [this]
          exact hg)
    have found : goo g F C w (olN g.n F C j) = true → Q (some (.int (AI h 38 j))) h := fun hg => by
      rw [hy.ol hlt]
      rwa [fsI_at o1 (fun k hk => ?_) hg] at K
      cases ho2 : opb F C k with
      | false => unfold goo; rw [ho2]; rfl
      | true =>
        have := rk_lt hk ho2
        exact hno k (by omega) (by omega)
    have mid : ∀ x, x = nI (w + 1) → Wp (d + 1) 153 38 [.ref 23, .int 0, .int (nI w), .int (nI j), mk0] [.int x, .int 0, .int 2, .ref 40] h Q := by
      intro x hx
      refine g153_38 (d + 1) _ _ _ _ _ _ _ h HS Q ?_
      rw [tnI (by omega), hy.2.2.2.1 j (by omega), show (0 : Int32) = nI 0 from rfl, stepI 0 w _ hw hx, tnI (by omega), hval, nI_1]
      refine ⟨ixR_nI (by omega) (by decide), kS HS 40 rfl, in40 HS (by omega), ?_⟩
      rw [nI_eq (by omega) (by omega), b01_1, show nI 0 = (0 : Int32) from rfl, b01_0]
      refine ⟨fun z => ⟨fun z2 => ⟨ixR_nI (by omega) (by decide), found ?_⟩, fun z2 => nx ?_⟩, fun z => ⟨fun z2 => ⟨ixR_nI (by omega) (by decide), found ?_⟩, fun z2 => nx ?_⟩⟩
      · subst z
        unfold goo
        rw [o2]
        exact z2
      · subst z
        unfold goo
        rw [o2]
        exact ts_nt z2
      · have z1 : w = 1 := by omega
        subst z1
        unfold goo
        rw [o2]
        show (true && !hv g F (C ||| 2 ^ olN g.n F C j) 0) = true
        rw [show hv g F (C ||| 2 ^ olN g.n F C j) 0 = false from z2]
        rfl
      · have z1 : w = 1 := by omega
        subst z1
        unfold goo
        rw [o2]
        show (true && !hv g F (C ||| 2 ^ olN g.n F C j) 0) = false
        rw [show hv g F (C ||| 2 ^ olN g.n F C j) 0 = true from ts_nf z2]
        rfl
    refine g153_2 d _ _ _ h HS Q ⟨fun _ => ⟨ixR_nI (by omega) (by decide), ?_⟩, fun z => absurd (by rw [hy.1, nI_ltI (by omega) (by omega)]; exact hlt) z⟩
    rw [tnI (by omega), hy.2.2.2.1 j (by omega), show (0 : Int32) = nI 0 from rfl, dgp (by decide) (by omega), hd0, nI_eq (by omega) (by omega), nI_eq (by omega) (by omega), nI_eq (by omega) (by omega)]
    refine ⟨by omega, fun _ => ⟨fun z => mid _ (by rw [z]; rfl), fun z => mid _ (by rw [show w = 1 from by omega]; rfl)⟩, fun z => absurd rfl z⟩
theorem c154 {d : Nat} {h : AH} (HS : Sh h) {g : G} (ho : GOK g) {F C w : Nat} (hs : VS g.n F C) (hw : w < 2) (hl : LnR h g) (hN : AI h 23 0 = nI g.n) (hls : LsR h g.n F C) {Q : Option Value → AH → Prop} (K : ∀ h', Fr solP h h' → Q (some (.int (lsg g F C w))) h') : Cl (d + 5) 154 [.ref 23, .int (nI w)] h Q := by
  have e2 : outc g F C < 3 := by unfold outc; split; decide; split <;> decide
  refine Cl.enter rfl (g154_0 (d + 4) _ h HS Q ?_)
  refine c144 HS hl ho hN hs hls ⟨_, rfl, HS, ?_⟩
  rw [nI_eq0 (by omega), hN]
  refine ⟨fun c => ?_, fun c => ?_⟩
  · refine c150 HS ho hs hl hls (fun h1 f1 s1 => ⟨rfl, f1.Sh HS, ?_⟩)
    refine Cl.enter rfl (g153_0 (d + 4) _ _ h1 (f1.Sh HS) _ ?_)
    refine w153 (d := d + 3) (f1.Sh HS) ho hs hw s1 ⟨_, rfl, f1.Sh HS, ?_⟩ (oc g.n F C) 0 (Nat.zero_add _) (fun k hk hr => absurd hr (Nat.not_lt_zero _))
    have kk := K h1 f1
    unfold lsg at kk
    rw [if_pos c] at kk
    exact kk
  · have kk := K h Fr.rfl
    unfold lsg at kk
    rwa [if_neg c] at kk
