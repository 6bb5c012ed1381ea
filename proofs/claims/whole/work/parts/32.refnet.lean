/-! the reference's net: what is reached, sets of lanes, the status -/
def LnR (h : AH) (g : G) : Prop := AI h 23 2 = nI g.e ∧ AI h 23 3 = nI g.f ∧ ∀ i, i < g.n → AI h 24 i = nI (g.a i) ∧ AI h 25 i = nI (g.b i)
def LsR (h : AH) (n F C : Nat) : Prop := ∀ i, i < n → AI h 26 i = nI (sta F C i)
theorem LnR.fr {P : Nat → Nat → Prop} {h h' : AH} {g : G} (s : LnR h g) (hf : Fr P h h') (h1 : ¬ P 23 2 ∧ ¬ P 23 3) (h2 : ∀ j, ¬ P 24 j ∧ ¬ P 25 j) : LnR h' g := by
  obtain ⟨a, b, c⟩ := s
  refine ⟨?_, ?_, fun i hi => ?_⟩
  · rw [hf.I h1.1, a]
  · rw [hf.I h1.2, b]
  · rw [hf.I (h2 i).1, hf.I (h2 i).2]
    exact c i hi
theorem LsR.fr {P : Nat → Nat → Prop} {h h' : AH} {n F C : Nat} (s : LsR h n F C) (hf : Fr P h h') (h1 : ∀ j, ¬ P 26 j) : LsR h' n F C := fun i hi => by
  rw [hf.I (h1 i)]
  exact s i hi
theorem shC {v k : Nat} (hv : v < 2 ^ 31) (hk : k < 31) : ((nI v >>> (nI k &&& 31)) &&& 1) = 1 ↔ v.testBit k = true := by
  rw [pk_shrN hv (nI k &&& 31) k (s_l k (by omega)), show (1 : Int32) = nI 1 from rfl, fa_and, Nat.and_one_is_mod, nI_eq (by omega) (by omega), Nat.testBit_eq_decide_div_mod_eq, decide_eq_true_eq]
theorem or0 (v : Nat) : nI v ||| 0 = nI v := by
  rw [show (0 : Int32) = nI 0 from rfl, fa_or, Nat.or_zero]
theorem meetI {g : G} {v i : Nat} : (v &&& prs g.a g.b i ≠ 0) ↔ (v.testBit (g.a i) = true ∨ v.testBit (g.b i) = true) := by
  rw [meets]
  constructor
  · rintro ⟨p, h1, h2⟩
    rcases prs_bit.mp h2 with rfl | rfl
    · exact Or.inl h1
    · exact Or.inr h1
  · rintro (h | h)
    · exact ⟨_, h, prs_bit.mpr (Or.inl rfl)⟩
    · exact ⟨_, h, prs_bit.mpr (Or.inr rfl)⟩
theorem w141a {d : Nat} {h : AH} (HS : Sh h) {g : G} (hl : LnR h g) (ho : GOK g) {s v : Nat} (hs : s < 2 ^ 31) (hv : v < 64) {Q : Option Value → AH → Prop} (K : (onG g s v = v → Wp (d + 1) 141 8 [.ref 23, mk0, .int (nI s), .int (nI g.n), .int (nI v), .int 0, mk0, mk0, mk0] [] h Q) ∧ (¬ onG g s v = v → Wp (d + 1) 141 8 [.ref 23, mk0, .int (nI s), .int (nI g.n), .int (nI (onG g s v)), .int 1, mk0, mk0, mk0] [] h Q)) : ∀ m i, i + m = g.n → Wp (d + 1) 141 20 [.ref 23, mk0, .int (nI s), .int (nI g.n), .int (nI (onc g.a g.b s i v)), mk0, .int (nI v), .int (nI i), mk0] [] h Q
  | 0, i, hi => by
    have hn := ho.1
    have e : i = g.n := by omega
    have h64 := onG_lt ho (s := s) hv
    refine g141_20 d _ _ _ _ _ h HS Q ⟨fun c => ?_, fun _ => ?_⟩
    · rw [nI_ltI (by omega) (by omega)] at c
      omega
    · rw [e]
      show (nI (onG g s v) = nI v → _) ∧ (¬ nI (onG g s v) = nI v → Wp (d + 1) 141 8 [.ref 23, mk0, .int (nI s), .int (nI g.n), .int (nI (onG g s v)), .int 1, mk0, mk0, mk0] [] h Q)
      rw [nI_eq (by omega) (by omega)]
      refine ⟨fun c => ?_, K.2⟩
      have := K.1 c
      rw [show onc g.a g.b s g.n v = v from c]
      exact this
  | m + 1, i, hi => by
    have hn := ho.1
    have hlt : i < g.n := by omega
    have ih := w141a HS hl ho hs hv K m (i + 1) (by omega)
    obtain ⟨ea, eb⟩ := hl.2.2 i hlt
    obtain ⟨la, lb⟩ := ho.ab i hlt
    have h64 : onc g.a g.b s i v < 64 := onc_lt _ _ (fun j hj => ho.ab j (by omega)) hv
    have nx : ∀ x : Int32, (x = 1 ∧ (onc g.a g.b s i v &&& prs g.a g.b i ≠ 0)) ∨ (x = 0 ∧ ¬ (onc g.a g.b s i v &&& prs g.a g.b i ≠ 0)) → Wp (d + 1) 141 61 [.ref 23, mk0, .int (nI s), .int (nI g.n), .int (nI (onc g.a g.b s i v)), mk0, .int (nI v), .int (nI i), mk0] [.int x] h Q := by
      intro x hx
      refine g141_61 d _ _ _ _ _ _ h HS Q ?_
      rw [shC hs (by omega), tnI (by omega), ea, eb, i1 _ (by omega), i1 _ (by omega), fa_or, fa_or, or0, nI_1]
      have e1 : onc g.a g.b s (i + 1) v = if s.testBit i = true ∧ onc g.a g.b s i v &&& prs g.a g.b i ≠ 0 then onc g.a g.b s i v ||| prs g.a g.b i else onc g.a g.b s i v := rfl
      rw [e1] at ih
      refine ⟨fun c => ⟨fun c2 => ?_, fun c2 => ⟨ixR_nI (by omega) (by decide), ixR_nI (by omega) (by decide), ?_⟩⟩, fun c => ?_⟩
      · rcases hx with ⟨rfl, z⟩ | ⟨-, z⟩
        · exact absurd c2 (by decide)
        · rwa [if_neg (fun q => z q.2)] at ih
      · rcases hx with ⟨-, z⟩ | ⟨rfl, z⟩
        · rwa [if_pos ⟨c, z⟩] at ih
        · exact absurd rfl c2
      · rwa [if_neg (fun q => c q.1)] at ih
    refine g141_20 d _ _ _ _ _ h HS Q ⟨fun _ => ⟨ixR_nI (by omega) (by decide), ?_⟩, fun c => absurd ((nI_ltI (by omega) (by omega)).mpr hlt) c⟩
    rw [tnI (by omega), ea, eb, shC (by omega) (by omega), shC (by omega) (by omega)]
    refine ⟨fun c => nx 1 (Or.inl ⟨rfl, meetI.mpr (Or.inl c)⟩), fun c => ⟨ixR_nI (by omega) (by decide), fun c2 => nx 1 (Or.inl ⟨rfl, meetI.mpr (Or.inr c2)⟩), fun c2 => nx 0 (Or.inr ⟨rfl, fun z => ?_⟩)⟩⟩
    rcases meetI.mp z with q | q
    · exact c q
    · exact c2 q
theorem w141 {d : Nat} {h : AH} (HS : Sh h) {g : G} (hl : LnR h g) (ho : GOK g) {s : Nat} (hs : s < 2 ^ 31) {Q : Option Value → AH → Prop} (K : Q (some (.int (nI (rch g s)))) h) : ∀ m v, 6 ≤ m + pcn v → v < 64 → v.testBit g.e = true → (∀ p, v.testBit p = true → Rch g.n g.a g.b s g.e p) → Wp (d + 1) 141 8 [.ref 23, mk0, .int (nI s), .int (nI g.n), .int (nI v), .int 1, mk0, mk0, mk0] [] h Q := by
  intro m
  induction m with
  | zero =>
    intro v hm hv he hr
    have hc : onG g s v = v := by
      apply Classical.byContradiction
      intro hne
      have := pcn_lt hv (onG_lt ho hv) (fun p hp => onc_sub g.n v p hp) hne
      have := pcn_le (onG g s v)
      omega
    refine g141_8 (d + 1) _ _ _ _ h HS Q ⟨fun z => absurd z (by decide), fun _ => w141a HS hl ho hs hv ⟨fun _ => ?_, fun z => absurd hc z⟩ g.n 0 (Nat.zero_add _)⟩
    refine g141_8 (d + 1) _ _ _ _ h HS Q ⟨fun _ => ?_, fun z => absurd rfl z⟩
    rw [rch_is ho (IsR.of he (onc_closed hc) hr)]
    exact K
  | succ m ih =>
    intro v hm hv he hr
    refine g141_8 (d + 1) _ _ _ _ h HS Q ⟨fun z => absurd z (by decide), fun _ => w141a HS hl ho hs hv ⟨fun hc => ?_, fun hc => ?_⟩ g.n 0 (Nat.zero_add _)⟩
    · refine g141_8 (d + 1) _ _ _ _ h HS Q ⟨fun _ => ?_, fun z => absurd rfl z⟩
      rw [rch_is ho (IsR.of he (onc_closed hc) hr)]
      exact K
    · have h1 := pcn_lt hv (onG_lt ho hv) (fun p hp => onc_sub g.n v p hp) hc
      exact ih _ (by omega) (onG_lt ho hv) (onc_sub g.n v _ he) (Rch.step v hr)
theorem c141 {d : Nat} {h : AH} (HS : Sh h) {g : G} (hl : LnR h g) (ho : GOK g) {s : Nat} (hs : s < 2 ^ 31) {Q : Option Value → AH → Prop} (K : Q (some (.int (nI (rch g s)))) h) : Cl (d + 1) 141 [.ref 23, .int (nI g.e), .int (nI s), .int (nI g.n)] h Q := by
  have he := ho.2.1
  refine Cl.enter rfl (g141_0 (d + 1) _ _ _ h HS Q ?_)
  rw [i1 _ (by omega)]
  refine w141 HS hl ho hs K 6 _ (by omega) (p2_lt64 he) (tb_self _) (fun p hp => ?_)
  rw [tb_two.mp hp]
  exact Rch.self
theorem jnR {h : AH} {g : G} (hl : LnR h g) (ho : GOK g) {s : Nat} : ((nI (rch g s) >>> (AI h 23 3 &&& 31)) &&& 1) = 1 ↔ jn g s = true := by
  have h1 := rch_lt ho s
  have h2 := ho.2.2.1
  rw [hl.2.1, shC (by omega) (by omega)]
  exact Iff.rfl
def b01 (b : Bool) : Int32 := if b = true then 1 else 0
theorem c142 {d : Nat} {h : AH} (HS : Sh h) {g : G} (hl : LnR h g) (ho : GOK g) {s : Nat} (hs : s < 2 ^ 31) {Q : Option Value → AH → Prop} (K : Q (some (.int (b01 (jn g s)))) h) : Cl (d + 2) 142 [.ref 23, .int (nI s), .int (nI g.n)] h Q := by
  refine Cl.enter rfl (g142_0 (d + 1) _ _ h HS Q ?_)
  rw [hl.1]
  refine c141 HS hl ho hs ⟨_, rfl, HS, ?_⟩
  rw [jnR hl ho]
  unfold b01 at K
  refine ⟨fun c => ?_, fun c => ?_⟩
  · rwa [if_pos c] at K
  · rwa [if_neg c] at K
def stm (F C is : Nat) : Nat → Nat := msk (fun i => decide (sta F C i = is))
theorem w143 {d : Nat} {h : AH} (HS : Sh h) {n F C is : Nat} (hn : n ≤ 10) (hN : AI h 23 0 = nI n) (hl : LsR h n F C) (his : is < 3) {Q : Option Value → AH → Prop} (K : Q (some (.int (nI (stm F C is n)))) h) : ∀ m i, i + m = n → Wp d 143 4 [.ref 23, .int (nI is), .int (nI (stm F C is i)), .int (nI i)] [] h Q
  | 0, i, hi => by
    have e : i = n := by omega
    subst e
    refine g143_4 d _ _ _ h HS Q ⟨fun c => ?_, fun _ => K⟩
    rw [ltC rfl hN (by omega) (by omega)] at c
    omega
  | m + 1, i, hi => by
    have hlt : i < n := by omega
    have ih := w143 (d := d) HS hn hN hl his K m (i + 1) (by omega)
    have hs3 := sta_lt F C i
    have e1 : stm F C is (i + 1) = if decide (sta F C i = is) = true then stm F C is i ||| 2 ^ i else stm F C is i := rfl
    refine g143_4 d _ _ _ h HS Q ⟨fun _ => ⟨ixR_nI (by omega) (by decide), ?_⟩, fun c => absurd ((ltC rfl hN (by omega) (by omega)).mpr hlt) c⟩
    rw [tnI (by omega), hl i hlt, nI_eq (by omega) (by omega), i1 _ (by omega), fa_or, or0, nI_1]
    rw [e1] at ih
    refine ⟨fun c => ?_, fun c => ?_⟩
    · rwa [if_pos (decide_eq_true c)] at ih
    · rwa [if_neg (fun z => c (of_decide_eq_true z))] at ih
theorem c143 {d : Nat} {h : AH} (HS : Sh h) {n F C is : Nat} (hn : n ≤ 10) (hN : AI h 23 0 = nI n) (hl : LsR h n F C) (his : is < 3) {Q : Option Value → AH → Prop} (K : Q (some (.int (nI (stm F C is n)))) h) : Cl d 143 [.ref 23, .int (nI is)] h Q :=
  Cl.enter rfl (g143_0 d _ h HS Q (w143 HS hn hN hl his K n 0 (Nat.zero_add _)))
theorem stm0 (F C n : Nat) : stm F C 0 n = opn n F C := by
  unfold stm opn
  apply msk_cong
  intro i _
  have := sta0 (F := F) (C := C) (l := i)
  unfold opb at this
  cases hb : (!F.testBit i && !C.testBit i) with
  | true => rw [hb] at this; exact decide_eq_true (this.mpr rfl)
  | false => rw [hb] at this; exact decide_eq_false (fun z => by cases this.mp z)
theorem stm1 {F C n : Nat} (h : VS n F C) : stm F C 1 n = F := by
  rw [← msk_self h.1]
  apply msk_cong
  intro i _
  rw [msk_self h.1]
  unfold sta
  cases F.testBit i <;> cases C.testBit i <;> rfl
theorem stm2 {F C n : Nat} (h : VS n F C) : stm F C 2 n = C := by
  have e : msk (fun i => C.testBit i) n = C := msk_self h.2.1
  refine Eq.trans (msk_cong (fun i _ => ?_)) e
  have := h.2.2 i
  unfold sta
  cases a : F.testBit i <;> cases b : C.testBit i <;> first | rfl | exact absurd ⟨a, b⟩ this
theorem F_or_opn {F C n : Nat} (h : VS n F C) : F ||| opn n F C = unc n C := by
  apply tb_ext
  intro i
  rw [Nat.testBit_or, opn_tb, unc_tb]
  have := h.2.2 i
  rcases Nat.lt_or_ge i n with z | z
  · rw [decide_eq_true z]
    cases a : F.testBit i <;> cases b : C.testBit i <;> first | rfl | exact absurd ⟨a, b⟩ this
  · rw [decide_eq_false (by omega), tb_ge h.1 z]
    rfl
theorem c144 {d : Nat} {h : AH} (HS : Sh h) {g : G} (hl : LnR h g) (ho : GOK g) (hN : AI h 23 0 = nI g.n) {F C : Nat} (hs : VS g.n F C) (hls : LsR h g.n F C) {Q : Option Value → AH → Prop} (K : Q (some (.int (nI (outc g F C)))) h) : Cl (d + 3) 144 [.ref 23] h Q := by
  have hn := ho.1
  have hF := p2_10 hs.1 hn
  have hU := p2_10 (unc_lt g.n C) hn
  refine Cl.enter rfl (g144_0 (d + 1) h HS Q ?_)
  refine c143 HS hn hN hls (is := 1) (by decide) ⟨_, rfl, HS, ?_⟩
  rw [stm1 hs, hl.1, hN]
  refine c141 HS hl ho (by omega) ⟨_, rfl, HS, ?_⟩
  rw [jnR hl ho]
  unfold outc at K
  refine ⟨fun c => ?_, fun c => ?_⟩
  · rwa [if_pos c] at K
  · rw [if_neg c] at K
    refine c143 HS hn hN hls (is := 1) (by decide) ⟨_, rfl, HS, ?_⟩
    refine c143 HS hn hN hls (is := 0) (by decide) ⟨_, rfl, HS, ?_⟩
    rw [stm1 hs, stm0, fa_or, F_or_opn hs, hl.1, hN]
    refine c141 HS hl ho (by omega) ⟨_, rfl, HS, ?_⟩
    rw [jnR hl ho]
    refine ⟨fun c2 => ?_, fun c2 => ?_⟩
    · rwa [if_pos c2] at K
    · rwa [if_neg c2] at K
