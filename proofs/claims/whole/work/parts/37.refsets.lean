/-! the reference's sets of lanes -/
def IR (h : AH) (g : G) (F C : Nat) : Prop := LnR h g ∧ AI h 23 0 = nI g.n ∧ LsR h g.n F C
theorem prI {h : AH} {g : G} (hl : LnR h g) (ho : GOK g) {i : Nat} (hi : i < g.n) : ((1 : Int32) <<< (AI h 24 i &&& 31)) ||| ((1 : Int32) <<< (AI h 25 i &&& 31)) = nI (prs g.a g.b i) := by
  obtain ⟨a, b⟩ := hl.2.2 i hi
  obtain ⟨la, lb⟩ := ho.ab i hi
  rw [a, b, i1 _ (by omega), i1 _ (by omega), fa_or]
  rfl
theorem w163b {d : Nat} {h : AH} (HS : Sh h) {g : G} {F C : Nat} (R : IR h g F C) (ho : GOK g) (hs : VS g.n F C) {Q : Option Value → AH → Prop} (K : Q (some (.int (fsI (wyp g F C) (2 ^ g.n)))) h) : ∀ m i, i + m = 2 ^ g.n → (∀ k, k < i → wyp g F C k = false) → Wp (d + 2) 163 64 [.ref 23, .int (nI (plc g g.n)), .int (nI (unc g.n C)), .int (nI i), mk0, mk0] [] h Q
  | 0, i, hi, hno => by
    have hn := ho.1
    have h10 : 2 ^ g.n ≤ 2 ^ 10 := p2_le hn
    have e : i = 2 ^ g.n := by omega
    subst e
    refine g163_64 (d + 2) _ _ _ h HS Q ⟨fun c => ?_, fun _ => ?_⟩
    · rw [R.2.1, i1 _ (by omega), nI_ltI (by omega) (by omega)] at c
      omega
    · rwa [fsI_no hno] at K
  | m + 1, i, hi, hno => by
    have hn := ho.1
    have h10 : 2 ^ g.n ≤ 2 ^ 10 := p2_le hn
    have hlt : i < 2 ^ g.n := by omega
    have hu := p2_10 (unc_lt g.n C) hn
    have hpl := plc_lt ho g.n (Nat.le_refl _)
    have hd : dif (unc g.n C) i ||| F < 2 ^ g.n := Nat.or_lt_two_pow (dif_lt (unc_lt _ _) hn) hs.1
    have nx : wyp g F C i = false → Wp (d + 2) 163 64 [.ref 23, .int (nI (plc g g.n)), .int (nI (unc g.n C)), .int (nI (i + 1)), mk0, mk0] [] h Q := fun hg => w163b HS R ho hs K m (i + 1) (by omega) (fun k hk => by
      by_cases e : k = i
      · rw [e]; exact hg
      · exact hno k (by omega))
    have spC : ∀ {s}, (nI (rch g s) &&& nI (plc g g.n)) = nI (plc g g.n) ↔ spn g s (plc g g.n) = true := fun {s} => by
      have := rch_lt ho s
      rw [fa_and, nI_eq (Nat.lt_of_le_of_lt Nat.and_le_left (by omega)) (by omega)]
      unfold spn
      rw [decide_eq_true_eq]
    have mid : ∀ x, x = b01 (sub i (unc g.n C)) → Wp (d + 2) 163 87 [.ref 23, .int (nI (plc g g.n)), .int (nI (unc g.n C)), .int (nI i), mk0, mk0] [.int x] h Q := by
      intro x hx
      refine g163_87 (d + 1) _ _ _ _ h HS Q ?_
      refine c143 HS hn R.2.1 R.2.2 (is := 1) (by decide) ⟨_, rfl, HS, ?_⟩
      rw [stm1 hs, hx, b01_0, nI_1, R.1.1, R.2.1]
      refine ⟨fun z => nx ?_, fun z => ?_⟩
      · unfold wyp
        rw [z]
        rfl
      · have z1 := ts_nf z
        refine c141 HS R.1 ho (by omega) ⟨_, rfl, HS, ?_⟩
        rw [spC, dif_nI hu, fa_or, R.1.1, R.2.1]
        refine ⟨fun z2 => ?_, fun z2 => nx ?_⟩
        · refine c141 HS R.1 ho (by omega) ⟨_, rfl, HS, ?_⟩
          rw [spC]
          refine ⟨fun z3 => ?_, fun z3 => nx ?_⟩
          · rwa [fsI_at hlt hno (by
              unfold wyp
              rw [z1, z2, z3]
              rfl)] at K
          · unfold wyp
            rw [ts_nt z3]
            simp
        · unfold wyp
          rw [ts_nt z2]
          simp
    refine g163_64 (d + 2) _ _ _ h HS Q ⟨fun _ => ?_, fun c => absurd (by rw [R.2.1, i1 _ (by omega), nI_ltI (by omega) (by omega)]; exact hlt) c⟩
    rw [subC (by omega)]
    exact ⟨fun z => mid _ (by rw [z]; rfl), fun z => mid _ (by rw [ts_nt z]; rfl)⟩
theorem w163a {d : Nat} {h : AH} (HS : Sh h) {g : G} {F C : Nat} (R : IR h g F C) (ho : GOK g) (hs : VS g.n F C) {Q : Option Value → AH → Prop} (K : Q (some (.int (fsI (wyp g F C) (2 ^ g.n)))) h) : ∀ m i, i + m = g.n → Wp (d + 2) 163 16 [.ref 23, .int (nI (plc g i)), .int (nI i), mk0, mk0, mk0] [] h Q
  | 0, i, hi => by
    have hn := ho.1
    have e : i = g.n := by omega
    subst e
    refine g163_16 (d + 1) _ _ h HS Q ⟨fun c => ?_, fun _ => ?_⟩
    · rw [R.2.1, nI_ltI (by omega) (by omega)] at c
      omega
    · refine c143 HS hn R.2.1 R.2.2 (is := 0) (by decide) ⟨_, rfl, HS, ?_⟩
      refine c143 HS hn R.2.1 R.2.2 (is := 1) (by decide) ⟨_, rfl, HS, ?_⟩
      rw [stm0, stm1 hs, fa_or, Nat.or_comm, F_or_opn hs]
      exact w163b HS R ho hs K (2 ^ g.n) 0 (Nat.zero_add _) (fun k hk => absurd hk (Nat.not_lt_zero k))
  | m + 1, i, hi => by
    have hn := ho.1
    have hlt : i < g.n := by omega
    refine g163_16 (d + 1) _ _ h HS Q ⟨fun _ => ⟨ixR_nI (by omega) (by decide), ixR_nI (by omega) (by decide), ?_⟩, fun c => absurd (by rw [R.2.1, nI_ltI (by omega) (by omega)]; exact hlt) c⟩
    rw [tnI (by omega), prI R.1 ho hlt, fa_or, nI_1]
    exact w163a HS R ho hs K m (i + 1) (by omega)
theorem c163 {d : Nat} {h : AH} (HS : Sh h) {g : G} {F C : Nat} (R : IR h g F C) (ho : GOK g) (hs : VS g.n F C) {Q : Option Value → AH → Prop} (K : Q (some (.int (fsI (wyp g F C) (2 ^ g.n)))) h) : Cl (d + 2) 163 [.ref 23] h Q := by
  have h1 := ho.2.1
  have h2 := ho.2.2.1
  refine Cl.enter rfl (g163_0 (d + 2) h HS Q ?_)
  rw [R.1.1, R.1.2.1, i1 _ (by omega), i1 _ (by omega), fa_or]
  exact w163a HS R ho hs K g.n 0 (Nat.zero_add _)
theorem w165 {d : Nat} {h : AH} (HS : Sh h) {s : Nat} (hs : s < 1024) {Q : Option Value → AH → Prop} (K : Q (some (.int (nI (pop s)))) h) : ∀ m i, i + m = 10 → Wp d 165 4 [.int (nI s), .int (nI (fa_cnt (fun i => s.testBit i) i)), .int (nI i)] [] h Q
  | 0, i, hi => by
    have e : i = 10 := by omega
    subst e
    exact g165_4 d _ _ _ h HS Q ⟨fun z => absurd z (by decide), fun _ => K⟩
  | m + 1, i, hi => by
    have ih := w165 (d := d) HS hs K m (i + 1) (by omega)
    refine g165_4 d _ _ _ h HS Q ⟨fun _ => ?_, fun c => absurd ((ltC (y := 10) (b := 10) rfl rfl (by omega) (by omega)).mpr (by omega)) c⟩
    rw [pk_shrN (by omega) (nI i &&& 31) i (s_l i (by omega)), show (1 : Int32) = nI 1 from rfl, fa_and, Nat.and_one_is_mod, nI_add, show nI i + nI 1 = nI (i + 1) from nI_1 i]
    have e := Nat.testBit_eq_decide_div_mod_eq (x := s) (i := i)
    cases hb : s.testBit i with
    | true =>
      rw [hb] at e
      have e2 : s / 2 ^ i % 2 = 1 := of_decide_eq_true e.symm
      rw [fa_cnt_yes (p := fun i => s.testBit i) hb] at ih
      rw [e2]
      exact ih
    | false =>
      rw [hb] at e
      have e2 : ¬ s / 2 ^ i % 2 = 1 := of_decide_eq_false e.symm
      rw [fa_cnt_no (p := fun i => s.testBit i) hb] at ih
      rw [show s / 2 ^ i % 2 = 0 from by omega]
      exact ih
theorem c165 {d : Nat} {h : AH} (HS : Sh h) {s : Nat} (hs : s < 1024) {Q : Option Value → AH → Prop} (K : Q (some (.int (nI (pop s)))) h) : Cl d 165 [.int (nI s)] h Q :=
  Cl.enter rfl (g165_0 d _ h HS Q (w165 HS hs K 10 0 rfl))
/-- the answer out of a best set -/
def bsA (m : Nat → Nat) (what : Nat) : Option Nat → Int32
  | none => -1
  | some b => if what = 1 then nI b else nI (m b)
theorem nI_m1 {p : Nat} (h : p < 2 ^ 31) : ¬ nI p = -1 := by
  intro z
  have : nI p < 0 := by rw [z]; decide
  exact nI_pos h this
theorem F_dif {n F C s : Nat} (hn : n ≤ 10) (h : VS n F C) (hs : sub s (opn n F C) = true) : F ||| dif (opn n F C) s = dif (unc n C) s := by
  apply tb_ext
  intro i
  rw [Nat.testBit_or, dif_tb (p2_10 (opn_lt _ _ _) hn), dif_tb (p2_10 (unc_lt _ _) hn), opn_tb, unc_tb]
  have h1 := h.2.2 i
  rcases Nat.lt_or_ge i n with z | z
  · rw [decide_eq_true z]
    cases hsi : s.testBit i with
    | false => cases a : F.testBit i <;> cases b : C.testBit i <;> simp [a, b] at h1 ⊢
    | true =>
      have := sub_tb hs hsi
      rw [opn_tb] at this
      cases a : F.testBit i <;> cases b : C.testBit i <;> simp [a, b] at this ⊢
  · rw [decide_eq_false (by omega), tb_ge h.1 z]
    simp
theorem w166 {d : Nat} {h : AH} (HS : Sh h) {g : G} {F C what : Nat} (R : IR h g F C) (ho : GOK g) (hs : VS g.n F C) (hw : what < 2) {Q : Option Value → AH → Prop} (K : Q (some (.int (bsA pop what (ptn g F C)))) h) : ∀ m i, i + m = 2 ^ g.n → Wp (d + 3) 166 11 [.ref 23, .int (nI what), .int (nI (opn g.n F C)), .int (oI (lst (ptp g F C) pop i)), .int (nI i), mk0] [] h Q
  | 0, i, hi => by
    have hn := ho.1
    have h10 : 2 ^ g.n ≤ 2 ^ 10 := p2_le hn
    have e : i = 2 ^ g.n := by omega
    subst e
    refine g166_11 (d + 1) _ _ _ _ h HS Q ⟨fun c => ?_, fun _ => ?_⟩
    · rw [R.2.1, i1 _ (by omega), nI_ltI (by omega) (by omega)] at c
      omega
    · unfold ptn at K
      cases hl : lst (ptp g F C) pop (2 ^ g.n) with
      | none =>
        rw [hl] at K
        exact ⟨fun _ => K, fun z => absurd rfl z⟩
      | some b =>
        rw [hl] at K
        have hb := (lst_in hl).1
        have nm := nI_m1 (p := b) (by omega)
        refine ⟨fun z => absurd z nm, fun _ => ⟨fun z => ?_, fun z => ?_⟩⟩
        · rw [eqC (y := 1) (b := 1) rfl rfl (by omega) (by omega)] at z
          have K2 : Q (some (.int (if what = 1 then nI b else nI (pop b)))) h := K
          rwa [if_pos z] at K2
        · rw [eqC (y := 1) (b := 1) rfl rfl (by omega) (by omega)] at z
          have K2 : Q (some (.int (if what = 1 then nI b else nI (pop b)))) h := K
          rw [if_neg z] at K2
          exact c165 HS (by omega) ⟨_, rfl, HS, K2⟩
  | m + 1, i, hi => by
    have hn := ho.1
    have h10 : 2 ^ g.n ≤ 2 ^ 10 := p2_le hn
    have hlt : i < 2 ^ g.n := by omega
    have ho1 := p2_10 (opn_lt g.n F C) hn
    have hun2 := p2_10 (dif_lt (s := i) (unc_lt g.n C) hn) hn
    have ih := w166 (d := d) HS R ho hs hw K m (i + 1) (by omega)
    have same : lst (ptp g F C) pop (i + 1) = lst (ptp g F C) pop i → Wp (d + 3) 166 11 [.ref 23, .int (nI what), .int (nI (opn g.n F C)), .int (oI (lst (ptp g F C) pop i)), .int (nI (i + 1)), mk0] [] h Q := fun e => by rwa [e] at ih
    have mid : ∀ x, x = b01 (ptp g F C i) → Wp (d + 3) 166 59 [.ref 23, .int (nI what), .int (nI (opn g.n F C)), .int (oI (lst (ptp g F C) pop i)), .int (nI i), mk0] [.int x] h Q := by
      intro x hx
      refine g166_59 (d + 2) _ _ _ _ _ h HS Q ?_
      rw [hx, b01_0, nI_1]
      refine ⟨fun z => same (lst_no z), fun z => ?_⟩
      have z1 := ts_nf z
      cases hl : lst (ptp g F C) pop i with
      | none =>
        have e : lst (ptp g F C) pop (i + 1) = some i := lst_yes (b := 0) z1 (fun b' hb' => by rw [hl] at hb'; cases hb') (fun q => absurd hl q)
        rw [e] at ih
        exact ⟨fun _ => ih, fun q => absurd rfl q⟩
      | some b =>
        have hb := (lst_in hl).1
        have nm := nI_m1 (p := b) (by omega)
        refine ⟨fun q => absurd q nm, fun _ => ?_⟩
        refine c165 HS (by omega) ⟨_, rfl, HS, ?_⟩
        refine c165 HS (by omega) ⟨_, rfl, HS, ?_⟩
        have p1 := pop_le i
        have p2 := pop_le b
        rw [nI_ltI (by omega) (by omega)]
        refine ⟨fun q => ?_, fun q => ?_⟩
        · have e : lst (ptp g F C) pop (i + 1) = some i := lst_yes (b := pop b) z1 (fun b' hb' => by rw [hl] at hb'; cases hb'; rfl) (fun _ => q)
          rw [e] at ih
          exact ih
        · have := same (lst_keep hl q)
          rw [hl] at this
          exact this
    refine g166_11 (d + 1) _ _ _ _ h HS Q ⟨fun _ => ?_, fun c => absurd (by rw [R.2.1, i1 _ (by omega), nI_ltI (by omega) (by omega)]; exact hlt) c⟩
    rw [subC (by omega)]
    refine ⟨fun z => ?_, fun z => mid _ ?_⟩
    · refine c143 HS hn R.2.1 R.2.2 (is := 1) (by decide) ⟨_, rfl, HS, ?_⟩
      rw [stm1 hs, dif_nI ho1, fa_or, F_dif hn hs z, R.1.1, R.2.1]
      refine c141 HS R.1 ho (by omega) ⟨_, rfl, HS, ?_⟩
      rw [jnR R.1 ho]
      refine ⟨fun z2 => mid _ ?_, fun z2 => mid _ ?_⟩
      · unfold ptp
        rw [z, z2]
        rfl
      · unfold ptp
        rw [z, ts_nt z2]
        rfl
    · unfold ptp
      rw [ts_nt z]
      rfl
theorem c166 {d : Nat} {h : AH} (HS : Sh h) {g : G} {F C what : Nat} (R : IR h g F C) (ho : GOK g) (hs : VS g.n F C) (hw : what < 2) {Q : Option Value → AH → Prop} (K : Q (some (.int (bsA pop what (ptn g F C)))) h) : Cl (d + 3) 166 [.ref 23, .int (nI what)] h Q := by
  refine Cl.enter rfl (g166_0 (d + 2) _ h HS Q ?_)
  refine c143 HS ho.1 R.2.1 R.2.2 (is := 0) (by decide) ⟨_, rfl, HS, ?_⟩
  rw [stm0]
  exact w166 HS R ho hs hw K (2 ^ g.n) 0 (Nat.zero_add _)
/-- a number out of its figures -/
def smd (f : Nat → Nat) : Nat → Nat
  | 0 => 0
  | m + 1 => smd f m + f m * 3 ^ m
theorem smd_lt {f : Nat → Nat} (hf : ∀ j, f j < 3) : ∀ m, smd f m < 3 ^ m
  | 0 => Nat.one_pos
  | m + 1 => by
    have ih := smd_lt hf m
    have h1 : f m * 3 ^ m ≤ 2 * 3 ^ m := Nat.mul_le_mul_right _ (by have := hf m; omega)
    unfold smd
    rw [Nat.pow_succ]
    omega
theorem dg_small {c m : Nat} (h : c < 3 ^ m) : ∀ j, m ≤ j → dg c j = 0 := fun j hj => by
  unfold dg
  rw [Nat.div_eq_of_lt (Nat.lt_of_lt_of_le h (p3_le hj))]
theorem smd_dg {f : Nat → Nat} (hf : ∀ j, f j < 3) : ∀ m j, j < m → dg (smd f m) j = f j
  | 0, j, hj => absurd hj (Nat.not_lt_zero j)
  | m + 1, j, hj => by
    show dg (smd f m + f m * 3 ^ m) j = f j
    rw [dg_add m (dg_small (smd_lt hf m) m (Nat.le_refl _)) (hf m) j]
    by_cases e : j = m
    · rw [if_pos e, e]
    · rw [if_neg e]
      exact smd_dg hf m j (by omega)
def bdg (n F C s : Nat) : Nat → Nat := fun j => if s.testBit (olN n F C j) = true then 1 else 0
theorem bdg_lt (n F C s j : Nat) : bdg n F C s j < 3 := by
  unfold bdg
  split <;> decide
theorem bdF {n F C s : Nat} (hs : VS n F C) (hb : sub s (opn n F C) = true) : cF n F C (smd (bdg n F C s) (oc n F C)) = F ||| s ∧ cC n F C (smd (bdg n F C s) (oc n F C)) = C := by
  have key : ∀ i, i < n → opb F C i = true → dg (smd (bdg n F C s) (oc n F C)) (rk F C i) = if s.testBit i = true then 1 else 0 := by
    intro i hi hp
    rw [smd_dg (bdg_lt n F C s) (oc n F C) _ (rk_lt hi hp)]
    unfold bdg
    rw [ol_rk hi hp]
  have sl : s < 2 ^ n := Nat.lt_of_le_of_lt (sub_le hb) (opn_lt n F C)
  constructor
  · apply tb_ext
    intro i
    rw [cF_tb, Nat.testBit_or]
    rcases Nat.lt_or_ge i n with z | z
    · rw [decide_eq_true z, Bool.true_and]
      cases hp : opb F C i with
      | true =>
        rw [key i z hp]
        cases s.testBit i <;> simp
      | false =>
        cases hsi : s.testBit i with
        | false => simp
        | true =>
          have := sub_tb hb hsi
          rw [opn_tb, decide_eq_true z] at this
          unfold opb at hp
          rw [hp] at this
          cases this
    · rw [decide_eq_false (by omega), tb_ge hs.1 z, tb_ge sl z]
      rfl
  · apply tb_ext
    intro i
    rw [cC_tb]
    rcases Nat.lt_or_ge i n with z | z
    · rw [decide_eq_true z, Bool.true_and]
      cases hp : opb F C i with
      | true =>
        rw [key i z hp]
        cases s.testBit i <;> simp
      | false => simp
    · rw [decide_eq_false (by omega), tb_ge hs.2.1 z]
      rfl
def inB (F C s : Nat) : Nat → Bool
  | 0 => true
  | k + 1 => inB F C s k && (!s.testBit k || opb F C k)
theorem inB_sub {n F C s : Nat} (h : s < 2 ^ n) : inB F C s n = sub s (opn n F C) := by
  have key : ∀ m, inB F C s m = true ↔ ∀ k, k < m → s.testBit k = true → opb F C k = true := by
    intro m
    induction m with
    | zero => exact ⟨fun _ k hk => absurd hk (Nat.not_lt_zero k), fun _ => rfl⟩
    | succ m ih =>
      unfold inB
      rw [Bool.and_eq_true, ih]
      constructor
      · rintro ⟨a, b⟩ k hk hb
        by_cases e : k = m
        · rw [e] at hb ⊢
          rw [hb] at b
          exact b
        · exact a k (by omega) hb
      · intro a
        refine ⟨fun k hk => a k (by omega), ?_⟩
        cases hb : s.testBit m with
        | true => rw [a m (by omega) hb]; rfl
        | false => rfl
  apply Bool.eq_iff_iff.mpr
  rw [key]
  constructor
  · intro a
    refine sub_of (fun i hi => ?_)
    have hl := tb_lt h hi
    rw [opn_tb, decide_eq_true hl]
    exact a i hl hi
  · intro a k hk hb
    have := sub_tb a hb
    rw [opn_tb, decide_eq_true hk] at this
    exact this
def CoR (h : AH) (g : G) : Prop := ∀ i, i < g.n → AI h 27 i = nI (g.c i)
def bgA (g : G) (F C what : Nat) : Int32 := bsA (fun s => csm g.c s g.n) what (bgt g F C)
theorem w171 {d : Nat} {h : AH} (HS : Sh h) {g : G} {F C what : Nat} (R : IR h g F C) (hcs : CoR h g) (ho : GOK g) (hs : VS g.n F C) (hw : what < 2) (hS : Sol h g F C) {Q : Option Value → AH → Prop} (K : Q (some (.int (bgA g F C what))) h) : ∀ m i (b : Nat), i + m = 2 ^ g.n → (∀ b', lst (bgp g F C) (fun s => csm g.c s g.n) i = some b' → b = csm g.c b' g.n) → (lst (bgp g F C) (fun s => csm g.c s g.n) i = none → b = 1048576) → b ≤ 1048576 → Wp (d + 1) 171 16 [.ref 23, .int (nI what), .int (oI (lst (bgp g F C) (fun s => csm g.c s g.n) i)), .int (nI b), .int (nI i), mk0, mk0, mk0, mk0] [] h Q := by
  have hn := ho.1
  have h10 : 2 ^ g.n ≤ 2 ^ 10 := p2_le hn
  have hoc := oc_10 F C hn
  have q3 := p3_10 hoc
  intro m
  induction m with
  | zero =>
    intro i b hi hb1 hb2 hb3
    have e : i = 2 ^ g.n := by omega
    subst e
    refine g171_16 (d + 1) _ _ _ _ h HS Q ⟨fun c => ?_, fun _ => ?_⟩
    · rw [R.2.1, i1 _ (by omega), nI_ltI (by omega) (by omega)] at c
      omega
    · unfold bgA bgt at K
      cases hl : lst (bgp g F C) (fun s => csm g.c s g.n) (2 ^ g.n) with
      | none =>
        rw [hl] at K
        exact ⟨fun _ => K, fun z => absurd rfl z⟩
      | some b' =>
        rw [hl] at K
        have hb := (lst_in hl).1
        have nm := nI_m1 (p := b') (by omega)
        have K2 : Q (some (.int (if what = 1 then nI b' else nI (csm g.c b' g.n)))) h := K
        rw [← hb1 b' hl] at K2
        refine ⟨fun z => absurd z nm, fun _ => ⟨fun z => ?_, fun z => ?_⟩⟩
        · rw [eqC (y := 1) (b := 1) rfl rfl (by omega) (by omega)] at z
          rwa [if_pos z] at K2
        · rw [eqC (y := 1) (b := 1) rfl rfl (by omega) (by omega)] at z
          rwa [if_neg z] at K2
  | succ m ih =>
    intro i b hi hb1 hb2 hb3
    have hlt : i < 2 ^ g.n := by omega
    have hcl : csm g.c i g.n ≤ 90 := by
      have := csm_le ho i g.n (Nat.le_refl _)
      omega
    have same : lst (bgp g F C) (fun s => csm g.c s g.n) (i + 1) = lst (bgp g F C) (fun s => csm g.c s g.n) i → Wp (d + 1) 171 16 [.ref 23, .int (nI what), .int (oI (lst (bgp g F C) (fun s => csm g.c s g.n) i)), .int (nI b), .int (nI (i + 1)), mk0, mk0, mk0, mk0] [] h Q := fun e => by
      have := ih (i + 1) b (by omega) (by rw [e]; exact hb1) (by rw [e]; exact hb2) hb3
      rwa [e] at this
    -- what is done with a set, its code and cost
    have fin : Wp (d + 1) 171 115 [.ref 23, .int (nI what), .int (oI (lst (bgp g F C) (fun s => csm g.c s g.n) i)), .int (nI b), .int (nI i), .int (nI (smd (bdg g.n F C i) (oc g.n F C))), .int (nI (csm g.c i g.n)), .int (b01 (inB F C i g.n)), .int (nI (oc g.n F C))] [] h Q := by
      have hc := smd_lt (bdg_lt g.n F C i) (oc g.n F C)
      have eix : 2 * nI (smd (bdg g.n F C i) (oc g.n F C)) + 1 = nI (2 * smd (bdg g.n F C i) (oc g.n F C) + 1) := by
        rw [show (2 : Int32) = nI 2 from rfl, pk_mul, nI_1]
      refine g171_115 d _ _ _ _ _ _ _ _ h HS Q ⟨fun c => ?_, fun _ => ?_⟩
      · rw [hS.1.1, nI_ltI (by omega) (by omega)] at c
        omega
      · rw [b01_0, eix, tnI (by omega), hS.2 _ (Nat.zero_le _) hc 1 (by decide), b01_0, nI_1, nI_ltI (by omega) (by omega), inB_sub hlt]
        refine ⟨fun z => same (lst_no ?_), fun z => ⟨fun z2 => ⟨ixR_nI (by omega) (by decide), fun z3 => same (lst_no ?_), fun z3 => ?_⟩, fun z2 => ?_⟩⟩
        · unfold bgp
          rw [z]
          rfl
        · have zz := ts_nf z
          obtain ⟨e1, e2⟩ := bdF hs zz
          rw [e1, e2] at z3
          unfold bgp
          rw [z3]
          simp
        · have zz := ts_nf z
          obtain ⟨e1, e2⟩ := bdF hs zz
          rw [e1, e2] at z3
          have hp : bgp g F C i = true := by
            unfold bgp
            rw [zz, ts_nf z3]
            rfl
          have e : lst (bgp g F C) (fun s => csm g.c s g.n) (i + 1) = some i := lst_yes (m := fun s => csm g.c s g.n) hp hb1 (fun _ => z2)
          have := ih (i + 1) (csm g.c i g.n) (by omega) (fun b' hb' => by rw [e] at hb'; cases hb'; rfl) (fun q => by rw [e] at q; cases q) (by omega)
          rwa [e] at this
        · refine same ?_
          cases hl : lst (bgp g F C) (fun s => csm g.c s g.n) i with
          | none => rw [hb2 hl] at z2; omega
          | some b' =>
            rw [hb1 b' hl] at z2
            exact (lst_keep hl z2).trans hl
    have codes : ∀ m2 j, j + m2 = oc g.n F C → Wp (d + 1) 171 115 [.ref 23, .int (nI what), .int (oI (lst (bgp g F C) (fun s => csm g.c s g.n) i)), .int (nI b), .int (nI i), .int (nI (smd (bdg g.n F C i) j)), .int (nI (csm g.c i g.n)), .int (b01 (inB F C i g.n)), .int (nI j)] [] h Q := by
      intro m2
      induction m2 with
      | zero =>
        intro j hj
        have e : j = oc g.n F C := hj
        rw [e]
        exact fin
      | succ m2 ih2 =>
        intro j hj
        have hjl : j < oc g.n F C := by omega
        have hol := hS.1.ol hjl
        have hol2 := (ol_ok hjl).1
        have nx := ih2 (j + 1) (by omega)
        have e1 : smd (bdg g.n F C i) (j + 1) = smd (bdg g.n F C i) j + bdg g.n F C i j * 3 ^ j := rfl
        rw [e1] at nx
        refine g171_115 d _ _ _ _ _ _ _ _ h HS Q ⟨fun _ => ⟨ixR_nI (by omega) (by decide), ?_⟩, fun c => absurd (by rw [hS.1.1, nI_ltI (by omega) (by omega)]; exact hjl) c⟩
        rw [tnI (by omega), hol, hS.1.2.2.2.1 j (by omega), shC (by omega) (by omega), nI_add, nI_1, show (0 : Int32) = nI 0 from rfl, nI_add]
        refine ⟨fun z => ⟨ixR_nI (by omega) (by decide), ?_⟩, fun z => ?_⟩
        · rw [show bdg g.n F C i j = 1 from if_pos z, Nat.one_mul] at nx
          exact nx
        · rw [show bdg g.n F C i j = 0 from if_neg z, Nat.zero_mul] at nx
          exact nx
    have lanes : ∀ m2 k, k + m2 = g.n → Wp (d + 1) 171 39 [.ref 23, .int (nI what), .int (oI (lst (bgp g F C) (fun s => csm g.c s g.n) i)), .int (nI b), .int (nI i), .int 0, .int (nI (csm g.c i k)), .int (b01 (inB F C i k)), .int (nI k)] [] h Q := by
      intro m2
      induction m2 with
      | zero =>
        intro k hk
        have e : k = g.n := hk
        subst e
        refine g171_39 d _ _ _ _ _ _ _ _ h HS Q ⟨fun c => ?_, fun _ => codes (oc g.n F C) 0 (Nat.zero_add _)⟩
        rw [R.2.1, nI_ltI (by omega) (by omega)] at c
        omega
      | succ m2 ih2 =>
        intro k hk
        have hkl : k < g.n := by omega
        have nx := ih2 (k + 1) (by omega)
        have hst := sta_lt F C k
        have e2 : csm g.c i (k + 1) = if i.testBit k then csm g.c i k + g.c k else csm g.c i k := rfl
        have mid : ∀ x, x = b01 (inB F C i (k + 1)) → Wp (d + 1) 171 78 [.ref 23, .int (nI what), .int (oI (lst (bgp g F C) (fun s => csm g.c s g.n) i)), .int (nI b), .int (nI i), .int 0, .int (nI (csm g.c i k)), mk0, .int (nI k)] [.int x] h Q := by
          intro x hx
          refine g171_78 d _ _ _ _ _ _ _ _ h HS Q ?_
          rw [hx, shC (by omega) (by omega), tnI (by omega), hcs k hkl, nI_add, nI_1, show (0 : Int32) = nI 0 from rfl, nI_add]
          rw [e2] at nx
          refine ⟨fun z => ⟨ixR_nI (by omega) (by decide), ?_⟩, fun z => ?_⟩
          · rwa [if_pos z] at nx
          · rwa [if_neg z] at nx
        have e1 : inB F C i (k + 1) = (inB F C i k && (!i.testBit k || opb F C k)) := rfl
        refine g171_39 d _ _ _ _ _ _ _ _ h HS Q ⟨fun _ => ?_, fun c => absurd (by rw [R.2.1, nI_ltI (by omega) (by omega)]; exact hkl) c⟩
        rw [b01_0, shC (by omega) (by omega), tnI (by omega), R.2.2 k hkl, nI_eq0 (by omega), sta0]
        refine ⟨fun z => mid _ ?_, fun z => ⟨fun z2 => ⟨ixR_nI (by omega) (by decide), fun z3 => mid _ ?_, fun z3 => mid _ ?_⟩, fun z2 => mid _ ?_⟩⟩
        · rw [e1, z]; rfl
        · rw [e1, ts_nf z, z2, z3]; rfl
        · rw [e1, ts_nf z, z2, ts_nt z3]; rfl
        · rw [e1, ts_nf z, ts_nt z2]; rfl
    refine g171_16 (d + 1) _ _ _ _ h HS Q ⟨fun _ => lanes g.n 0 (Nat.zero_add _), fun c => absurd (by rw [R.2.1, i1 _ (by omega), nI_ltI (by omega) (by omega)]; exact hlt) c⟩
theorem IR.sol {h h' : AH} {g : G} {F C : Nat} (R : IR h g F C) (hf : Fr solP h h') : IR h' g F C := ⟨R.1.sol hf, by rw [hf.I (by rintro (⟨-, z, -⟩ | ⟨z, -⟩) <;> omega)]; exact R.2.1, R.2.2.sol hf⟩
theorem c171 {d : Nat} {h : AH} (HS : Sh h) {g : G} {F C what : Nat} (R : IR h g F C) (hcs : CoR h g) (ho : GOK g) (hs : VS g.n F C) (hw : what < 2) {Q : Option Value → AH → Prop} (K : ∀ h', Fr solP h h' → Q (some (.int (bgA g F C what))) h') : Cl (d + 5) 171 [.ref 23, .int (nI what)] h Q := by
  refine Cl.enter rfl (g171_0 (d + 4) _ h HS Q ?_)
  rw [R.2.1]
  refine c150 HS ho hs R.1 R.2.2 (fun h1 f1 s1 => ⟨rfl, f1.Sh HS, ?_⟩)
  refine w171 (f1.Sh HS) (R.sol f1) (fun i hi => ?_) ho hs hw s1 (K h1 f1) (2 ^ g.n) 0 1048576 (Nat.zero_add _) (fun b' hb' => by cases hb') (fun _ => rfl) (Nat.le_refl _)
  rw [f1.I (by rintro (⟨z, -⟩ | ⟨z, -⟩) <;> omega)]
  exact hcs i hi
