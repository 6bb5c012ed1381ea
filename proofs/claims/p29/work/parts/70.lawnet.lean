/-! the law's own rows: lanes, what they are; reach and status -/
def RowW (h : AH) (a F C n : Nat) : Prop := AK h a = (20, 12) ∧ ∀ i, i < n → AI h a i = nI (sta F C i)
def LnW (h : AH) (g : G) : Prop := (∀ i, i < g.n → AI h 23 (2 * i) = nI (g.a i) ∧ AI h 23 (2 * i + 1) = nI (g.b i)) ∧ AI h 23 20 = nI g.e ∧ AI h 23 21 = nI g.f
def itG (g : G) (s : Nat) : Nat → Nat → Nat
  | 0, v => v
  | k + 1, v => itG g s k (onG g s v)
theorem itG_fix {g : G} {s v : Nat} (h : onG g s v = v) : ∀ k, itG g s k v = v
  | 0 => rfl
  | k + 1 => by
    show itG g s k (onG g s v) = v
    rw [h]
    exact itG_fix h k
theorem itG_spr {g : G} {s : Nat} : ∀ k v, itG g s k v = spr g s k v
  | 0, _ => rfl
  | k + 1, v => by
    unfold spr
    by_cases hc : onG g s v = v
    · rw [if_pos hc]
      exact itG_fix hc (k + 1)
    · rw [if_neg hc]
      exact itG_spr k _
theorem it6 {g : G} (hg : GOK g) (s : Nat) : itG g s 6 (2 ^ g.e) = rch g s := by
  rw [itG_spr]
  have h := spr_isR hg (s := s) 6 (2 ^ g.e) (p2_lt64 hg.2.1) (tb_self _) (fun p hp => by rw [tb_two.mp hp]; exact Rch.self) (by omega)
  exact rch_is hg h.1
theorem nI_or0 (a : Nat) : nI a ||| 0 = nI a := by
  rw [show (0 : Int32) = nI 0 from rfl, fa_or, Nat.or_zero]
theorem w131 {d : Nat} {h : AH} (HS : Sh h) {g : G} (ho : GOK g) (h6 : g.n ≤ 6) {A F C : Nat} (L : LnW h g) (R : RowW h A F C g.n) {op : Int32} {s : Nat} (hs : ∀ i, i < g.n → s.testBit i = (decide (sta F C i = 1) || (decide (¬ op = 0) && decide (sta F C i = 0)))) {k v : Nat} (hv : v < 64) {Q : Option Value → AH → Prop} (K : Wp d 131 8 [.int (nI g.n), .ref 23, .ref A, mk0, .int op, .int 0, .int (nI (onG g s v)), .int (nI (k + 1)), mk0, mk0, mk0] [] h Q) : ∀ m i, i + m = g.n → Wp d 131 18 [.int (nI g.n), .ref 23, .ref A, mk0, .int op, .int 0, .int (nI (onc g.a g.b s i v)), .int (nI k), .int (nI i), mk0, mk0] [] h Q
  | 0, i, hi => by
    have e : i = g.n := by omega
    refine g131_18 d _ _ _ _ _ _ _ h HS Q ⟨fun c => ?_, fun _ => ?_⟩
    · rw [nI_ltI (by omega) (by omega)] at c
      omega
    · rw [nI_1, e]
      exact K
  | m + 1, i, hi => by
    have hlt : i < g.n := by omega
    obtain ⟨ab1, ab2⟩ := L.1 i hlt
    have hab := ho.ab i hlt
    have hw : onc g.a g.b s i v < 64 := onc_lt i v (fun j hj => ho.ab j (by omega)) hv
    have eS : onc g.a g.b s (i + 1) v = if s.testBit i = true ∧ onc g.a g.b s i v &&& prs g.a g.b i ≠ 0 then onc g.a g.b s i v ||| prs g.a g.b i else onc g.a g.b s i v := rfl
    have nx := w131 HS ho h6 L R hs hv K m (i + 1) (by omega)
    have hst := sta_lt F C i
    have p59 : ∀ x : Int32, x = b01 (s.testBit i) → Wp d 131 59 [.int (nI g.n), .ref 23, .ref A, mk0, .int op, .int 0, .int (nI (onc g.a g.b s i v)), .int (nI k), .int (nI i), mk0, mk0] [.int x] h Q := fun x hx => by
      refine g131_59 d _ _ _ _ _ _ _ _ h HS Q ?_
      rw [fa_lit 2, pk_mul, nI_1 (2 * i), nI_1 i]
      refine ⟨ixR_nI (by omega) (by decide), ixR_nI (by omega) (by decide), ?_⟩
      rw [tnI (by omega), tnI (by omega), ab1, ab2, i1 (g.a i) (by omega), i1 (g.b i) (by omega), fa_or, nI_or0, hx, b01_0]
      have e2 : 2 ^ g.a i ||| 2 ^ g.b i = prs g.a g.b i := rfl
      rw [e2, fa_and, fa_or]
      have hle : onc g.a g.b s i v &&& prs g.a g.b i ≤ onc g.a g.b s i v := Nat.and_le_left
      rw [nI_eq0 (by omega)]
      refine ⟨fun c => ?_, fun c => ⟨fun c2 => ?_, fun c2 => ?_⟩⟩
      · rw [eS, if_neg (fun z => by rw [c] at z; cases z.1)] at nx
        exact nx
      · rw [eS, if_neg (fun z => z.2 c2)] at nx
        exact nx
      · rw [eS, if_pos ⟨ts_nf c, c2⟩] at nx
        exact nx
    refine g131_18 d _ _ _ _ _ _ _ h HS Q ⟨fun _ => ⟨by rw [R.1], inR_of (nI_pos (by omega)) (by rw [R.1, nI_fold, nI_ltI (by omega) (by omega)]; omega) (by rw [R.1]; decide), ?_⟩, fun c => absurd ((nI_ltI (by omega) (by omega)).mpr hlt) c⟩
    have hb := hs i hlt
    rw [tnI (by omega), R.2 i hlt, eqC (y := 1) (b := 1) rfl rfl (by omega) (by omega), nI_eq0 (by omega)]
    have e0 : ((0 : Int32) >>> (nI i &&& 31)) &&& 1 = 0 := by
      have : ∀ j, j < 6 → ((0 : Int32) >>> (nI j &&& 31)) &&& 1 = 0 := by decide
      exact this i (by omega)
    refine ⟨fun c => p59 1 ?_, fun c => ⟨fun c2 => p59 0 ?_, fun c2 => ⟨fun c3 => ⟨fun _ => p59 1 ?_, fun z => absurd e0 z⟩, fun c3 => p59 0 ?_⟩⟩⟩
    · rw [hb, decide_eq_true c]
      rfl
    · rw [hb, decide_eq_false c, decide_eq_false (fun z => z c2)]
      rfl
    · rw [hb, decide_eq_true c2, decide_eq_true c3]
      cases decide (sta F C i = 1) <;> rfl
    · rw [hb, decide_eq_false c, decide_eq_false c3]
      cases decide (¬ op = 0) <;> rfl
theorem w131o {d : Nat} {h : AH} (HS : Sh h) {g : G} (ho : GOK g) (h6 : g.n ≤ 6) {A F C : Nat} (L : LnW h g) (R : RowW h A F C g.n) {op : Int32} {s : Nat} (hs : ∀ i, i < g.n → s.testBit i = (decide (sta F C i = 1) || (decide (¬ op = 0) && decide (sta F C i = 0)))) {Q : Option Value → AH → Prop} : ∀ m k v, k + m = 6 → v < 64 → Q (some (.int (nI (itG g s m v)))) h → Wp d 131 8 [.int (nI g.n), .ref 23, .ref A, mk0, .int op, .int 0, .int (nI v), .int (nI k), mk0, mk0, mk0] [] h Q
  | 0, k, v, hk, hv, K => by
    refine g131_8 d _ _ _ _ _ _ h HS Q ⟨fun c => ?_, fun _ => K⟩
    rw [ltC (y := 6) (b := 6) rfl rfl (by omega) (by omega)] at c
    omega
  | m + 1, k, v, hk, hv, K => by
    refine g131_8 d _ _ _ _ _ _ h HS Q ⟨fun _ => ?_, fun c => absurd ((ltC (y := 6) (b := 6) rfl rfl (by omega) (by omega)).mpr (by omega)) c⟩
    exact w131 HS ho h6 L R hs hv (w131o HS ho h6 L R hs m (k + 1) (onG g s v) (by omega) (onG_lt ho hv) K) g.n 0 (Nat.zero_add _)
theorem c131 {d : Nat} {h : AH} (HS : Sh h) {g : G} (ho : GOK g) (h6 : g.n ≤ 6) {A F C : Nat} (L : LnW h g) (R : RowW h A F C g.n) {op : Int32} {s : Nat} (hs : ∀ i, i < g.n → s.testBit i = (decide (sta F C i = 1) || (decide (¬ op = 0) && decide (sta F C i = 0)))) {Q : Option Value → AH → Prop} (K : Q (some (.int (nI (rch g s)))) h) : Cl d 131 [.int (nI g.n), .ref 23, .ref A, .int (nI g.e), .int op, .int 0] h Q := by
  have he := ho.2.1
  refine Cl.enter rfl (g131_0 d _ _ _ _ _ h HS Q ?_)
  rw [i1 g.e (by omega)]
  refine w131o HS ho h6 L R hs 6 0 (2 ^ g.e) rfl (p2_lt64 he) ?_
  rw [it6 ho]
  exact K
theorem shb : ∀ v, v < 64 → ∀ f, f < 6 → ((nI v >>> (nI f &&& 31)) &&& 1 = 1 ↔ v.testBit f = true) := by decide +kernel
theorem c132 {d : Nat} {h : AH} (HS : Sh h) {g : G} (ho : GOK g) (h6 : g.n ≤ 6) {A F C : Nat} (hv : VS g.n F C) (L : LnW h g) (R : RowW h A F C g.n) {Q : Option Value → AH → Prop} (K : Q (some (.int (nI (outc g F C)))) h) : Cl (d + 1) 132 [.int (nI g.n), .ref 23, .ref A] h Q := by
  refine Cl.enter rfl (g132_0 d _ _ h HS Q ⟨(ixR_nI (j := 20) (by decide) (by decide)), ?_⟩)
  have t0 : ((20 : Int32)).toNatClampNeg = 20 := rfl
  have t1 : ((21 : Int32)).toNatClampNeg = 21 := rfl
  rw [t0, L.2.1]
  have dj := hv.2.2
  refine c131 HS ho h6 L R (op := 0) (s := F) (fun i hi => ?_) ⟨_, rfl, HS, (ixR_nI (j := 21) (by decide) (by decide)), ?_⟩
  · unfold sta
    cases hF : F.testBit i <;> cases hC : C.testBit i <;> simp
  rw [t1, L.2.2, shb _ (rch_lt ho F) _ ho.2.2.1]
  have e1 : (rch g F).testBit g.f = jn g F := rfl
  rw [e1]
  unfold outc at K
  refine ⟨fun c => ?_, fun c => ⟨(ixR_nI (j := 20) (by decide) (by decide)), ?_⟩⟩
  · rw [if_pos c] at K
    exact K
  rw [if_neg c] at K
  rw [L.2.1]
  refine c131 HS ho h6 L R (op := 1) (s := unc g.n C) (fun i hi => ?_) ⟨_, rfl, HS, (ixR_nI (j := 21) (by decide) (by decide)), ?_⟩
  · rw [unc_tb, decide_eq_true hi]
    have q := dj i
    unfold sta
    cases hF : F.testBit i <;> cases hC : C.testBit i <;> simp
    exact q ⟨hF, hC⟩
  rw [L.2.2, shb _ (rch_lt ho _) _ ho.2.2.1]
  have e2 : (rch g (unc g.n C)).testBit g.f = jn g (unc g.n C) := rfl
  rw [e2]
  refine ⟨fun c2 => ?_, fun c2 => ?_⟩
  · rw [if_pos c2] at K
    exact K
  · rw [if_neg c2] at K
    exact K
