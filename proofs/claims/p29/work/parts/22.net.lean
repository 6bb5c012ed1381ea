/-! the net as a value, and what hangs together -/
def G : Type := Nat × (Nat → Nat) × (Nat → Nat) × (Nat → Nat) × Nat × Nat
def G.n (g : G) : Nat := g.1
def G.a (g : G) : Nat → Nat := g.2.1
def G.b (g : G) : Nat → Nat := g.2.2.1
def G.c (g : G) : Nat → Nat := g.2.2.2.1
def G.e (g : G) : Nat := g.2.2.2.2.1
def G.f (g : G) : Nat := g.2.2.2.2.2
def mkG (n : Nat) (a b c : Nat → Nat) (e f : Nat) : G := (n, a, b, c, e, f)
def upN (f : Nat → Nat) (i x : Nat) : Nat → Nat := fun j => if j = i then x else f j
theorem upN_s (f : Nat → Nat) (i x : Nat) : upN f i x i = x := if_pos rfl
theorem upN_o (f : Nat → Nat) {i j : Nat} (x : Nat) (hn : j ≠ i) : upN f i x j = f j := if_neg hn
/-- a lane more -/
def addG (g : G) (o t p : Nat) : G := mkG (g.n + 1) (upN g.a g.n o) (upN g.b g.n t) (upN g.c g.n p) g.e g.f
def GOK (g : G) : Prop := g.n ≤ 10 ∧ g.e < 6 ∧ g.f < 6 ∧ ∀ i, i < g.n → g.a i < 6 ∧ g.b i < 6 ∧ g.c i < 10
theorem GOK.add {g : G} (hg : GOK g) {o t p : Nat} (hn : g.n < 10) (ho : o < 6) (ht : t < 6) (hp : p < 10) : GOK (addG g o t p) := by
  refine ⟨hn, hg.2.1, hg.2.2.1, fun i hi => ?_⟩
  show upN g.a g.n o i < 6 ∧ upN g.b g.n t i < 6 ∧ upN g.c g.n p i < 10
  by_cases h : i = g.n
  · rw [h, upN_s, upN_s, upN_s]
    exact ⟨ho, ht, hp⟩
  · rw [upN_o _ _ h, upN_o _ _ h, upN_o _ _ h]
    have hi2 : i < g.n + 1 := hi
    exact hg.2.2.2 i (by omega)
def onG (g : G) (s v : Nat) : Nat := onc g.a g.b s g.n v
def spr (g : G) (s : Nat) : Nat → Nat → Nat
  | 0, v => v
  | k + 1, v => if onG g s v = v then v else spr g s k (onG g s v)
/-- the places that hang together with the one end by lanes -/
def rch (g : G) (s : Nat) : Nat := spr g s 5 (2 ^ g.e)
def jn (g : G) (s : Nat) : Bool := (rch g s).testBit g.f
theorem GOK.ab {g : G} (hg : GOK g) : ∀ i, i < g.n → g.a i < 6 ∧ g.b i < 6 := fun i hi => ⟨(hg.2.2.2 i hi).1, (hg.2.2.2 i hi).2.1⟩
theorem onG_lt {g : G} (hg : GOK g) {s v : Nat} (hv : v < 64) : onG g s v < 64 := onc_lt _ _ hg.ab hv
def isR (g : G) (s w : Nat) : Prop := IsR g.n g.a g.b s g.e w
theorem spr_isR {g : G} (hg : GOK g) {s : Nat} : ∀ k v, v < 64 → v.testBit g.e = true → (∀ p, v.testBit p = true → Rch g.n g.a g.b s g.e p) → 6 ≤ k + pcn v → isR g s (spr g s k v) ∧ spr g s k v < 64
  | 0, v, hv, he, hr, hk => by
    have hc : onG g s v = v := by
      apply Classical.byContradiction
      intro hne
      have := pcn_lt hv (onG_lt hg hv) (fun p hp => onc_sub g.n v p hp) hne
      have := pcn_le (onG g s v)
      omega
    exact ⟨IsR.of he (onc_closed hc) hr, hv⟩
  | k + 1, v, hv, he, hr, hk => by
    unfold spr
    by_cases hc : onG g s v = v
    · rw [if_pos hc]
      exact ⟨IsR.of he (onc_closed hc) hr, hv⟩
    · rw [if_neg hc]
      have h1 := pcn_lt hv (onG_lt hg hv) (fun p hp => onc_sub g.n v p hp) hc
      exact spr_isR hg k _ (onG_lt hg hv) (onc_sub g.n v _ he) (Rch.step v hr) (by omega)
theorem tb_self (i : Nat) : (2 ^ i).testBit i = true := by rw [Nat.testBit_two_pow, decide_eq_true rfl]
theorem tb_two {i p : Nat} : (2 ^ i).testBit p = true ↔ p = i := by
  rw [Nat.testBit_two_pow, decide_eq_true_eq]
  exact eq_comm
theorem Rch.self {n s f : Nat} {a b : Nat → Nat} : Rch n a b s f f := fun _ h _ => h
theorem rch_ok {g : G} (hg : GOK g) (s : Nat) : isR g s (rch g s) ∧ rch g s < 64 := by
  refine spr_isR hg 5 _ (p2_lt64 hg.2.1) (tb_self _) (fun p hp => ?_) ?_
  · rw [tb_two.mp hp]
    exact Rch.self
  · have := pcn_pos (v := 2 ^ g.e) hg.2.1 (tb_self _)
    omega
theorem rch_lt {g : G} (hg : GOK g) (s : Nat) : rch g s < 64 := (rch_ok hg s).2
theorem rch_is {g : G} (hg : GOK g) {s w : Nat} (h : isR g s w) : w = rch g s := h.uniq (rch_ok hg s).1
theorem rch_end {g : G} (hg : GOK g) (s : Nat) : (rch g s).testBit g.e = true := ((rch_ok hg s).1 g.e).mpr Rch.self
theorem Rch.mono {n n' s s' f p : Nat} {a b a' b' : Nat → Nat} (h : Rch n a b s f p) (hm : ∀ i, i < n → s.testBit i = true → i < n' ∧ s'.testBit i = true ∧ a' i = a i ∧ b' i = b i) : Rch n' a' b' s' f p := by
  intro m hf hc
  refine h m hf (fun i hi hs => ?_)
  obtain ⟨h1, h2, h3, h4⟩ := hm i hi hs
  have := hc i h1 h2
  rwa [h3, h4] at this
/-- more lanes reach more -/
theorem rch_mono {g : G} (hg : GOK g) {s s' : Nat} (hs : ∀ i, s.testBit i = true → s'.testBit i = true) {p : Nat} (h : (rch g s).testBit p = true) : (rch g s').testBit p = true := by
  refine ((rch_ok hg s').1 p).mpr ?_
  exact Rch.mono (((rch_ok hg s).1 p).mp h) (fun i hi h1 => ⟨hi, hs i h1, rfl, rfl⟩)
theorem jn_mono {g : G} (hg : GOK g) {s s' : Nat} (hs : ∀ i, s.testBit i = true → s'.testBit i = true) (h : jn g s = true) : jn g s' = true := rch_mono hg hs h
theorem tb_lt {s n i : Nat} (h : s < 2 ^ n) (hb : s.testBit i = true) : i < n := by
  rcases Nat.lt_or_ge i n with z | z
  · exact z
  · rw [Nat.testBit_lt_two_pow (Nat.lt_of_lt_of_le h (Nat.pow_le_pow_right (by decide) z))] at hb
    cases hb
/-- nets that are alike below a lane -/
theorem rch_add {g : G} (hg : GOK g) {o t p : Nat} (hg2 : GOK (addG g o t p)) {s : Nat} (hs : s < 2 ^ g.n) : rch (addG g o t p) s = rch g s := by
  symm
  apply rch_is hg2
  intro q
  rw [(rch_ok hg s).1 q]
  have key : ∀ i, i < g.n → (addG g o t p).a i = g.a i ∧ (addG g o t p).b i = g.b i := fun i hi => ⟨upN_o _ _ (by omega), upN_o _ _ (by omega)⟩
  constructor
  · intro h
    exact Rch.mono h (fun i hi hs => ⟨Nat.lt_succ_of_lt hi, hs, key i hi⟩)
  · intro h
    refine Rch.mono h (fun i _ hb => ?_)
    have hi := tb_lt hs hb
    exact ⟨hi, hb, (key i hi).1.symm, (key i hi).2.symm⟩
/-- in the class's objects -/
def NetC (h : AH) (g : G) : Prop := AI h 5 5 = nI g.n ∧ AI h 5 6 = nI g.e ∧ AI h 5 7 = nI g.f ∧ ∀ i, i < g.n → AI h 6 i = nI (g.a i) ∧ AI h 7 i = nI (g.b i) ∧ AI h 8 i = nI (g.c i) ∧ AI h 9 i = nI (prs g.a g.b i)
def RchC (h : AH) (g : G) : Prop := ∀ s, s < 2 ^ g.n → AI h 10 s = nI (rch g s)
theorem bC {s i : Nat} (hi : i < 31) : (nI s &&& ((1 : Int32) <<< (nI i &&& 31))) = 0 ↔ s.testBit i = false := by
  rw [i1 i hi]
  exact fa_bit hi
theorem andC {v w : Nat} (hv : v < 2 ^ 31) : (nI v &&& nI w) = 0 ↔ v &&& w = 0 := by
  rw [fa_and, nI_eq0 (Nat.lt_of_le_of_lt Nat.and_le_left hv)]
theorem ltC {x y : Int32} {a b : Nat} (hx : x = nI a) (hy : y = nI b) (ha : a < 2 ^ 31) (hb : b < 2 ^ 31) : x < y ↔ a < b := by rw [hx, hy, nI_ltI ha hb]
theorem eqC {x y : Int32} {a b : Nat} (hx : x = nI a) (hy : y = nI b) (ha : a < 2 ^ 31) (hb : b < 2 ^ 31) : x = y ↔ a = b := by rw [hx, hy, nI_eq ha hb]
theorem w25 {d : Nat} {h : AH} (HS : Sh h) {g : G} (hg : NetC h g) (ho : GOK g) {s v : Nat} (hv : v < 64) {Q : Option Value → AH → Prop} (K : Q (some (.int (nI (onG g s v)))) h) : ∀ m i, i + m = g.n → Wp (d + 1) 25 5 [.ref 5, mk0, .int (nI s), .int (nI (onc g.a g.b s i v)), .int (nI i), mk0] [] h Q
  | 0, i, hi => by
    have hn := ho.1
    have e : i = g.n := by omega
    refine g25_5 d _ _ _ h HS Q ⟨fun c => ?_, fun _ => ?_⟩
    · rw [ltC rfl hg.1 (by omega) (by omega)] at c
      omega
    · rw [e]
      exact K
  | m + 1, i, hi => by
    have hn := ho.1
    have hlt : i < g.n := by omega
    have ih := w25 (d := d) HS hg ho hv K m (i + 1) (by omega)
    have hp : atv h 9 (nI i) = nI (prs g.a g.b i) := by rw [atS HS 9 rfl (n := 10) (c := 20) (by omega), (hg.2.2.2 i hlt).2.2.2]
    have h64 : onc g.a g.b s i v < 64 := onc_lt _ _ (fun j hj => ho.ab j (by omega)) hv
    refine g25_5 d _ _ _ h HS Q ⟨fun _ => ?_, fun c => ?_⟩
    · rw [bC (by omega), hp, andC (by omega), nI_1, fa_or]
      unfold onc at ih
      refine ⟨fun c => ?_, fun c => ⟨fun c2 => ?_, fun c2 => ?_⟩⟩
      · rwa [if_neg (fun z => by rw [z.1] at c; cases c)] at ih
      · rwa [if_neg (fun z => z.2 c2)] at ih
      · rwa [if_pos ⟨ts_nf c, c2⟩] at ih
    · exact absurd ((ltC rfl hg.1 (by omega) (by omega)).mpr hlt) c
theorem c25 {d : Nat} {h : AH} (HS : Sh h) {g : G} (hg : NetC h g) (ho : GOK g) {s v : Nat} (hv : v < 64) {Q : Option Value → AH → Prop} (K : Q (some (.int (nI (onG g s v)))) h) : Cl (d + 1) 25 [.ref 5, .int (nI v), .int (nI s)] h Q :=
  Cl.enter rfl (g25_0 (d + 1) _ _ h HS Q (w25 HS hg ho hv K g.n 0 (Nat.zero_add _)))
theorem w24 {d : Nat} {h : AH} (HS : Sh h) {g : G} (hg : NetC h g) (ho : GOK g) {s : Nat} {Q : Option Value → AH → Prop} : ∀ k i v, i + k = 6 → v < 64 → Q (some (.int (nI (spr g s k v)))) h → Wp (d + 2) 24 5 [.ref 5, mk0, .int (nI s), .int (nI v), .int (nI i), mk0] [] h Q
  | 0, i, v, hi, hv, K => by
    refine g24_5 (d + 1) _ _ _ h HS Q ⟨fun c => ?_, fun _ => K⟩
    rw [ltC (y := 6) (b := 6) rfl rfl (by omega) (by omega)] at c
    omega
  | k + 1, i, v, hi, hv, K => by
    refine g24_5 (d + 1) _ _ _ h HS Q ⟨fun _ => ?_, fun c => ?_⟩
    · refine c25 HS hg ho hv ⟨_, rfl, HS, ?_⟩
      have h64 := onG_lt ho (s := s) hv
      rw [nI_eq (by omega) (by omega), nI_1]
      unfold spr at K
      refine ⟨fun c => ?_, fun c => ?_⟩
      · rwa [if_pos c] at K
      · rw [if_neg c] at K
        exact w24 HS hg ho k (i + 1) _ (by omega) h64 K
    · exact absurd ((ltC (b := 6) rfl rfl (by omega) (by omega)).mpr (by omega)) c
theorem c24 {d : Nat} {h : AH} (HS : Sh h) {g : G} (hg : NetC h g) (ho : GOK g) {s v : Nat} (hv : v < 64) {Q : Option Value → AH → Prop} (K : Q (some (.int (nI (spr g s 5 v)))) h) : Cl (d + 2) 24 [.ref 5, .int (nI v), .int (nI s)] h Q :=
  Cl.enter rfl (g24_0 (d + 2) _ _ h HS Q (w24 HS hg ho 5 1 v (by omega) hv K))
