/-! the class's net: what it answers -/
def pc32 (v0 : Int32) : Int32 := (((((((((((((((v0 - ((((v0.toUInt32 >>> (((1 : Int32)).toUInt32 &&& Int32.toUInt32 31)).toInt32) &&& ((1431655765 : Int32)))))) &&& ((858993459 : Int32)))) + ((((((v0 - ((((v0.toUInt32 >>> (((1 : Int32)).toUInt32 &&& Int32.toUInt32 31)).toInt32) &&& ((1431655765 : Int32)))))).toUInt32 >>> (((2 : Int32)).toUInt32 &&& Int32.toUInt32 31)).toInt32) &&& ((858993459 : Int32)))))) + ((((((((v0 - ((((v0.toUInt32 >>> (((1 : Int32)).toUInt32 &&& Int32.toUInt32 31)).toInt32) &&& ((1431655765 : Int32)))))) &&& ((858993459 : Int32)))) + ((((((v0 - ((((v0.toUInt32 >>> (((1 : Int32)).toUInt32 &&& Int32.toUInt32 31)).toInt32) &&& ((1431655765 : Int32)))))).toUInt32 >>> (((2 : Int32)).toUInt32 &&& Int32.toUInt32 31)).toInt32) &&& ((858993459 : Int32)))))).toUInt32 >>> (((4 : Int32)).toUInt32 &&& Int32.toUInt32 31)).toInt32))) &&& ((252645135 : Int32)))) + ((((((((((((v0 - ((((v0.toUInt32 >>> (((1 : Int32)).toUInt32 &&& Int32.toUInt32 31)).toInt32) &&& ((1431655765 : Int32)))))) &&& ((858993459 : Int32)))) + ((((((v0 - ((((v0.toUInt32 >>> (((1 : Int32)).toUInt32 &&& Int32.toUInt32 31)).toInt32) &&& ((1431655765 : Int32)))))).toUInt32 >>> (((2 : Int32)).toUInt32 &&& Int32.toUInt32 31)).toInt32) &&& ((858993459 : Int32)))))) + ((((((((v0 - ((((v0.toUInt32 >>> (((1 : Int32)).toUInt32 &&& Int32.toUInt32 31)).toInt32) &&& ((1431655765 : Int32)))))) &&& ((858993459 : Int32)))) + ((((((v0 - ((((v0.toUInt32 >>> (((1 : Int32)).toUInt32 &&& Int32.toUInt32 31)).toInt32) &&& ((1431655765 : Int32)))))).toUInt32 >>> (((2 : Int32)).toUInt32 &&& Int32.toUInt32 31)).toInt32) &&& ((858993459 : Int32)))))).toUInt32 >>> (((4 : Int32)).toUInt32 &&& Int32.toUInt32 31)).toInt32))) &&& ((252645135 : Int32)))).toUInt32 >>> (((8 : Int32)).toUInt32 &&& Int32.toUInt32 31)).toInt32))) + ((((((((((((((v0 - ((((v0.toUInt32 >>> (((1 : Int32)).toUInt32 &&& Int32.toUInt32 31)).toInt32) &&& ((1431655765 : Int32)))))) &&& ((858993459 : Int32)))) + ((((((v0 - ((((v0.toUInt32 >>> (((1 : Int32)).toUInt32 &&& Int32.toUInt32 31)).toInt32) &&& ((1431655765 : Int32)))))).toUInt32 >>> (((2 : Int32)).toUInt32 &&& Int32.toUInt32 31)).toInt32) &&& ((858993459 : Int32)))))) + ((((((((v0 - ((((v0.toUInt32 >>> (((1 : Int32)).toUInt32 &&& Int32.toUInt32 31)).toInt32) &&& ((1431655765 : Int32)))))) &&& ((858993459 : Int32)))) + ((((((v0 - ((((v0.toUInt32 >>> (((1 : Int32)).toUInt32 &&& Int32.toUInt32 31)).toInt32) &&& ((1431655765 : Int32)))))).toUInt32 >>> (((2 : Int32)).toUInt32 &&& Int32.toUInt32 31)).toInt32) &&& ((858993459 : Int32)))))).toUInt32 >>> (((4 : Int32)).toUInt32 &&& Int32.toUInt32 31)).toInt32))) &&& ((252645135 : Int32)))) + ((((((((((((v0 - ((((v0.toUInt32 >>> (((1 : Int32)).toUInt32 &&& Int32.toUInt32 31)).toInt32) &&& ((1431655765 : Int32)))))) &&& ((858993459 : Int32)))) + ((((((v0 - ((((v0.toUInt32 >>> (((1 : Int32)).toUInt32 &&& Int32.toUInt32 31)).toInt32) &&& ((1431655765 : Int32)))))).toUInt32 >>> (((2 : Int32)).toUInt32 &&& Int32.toUInt32 31)).toInt32) &&& ((858993459 : Int32)))))) + ((((((((v0 - ((((v0.toUInt32 >>> (((1 : Int32)).toUInt32 &&& Int32.toUInt32 31)).toInt32) &&& ((1431655765 : Int32)))))) &&& ((858993459 : Int32)))) + ((((((v0 - ((((v0.toUInt32 >>> (((1 : Int32)).toUInt32 &&& Int32.toUInt32 31)).toInt32) &&& ((1431655765 : Int32)))))).toUInt32 >>> (((2 : Int32)).toUInt32 &&& Int32.toUInt32 31)).toInt32) &&& ((858993459 : Int32)))))).toUInt32 >>> (((4 : Int32)).toUInt32 &&& Int32.toUInt32 31)).toInt32))) &&& ((252645135 : Int32)))).toUInt32 >>> (((8 : Int32)).toUInt32 &&& Int32.toUInt32 31)).toInt32))).toUInt32 >>> (((16 : Int32)).toUInt32 &&& Int32.toUInt32 31)).toInt32))) &&& ((63 : Int32)))
/-- how many lanes a set has -/
def pop (s : Nat) : Nat := fa_cnt (fun i => s.testBit i) 10
set_option maxRecDepth 100000 in
theorem pc_ok : ∀ s, s < 1024 → pc32 (nI s) = nI (pop s) := by decide +kernel
theorem c199 {d : Nat} {h : AH} (HS : Sh h) {s : Nat} (hs : s < 1024) {Q : Option Value → AH → Prop} (K : Q (some (.int (nI (pop s)))) h) : Cl d 199 [.int (nI s)] h Q := by
  refine Cl.enter rfl (g199_0 d _ h HS Q ?_)
  show Q (some (.int (pc32 (nI s)))) h
  rw [pc_ok s hs]
  exact K
theorem andnC {p r : Nat} (hp : p < 2 ^ 31) : (nI p &&& (nI r ^^^ (-1))) = 0 ↔ r &&& p = p := by
  have e : nI p &&& (nI r ^^^ (-1)) = nI (msk (fun i => p.testBit i && !r.testBit i) 31) := by
    apply b_ext
    intro i hi
    rw [b_and, b_xor, b_m1 i hi, bt_nI hi, bt_nI hi, bt_nI hi, msk_tb, Bool.xor_true]
    by_cases h31 : i < 31
    · rw [decide_eq_true h31]
      rfl
    · rw [decide_eq_false h31, tb_ge hp (by omega)]
      rfl
  rw [e, nI_eq0 (msk_lt _ _)]
  constructor
  · intro h0
    apply tb_ext
    intro i
    have := congrArg (fun x => Nat.testBit x i) h0
    simp only [msk_tb, Nat.zero_testBit] at this
    rw [Nat.testBit_and]
    cases hpi : p.testBit i with
    | false => rw [Bool.and_false]
    | true =>
      have hi := tb_lt hp hpi
      rw [decide_eq_true hi, hpi] at this
      cases hr : r.testBit i with
      | true => rfl
      | false => rw [hr] at this; cases this
  · intro h0
    apply tb_ext
    intro i
    rw [msk_tb, Nat.zero_testBit]
    cases hpi : p.testBit i with
    | false => rw [Bool.false_and, Bool.and_false]
    | true =>
      have : (r &&& p).testBit i = true := by rw [h0]; exact hpi
      rw [Nat.testBit_and, hpi, Bool.and_true] at this
      rw [this]
      simp
/-- the answers of the net -/
def spn (g : G) (s p : Nat) : Bool := decide (rch g s &&& p = p)
def plc (g : G) : Nat → Nat
  | 0 => 2 ^ g.e ||| 2 ^ g.f
  | i + 1 => plc g i ||| prs g.a g.b i
def csm (c : Nat → Nat) (s : Nat) : Nat → Nat
  | 0 => 0
  | i + 1 => if s.testBit i then csm c s i + c i else csm c s i
def outc (g : G) (F C : Nat) : Nat := if jn g F = true then 1 else if jn g (unc g.n C) = true then 0 else 2
theorem csm_le {g : G} (hg : GOK g) (s : Nat) : ∀ i, i ≤ g.n → csm g.c s i ≤ 9 * i
  | 0, _ => Nat.le_refl _
  | i + 1, hi => by
    have ih := csm_le hg s i (by omega)
    have := (hg.2.2.2 i (by omega)).2.2
    unfold csm
    split <;> omega
theorem prs_lt {g : G} (hg : GOK g) {i : Nat} (hi : i < g.n) : prs g.a g.b i < 64 := or_lt64 (p2_lt64 (hg.ab i hi).1) (p2_lt64 (hg.ab i hi).2)
theorem plc_lt {g : G} (hg : GOK g) : ∀ i, i ≤ g.n → plc g i < 64
  | 0, _ => or_lt64 (p2_lt64 hg.2.1) (p2_lt64 hg.2.2.1)
  | i + 1, hi => or_lt64 (plc_lt hg i (by omega)) (prs_lt hg (by omega))
theorem at10 {h : AH} (HS : Sh h) {g : G} (hr : RchC h g) (ho : GOK g) {s : Nat} (hs : s < 2 ^ g.n) : atv h 10 (nI s) = nI (rch g s) := by
  rw [atS HS 10 rfl (n := 1024) (c := 20) (p2_10 hs ho.1), hr s hs]
theorem jnC {h : AH} (HS : Sh h) {g : G} (hg : NetC h g) (hr : RchC h g) (ho : GOK g) {s : Nat} (hs : s < 2 ^ g.n) : (atv h 10 (nI s) &&& ((1 : Int32) <<< (AI h 5 7 &&& 31))) = 0 ↔ jn g s = false := by
  have hf := ho.2.2.1
  rw [at10 HS hr ho hs, hg.2.2.1, bC (by omega)]
  exact Iff.rfl
theorem uncC {h : AH} {g : G} (hg : NetC h g) (ho : GOK g) {C : Nat} : (((1 : Int32) <<< (AI h 5 5 &&& 31)) - 1) &&& (nI C ^^^ (-1)) = nI (unc g.n C) := by
  have := ho.1
  rw [hg.1, unc_nI (by omega)]
theorem opnC {h : AH} {g : G} (hg : NetC h g) (ho : GOK g) {F C : Nat} : ((((1 : Int32) <<< (AI h 5 5 &&& 31)) - 1) &&& (nI F ^^^ (-1))) &&& (nI C ^^^ (-1)) = nI (opn g.n F C) := by
  have := ho.1
  rw [hg.1, opn_nI (by omega)]
theorem c34 {d : Nat} {h : AH} (HS : Sh h) {g : G} (hg : NetC h g) (hr : RchC h g) (ho : GOK g) {s : Nat} (hs : s < 2 ^ g.n) {Q : Option Value → AH → Prop} (K : Q (some (.int (if jn g s = true then 1 else 0))) h) : Cl (d + 1) 34 [.ref 5, .int (nI s)] h Q := by
  refine Cl.enter rfl (g34_0 d _ h HS Q ?_)
  rw [jnC HS hg hr ho hs]
  refine ⟨fun c => ?_, fun c => ?_⟩
  · rwa [if_neg (by rw [c]; decide)] at K
  · rwa [if_pos (ts_nf c)] at K
theorem c37 {d : Nat} {h : AH} (HS : Sh h) {g : G} (hg : NetC h g) (hr : RchC h g) (ho : GOK g) {F C : Nat} (hF : F < 2 ^ g.n) {Q : Option Value → AH → Prop} (K : Q (some (.int (nI (outc g F C)))) h) : Cl (d + 2) 37 [.ref 5, .int (nI F), .int (nI C)] h Q := by
  refine Cl.enter rfl (g37_0 d _ _ h HS Q ?_)
  rw [uncC hg ho, jnC HS hg hr ho hF, jnC HS hg hr ho (unc_lt _ _)]
  unfold outc at K
  refine ⟨fun c => ⟨fun c2 => ?_, fun c2 => ?_⟩, fun c => ?_⟩
  · rwa [if_neg (by rw [c]; decide), if_neg (by rw [c2]; decide)] at K
  · rwa [if_neg (by rw [c]; decide), if_pos (ts_nf c2)] at K
  · rwa [if_pos (ts_nf c)] at K
theorem c21 {d : Nat} {h : AH} (HS : Sh h) {o t : Nat} {Q : Option Value → AH → Prop} (h1 : o < 6) (K : ∀ h', Fr (fun i j => i = 5 ∨ i = 10) h h' → (∀ a b c, NetC h' (mkG 0 a b c o t)) → (∀ a b c, RchC h' (mkG 0 a b c o t)) → Q none h') : Cl (d + 1) 21 [.ref 5, .int (nI o), .int (nI t)] h Q := by
  refine Cl.enter rfl (g21_0 d _ _ h HS Q ?_)
  intro h1' e1
  have s1 := ((HS.stI 5 6 (nI o)).stI 5 7 (nI t)).stI 5 5 (nI 0)
  rw [show (0 : Int32) = nI 0 from rfl, putS s1 10 rfl (n := 1024) (c := 20) (by decide), i1 o (by omega)] at e1
  subst e1
  refine K _ ?_ (fun a b c => ⟨?_, ?_, ?_, fun i hi => absurd hi (Nat.not_lt_zero i)⟩) (fun a b c s hs => ?_)
  · exact (((Fr.stI (Or.inl rfl)).trans (Fr.stI (Or.inl rfl))).trans (Fr.stI (Or.inl rfl))).trans (Fr.stI (Or.inr rfl))
  · simp [AI_stI]
    rfl
  · simp [AI_stI]
    rfl
  · simp [AI_stI]
    rfl
  · have hs0 : s < 1 := hs
    have : s = 0 := by omega
    subst this
    have hr0 : rch (mkG 0 a b c o t) 0 = 2 ^ o := by
      unfold rch spr
      exact if_pos rfl
    rw [AI_stI_s, hr0]
