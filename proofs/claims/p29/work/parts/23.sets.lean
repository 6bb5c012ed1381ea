/-! sets of lanes; the class's net -/
theorem bt_nI {m i : Nat} (hi : i < 32) : bt (nI m) i = m.testBit i := by
  show (BitVec.ofNat 32 m).getLsbD i = m.testBit i
  rw [BitVec.getLsbD_ofNat, decide_eq_true hi, Bool.true_and]
/-- the lanes below n of which p holds -/
def msk (p : Nat → Bool) : Nat → Nat
  | 0 => 0
  | n + 1 => if p n then msk p n ||| 2 ^ n else msk p n
theorem msk_tb (p : Nat → Bool) : ∀ n i, (msk p n).testBit i = (decide (i < n) && p i)
  | 0, i => by
    unfold msk
    rw [Nat.zero_testBit, decide_eq_false (Nat.not_lt_zero i)]
    rfl
  | n + 1, i => by
    have ih := msk_tb p n i
    unfold msk
    by_cases hi : i = n
    · subst hi
      have h1 : decide (i < i) = false := decide_eq_false (Nat.lt_irrefl i)
      have h2 : decide (i < i + 1) = true := decide_eq_true (Nat.lt_succ_self i)
      cases hp : p i with
      | true =>
        rw [if_pos rfl, Nat.testBit_or, tb_self, Bool.or_true, h2]
        rfl
      | false =>
        rw [if_neg (by decide), ih, h1, Bool.and_false]
        rfl
    · have h1 : decide (i < n + 1) = decide (i < n) := by
        apply Bool.eq_iff_iff.mpr
        rw [decide_eq_true_eq, decide_eq_true_eq]
        omega
      rw [h1, ← ih]
      split
      · rw [Nat.testBit_or, Nat.testBit_two_pow, decide_eq_false (fun z => hi z.symm), Bool.or_false]
      · rfl
theorem tb_ext {a b : Nat} (h : ∀ i, a.testBit i = b.testBit i) : a = b := Nat.eq_of_testBit_eq h
theorem lt_tb {s n : Nat} (h : ∀ i, s.testBit i = true → i < n) : s < 2 ^ n := by
  apply Nat.lt_pow_two_of_testBit
  intro i hi
  cases hb : s.testBit i with
  | false => rfl
  | true => exact absurd (h i hb) (Nat.not_lt.mpr hi)
theorem msk_lt (p : Nat → Bool) (n : Nat) : msk p n < 2 ^ n := by
  apply lt_tb
  intro i hi
  rw [msk_tb, Bool.and_eq_true, decide_eq_true_eq] at hi
  exact hi.1
theorem msk_cong {p q : Nat → Bool} {n : Nat} (h : ∀ i, i < n → p i = q i) : msk p n = msk q n := by
  apply tb_ext
  intro i
  rw [msk_tb, msk_tb]
  by_cases hi : i < n
  · rw [h i hi]
  · rw [decide_eq_false hi]
    rfl
theorem tb_ge {s n i : Nat} (h : s < 2 ^ n) (hi : n ≤ i) : s.testBit i = false := Nat.testBit_lt_two_pow (Nat.lt_of_lt_of_le h (Nat.pow_le_pow_right (by decide) hi))
theorem p2_le {n m : Nat} (h : n ≤ m) : 2 ^ n ≤ 2 ^ m := Nat.pow_le_pow_right (by decide) h
/-- a set below n as a mask of its own bits -/
theorem msk_self {s n : Nat} (h : s < 2 ^ n) : msk (fun i => s.testBit i) n = s := by
  apply tb_ext
  intro i
  rw [msk_tb]
  rcases Nat.lt_or_ge i n with hi | hi
  · rw [decide_eq_true hi]
    rfl
  · rw [decide_eq_false (by omega), tb_ge h hi]
    rfl
def opn (n F C : Nat) : Nat := msk (fun i => !F.testBit i && !C.testBit i) n
def unc (n C : Nat) : Nat := msk (fun i => !C.testBit i) n
theorem opn_tb (n F C i : Nat) : (opn n F C).testBit i = (decide (i < n) && (!F.testBit i && !C.testBit i)) := msk_tb _ _ _
theorem unc_tb (n C i : Nat) : (unc n C).testBit i = (decide (i < n) && !C.testBit i) := msk_tb _ _ _
theorem all_nI {n : Nat} (h : n < 31) : ((1 : Int32) <<< (nI n &&& 31)) - 1 = nI (2 ^ n - 1) := by
  rw [i1 n h]
  exact pk_sub (b := 1) (Nat.two_pow_pos n)
theorem unc_nI {n C : Nat} (h : n < 31) : (((1 : Int32) <<< (nI n &&& 31)) - 1) &&& (nI C ^^^ (-1)) = nI (unc n C) := by
  rw [all_nI h]
  apply b_ext
  intro i hi
  rw [b_and, b_xor, b_m1 i hi, bt_nI hi, bt_nI hi, bt_nI hi, unc_tb, Nat.testBit_two_pow_sub_one, Bool.xor_true]
theorem opn_nI {n F C : Nat} (h : n < 31) : ((((1 : Int32) <<< (nI n &&& 31)) - 1) &&& (nI F ^^^ (-1))) &&& (nI C ^^^ (-1)) = nI (opn n F C) := by
  rw [all_nI h]
  apply b_ext
  intro i hi
  rw [b_and, b_and, b_xor, b_xor, b_m1 i hi, bt_nI hi, bt_nI hi, bt_nI hi, bt_nI hi, opn_tb, Nat.testBit_two_pow_sub_one, Bool.xor_true, Bool.xor_true, Bool.and_assoc]
theorem unc_lt (n C : Nat) : unc n C < 2 ^ n := msk_lt _ _
theorem opn_lt (n F C : Nat) : opn n F C < 2 ^ n := msk_lt _ _
theorem p2_10 {n s : Nat} (h : s < 2 ^ n) (hn : n ≤ 10) : s < 1024 := Nat.lt_of_lt_of_le h (p2_le hn)
def netP (i j : Nat) : Prop := (i = 5 ∧ j = 5) ∨ (6 ≤ i ∧ i ≤ 10)
theorem or_two {s n : Nat} (h : s < 2 ^ n) : s ||| 2 ^ n = s + 2 ^ n := by
  rw [Nat.or_comm, Nat.add_comm]
  have := Nat.two_pow_add_eq_or_of_lt h 1
  rw [Nat.mul_one] at this
  exact this.symm
theorem RchC_of {h h' : AH} {g : G} (hr : RchC h g) (he : ∀ j, AI h' 10 j = AI h 10 j) : RchC h' g := fun s hs => (he s).trans (hr s hs)
theorem NetC.fr {P : Nat → Nat → Prop} {h h' : AH} {g : G} (hc : NetC h g) (hf : Fr P h h') (hp : ∀ i j, 5 ≤ i → i ≤ 9 → ¬ P i j) : NetC h' g := by
  obtain ⟨h1, h2, h3, h4⟩ := hc
  refine ⟨?_, ?_, ?_, fun i hi => ?_⟩
  · rw [hf.I (hp _ _ (by decide) (by decide)), h1]
  · rw [hf.I (hp _ _ (by decide) (by decide)), h2]
  · rw [hf.I (hp _ _ (by decide) (by decide)), h3]
  · rw [hf.I (hp _ _ (by decide) (by decide)), hf.I (hp _ _ (by decide) (by decide)), hf.I (hp _ _ (by decide) (by decide)), hf.I (hp _ _ (by decide) (by decide))]
    exact h4 i hi
theorem RchC.fr {P : Nat → Nat → Prop} {h h' : AH} {g : G} (hr : RchC h g) (hf : Fr P h h') (hp : ∀ j, ¬ P 10 j) : RchC h' g := RchC_of hr (fun j => hf.I (hp j))
/-- the set with one lane more is reached from what is reached without -/
theorem spr_rch {g : G} (hg : GOK g) {s s' : Nat} (hs : ∀ i, s.testBit i = true → s'.testBit i = true) : spr g s' 5 (rch g s) = rch g s' := by
  have h1 := pcn_pos hg.2.1 (rch_end hg s)
  refine rch_is hg (spr_isR hg 5 _ (rch_lt hg s) (rch_end hg s) (fun p hp => ?_) (by omega)).1
  exact ((rch_ok hg s').1 p).mp (rch_mono hg hs hp)
theorem w22 {d : Nat} {g : G} (ho : GOK g) (o t p : Nat) (hn : g.n < 10) (ho2 : GOK (addG g o t p)) {h0 : AH} {Q : Option Value → AH → Prop} (K : ∀ h', Fr netP h0 h' → NetC h' (addG g o t p) → RchC h' (addG g o t p) → Q none h') : ∀ m i h, i + m = 2 ^ g.n → Sh h → Fr netP h0 h → NetC h (addG g o t p) → (∀ s, s < 2 ^ g.n + i → AI h 10 s = nI (rch (addG g o t p) s)) → Wp (d + 3) 22 75 [.ref 5, mk0, mk0, mk0, .int (nI (2 ^ g.n)), .int (nI i)] [] h Q
  | 0, i, h, hi, HS, hf, hc, hr => by
    have h10 : 2 ^ g.n ≤ 2 ^ 10 := p2_le (by omega)
    refine g22_75 _ _ _ h HS Q ⟨fun c => ?_, fun _ => ?_⟩
    · rw [nI_ltI (by omega) (by omega)] at c
      omega
    · refine K h hf hc (fun s hs => hr s ?_)
      have e : 2 ^ (g.n + 1) = 2 ^ g.n * 2 := Nat.pow_succ 2 g.n
      have hs2 : s < 2 ^ (g.n + 1) := hs
      omega
  | m + 1, i, h, hi, HS, hf, hc, hr => by
    have h9 : 2 ^ g.n ≤ 2 ^ 9 := p2_le (by omega)
    have hlt : i < 2 ^ g.n := by omega
    refine g22_75 _ _ _ h HS Q ⟨fun _ => ?_, fun c => absurd (by rw [nI_ltI (by omega) (by omega)]; exact hlt) c⟩
    rw [atS HS 10 rfl (n := 1024) (c := 20) (by omega), hr i (by omega), fa_or]
    refine c24 HS hc ho2 (rch_lt ho2 i) ⟨_, rfl, HS, fun h5 e5 => ?_⟩
    have hsub : ∀ j, i.testBit j = true → (i ||| 2 ^ g.n).testBit j = true := fun j hj => by rw [Nat.testBit_or, hj]; rfl
    rw [spr_rch ho2 hsub, or_two hlt, putS HS 10 rfl (n := 1024) (c := 20) (by omega)] at e5
    subst e5
    rw [nI_1]
    refine w22 ho o t p hn ho2 K m (i + 1) _ (by omega) (HS.stI _ _ _) (hf.trans (Fr.stI (i := 10) (Or.inr ⟨by decide, by decide⟩))) (hc.fr (Fr.stI (P := fun i _ => i = 10) rfl) (fun a b h1 h2 z => by omega)) (fun s hs => ?_)
    by_cases hse : s = i + 2 ^ g.n
    · rw [hse, AI_stI_s]
    · rw [AI_stI_o _ _ (Or.inr hse)]
      exact hr s (by omega)
theorem c22 {d : Nat} {h : AH} (HS : Sh h) {g : G} (hg : NetC h g) (hr : RchC h g) (ho : GOK g) (hn : g.n < 10) {o t p : Nat} (h1 : o < 6) (h2 : t < 6) (h3 : p < 10) {Q : Option Value → AH → Prop} (K : ∀ h', Fr netP h h' → NetC h' (addG g o t p) → RchC h' (addG g o t p) → Q none h') : Cl (d + 3) 22 [.ref 5, .int (nI o), .int (nI t), .int (nI p)] h Q := by
  refine Cl.enter rfl (g22_0 _ _ _ _ h HS Q ?_)
  intro ha ea hb eb hc ec hd ed
  rw [hg.1, putS HS 6 rfl (n := 10) (c := 20) hn] at ea
  have sa : Sh ha := by rw [ea]; exact HS.stI _ _ _
  have na : AI ha 5 5 = nI g.n := by rw [ea, AI_stI_o _ _ (Or.inl (by decide)), hg.1]
  rw [na, putS sa 7 rfl (n := 10) (c := 20) hn] at eb
  have sb : Sh hb := by rw [eb]; exact sa.stI _ _ _
  have nb : AI hb 5 5 = nI g.n := by rw [eb, AI_stI_o _ _ (Or.inl (by decide)), na]
  rw [nb, putS sb 8 rfl (n := 10) (c := 20) hn] at ec
  have sc : Sh hc := by rw [ec]; exact sb.stI _ _ _
  have nc : AI hc 5 5 = nI g.n := by rw [ec, AI_stI_o _ _ (Or.inl (by decide)), nb]
  rw [nc, putS sc 9 rfl (n := 10) (c := 20) hn, i1 o (by omega), i1 t (by omega), fa_or] at ed
  have sd : Sh hd := by rw [ed]; exact sc.stI _ _ _
  have nd : AI hd 5 5 = nI g.n := by rw [ed, AI_stI_o _ _ (Or.inl (by decide)), nc]
  rw [nd, i1 g.n (by omega), nI_1]
  have ho2 := ho.add hn h1 h2 h3
  have hp2 : 2 ^ g.n ≤ 2 ^ 9 := p2_le (by omega)
  refine w22 ho o t p hn ho2 K (2 ^ g.n) 0 _ (Nat.zero_add _) (sd.stI _ _ _) ?_ ?_ (fun s hs => ?_)
  · refine Fr.trans ?_ (Fr.stI (Or.inl ⟨rfl, rfl⟩))
    rw [ed]
    refine Fr.trans ?_ (Fr.stI (Or.inr ⟨by decide, by decide⟩))
    rw [ec]
    refine Fr.trans ?_ (Fr.stI (Or.inr ⟨by decide, by decide⟩))
    rw [eb]
    refine Fr.trans ?_ (Fr.stI (Or.inr ⟨by decide, by decide⟩))
    rw [ea]
    exact Fr.stI (Or.inr ⟨by decide, by decide⟩)
  · rw [ed, ec, eb, ea]
    refine ⟨AI_stI_s _ _ _ _, ?_, ?_, fun i hi => ?_⟩
    · simp only [AI_stI]
      simp
      exact hg.2.1
    · simp only [AI_stI]
      simp
      exact hg.2.2.1
    · have hi2 : i < g.n + 1 := hi
      simp only [AI_stI]
      show _ = nI (upN g.a g.n o i) ∧ _ = nI (upN g.b g.n t i) ∧ _ = nI (upN g.c g.n p i) ∧ _ = nI (2 ^ (upN g.a g.n o i) ||| 2 ^ (upN g.b g.n t i))
      by_cases he : i = g.n
      · subst he
        simp [upN_s]
      · have hx := hg.2.2.2 i (by omega)
        rw [upN_o _ _ he, upN_o _ _ he, upN_o _ _ he]
        simp [he]
        exact ⟨hx.1, hx.2.1, hx.2.2.1, hx.2.2.2⟩
  · have e1 : AI (stI hd 5 5 (nI (g.n + 1))) 10 s = AI h 10 s := by
      rw [ed, ec, eb, ea]
      simp [AI_stI]
    rw [e1, rch_add ho ho2 (by omega)]
    exact hr s (by omega)
