/-! the reference's sets of lanes -/
def IR (h : AH) (g : G) (F C : Nat) : Prop := LnR h g ∧ AI h 23 0 = nI g.n ∧ LsR h g.n F C
theorem prI {h : AH} {g : G} (hl : LnR h g) (ho : GOK g) {i : Nat} (hi : i < g.n) : ((1 : Int32) <<< (AI h 24 i &&& 31)) ||| ((1 : Int32) <<< (AI h 25 i &&& 31)) = nI (prs g.a g.b i) := by
  obtain ⟨a, b⟩ := hl.2.2 i hi
  obtain ⟨la, lb⟩ := ho.ab i hi
  rw [a, b, i1 _ (by omega), i1 _ (by omega), fa_or]
  rfl
/-- the answer out of a best set -/
def bsA (m : Nat → Nat) (what : Nat) : Option Nat → Int32
  | none => -1
  | some b => if what = 1 then nI b else nI (m b)
theorem nI_m1 {p : Nat} (h : p < 2 ^ 31) : ¬ nI p = -1 := by
  intro z
  have : nI p < 0 := by rw [z]; decide
  exact nI_pos h this
theorem F_dif {n F C s : Nat} (hn : n ≤ 10) (h : VS n F C) (hs : sub s (opn n F C) = true) : F ||| dif (opn n F C) s = dif (unc n C) s := by
  apply tb_ext
  intro i
  rw [Nat.testBit_or, dif_tb (p2_10 (opn_lt _ _ _) hn), dif_tb (p2_10 (unc_lt _ _) hn), opn_tb, unc_tb]
  have h1 := h.2.2 i
  rcases Nat.lt_or_ge i n with z | z
  · rw [decide_eq_true z]
    cases hsi : s.testBit i with
    | false => cases a : F.testBit i <;> cases b : C.testBit i <;> simp [a, b] at h1 ⊢
    | true =>
      have := sub_tb hs hsi
      rw [opn_tb] at this
      cases a : F.testBit i <;> cases b : C.testBit i <;> simp [a, b] at this ⊢
  · rw [decide_eq_false (by omega), tb_ge h.1 z]
    simp
/-- a number out of its figures -/
def smd (f : Nat → Nat) : Nat → Nat
  | 0 => 0
  | m + 1 => smd f m + f m * 3 ^ m
theorem smd_lt {f : Nat → Nat} (hf : ∀ j, f j < 3) : ∀ m, smd f m < 3 ^ m
  | 0 => Nat.one_pos
  | m + 1 => by
    have ih := smd_lt hf m
    have h1 : f m * 3 ^ m ≤ 2 * 3 ^ m := Nat.mul_le_mul_right _ (by have := hf m; omega)
    unfold smd
    rw [Nat.pow_succ]
    omega
theorem dg_small {c m : Nat} (h : c < 3 ^ m) : ∀ j, m ≤ j → dg c j = 0 := fun j hj => by
  unfold dg
  rw [Nat.div_eq_of_lt (Nat.lt_of_lt_of_le h (p3_le hj))]
theorem smd_dg {f : Nat → Nat} (hf : ∀ j, f j < 3) : ∀ m j, j < m → dg (smd f m) j = f j
  | 0, j, hj => absurd hj (Nat.not_lt_zero j)
  | m + 1, j, hj => by
    show dg (smd f m + f m * 3 ^ m) j = f j
    rw [dg_add m (dg_small (smd_lt hf m) m (Nat.le_refl _)) (hf m) j]
    by_cases e : j = m
    · rw [if_pos e, e]
    · rw [if_neg e]
      exact smd_dg hf m j (by omega)
def bdg (n F C s : Nat) : Nat → Nat := fun j => if s.testBit (olN n F C j) = true then 1 else 0
theorem bdg_lt (n F C s j : Nat) : bdg n F C s j < 3 := by
  unfold bdg
  split <;> decide
theorem bdF {n F C s : Nat} (hs : VS n F C) (hb : sub s (opn n F C) = true) : cF n F C (smd (bdg n F C s) (oc n F C)) = F ||| s ∧ cC n F C (smd (bdg n F C s) (oc n F C)) = C := by
  have key : ∀ i, i < n → opb F C i = true → dg (smd (bdg n F C s) (oc n F C)) (rk F C i) = if s.testBit i = true then 1 else 0 := by
    intro i hi hp
    rw [smd_dg (bdg_lt n F C s) (oc n F C) _ (rk_lt hi hp)]
    unfold bdg
    rw [ol_rk hi hp]
  have sl : s < 2 ^ n := Nat.lt_of_le_of_lt (sub_le hb) (opn_lt n F C)
  constructor
  · apply tb_ext
    intro i
    rw [cF_tb, Nat.testBit_or]
    rcases Nat.lt_or_ge i n with z | z
    · rw [decide_eq_true z, Bool.true_and]
      cases hp : opb F C i with
      | true =>
        rw [key i z hp]
        cases s.testBit i <;> simp
      | false =>
        cases hsi : s.testBit i with
        | false => simp
        | true =>
          have := sub_tb hb hsi
          rw [opn_tb, decide_eq_true z] at this
          unfold opb at hp
          rw [hp] at this
          cases this
    · rw [decide_eq_false (by omega), tb_ge hs.1 z, tb_ge sl z]
      rfl
  · apply tb_ext
    intro i
    rw [cC_tb]
    rcases Nat.lt_or_ge i n with z | z
    · rw [decide_eq_true z, Bool.true_and]
      cases hp : opb F C i with
      | true =>
        rw [key i z hp]
        cases s.testBit i <;> simp
      | false => simp
    · rw [decide_eq_false (by omega), tb_ge hs.2.1 z]
      rfl
def inB (F C s : Nat) : Nat → Bool
  | 0 => true
  | k + 1 => inB F C s k && (!s.testBit k || opb F C k)
theorem inB_sub {n F C s : Nat} (h : s < 2 ^ n) : inB F C s n = sub s (opn n F C) := by
  have key : ∀ m, inB F C s m = true ↔ ∀ k, k < m → s.testBit k = true → opb F C k = true := by
    intro m
    induction m with
    | zero => exact ⟨fun _ k hk => absurd hk (Nat.not_lt_zero k), fun _ => rfl⟩
    | succ m ih =>
      unfold inB
      rw [Bool.and_eq_true, ih]
      constructor
      · rintro ⟨a, b⟩ k hk hb
        by_cases e : k = m
        · rw [e] at hb ⊢
          rw [hb] at b
          exact b
        · exact a k (by omega) hb
      · intro a
        refine ⟨fun k hk => a k (by omega), ?_⟩
        cases hb : s.testBit m with
        | true => rw [a m (by omega) hb]; rfl
        | false => rfl
  apply Bool.eq_iff_iff.mpr
  rw [key]
  constructor
  · intro a
    refine sub_of (fun i hi => ?_)
    have hl := tb_lt h hi
    rw [opn_tb, decide_eq_true hl]
    exact a i hl hi
  · intro a k hk hb
    have := sub_tb a hb
    rw [opn_tb, decide_eq_true hk] at this
    exact this
def CoR (h : AH) (g : G) : Prop := ∀ i, i < g.n → AI h 27 i = nI (g.c i)
def bgA (g : G) (F C what : Nat) : Int32 := bsA (fun s => csm g.c s g.n) what (bgt g F C)
theorem IR.sol {h h' : AH} {g : G} {F C : Nat} (R : IR h g F C) (hf : Fr solP h h') : IR h' g F C := ⟨R.1.sol hf, by rw [hf.I (by rintro (⟨-, z, -⟩ | ⟨z, -⟩) <;> omega)]; exact R.2.1, R.2.2.sol hf⟩
