/-! the class's search and what it keeps -/
def VS (n F C : Nat) : Prop := F < 2 ^ n ∧ C < 2 ^ n ∧ ∀ i, ¬ (F.testBit i = true ∧ C.testBit i = true)
theorem opb_not {F C k : Nat} (h : opb F C k = true) : F.testBit k = false ∧ C.testBit k = false := by
  unfold opb at h
  cases a : F.testBit k <;> cases b : C.testBit k <;> rw [a, b] at h <;> first | exact ⟨rfl, rfl⟩ | cases h
theorem VS.F {n F C k : Nat} (h : VS n F C) (hk : k < n) (ho : opb F C k = true) : VS n (F ||| 2 ^ k) C := by
  refine ⟨Nat.or_lt_two_pow h.1 (Nat.pow_lt_pow_right (by decide) hk), h.2.1, fun i z => ?_⟩
  rw [Nat.testBit_or, Bool.or_eq_true, tb_two] at z
  rcases z.1 with q | q
  · exact h.2.2 i ⟨q, z.2⟩
  · rw [q, (opb_not ho).2] at z
    cases z.2
theorem VS.C {n F C k : Nat} (h : VS n F C) (hk : k < n) (ho : opb F C k = true) : VS n F (C ||| 2 ^ k) := by
  refine ⟨h.1, Nat.or_lt_two_pow h.2.1 (Nat.pow_lt_pow_right (by decide) hk), fun i z => ?_⟩
  rw [Nat.testBit_or, Bool.or_eq_true, tb_two] at z
  rcases z.2 with q | q
  · exact h.2.2 i ⟨z.1, q⟩
  · rw [q, (opb_not ho).1] at z
    cases z.1
def std (F C : Nat) : Nat := thr F 10 + 2 * thr C 10
theorem std_eq {n F C : Nat} (h : VS n F C) (hn : n ≤ 10) : std F C = thr F n + 2 * thr C n := by
  unfold std
  rw [thr_eq h.1 10 hn, thr_eq h.2.1 10 hn]
theorem std_lt {n F C : Nat} (h : VS n F C) (hn : n ≤ 10) : std F C < 3 ^ n := by
  rw [std_eq h hn]
  exact thr_lt h.2.2 n
theorem std_inj {n F C F' C' : Nat} (h : VS n F C) (h' : VS n F' C') (hn : n ≤ 10) (e : std F C = std F' C') : F = F' ∧ C = C' := by
  rw [std_eq h hn, std_eq h' hn] at e
  have key := (thr_inj h.2.2 h'.2.2 n).2.2 e
  constructor
  · apply tb_ext
    intro i
    rcases Nat.lt_or_ge i n with z | z
    · exact (key i z).1
    · rw [tb_ge h.1 z, tb_ge h'.1 z]
  · apply tb_ext
    intro i
    rcases Nat.lt_or_ge i n with z | z
    · exact (key i z).2
    · rw [tb_ge h.2.1 z, tb_ge h'.2.1 z]
theorem p3_le {n m : Nat} (h : n ≤ m) : 3 ^ n ≤ 3 ^ m := Nat.pow_le_pow_right (by decide) h
def ThrC (h : AH) : Prop := ∀ s, s < 1024 → AI h 18 s = nI (thr s 10)
def FacC (h : AH) : Prop := (AK h 1).1 = 20 ∧ ∀ j, j < 11 → 0 ≤ (AI h 1 j).toBitVec.toNat
theorem fct10 {l : Nat} (h : l ≤ 10) : fct l ≤ 3628800 := fct_le h
theorem oc_le (n F C : Nat) : oc n F C ≤ n := fa_cnt_le _ n
/-- worth, for a stand -/
def wv (g : G) (how F C w : Nat) : Nat := wor g how (oc g.n F C) F C w
/-- whether JOIN has it -/
def hv (g : G) (F C w : Nat) : Bool := has g (oc g.n F C) F C w
/-- digits of w bits -/
def dbt (w u k : Nat) : Nat := u / 2 ^ (w * k) % 2 ^ w
theorem dbt_tb (w u k i : Nat) : (dbt w u k).testBit i = (decide (i < w) && u.testBit (w * k + i)) := by
  unfold dbt
  rw [Nat.testBit_mod_two_pow, Nat.testBit_div_two_pow, Nat.add_comm]
theorem dbt_0 (w k : Nat) : dbt w 0 k = 0 := by
  unfold dbt
  rw [Nat.zero_div, Nat.zero_mod]
theorem dbt_or (w a b k : Nat) : dbt w (a ||| b) k = dbt w a k ||| dbt w b k := by
  apply tb_ext
  intro i
  rw [Nat.testBit_or, dbt_tb, dbt_tb, dbt_tb, Nat.testBit_or]
  cases decide (i < w) <;> rfl
theorem dbt_self {w v k : Nat} (h : v < 2 ^ w) : dbt w (v * 2 ^ (w * k)) k = v := by
  unfold dbt
  rw [Nat.mul_div_cancel _ (Nat.two_pow_pos _), Nat.mod_eq_of_lt h]
theorem dbt_other {w v k j : Nat} (h : v < 2 ^ w) (hn : j ≠ k) : dbt w (v * 2 ^ (w * k)) j = 0 := by
  apply tb_ext
  intro i
  rw [dbt_tb, Nat.zero_testBit, Nat.testBit_mul_two_pow]
  rcases Nat.lt_or_ge i w with z | z
  · rcases Nat.lt_or_gt_of_ne hn with q | q
    · have h1 : w * (j + 1) ≤ w * k := Nat.mul_le_mul_left w q
      rw [Nat.mul_add, Nat.mul_one] at h1
      have h2 : ¬ w * k ≤ w * j + i := by omega
      simp [h2]
    · have h1 : w * (k + 1) ≤ w * j := Nat.mul_le_mul_left w q
      rw [Nat.mul_add, Nat.mul_one] at h1
      have h2 : v.testBit (w * j + i - w * k) = false := tb_ge h (by omega)
      simp [h2]
  · have h2 : ¬ i < w := by omega
    simp [h2]
theorem dbt_put {w u v k j : Nat} (h : v < 2 ^ w) (e : dbt w u k = 0 ∨ dbt w u k = v) : dbt w (u ||| v * 2 ^ (w * k)) j = if j = k then v else dbt w u j := by
  rw [dbt_or]
  by_cases z : j = k
  · subst z
    rw [if_pos rfl, dbt_self h]
    rcases e with e | e
    · rw [e, Nat.zero_or]
    · rw [e, Nat.or_self]
  · rw [if_neg z, dbt_other h z, Nat.or_zero]
theorem uN_lN {n : Nat} (h : n < 2 ^ 64) : uN (lN n) = n := wb_tn h
theorem lN_uN (x : Int64) : lN (uN x) = x := uN_inj (uN_lN (uN_lt x))
/-- a digit read and written -/
theorem dbt_rd {x : Int64} {w k s m : Nat} (hs : s = w * k) (hk : s < 64) (hm : m = 2 ^ w - 1) : ((x.toUInt64 >>> ((nI s).toInt64.toUInt64 &&& Int64.toUInt64 63)).toInt64).toInt32 &&& nI m = nI (dbt w (uN x) k) := by
  obtain ⟨n, hn, rfl⟩ := wb_of x
  rw [wb_shr hn hk, lN_i, hm, fa_mask, uN_lN hn, hs]
  rfl
theorem dbt_wr {x : Int64} {w k s v : Nat} (hs : s = w * k) (hk : s + w ≤ 64) (hw : 0 < w) (hv : v < 2 ^ w) (hv2 : v < 2 ^ 31) : x ||| ((nI v).toInt64 <<< ((nI s).toInt64 &&& 63)) = lN (uN x ||| v * 2 ^ (w * k)) ∧ uN x ||| v * 2 ^ (w * k) < 2 ^ 64 := by
  have e := lN_uN x
  have hl : uN x < 2 ^ 64 := uN_lt x
  have h1 : v * 2 ^ s < 2 ^ 64 := by
    have h2 : v * 2 ^ s < 2 ^ w * 2 ^ s := Nat.mul_lt_mul_of_pos_right hv (Nat.two_pow_pos s)
    rw [← Nat.pow_add] at h2
    exact Nat.lt_of_lt_of_le h2 (Nat.pow_le_pow_right (by decide) (by omega))
  rw [← hs]
  refine ⟨?_, Nat.or_lt_two_pow hl h1⟩
  rw [nI_l hv2, wb_shl v (by omega)]
  have h3 := wb_or hl h1
  rw [e] at h3
  exact h3
theorem atvL_nI {h : AH} {a j : Nat} (hj : j < (AK h a).2) (hn : (AK h a).2 < 2 ^ 31) : atvL h a (nI j) = AL h a j := by
  unfold atvL
  rw [if_neg (nI_pos (by omega)), nI_fold, if_pos ((nI_ltI (by omega) hn).mpr hj), tnI (by omega)]
theorem putvL_nI {h : AH} {a j : Nat} {x : Int64} (hj : j < (AK h a).2) (hn : (AK h a).2 < 2 ^ 31) : putvL h a (nI j) x = stL h a j x := by
  unfold putvL
  rw [if_neg (nI_pos (by omega)), nI_fold, if_pos ((nI_ltI (by omega) hn).mpr hj), tnI (by omega)]
theorem atLS {h : AH} (hs : Sh h) (i : Nat) {c n j : Nat} (e : K0 i = (c, n)) (hj : j < n) (hn : c ≠ 1000 := by decide) (hl : n < 2 ^ 31 := by decide) : atvL h i (nI j) = AL h i j := by
  have := K0_len hs i e hn
  exact atvL_nI (by omega) (by omega)
theorem putLS {h : AH} (hs : Sh h) (i : Nat) {c n j : Nat} {x : Int64} (e : K0 i = (c, n)) (hj : j < n) (hn : c ≠ 1000 := by decide) (hl : n < 2 ^ 31 := by decide) : putvL h i (nI j) x = stL h i j x := by
  have := K0_len hs i e hn
  exact putvL_nI (by omega) (by omega)
/-- who has it, as kept: two bits a stand and a side -/
def plO (w F C : Nat) : Nat := 2 * std F C + w
def ow (h : AH) (p : Nat) : Nat := dbt 2 (uN (AL h 19 (p / 32))) (p % 32)
def ov (g : G) (F C w : Nat) : Nat := if hv g F C w = true then 1 else 2
def OwC (h : AH) (g : G) : Prop := ∀ w F C, w < 2 → VS g.n F C → ow h (plO w F C) = 0 ∨ ow h (plO w F C) = ov g F C w
/-- what it is worth, as kept: twenty bits a stand and a way to ask -/
def wt (h : AH) (st how : Nat) : Nat := dbt 20 (uN (AL h 46 st)) how
def WtT (h : AH) (g : G) (tk : Nat) : Prop := ∀ how F C w, how < 3 → w < 2 → VS g.n F C → (w + oc g.n F C) % 2 = tk → wt h (std F C) how = 0 ∨ wt h (std F C) how = wv g how F C w + 1
def WtC (h : AH) (g : G) : Prop := AI h 17 4 = -1 ∨ ∃ tk, tk < 2 ∧ AI h 17 4 = nI tk ∧ WtT h g tk
def SI (h : AH) (g : G) : Prop := Sh h ∧ NetC h g ∧ RchC h g ∧ ThrC h ∧ FacC h ∧ OwC h g ∧ WtC h g
def SR (h h' : AH) : Prop := Fr (fun i _ => i = 19) h h'
def WR (h h' : AH) : Prop := Fr (fun i _ => i = 46) h h'
theorem SR.rfl {h : AH} : SR h h := Fr.rfl
theorem SR.trans {h h1 h2 : AH} (a : SR h h1) (b : SR h1 h2) : SR h h2 := Fr.trans a b
theorem plO_inj {n w F C w' F' C' : Nat} (h : VS n F C) (h' : VS n F' C') (hn : n ≤ 10) (hw : w < 2) (hw' : w' < 2) (e : plO w F C = plO w' F' C') : w = w' ∧ F = F' ∧ C = C' := by
  unfold plO at e
  exact ⟨by omega, std_inj h h' hn (by omega)⟩
theorem plO_lt {n w F C : Nat} (h : VS n F C) (hn : n ≤ 10) (hw : w < 2) : plO w F C < 118098 := by
  have h1 := std_lt h hn
  have h2 := p3_le hn
  have e2 : 3 ^ 10 = 59049 := by decide
  unfold plO
  omega
theorem ov_lt (g : G) (F C w : Nat) : ov g F C w < 4 := by
  unfold ov
  split <;> decide
theorem OwC.fr {P : Nat → Nat → Prop} {h h' : AH} {g : G} (o : OwC h g) (hf : Fr P h h') (hp : ∀ j, ¬ P 19 j) : OwC h' g := by
  intro w F C hw hv
  unfold ow
  rw [hf.L (hp _)]
  exact o w F C hw hv
theorem WtC.fr {P : Nat → Nat → Prop} {h h' : AH} {g : G} (o : WtC h g) (hf : Fr P h h') (hp : ∀ j, ¬ P 46 j) (h4 : ¬ P 17 4) : WtC h' g := by
  unfold WtC
  rw [hf.I h4]
  rcases o with o | ⟨tk, a, b, c⟩
  · exact Or.inl o
  · refine Or.inr ⟨tk, a, b, fun how F C w h3 hw hv he => ?_⟩
    unfold wt
    rw [hf.L (hp _)]
    exact c how F C w h3 hw hv he
theorem SI.putO {h : AH} {g : G} {w F C : Nat} {u : Nat} (hi : SI h g) (ho : GOK g) (hw : w < 2) (hs : VS g.n F C) (hu : u < 2 ^ 64) (eu : u = uN (AL h 19 (plO w F C / 32)) ||| ov g F C w * 2 ^ (2 * (plO w F C % 32))) : SI (stL h 19 (plO w F C / 32) (lN u)) g ∧ SR h (stL h 19 (plO w F C / 32) (lN u)) := by
  obtain ⟨s1, s2, s3, s4, s5, s6, s7⟩ := hi
  have hf : Fr (fun i _ => i = 19) h (stL h 19 (plO w F C / 32) (lN u)) := Fr.stL rfl
  have hp := s6 w F C hw hs
  have hv := ov_lt g F C w
  refine ⟨⟨hf.Sh s1, s2.fr hf (fun a b c d z => by omega), s3.fr hf (fun j z => by omega), s4, s5, fun w' F' C' hw' hs' => ?_, s7.fr hf (fun j z => by omega) (by omega)⟩, hf⟩
  have hq := s6 w' F' C' hw' hs'
  have key : ow (stL h 19 (plO w F C / 32) (lN u)) (plO w' F' C') = if plO w' F' C' = plO w F C then ov g F C w else ow h (plO w' F' C') := by
    unfold ow
    rw [AL_stL]
    by_cases e : plO w' F' C' / 32 = plO w F C / 32
    · rw [if_pos ⟨rfl, e⟩, uN_lN hu, eu, dbt_put hv hp]
      by_cases e2 : plO w' F' C' = plO w F C
      · rw [if_pos e2, if_pos (by rw [e2])]
      · rw [if_neg e2, if_neg (by omega), e]
    · rw [if_neg (fun z => e z.2), if_neg (fun z => e (by rw [z]))]
  rw [key]
  by_cases e2 : plO w' F' C' = plO w F C
  · obtain ⟨rfl, rfl, rfl⟩ := plO_inj hs' hs ho.1 hw' hw e2
    rw [if_pos rfl]
    exact Or.inr rfl
  · rw [if_neg e2]
    exact hq
theorem SI.putW {h : AH} {g : G} {how w F C tk u : Nat} (hi : SI h g) (ho : GOK g) (h9 : g.n ≤ 9) (h3 : how < 3) (hw : w < 2) (hs : VS g.n F C) (ht : tk < 2) (htk : AI h 17 4 = nI tk) (hpar : (w + oc g.n F C) % 2 = tk) (hb : wv g how F C w + 1 < 2 ^ 20) (hu : u < 2 ^ 64) (eu : u = uN (AL h 46 (std F C)) ||| (wv g how F C w + 1) * 2 ^ (20 * how)) : SI (stL h 46 (std F C) (lN u)) g ∧ WR h (stL h 46 (std F C) (lN u)) := by
  obtain ⟨s1, s2, s3, s4, s5, s6, s7⟩ := hi
  have hf : Fr (fun i _ => i = 46) h (stL h 46 (std F C) (lN u)) := Fr.stL rfl
  have hT : WtT h g tk := by
    rcases s7 with z | ⟨tk', a, b, c⟩
    · rw [htk] at z
      have : nI tk < 0 := by rw [z]; decide
      exact absurd this (nI_pos (by omega))
    · rw [htk] at b
      rw [(nI_eq (by omega) (by omega)).mp b]
      exact c
  refine ⟨⟨hf.Sh s1, s2.fr hf (fun a b c d z => by omega), s3.fr hf (fun j z => by omega), s4, s5, s6.fr hf (fun j z => by omega), Or.inr ⟨tk, ht, htk, fun how' F' C' w' h3' hw' hs' hpar' => ?_⟩⟩, hf⟩
  have hq := hT how' F' C' w' h3' hw' hs' hpar'
  have hp := hT how F C w h3 hw hs hpar
  have key : wt (stL h 46 (std F C) (lN u)) (std F' C') how' = if std F' C' = std F C ∧ how' = how then wv g how F C w + 1 else wt h (std F' C') how' := by
    unfold wt
    rw [AL_stL]
    by_cases e : std F' C' = std F C
    · rw [if_pos ⟨rfl, e⟩, uN_lN hu, eu, dbt_put hb hp]
      by_cases e2 : how' = how
      · rw [if_pos e2, if_pos ⟨e, e2⟩]
      · rw [if_neg e2, if_neg (fun z => e2 z.2), e]
    · rw [if_neg (fun z => e z.2), if_neg (fun z => e z.1)]
  rw [key]
  by_cases e2 : std F' C' = std F C ∧ how' = how
  · obtain ⟨rfl, rfl⟩ := std_inj hs' hs ho.1 e2.1
    rw [if_pos e2, e2.2]
    have ew : w' = w := by omega
    rw [ew]
    exact Or.inr rfl
  · rw [if_neg e2]
    exact hq
theorem maxI {a b : Nat} (ha : a < 2 ^ 31) (hb : b < 2 ^ 31) : (if nI a < nI b then nI b else nI a) = nI (max a b) := by
  by_cases hlt : a < b
  · rw [if_pos ((nI_ltI ha hb).mpr hlt), Nat.max_eq_right (by omega)]
  · rw [if_neg (fun z => hlt ((nI_ltI ha hb).mp z)), Nat.max_eq_left (by omega)]
theorem minI {a b : Nat} (ha : a < 2 ^ 31) (hb : b < 2 ^ 31) : (if nI b < nI a then nI b else nI a) = nI (min a b) := by
  by_cases hlt : b < a
  · rw [if_pos ((nI_ltI hb ha).mpr hlt), Nat.min_eq_right (by omega)]
  · rw [if_neg (fun z => hlt ((nI_ltI hb ha).mp z)), Nat.min_eq_left (by omega)]
/-- a move's child -/
def wch (g : G) (how l F C w k : Nat) : Nat := if w = 0 then wor g how l (F ||| 2 ^ k) C 1 else wor g how l F (C ||| 2 ^ k) 0
def bst (g : G) (how l F C w i : Nat) : Nat := if w = 0 then fo (opb F C) (fun k y => max y (wor g how l (F ||| 2 ^ k) C 1)) i 0 else fo (opb F C) (fun k y => min y (wor g how l F (C ||| 2 ^ k) 0)) i (fct l)
def smm (g : G) (how l F C w i : Nat) : Nat := fo (opb F C) (fun k y => y + wch g how l F C w k) i 0
theorem wch_le {g : G} {how l F C w k : Nat} (h : oc g.n F C = l + 1) (hk : k < g.n) (ho : opb F C k = true) : wch g how l F C w k ≤ fct l := by
  unfold wch
  split
  · exact wor_le g how l _ _ _ (by have := oc_F hk ho; omega)
  · exact wor_le g how l _ _ _ (by have := oc_C hk ho; omega)
theorem bst_le {g : G} {how l F C w i : Nat} (h : oc g.n F C = l + 1) (hi : i ≤ g.n) : bst g how l F C w i ≤ fct l := by
  unfold bst
  split
  · rename_i hw
    rcases (fo_max (p := opb F C) (f := fun k => wor g how l (F ||| 2 ^ k) C 1) (x := 0) i).2.2 with z | ⟨k, a, b, c⟩
    · rw [z]; exact Nat.zero_le _
    · rw [c]
      have := wch_le (how := how) (w := w) (k := k) h (by omega) b
      unfold wch at this
      rwa [if_pos hw] at this
  · exact (fo_min i).1
theorem wor_succ (g : G) (how l F C w : Nat) : wor g how (l + 1) F C w = if jn g F = true then fct (l + 1) else if jn g (unc g.n C) = true then (if cha how w = true then smm g how l F C w g.n else (l + 1) * bst g how l F C w g.n) else 0 := by
  show (if jn g F = true then fct (l + 1) else if jn g (unc g.n C) = true then (if cha how w = true then fo (opb F C) (fun k y => y + (if w = 0 then wor g how l (F ||| 2 ^ k) C 1 else wor g how l F (C ||| 2 ^ k) 0)) g.n 0 else if w = 0 then (l + 1) * fo (opb F C) (fun k y => max y (wor g how l (F ||| 2 ^ k) C 1)) g.n 0 else (l + 1) * fo (opb F C) (fun k y => min y (wor g how l F (C ||| 2 ^ k) 0)) g.n (fct l)) else 0) = _
  unfold bst smm wch
  by_cases hw : w = 0
  · rw [if_pos hw, if_pos hw]
  · rw [if_neg hw, if_neg hw]
theorem WR.tk {h h' : AH} (r : WR h h') : AI h' 17 4 = AI h 17 4 := Fr.I r (by omega)
def WOK (g : G) (l d : Nat) : Prop := ∀ (how F C w tk : Nat) (h : AH) (Q : Option Value → AH → Prop), how < 3 → w < 2 → VS g.n F C → oc g.n F C = l → tk < 2 → AI h 17 4 = nI tk → (w + l) % 2 = tk → SI h g → (∀ h', SI h' g → WR h h' → Q (some (.int (nI (wor g how l F C w)))) h') → Cl d 61 [.ref 17, .int (nI how), .int (nI F), .int (nI C), .int (nI w), .int (nI l)] h Q
/-- a row of longs emptied -/
theorem w56 {d a n : Nat} {h0 : AH} (hk : AK h0 a = (21, n)) (hn : n < 2 ^ 31) (h2 : 2 ≤ a) (hs : Sh h0) {Q : Option Value → AH → Prop} (K : ∀ h', Fr (fun i _ => i = a) h0 h' → AI h' = AI h0 → (∀ j, j < n → AL h' a j = 0) → Q none h') : ∀ m i h, i + m = n → Fr (fun i _ => i = a) h0 h → AI h = AI h0 → (∀ j, j < i → AL h a j = 0) → Wp d 56 2 [.ref a, .int (nI i)] [] h Q
  | 0, i, h, hi, hf, ha, hz => by
    have e : i = n := by omega
    have k : AK h a = (21, n) := by rw [hf.2.2.1]; exact hk
    refine g56_2 d _ _ h (hf.Sh hs) Q ⟨by rw [k]; exact Or.inr (Or.inl rfl), fun c => ?_, fun _ => K h hf ha (by rw [← e]; exact hz)⟩
    rw [k, nI_fold, nI_ltI (by omega) hn] at c
    omega
  | m + 1, i, h, hi, hf, ha, hz => by
    have k : AK h a = (21, n) := by rw [hf.2.2.1]; exact hk
    have hlt : i < n := by omega
    refine g56_2 d _ _ h (hf.Sh hs) Q ⟨by rw [k]; exact Or.inr (Or.inl rfl), fun c => ⟨by rw [k], inR_of (nI_pos (by omega)) c (by rw [k]; exact hn), h2, ?_⟩, fun c => absurd (by rw [k, nI_fold, nI_ltI (by omega) hn]; exact hlt) c⟩
    rw [tnI (by omega), nI_1]
    refine w56 hk hn h2 hs K m (i + 1) _ (by omega) (hf.trans (Fr.stL rfl)) ha (fun j hj => ?_)
    rw [AL_stL]
    by_cases e : j = i
    · rw [if_pos ⟨rfl, e⟩]
    · rw [if_neg (fun z => e z.2)]
      exact hz j (by omega)
theorem c56 {d a n : Nat} {h : AH} (hk : AK h a = (21, n)) (hn : n < 2 ^ 31) (h2 : 2 ≤ a) (hs : Sh h) {Q : Option Value → AH → Prop} (K : ∀ h', Fr (fun i _ => i = a) h h' → AI h' = AI h → (∀ j, j < n → AL h' a j = 0) → Q none h') : Cl d 56 [.ref a] h Q := by
  refine Cl.enter rfl (g56_0 d _ h hs Q ?_)
  exact w56 hk hn h2 hs K n 0 h (Nat.zero_add n) Fr.rfl rfl (fun j hj => absurd hj (Nat.not_lt_zero j))
theorem uN_0 : uN 0 = 0 := rfl
theorem OwC.zero {h : AH} {g : G} (ho : GOK g) (hz : ∀ j, j < 3691 → AL h 19 j = 0) : OwC h g := by
  intro w F C hw hs
  have := plO_lt hs ho.1 hw
  refine Or.inl ?_
  unfold ow
  rw [hz _ (by omega), uN_0, dbt_0]
theorem WtT.zero {h : AH} {g : G} {tk : Nat} (h9 : g.n ≤ 9) (hz : ∀ j, j < 19683 → AL h 46 j = 0) : WtT h g tk := by
  intro how F C w h3 hw hs hpar
  have h1 := std_lt hs (by omega)
  have h2 := p3_le h9
  have e2 : 3 ^ 9 = 19683 := by decide
  refine Or.inl ?_
  unfold wt
  rw [hz _ (by omega), uN_0, dbt_0]
