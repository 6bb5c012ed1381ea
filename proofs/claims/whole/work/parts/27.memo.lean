/-! the class's search and what it keeps -/
def VS (n F C : Nat) : Prop := F < 2 ^ n ∧ C < 2 ^ n ∧ ∀ i, ¬ (F.testBit i = true ∧ C.testBit i = true)
theorem opb_not {F C k : Nat} (h : opb F C k = true) : F.testBit k = false ∧ C.testBit k = false := by
  unfold opb at h
  cases a : F.testBit k <;> cases b : C.testBit k <;> rw [a, b] at h <;> first | exact ⟨rfl, rfl⟩ | cases h
theorem VS.F {n F C k : Nat} (h : VS n F C) (hk : k < n) (ho : opb F C k = true) : VS n (F ||| 2 ^ k) C := by
  refine ⟨Nat.or_lt_two_pow h.1 (Nat.pow_lt_pow_right (by decide) hk), h.2.1, fun i z => ?_⟩
  rw [Nat.testBit_or, Bool.or_eq_true, tb_two] at z
  rcases z.1 with q | q
  · exact h.2.2 i ⟨q, z.2⟩
  · rw [q, (opb_not ho).2] at z
    cases z.2
theorem VS.C {n F C k : Nat} (h : VS n F C) (hk : k < n) (ho : opb F C k = true) : VS n F (C ||| 2 ^ k) := by
  refine ⟨h.1, Nat.or_lt_two_pow h.2.1 (Nat.pow_lt_pow_right (by decide) hk), fun i z => ?_⟩
  rw [Nat.testBit_or, Bool.or_eq_true, tb_two] at z
  rcases z.2 with q | q
  · exact h.2.2 i ⟨z.1, q⟩
  · rw [q, (opb_not ho).1] at z
    cases z.1
def std (F C : Nat) : Nat := thr F 10 + 2 * thr C 10
def plN (how w F C : Nat) : Nat := if how = 3 then w * 59049 + std F C else 118098 + (2 * how + w) * 19683 + std F C
theorem std_eq {n F C : Nat} (h : VS n F C) (hn : n ≤ 10) : std F C = thr F n + 2 * thr C n := by
  unfold std
  rw [thr_eq h.1 10 hn, thr_eq h.2.1 10 hn]
theorem std_lt {n F C : Nat} (h : VS n F C) (hn : n ≤ 10) : std F C < 3 ^ n := by
  rw [std_eq h hn]
  exact thr_lt h.2.2 n
theorem std_inj {n F C F' C' : Nat} (h : VS n F C) (h' : VS n F' C') (hn : n ≤ 10) (e : std F C = std F' C') : F = F' ∧ C = C' := by
  rw [std_eq h hn, std_eq h' hn] at e
  have key := (thr_inj h.2.2 h'.2.2 n).2.2 e
  constructor
  · apply tb_ext
    intro i
    rcases Nat.lt_or_ge i n with z | z
    · exact (key i z).1
    · rw [tb_ge h.1 z, tb_ge h'.1 z]
  · apply tb_ext
    intro i
    rcases Nat.lt_or_ge i n with z | z
    · exact (key i z).2
    · rw [tb_ge h.2.1 z, tb_ge h'.2.1 z]
theorem p3_le {n m : Nat} (h : n ≤ m) : 3 ^ n ≤ 3 ^ m := Nat.pow_le_pow_right (by decide) h
theorem plN_lt {n how w F C : Nat} (h : VS n F C) (hn : n ≤ 10) (h3 : how ≤ 3) (hw : w < 2) (h9 : how < 3 → n ≤ 9) : plN how w F C < 236196 := by
  have h1 := std_lt h hn
  unfold plN
  by_cases e : how = 3
  · rw [if_pos e]
    have := p3_le hn
    have e2 : 3 ^ 10 = 59049 := by decide
    omega
  · rw [if_neg e]
    have := p3_le (h9 (by omega))
    have e2 : 3 ^ 9 = 19683 := by decide
    omega
theorem plN_inj {n how w F C how' w' F' C' : Nat} (h : VS n F C) (h' : VS n F' C') (hn : n ≤ 10) (h3 : how ≤ 3) (h3' : how' ≤ 3) (hw : w < 2) (hw' : w' < 2) (h9 : how < 3 → n ≤ 9) (h9' : how' < 3 → n ≤ 9) (e : plN how w F C = plN how' w' F' C') : how = how' ∧ w = w' ∧ F = F' ∧ C = C' := by
  have h1 := std_lt h hn
  have h1' := std_lt h' hn
  have e10 := p3_le hn
  have e2 : 3 ^ 10 = 59049 := by decide
  have e3 : 3 ^ 9 = 19683 := by decide
  unfold plN at e
  by_cases a : how = 3 <;> by_cases b : how' = 3
  · rw [if_pos a, if_pos b] at e
    have ew : w = w' := by omega
    subst ew
    have := std_inj h h' hn (by omega)
    exact ⟨by omega, rfl, this.1, this.2⟩
  · rw [if_pos a, if_neg b] at e
    omega
  · rw [if_neg a, if_pos b] at e
    omega
  · rw [if_neg a, if_neg b] at e
    have e9 := p3_le (h9 (by omega))
    have ew : w = w' := by omega
    have eh : how = how' := by omega
    subst ew
    subst eh
    have := std_inj h h' hn (by omega)
    exact ⟨rfl, rfl, this.1, this.2⟩
def ThrC (h : AH) : Prop := ∀ s, s < 1024 → AI h 18 s = nI (thr s 10)
def FacC (h : AH) : Prop := AK h 1 = (20, 11) ∧ ∀ j, j < 11 → AI h 1 j = nI (fct j)
def ent (q v : Nat) : Int64 := lN (q * 4294967296 + v)
def KnF (h : AH) (last : Nat) : Prop := ∀ p, p < 236196 → ∃ q v, AL h 19 p = ent q v ∧ q ≤ last ∧ v < 2147483648
def MemoAt (h : AH) (st : Nat) (g : G) : Prop := ∀ how w F C, how ≤ 3 → w < 2 → VS g.n F C → (how < 3 → g.n ≤ 9) → ∀ v, v < 2147483648 → AL h 19 (plN how w F C) = ent st v → v = wor g how (oc g.n F C) F C w
def SI (h : AH) (g : G) (st last : Nat) : Prop := Sh h ∧ NetC h g ∧ RchC h g ∧ ThrC h ∧ FacC h ∧ AL h 17 3 = lN st ∧ AL h 17 4 = lN last ∧ st ≤ last ∧ last < 1048576 ∧ KnF h last ∧ MemoAt h st g
def SR (st : Nat) (h h' : AH) : Prop := Fr (fun i _ => i = 19) h h' ∧ ∀ st' g', st' < 1048576 → st' ≠ st → MemoAt h st' g' → MemoAt h' st' g'
theorem SR.rfl {st : Nat} {h : AH} : SR st h h := ⟨Fr.rfl, fun _ _ _ _ m => m⟩
theorem SR.trans {st : Nat} {h h1 h2 : AH} (a : SR st h h1) (b : SR st h1 h2) : SR st h h2 := ⟨a.1.trans b.1, fun st' g' hl hn m => b.2 st' g' hl hn (a.2 st' g' hl hn m)⟩
theorem ent_inj {q v q' v' : Nat} (h : ent q v = ent q' v') (hq : q < 2147483648) (hq' : q' < 2147483648) (hv : v < 2147483648) (hv' : v' < 2147483648) : q = q' ∧ v = v' := by
  have := (pk_lEQ (by omega) (by omega)).mp h
  omega
theorem ent_lo (q v : Nat) : (ent q v).toInt32 = nI v := by
  unfold ent
  rw [lN_i]
  apply Int32.toBitVec_inj.mp
  show BitVec.ofNat 32 _ = BitVec.ofNat 32 _
  apply BitVec.eq_of_toNat_eq
  rw [BitVec.toNat_ofNat, BitVec.toNat_ofNat]
  omega
theorem ent_hi {q v : Nat} (hq : q < 2147483648) (hv : v < 2147483648) : ((ent q v).toUInt64 >>> ((32 : Int32).toInt64.toUInt64 &&& Int64.toUInt64 63)).toInt64 = lN q := by
  show ((lN (q * 4294967296 + v)).toUInt64 >>> ((nI 32).toInt64.toUInt64 &&& Int64.toUInt64 63)).toInt64 = lN q
  rw [wb_shr (by omega) (by decide)]
  congr 1
  omega
theorem ent_mk {q v : Nat} (hq : q < 2147483648) (hv : v < 2147483648) : (lN q <<< ((32 : Int32).toInt64 &&& 63)) ||| (nI v).toInt64 = ent q v := by
  show (lN q <<< ((nI 32).toInt64 &&& 63)) ||| (nI v).toInt64 = ent q v
  rw [wb_shl q (by decide), nI_l (by omega), g_or (k := 32) (p := 2 ^ 32) rfl (by omega) (by omega)]
  rfl
theorem fct10 {l : Nat} (h : l ≤ 10) : fct l ≤ 3628800 := fct_le h
theorem oc_le (n F C : Nat) : oc n F C ≤ n := fa_cnt_le _ n
theorem SI.put {h : AH} {g : G} {st last how w F C v : Nat} (hi : SI h g st last) (ho : GOK g) (h3 : how ≤ 3) (hw : w < 2) (hv : VS g.n F C) (h9 : how < 3 → g.n ≤ 9) (e : v = wor g how (oc g.n F C) F C w) (hlt : v < 2147483648) : SI (stL h 19 (plN how w F C) (ent st v)) g st last ∧ SR st h (stL h 19 (plN how w F C) (ent st v)) := by
  obtain ⟨s1, s2, s3, s4, s5, s6, s7, s8, s9, s10, s11⟩ := hi
  have hf : Fr (fun i _ => i = 19) h (stL h 19 (plN how w F C) (ent st v)) := Fr.stL rfl
  refine ⟨⟨s1.stL _ _ _, s2.fr hf (fun a b c d z => by omega), s3.fr hf (fun j z => by omega), s4, s5, ?_, ?_, s8, s9, fun p hp => ?_, fun how' w' F' C' h3' hw' hv' h9' v' hv2 he => ?_⟩, hf, fun st' g' hl hne hm how' w' F' C' h3' hw' hv' h9' v' hv2 he => ?_⟩
  · rw [AL_stL, if_neg (by rintro ⟨z, -⟩; cases z), s6]
  · rw [AL_stL, if_neg (by rintro ⟨z, -⟩; cases z), s7]
  · rw [AL_stL]
    by_cases ep : p = plN how w F C
    · rw [if_pos ⟨rfl, ep⟩]
      exact ⟨st, v, rfl, s8, hlt⟩
    · rw [if_neg (fun z => ep z.2)]
      exact s10 p hp
  · rw [AL_stL] at he
    by_cases ep : plN how' w' F' C' = plN how w F C
    · rw [if_pos ⟨rfl, ep⟩] at he
      obtain ⟨rfl, rfl, rfl, rfl⟩ := plN_inj hv' hv ho.1 h3' h3 hw' hw h9' h9 ep
      rw [← (ent_inj he (by omega) (by omega) hlt hv2).2, e]
    · rw [if_neg (fun z => ep z.2)] at he
      exact s11 how' w' F' C' h3' hw' hv' h9' v' hv2 he
  · rw [AL_stL] at he
    by_cases ep : plN how' w' F' C' = plN how w F C
    · rw [if_pos ⟨rfl, ep⟩] at he
      exfalso
      exact hne (ent_inj he (by omega) (by omega) hlt hv2).1.symm
    · rw [if_neg (fun z => ep z.2)] at he
      exact hm how' w' F' C' h3' hw' hv' h9' v' hv2 he
theorem c62 {d : Nat} {h : AH} (HS : Sh h) (ht : ThrC h) {how w F C : Nat} (h3 : how ≤ 3) (hF : F < 1024) (hC : C < 1024) {Q : Option Value → AH → Prop} (K : Q (some (.int (nI (plN how w F C)))) h) : Cl (d + 1) 62 [.ref 17, .int (nI how), .int (nI F), .int (nI C), .int (nI w)] h Q := by
  have hs : atv h 18 (nI F) + 2 * atv h 18 (nI C) = nI (std F C) := by
    rw [atS HS 18 rfl (n := 1024) (c := 20) hF, atS HS 18 rfl (n := 1024) (c := 20) hC, ht F hF, ht C hC, fa_lit 2, pk_mul, nI_add]
    rfl
  refine Cl.enter rfl (g62_0 d _ _ _ _ h HS Q ⟨fun c => ?_, fun c => ?_⟩)
  · rw [eqC (y := 3) (b := 3) rfl rfl (by omega) (by omega)] at c
    rw [hs, fa_lit 59049, pk_mul, nI_add]
    unfold plN at K
    rwa [if_pos c] at K
  · rw [eqC (y := 3) (b := 3) rfl rfl (by omega) (by omega)] at c
    rw [hs, fa_lit 2, fa_lit 19683, fa_lit 118098, pk_mul, nI_add, pk_mul, nI_add, nI_add]
    unfold plN at K
    rwa [if_neg c] at K
theorem c63 {d : Nat} {h : AH} (HS : Sh h) {how w : Nat} (h3 : how ≤ 3) (hw : w < 2) {Q : Option Value → AH → Prop} (K : Q (some (.int (if cha how w = true then 1 else 0))) h) : Cl d 63 [.int (nI how), .int (nI w)] h Q := by
  refine Cl.enter rfl (g63_0 d _ _ h HS Q ?_)
  have e2 : nI how = 2 ↔ how = 2 := eqC rfl (b := 2) rfl (by omega) (by omega)
  have e0 : nI how = 0 ↔ how = 0 := nI_eq0 (by omega)
  have e1 : nI how = 1 ↔ how = 1 := eqC rfl (b := 1) rfl (by omega) (by omega)
  have f0 : nI w = 0 ↔ w = 0 := nI_eq0 (by omega)
  have f1 : nI w = 1 ↔ w = 1 := eqC rfl (b := 1) rfl (by omega) (by omega)
  rw [e2, e0, e1, f0, f1]
  obtain rfl | rfl | rfl | rfl : how = 0 ∨ how = 1 ∨ how = 2 ∨ how = 3 := by omega
  all_goals obtain rfl | rfl : w = 0 ∨ w = 1 := by omega
  all_goals simp [cha] at K ⊢
  all_goals exact K
theorem maxI {a b : Nat} (ha : a < 2 ^ 31) (hb : b < 2 ^ 31) : (if nI a < nI b then nI b else nI a) = nI (max a b) := by
  by_cases hlt : a < b
  · rw [if_pos ((nI_ltI ha hb).mpr hlt), Nat.max_eq_right (by omega)]
  · rw [if_neg (fun z => hlt ((nI_ltI ha hb).mp z)), Nat.max_eq_left (by omega)]
theorem minI {a b : Nat} (ha : a < 2 ^ 31) (hb : b < 2 ^ 31) : (if nI b < nI a then nI b else nI a) = nI (min a b) := by
  by_cases hlt : b < a
  · rw [if_pos ((nI_ltI hb ha).mpr hlt), Nat.min_eq_right (by omega)]
  · rw [if_neg (fun z => hlt ((nI_ltI hb ha).mp z)), Nat.min_eq_left (by omega)]
/-- a move's child -/
def wch (g : G) (how l F C w k : Nat) : Nat := if w = 0 then wor g how l (F ||| 2 ^ k) C 1 else wor g how l F (C ||| 2 ^ k) 0
def bst (g : G) (how l F C w i : Nat) : Nat := if w = 0 then fo (opb F C) (fun k y => max y (wor g how l (F ||| 2 ^ k) C 1)) i 0 else fo (opb F C) (fun k y => min y (wor g how l F (C ||| 2 ^ k) 0)) i (fct l)
def smm (g : G) (how l F C w i : Nat) : Nat := fo (opb F C) (fun k y => y + wch g how l F C w k) i 0
theorem wch_le {g : G} {how l F C w k : Nat} (h : oc g.n F C = l + 1) (hk : k < g.n) (ho : opb F C k = true) : wch g how l F C w k ≤ fct l := by
  unfold wch
  split
  · exact wor_le g how l _ _ _ (by have := oc_F hk ho; omega)
  · exact wor_le g how l _ _ _ (by have := oc_C hk ho; omega)
theorem bst_le {g : G} {how l F C w i : Nat} (h : oc g.n F C = l + 1) (hi : i ≤ g.n) : bst g how l F C w i ≤ fct l := by
  unfold bst
  split
  · rename_i hw
    rcases (fo_max (p := opb F C) (f := fun k => wor g how l (F ||| 2 ^ k) C 1) (x := 0) i).2.2 with z | ⟨k, a, b, c⟩
    · rw [z]; exact Nat.zero_le _
    · rw [c]
      have := wch_le (how := how) (w := w) (k := k) h (by omega) b
      unfold wch at this
      rwa [if_pos hw] at this
  · exact (fo_min i).1
/-- the best can't be bettered -/
theorem bst_aim {g : G} {how l F C w i : Nat} (h : oc g.n F C = l + 1) (hi : i ≤ g.n) (e : bst g how l F C w i = if w = 0 then fct l else 0) : bst g how l F C w g.n = bst g how l F C w i := by
  have hb := bst_le (how := how) (w := w) h (Nat.le_refl g.n)
  rw [e]
  unfold bst at e hb ⊢
  by_cases hw : w = 0
  · rw [if_pos hw] at e hb ⊢
    rw [if_pos hw] at e ⊢
    obtain ⟨a1, a2, a3⟩ := fo_max (p := opb F C) (f := fun k => wor g how l (F ||| 2 ^ k) C 1) (x := 0) i
    obtain ⟨b1, b2, b3⟩ := fo_max (p := opb F C) (f := fun k => wor g how l (F ||| 2 ^ k) C 1) (x := 0) g.n
    rcases a3 with z | ⟨k, a, b, c⟩
    · have := fct_pos l
      omega
    · have := b2 k (by omega) b
      omega
  · rw [if_neg hw] at e hb ⊢
    rw [if_neg hw] at e ⊢
    obtain ⟨a1, a2, a3⟩ := fo_min (p := opb F C) (f := fun k => wor g how l F (C ||| 2 ^ k) 0) (x := fct l) i
    obtain ⟨b1, b2, b3⟩ := fo_min (p := opb F C) (f := fun k => wor g how l F (C ||| 2 ^ k) 0) (x := fct l) g.n
    rcases a3 with z | ⟨k, a, b, c⟩
    · have := fct_pos l
      omega
    · have := b2 k (by omega) b
      omega
theorem wor_succ (g : G) (how l F C w : Nat) : wor g how (l + 1) F C w = if jn g F = true then fct (l + 1) else if jn g (unc g.n C) = true then (if cha how w = true then smm g how l F C w g.n else (l + 1) * bst g how l F C w g.n) else 0 := by
  show (if jn g F = true then fct (l + 1) else if jn g (unc g.n C) = true then (if cha how w = true then fo (opb F C) (fun k y => y + (if w = 0 then wor g how l (F ||| 2 ^ k) C 1 else wor g how l F (C ||| 2 ^ k) 0)) g.n 0 else if w = 0 then (l + 1) * fo (opb F C) (fun k y => max y (wor g how l (F ||| 2 ^ k) C 1)) g.n 0 else (l + 1) * fo (opb F C) (fun k y => min y (wor g how l F (C ||| 2 ^ k) 0)) g.n (fct l)) else 0) = _
  unfold bst smm wch
  by_cases hw : w = 0
  · rw [if_pos hw, if_pos hw]
  · rw [if_neg hw, if_neg hw]
def WOK (g : G) (st last l d : Nat) : Prop := ∀ (how F C w : Nat) (h : AH) (Q : Option Value → AH → Prop), how ≤ 3 → w < 2 → VS g.n F C → (how < 3 → g.n ≤ 9) → oc g.n F C = l → SI h g st last → (∀ h', SI h' g st last → SR st h h' → Q (some (.int (nI (wor g how l F C w)))) h') → Cl d 61 [.ref 17, .int (nI how), .int (nI F), .int (nI C), .int (nI w), .int (nI l)] h Q
theorem w64 {d : Nat} {g : G} {st last l : Nat} (ho : GOK g) (ih : WOK g st last l d) {how F C w : Nat} (h3 : how ≤ 3) (hw : w < 2) (hv : VS g.n F C) (h9 : how < 3 → g.n ≤ 9) (hoc : oc g.n F C = l + 1) {h0 : AH} {Q : Option Value → AH → Prop} (K : ∀ h', SI h' g st last → SR st h0 h' → Q (some (.int (nI (if cha how w = true then smm g how l F C w g.n else (l + 1) * bst g how l F C w g.n)))) h') : ∀ m i h, i + m = g.n → SI h g st last → SR st h0 h → Wp (d + 1) 64 60 [.ref 17, .int (nI how), .int (nI F), .int (nI C), .int (nI w), .int (nI (l + 1)), .int (nI (opn g.n F C)), .int (if cha how w = true then 1 else 0), mk0, .int (nI (if w = 0 then fct l else 0)), .int (nI (bst g how l F C w i)), .int (nI (smm g how l F C w i)), .int (nI i), mk0, mk0] [] h Q
  | 0, i, h, hi, S, R => by
    have hn := ho.1
    have e : i = g.n := by omega
    have kk := K h S R
    refine g64_60 d _ _ _ _ _ _ _ _ _ _ _ h S.1 Q ⟨fun c => ?_, fun _ => ⟨fun c => ?_, fun c => ?_⟩⟩
    · rw [ltC rfl S.2.1.1 (by omega) (by omega)] at c
      omega
    · rw [pk_mul, e]
      cases hc : cha how w with
      | true => rw [hc] at c; cases c
      | false => rwa [hc, if_neg (by decide)] at kk
    · rw [e]
      cases hc : cha how w with
      | true => rwa [hc, if_pos rfl] at kk
      | false => rw [hc] at c; exact absurd rfl c
  | m + 1, i, h, hi, S, R => by
    have hn := ho.1
    have hlt : i < g.n := by omega
    have hl : l ≤ 9 := by have := oc_le g.n F C; omega
    have hf := fct10 (l := l) (by omega)
    have hb := bst_le (how := how) (w := w) (i := i) hoc (by omega)
    have kk := K h S R
    have step : Wp (d + 1) 64 84 [.ref 17, .int (nI how), .int (nI F), .int (nI C), .int (nI w), .int (nI (l + 1)), .int (nI (opn g.n F C)), .int (if cha how w = true then 1 else 0), mk0, .int (nI (if w = 0 then fct l else 0)), .int (nI (bst g how l F C w i)), .int (nI (smm g how l F C w i)), .int (nI i), mk0, mk0] [] h Q := by
      refine g64_84 d _ _ _ _ _ _ _ _ _ _ _ h S.1 Q ?_
      have hop : (opn g.n F C).testBit i = opb F C i := by
        rw [opn_tb, decide_eq_true hlt]
        rfl
      rw [bC (by omega), hop, nI_1, i1 i (by omega), fa_or, fa_or, nI_pred, nI_eq0 (by omega)]
      refine ⟨fun c => ?_, fun c => ⟨fun c2 => ?_, fun c2 => ?_⟩⟩
      · have nx := w64 ho ih h3 hw hv h9 hoc K m (i + 1) h (by omega) S R
        have e1 : bst g how l F C w (i + 1) = bst g how l F C w i := by
          unfold bst
          rw [fo_no c, fo_no c]
        have e2 : smm g how l F C w (i + 1) = smm g how l F C w i := fo_no c
        rwa [e1, e2] at nx
      · have hop2 := ts_nf c
        have hch := wch_le (how := how) (w := w) hoc hlt hop2
        have ew : wch g how l F C w i = wor g how l (F ||| 2 ^ i) C 1 := if_pos c2
        refine ih how (F ||| 2 ^ i) C 1 h _ h3 (by decide) (hv.F hlt hop2) h9 (by have := oc_F hlt hop2; omega) S (fun h' S' R' => ?_)
        refine ⟨_, rfl, S'.1, ?_⟩
        refine g64_136 (d + 1) _ _ _ _ _ _ _ _ _ _ _ _ h' S'.1 Q ?_
        rw [← ew, nI_1, nI_add, maxI (by omega) (by omega)]
        have nx := w64 ho ih h3 hw hv h9 hoc K m (i + 1) h' (by omega) S' (R.trans R')
        have e1 : bst g how l F C w (i + 1) = max (bst g how l F C w i) (wch g how l F C w i) := by
          rw [ew]
          unfold bst
          rw [if_pos c2, if_pos c2, fo_yes hop2]
        have e2 : smm g how l F C w (i + 1) = smm g how l F C w i + wch g how l F C w i := fo_yes hop2
        rw [e1, e2] at nx
        exact ⟨fun _ => nx, fun q => absurd (by rw [c2]; rfl) q⟩
      · have hop2 := ts_nf c
        have hch := wch_le (how := how) (w := w) hoc hlt hop2
        have ew : wch g how l F C w i = wor g how l F (C ||| 2 ^ i) 0 := if_neg c2
        refine ih how F (C ||| 2 ^ i) 0 h _ h3 (by decide) (hv.C hlt hop2) h9 (by have := oc_C hlt hop2; omega) S (fun h' S' R' => ?_)
        refine ⟨_, rfl, S'.1, ?_⟩
        refine g64_136 (d + 1) _ _ _ _ _ _ _ _ _ _ _ _ h' S'.1 Q ?_
        rw [← ew, nI_1, nI_add, minI (by omega) (by omega)]
        have nx := w64 ho ih h3 hw hv h9 hoc K m (i + 1) h' (by omega) S' (R.trans R')
        have e1 : bst g how l F C w (i + 1) = min (bst g how l F C w i) (wch g how l F C w i) := by
          rw [ew]
          unfold bst
          rw [if_neg c2, if_neg c2, fo_yes hop2]
        have e2 : smm g how l F C w (i + 1) = smm g how l F C w i + wch g how l F C w i := fo_yes hop2
        rw [e1, e2] at nx
        exact ⟨fun q => absurd ((nI_eq0 (by omega)).mp q) c2, fun _ => nx⟩
    refine g64_60 d _ _ _ _ _ _ _ _ _ _ _ h S.1 Q ⟨fun _ => ⟨fun c => ⟨fun c2 => ?_, fun _ => step⟩, fun _ => step⟩, fun c => absurd ((ltC rfl S.2.1.1 (by omega) (by omega)).mpr hlt) c⟩
    rw [pk_mul]
    cases hc : cha how w with
    | true => rw [hc] at c; cases c
    | false =>
      rw [hc, if_neg (by decide)] at kk
      have c3 : bst g how l F C w i = if w = 0 then fct l else 0 := by
        refine (nI_eq (by omega) ?_).mp c2
        split <;> omega
      rwa [bst_aim hoc (by omega) c3] at kk
