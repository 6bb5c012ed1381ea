/-! worth, owner and the least good lane, of the class -/
theorem SI.tkT {h : AH} {g : G} {tk : Nat} (S : SI h g) (ht : tk < 2) (htk : AI h 17 4 = nI tk) : WtT h g tk := by
  rcases S.2.2.2.2.2.2 with z | ⟨tk', a, b, c⟩
  · rw [htk] at z
    have : nI tk < 0 := by rw [z]; decide
    exact absurd this (nI_pos (by omega))
  · rw [htk] at b
    rw [(nI_eq (by omega) (by omega)).mp b]
    exact c
/-- the stand's number -/
theorem stdC {h : AH} (S1 : Sh h) (ht : ThrC h) {F C : Nat} (hF : F < 1024) (hC : C < 1024) : atv h 18 (nI F) + 2 * atv h 18 (nI C) = nI (std F C) := by
  rw [atS S1 18 rfl (n := 1024) (c := 20) hF, atS S1 18 rfl (n := 1024) (c := 20) hC, ht F hF, ht C hC, fa_lit 2, pk_mul, nI_add]
  rfl
theorem pop_opn {n F C : Nat} (hn : n ≤ 10) : pop (opn n F C) = oc n F C := by
  unfold pop oc
  have h1 : fa_cnt (fun i => (opn n F C).testBit i) n = fa_cnt (opb F C) n := fa_cnt_cong (fun k hk => by
    rw [opn_tb, decide_eq_true hk]
    rfl)
  rw [← h1]
  have key : ∀ m, n ≤ m → fa_cnt (fun i => (opn n F C).testBit i) m = fa_cnt (fun i => (opn n F C).testBit i) n := by
    intro m
    induction m with
    | zero => intro h; rw [Nat.le_zero.mp h]
    | succ m ih =>
      intro h
      by_cases e : n = m + 1
      · rw [e]
      · rw [fa_cnt_no (tb_ge (opn_lt n F C) (by omega)), ih (by omega)]
  exact key 10 hn
theorem wv_le {g : G} (ho : GOK g) {how F C w : Nat} : wv g how F C w ≤ 3628800 := Nat.le_trans (wor_le g how _ F C w rfl) (fct10 (Nat.le_trans (oc_le _ _ _) ho.1))
def wqP (i j : Nat) : Prop := i = 46 ∨ (i = 17 ∧ j = 4)
theorem ow0 {b : Bool} : (if b = true then (0 : Int32) else 1) = 0 ↔ b = true := by cases b <;> decide
theorem ow1 {b : Bool} : (if b = true then (0 : Int32) else 1) = 1 ↔ ¬ b = true := by cases b <;> decide
theorem owW {b : Bool} {w : Nat} (hw : w < 2) : (if b = true then (0 : Int32) else 1) = nI w ↔ (b == decide (w = 0)) = true := by
  match w, hw with
  | 0, _ => cases b <;> decide
  | 1, _ => cases b <;> decide
/-- is a lane good for one who is to move -/
def goo (g : G) (F C w k : Nat) : Bool := opb F C k && (if w = 0 then hv g (F ||| 2 ^ k) C 1 else !hv g F (C ||| 2 ^ k) 0)
def lsg (g : G) (F C w : Nat) : Int32 := if outc g F C = 0 then (if fa_first (goo g F C w) g.n < g.n then nI (fa_first (goo g F C w) g.n) else -1) else -1
theorem first_at {p : Nat → Bool} {n i : Nat} (hi : i < n) (hno : ∀ k, k < i → p k = false) (hp : p i = true) : fa_first p n = i := by
  have h1 := fa_first_no p n
  have h2 := fa_first_yes p n
  have h3 := fa_first_le p n
  rcases Nat.lt_trichotomy (fa_first p n) i with z | z | z
  · have := h2 (by omega)
    rw [hno _ z] at this
    cases this
  · exact z
  · rw [h1 i z] at hp
    cases hp
theorem first_none {p : Nat → Bool} {n : Nat} (hno : ∀ k, k < n → p k = false) : fa_first p n = n := by
  have h2 := fa_first_yes p n
  have h3 := fa_first_le p n
  rcases Nat.lt_or_ge (fa_first p n) n with z | z
  · have := h2 z
    rw [hno _ z] at this
    cases this
  · omega
/-- the mover's side has it by a good lane, or not at all -/
theorem own_move {g : G} {F C w l : Nat} (hw : w < 2) (c1 : jn g F = false) (c2 : jn g (unc g.n C) = true) (hoc : oc g.n F C = l + 1) : hv g F C w = (decide (w = 0) == decide (fa_first (goo g F C w) g.n < g.n)) := by
  have ex : (∃ k, k < g.n ∧ goo g F C w k = true) ↔ fa_first (goo g F C w) g.n < g.n := by
    constructor
    · rintro ⟨k, a, b⟩
      rcases Nat.lt_or_ge k (fa_first (goo g F C w) g.n) with z | z
      · rw [fa_first_no (goo g F C w) g.n k z] at b
        cases b
      · omega
    · intro z
      exact ⟨_, z, fa_first_yes (goo g F C w) g.n z⟩
  have e : hv g F C w = has g (l + 1) F C w := by
    unfold hv
    rw [hoc]
  rw [e]
  have hF : ∀ k, k < g.n → opb F C k = true → hv g (F ||| 2 ^ k) C 1 = has g l (F ||| 2 ^ k) C 1 := fun k hk hp => by
    unfold hv
    rw [show oc g.n (F ||| 2 ^ k) C = l from by have := oc_F hk hp; omega]
  have hC : ∀ k, k < g.n → opb F C k = true → hv g F (C ||| 2 ^ k) 0 = has g l F (C ||| 2 ^ k) 0 := fun k hk hp => by
    unfold hv
    rw [show oc g.n F (C ||| 2 ^ k) = l from by have := oc_C hk hp; omega]
  match w, hw with
  | 0, _ =>
    have h1 : has g (l + 1) F C 0 = fo (opb F C) (fun k y => y || has g l (F ||| 2 ^ k) C 1) g.n false := by
      show (jn g F || (jn g (unc g.n C) && _)) = _
      rw [c1, c2, Bool.false_or, Bool.true_and]
      exact if_pos rfl
    have h2 := fo_or (p := opb F C) (f := fun k => has g l (F ||| 2 ^ k) C 1) g.n
    have h3 : has g (l + 1) F C 0 = true ↔ fa_first (goo g F C 0) g.n < g.n := by
      rw [h1, h2, ← ex]
      constructor
      · rintro ⟨k, a, b, c⟩
        refine ⟨k, a, ?_⟩
        unfold goo
        rw [b, if_pos rfl, hF k a b]
        exact c
      · rintro ⟨k, a, b⟩
        unfold goo at b
        rw [Bool.and_eq_true, if_pos rfl] at b
        exact ⟨k, a, b.1, by rw [← hF k a b.1]; exact b.2⟩
    by_cases z : fa_first (goo g F C 0) g.n < g.n
    · rw [decide_eq_true z, h3.mpr z]
      rfl
    · rw [decide_eq_false z, ts_nt (fun q => z (h3.mp q))]
      rfl
  | 1, _ =>
    have h1 : has g (l + 1) F C 1 = fo (opb F C) (fun k y => y && has g l F (C ||| 2 ^ k) 0) g.n true := by
      show (jn g F || (jn g (unc g.n C) && _)) = _
      rw [c1, c2, Bool.false_or, Bool.true_and]
      exact if_neg (by decide)
    have h2 := fo_and (p := opb F C) (f := fun k => has g l F (C ||| 2 ^ k) 0) g.n
    have h3 : has g (l + 1) F C 1 = true ↔ ¬ fa_first (goo g F C 1) g.n < g.n := by
      rw [h1, h2, ← ex]
      constructor
      · rintro a ⟨k, hk, b⟩
        unfold goo at b
        rw [Bool.and_eq_true, if_neg (by decide), Bool.not_eq_true', hC k hk (by
          cases hq : opb F C k with
          | true => rfl
          | false => rw [hq] at b; cases b.1)] at b
        rw [a k hk b.1] at b
        cases b.2
      · intro a k hk hp
        cases hq : has g l F (C ||| 2 ^ k) 0 with
        | true => rfl
        | false =>
          exfalso
          refine a ⟨k, hk, ?_⟩
          unfold goo
          rw [hp, if_neg (by decide), hC k hk hp, hq]
          rfl
    by_cases z : fa_first (goo g F C 1) g.n < g.n
    · rw [decide_eq_true z, ts_nt (fun q => h3.mp q z)]
      rfl
    · rw [decide_eq_false z, h3.mpr z]
      rfl
def fgI (g : G) (F C w : Nat) : Int32 := if fa_first (goo g F C w) g.n < g.n then nI (fa_first (goo g F C w) g.n) else -1
def OOK (g : G) (l d : Nat) : Prop := ∀ (F C w : Nat) (h : AH) (Q : Option Value → AH → Prop), w < 2 → VS g.n F C → oc g.n F C = l → SI h g → (∀ h', SI h' g → SR h h' → Q (some (.int (if hv g F C w = true then 0 else 1))) h') → Cl d 57 [.ref 17, .int (nI F), .int (nI C), .int (nI w), .int (nI l)] h Q
theorem w62 {d : Nat} {g : G} {F C w l : Nat} (ho : GOK g) (ih : ∀ l', l = l' + 1 → OOK g l' d) (hw : w < 2) (hs : VS g.n F C) (hoc : oc g.n F C = l) {h0 : AH} {Q : Option Value → AH → Prop} (K : ∀ h', SI h' g → SR h0 h' → Q (some (.int (fgI g F C w))) h') : ∀ m i h, i + m = g.n → SI h g → SR h0 h → (∀ k, k < i → goo g F C w k = false) → Wp (d + 1) 62 11 [.ref 17, .int (nI F), .int (nI C), .int (nI w), .int (nI l), .int (nI (opn g.n F C)), .int (nI i), mk0, mk0] [] h Q
  | 0, i, h, hi, S, R, hno => by
    have hn := ho.1
    have e : i = g.n := by omega
    have kk := K h S R
    refine g62_11 d _ _ _ _ _ _ h S.1 Q ⟨fun c => ?_, fun _ => ?_⟩
    · rw [ltC rfl S.2.1.1 (by omega) (by omega)] at c
      omega
    · rw [e] at hno
      unfold fgI at kk
      rwa [first_none hno, if_neg (Nat.lt_irrefl _)] at kk
  | m + 1, i, h, hi, S, R, hno => by
    have hn := ho.1
    have hlt : i < g.n := by omega
    have hop : (opn g.n F C).testBit i = opb F C i := by
      rw [opn_tb, decide_eq_true hlt]
      rfl
    have nx : goo g F C w i = false → ∀ h', SI h' g → SR h0 h' → Wp (d + 1) 62 11 [.ref 17, .int (nI F), .int (nI C), .int (nI w), .int (nI l), .int (nI (opn g.n F C)), .int (nI (i + 1)), mk0, mk0] [] h' Q := fun hg h' S' R' => w62 ho ih hw hs hoc K m (i + 1) h' (by omega) S' R' (fun k hk => by
      by_cases e : k = i
      · rw [e]; exact hg
      · exact hno k (by omega))
    have found : goo g F C w i = true → ∀ h', SI h' g → SR h0 h' → Q (some (.int (nI i))) h' := fun hg h' S' R' => by
      have kk := K h' S' R'
      unfold fgI at kk
      rwa [first_at hlt hno hg, if_pos hlt] at kk
    refine g62_11 d _ _ _ _ _ _ h S.1 Q ⟨fun _ => ?_, fun c => absurd ((ltC rfl S.2.1.1 (by omega) (by omega)).mpr hlt) c⟩
    rw [bC (by omega), hop, nI_1, i1 i (by omega), fa_or, fa_or, nI_eq0 (by omega)]
    refine ⟨fun c => nx (by unfold goo; rw [c]; rfl) h S R, fun c => ?_⟩
    have hop2 := ts_nf c
    have hc1 := oc_F hlt hop2
    have hc2 := oc_C hlt hop2
    obtain ⟨l', el⟩ : ∃ l', l = l' + 1 := ⟨l - 1, by omega⟩
    have ih' := ih l' el
    subst el
    rw [nI_pred]
    refine ⟨fun c2 => ?_, fun c2 => ?_⟩
    · subst c2
      refine ih' (F ||| 2 ^ i) C 1 h _ (by decide) (hs.F hlt hop2) (by omega) S (fun h' S' R' => ⟨_, rfl, S'.1, ?_⟩)
      rw [owW (by decide)]
      have eg : goo g F C 0 i = hv g (F ||| 2 ^ i) C 1 := by
        unfold goo
        rw [hop2]
        rfl
      have ex : ∀ b : Bool, (b == decide ((0 : Nat) = 0)) = b := by decide
      rw [ex]
      exact ⟨fun c3 => found (by rw [eg]; exact c3) h' S' (Fr.trans R R'), fun c3 => nx (by rw [eg]; exact ts_nt c3) h' S' (Fr.trans R R')⟩
    · have hw1 : w = 1 := by omega
      subst hw1
      refine ih' F (C ||| 2 ^ i) 0 h _ (by decide) (hs.C hlt hop2) (by omega) S (fun h' S' R' => ⟨_, rfl, S'.1, ?_⟩)
      rw [owW (by decide)]
      have eg : goo g F C 1 i = !hv g F (C ||| 2 ^ i) 0 := by
        unfold goo
        rw [hop2]
        rfl
      have ex : ∀ b : Bool, (b == decide ((1 : Nat) = 0)) = !b := by decide
      rw [ex]
      exact ⟨fun c3 => found (by rw [eg]; exact c3) h' S' (Fr.trans R R'), fun c3 => nx (by rw [eg]; exact ts_nt c3) h' S' (Fr.trans R R')⟩
theorem c62 {d : Nat} {g : G} {F C w l : Nat} (ho : GOK g) (ih : ∀ l', l = l' + 1 → OOK g l' (d + 1)) (hw : w < 2) (hs : VS g.n F C) (hoc : oc g.n F C = l) {h : AH} (S : SI h g) {Q : Option Value → AH → Prop} (K : ∀ h', SI h' g → SR h h' → Q (some (.int (fgI g F C w))) h') : Cl (d + 2) 62 [.ref 17, .int (nI F), .int (nI C), .int (nI w), .int (nI l)] h Q := by
  refine Cl.enter rfl (g62_0 d _ _ _ _ h S.1 Q ?_)
  rw [opnC S.2.1 ho]
  exact w62 (d := d + 1) ho ih hw hs hoc K g.n 0 h (Nat.zero_add _) S Fr.rfl (fun k hk => absurd hk (Nat.not_lt_zero k))
theorem nI_n1 {p : Nat} (h : p < 2 ^ 31) : ¬ nI p = -1 := by
  intro z
  have : nI p < 0 := by rw [z]; decide
  exact nI_pos h this
theorem c57s {d : Nat} {g : G} {F C w l : Nat} (ho : GOK g) (hw : w < 2) (hs : VS g.n F C) (hoc : oc g.n F C = l) {h : AH} (S : SI h g) {Q : Option Value → AH → Prop} (K : ∀ h', SI h' g → SR h h' → Q (some (.int (if hv g F C w = true then 0 else 1))) h') (hm : ∀ l', l = l' + 1 → Cl (d + 1) 62 [.ref 17, .int (nI F), .int (nI C), .int (nI w), .int (nI l)] h (fun r h' => r = some (.int (fgI g F C w)) ∧ SI h' g ∧ SR h h')) : Cl (d + 2) 57 [.ref 17, .int (nI F), .int (nI C), .int (nI w), .int (nI l)] h Q := by
  have hn := ho.1
  have hl : l ≤ 10 := by have := oc_le g.n F C; omega
  have kk := K h S Fr.rfl
  have e : hv g F C w = has g l F C w := by
    unfold hv
    rw [hoc]
  refine Cl.enter rfl (g57_0 d _ _ _ _ h S.1 Q ?_)
  rw [uncC S.2.1 ho, jnC S.1 S.2.1 S.2.2.1 ho hs.1, jnC S.1 S.2.1 S.2.2.1 ho (unc_lt _ _), stdC S.1 S.2.2.2.1 (p2_10 hs.1 hn) (p2_10 hs.2.1 hn)]
  refine ⟨fun c => ⟨fun c2 => ⟨fun c3 => ?_, fun c3 => ?_⟩, fun c2 => ?_⟩, fun c => ?_⟩
  · have hf : hv g F C w = false := by
      rw [e]
      cases l with
      | zero => exact c
      | succ l' =>
        show (jn g F || (jn g (unc g.n C) && _)) = false
        rw [c, c3]
        rfl
    rw [hf] at kk
    exact kk
  · obtain ⟨l', el⟩ : ∃ l', l = l' + 1 := by
      cases l with
      | zero => exact absurd c2 (by decide)
      | succ l' => exact ⟨l', rfl⟩
    have c3' := ts_nf c3
    have om := own_move hw c c3' (hoc.trans el)
    have hpl := plO_lt hs hn hw
    have hmem := S.2.2.2.2.2.1 w F C hw hs
    have ep : (2 : Int32) * nI (std F C) + nI w = nI (plO w F C) := by
      rw [fa_lit 2, pk_mul, nI_add]
      rfl
    have hq : plO w F C / 32 < 3691 := by omega
    have es : (2 : Int32) * (nI (plO w F C) - nI (plO w F C) / 32 * 32) = nI (2 * (plO w F C % 32)) := by
      rw [fa_lit 32, pk_div (by omega) (by decide) (by decide), pk_mul, pk_sub (Nat.div_mul_le_self _ 32), show plO w F C - plO w F C / 32 * 32 = plO w F C % 32 from by omega, fa_lit 2, pk_mul]
    have ed : nI (plO w F C) / 32 = nI (plO w F C / 32) := by
      rw [fa_lit 32, pk_div (by omega) (by decide) (by decide)]
    rw [ep, es, ed, fa_lit 3, atLS S.1 19 rfl (c := 21) (n := 3691) hq, dbt_rd (w := 2) (k := plO w F C % 32) rfl (by omega) rfl]
    refine ⟨fun cq => ?_, fun cq => ?_⟩
    · refine (hm l' el).mono (fun r h' hr => ?_)
      obtain ⟨rfl, S', R'⟩ := hr
      refine ⟨_, rfl, S'.1, ?_⟩
      have fin : ∀ x : Nat, x < 2 → nI x = (if hv g F C w = true then (0 : Int32) else 1) → Wp (d + 2) 57 116 [.ref 17, mk0, mk0, mk0, mk0, .int (nI (plO w F C)), .int (nI (2 * (plO w F C % 32))), mk0, mk0, mk0, mk0] [.int (nI x)] h' Q := fun x hx ex => by
        refine g57_116 (d + 1) _ _ _ h' S'.1 Q (fun h1 e1 => ?_)
        have eo : x + 1 = ov g F C w := by
          unfold ov
          cases hb : hv g F C w with
          | true =>
            rw [hb, if_pos rfl] at ex
            rw [if_pos rfl, (nI_eq0 (by omega)).mp ex]
          | false =>
            rw [hb, if_neg (by decide)] at ex
            rw [if_neg (by decide), (eqC rfl (b := 1) rfl (by omega) (by omega)).mp ex]
        have wr := dbt_wr (x := AL h' 19 (plO w F C / 32)) (w := 2) (k := plO w F C % 32) (s := 2 * (plO w F C % 32)) (v := x + 1) rfl (by omega) (by decide) (by omega) (by omega)
        rw [nI_1, ed, atLS S'.1 19 rfl (c := 21) (n := 3691) hq, wr.1, putLS S'.1 19 rfl (c := 21) (n := 3691) hq] at e1
        have put := S'.putO ho hw hs wr.2 (by rw [eo])
        rw [e1, ex]
        exact K _ put.1 (Fr.trans R' put.2)
      unfold fgI
      refine ⟨fun c4 => ?_, fun c4 => ?_⟩
      · have hno : ¬ fa_first (goo g F C w) g.n < g.n := fun z => by
          rw [if_pos z] at c4
          exact nI_n1 (by omega) c4
        rw [decide_eq_false hno] at om
        have e1 : (1 : Int32) - nI w = nI (1 - w) := by
          match w, hw with
          | 0, _ => rfl
          | 1, _ => rfl
        rw [e1]
        refine fin (1 - w) (by omega) ?_
        rw [om]
        match w, hw with
        | 0, _ => rfl
        | 1, _ => rfl
      · have hyes : fa_first (goo g F C w) g.n < g.n := Decidable.byContradiction (fun z => by
          rw [if_neg z] at c4
          exact c4 rfl)
        rw [decide_eq_true hyes] at om
        refine fin w hw ?_
        rw [om]
        match w, hw with
        | 0, _ => rfl
        | 1, _ => rfl
    · have hd : ow h (plO w F C) = dbt 2 (uN (AL h 19 (plO w F C / 32))) (plO w F C % 32) := rfl
      rw [← hd] at cq ⊢
      rcases hmem with z | z
      · rw [z] at cq
        exact absurd rfl cq
      · rw [z]
        unfold ov
        cases hb : hv g F C w with
        | true =>
          rw [hb] at kk
          exact kk
        | false =>
          rw [hb] at kk
          exact kk
  · have l0 : l = 0 := by
      cases l with
      | zero => rfl
      | succ l' => exact absurd ((ltC (x := 0) (a := 0) rfl rfl (by omega) (by omega)).mpr (Nat.succ_pos l')) c2
    subst l0
    have hf : hv g F C w = false := by
      rw [e]
      exact c
    rw [hf] at kk
    exact kk
  · have hj := ts_nf c
    have hf : hv g F C w = true := by
      rw [e]
      cases l with
      | zero => exact hj
      | succ l' =>
        show (jn g F || _) = true
        rw [hj]
        rfl
    rw [hf] at kk
    exact kk
theorem ook (g : G) (ho : GOK g) : ∀ l d, OOK g l (d + 2 * l + 2)
  | 0, d => by
    intro F C w h Q hw hs hoc S K
    exact c57s ho hw hs hoc S K (fun l' e => by cases e)
  | l + 1, d => by
    intro F C w h Q hw hs hoc S K
    have ih := ook g ho l d
    refine c57s (d := d + 2 * l + 2) ho hw hs hoc S K (fun l' e => ?_)
    exact c62 (d := d + 2 * l + 1) ho (fun l'' e2 => by cases e2; exact ih) hw hs hoc S (fun h' S' R' => ⟨rfl, S', R'⟩)
theorem c58 {d : Nat} {g : G} {F C w : Nat} (ho : GOK g) (hw : w < 2) (hs : VS g.n F C) {h : AH} (S : SI h g) {Q : Option Value → AH → Prop} (K : ∀ h', SI h' g → SR h h' → Q (some (.int (if hv g F C w = true then 0 else 1))) h') : Cl (d + 24) 58 [.ref 17, .int (nI F), .int (nI C), .int (nI w)] h Q := by
  have hl : oc g.n F C ≤ 10 := Nat.le_trans (oc_le _ _ _) ho.1
  refine Cl.enter rfl (g58_0 (d + 22) _ _ _ h S.1 Q ?_)
  rw [opnC S.2.1 ho]
  refine c199 S.1 (p2_10 (opn_lt _ _ _) ho.1) ⟨_, rfl, S.1, ?_⟩
  rw [pop_opn ho.1]
  have e : d + 22 + 1 = (d + (21 - 2 * oc g.n F C)) + 2 * oc g.n F C + 2 := by omega
  rw [e]
  exact ook g ho _ _ F C w h _ hw hs rfl S (fun h' S' R' => ⟨_, rfl, S'.1, K h' S' R'⟩)
theorem c59 {d : Nat} {g : G} {F C w : Nat} (ho : GOK g) (hw : w < 2) (hs : VS g.n F C) {h : AH} (S : SI h g) {Q : Option Value → AH → Prop} (K : ∀ h', SI h' g → SR h h' → Q (some (.int (lsg g F C w))) h') : Cl (d + 25) 59 [.ref 17, .int (nI F), .int (nI C), .int (nI w)] h Q := by
  have hl : oc g.n F C ≤ 10 := Nat.le_trans (oc_le _ _ _) ho.1
  refine Cl.enter rfl (g59_0 (d + 23) _ _ _ h S.1 Q ?_)
  have e2 : outc g F C < 3 := by unfold outc; split; decide; split <;> decide
  refine c37 (d := d + 22) S.1 S.2.1 S.2.2.1 ho hs.1 ⟨_, rfl, S.1, ?_⟩
  rw [opnC S.2.1 ho, nI_eq0 (by omega)]
  refine ⟨fun c => ?_, fun c => ?_⟩
  · refine c199 S.1 (p2_10 (opn_lt _ _ _) ho.1) ⟨_, rfl, S.1, ?_⟩
    rw [pop_opn ho.1]
    refine c62 (d := d + 22) ho (fun l' el => ?_) hw hs rfl S (fun h' S' R' => ⟨_, rfl, S'.1, ?_⟩)
    · have e : d + 22 + 1 = (d + (21 - 2 * l')) + 2 * l' + 2 := by omega
      rw [e]
      exact ook g ho l' _
    · have kk := K h' S' R'
      unfold lsg at kk
      rwa [if_pos c] at kk
  · have kk := K h S Fr.rfl
    unfold lsg at kk
    rwa [if_neg c] at kk
