/-! sets of lanes that are best of their like, of the class -/
def dif (u s : Nat) : Nat := msk (fun i => u.testBit i && !s.testBit i) 10
theorem dif_tb {u s i : Nat} (hu : u < 1024) : (dif u s).testBit i = (u.testBit i && !s.testBit i) := by
  unfold dif
  rw [msk_tb]
  rcases Nat.lt_or_ge i 10 with z | z
  · rw [decide_eq_true z]
    rfl
  · rw [tb_ge (n := 10) hu z]
    simp
theorem dif_nI {u s : Nat} (hu : u < 1024) : nI u &&& (nI s ^^^ (-1)) = nI (dif u s) := by
  apply b_ext
  intro i hi
  rw [b_and, b_xor, b_m1 i hi, bt_nI hi, bt_nI hi, bt_nI hi, dif_tb hu, Bool.xor_true]
theorem dif_lt {u s n : Nat} (hu : u < 2 ^ n) (hn : n ≤ 10) : dif u s < 2 ^ n := by
  apply lt_tb
  intro i hi
  rw [dif_tb (p2_10 hu hn), Bool.and_eq_true] at hi
  exact tb_lt hu hi.1
def sub (s u : Nat) : Bool := decide (u &&& s = s)
theorem subC {s u : Nat} (hs : s < 2 ^ 31) : (nI s &&& (nI u ^^^ (-1))) = 0 ↔ sub s u = true := by
  rw [andnC hs]
  unfold sub
  rw [decide_eq_true_eq]
theorem sub_le {s u : Nat} (h : sub s u = true) : s ≤ u := by
  have : u &&& s = s := of_decide_eq_true h
  rw [← this]
  exact Nat.and_le_left
theorem sub_tb {s u i : Nat} (h : sub s u = true) (hb : s.testBit i = true) : u.testBit i = true := by
  have : u &&& s = s := of_decide_eq_true h
  rw [← this, Nat.testBit_and, Bool.and_eq_true] at hb
  exact hb.1
theorem sub_of {s u : Nat} (h : ∀ i, s.testBit i = true → u.testBit i = true) : sub s u = true := by
  apply decide_eq_true
  apply tb_ext
  intro i
  rw [Nat.testBit_and]
  cases hb : s.testBit i with
  | true => rw [h i hb]; rfl
  | false => rw [Bool.and_false]
/-- two ways to hang together -/
def wyp (g : G) (F C s : Nat) : Bool := sub s (unc g.n C) && (spn g s (plc g g.n) && spn g (dif (unc g.n C) s ||| F) (plc g g.n))
def fsI (p : Nat → Bool) (n : Nat) : Int32 := if fa_first p n < n then nI (fa_first p n) else -1
theorem fsI_at {p : Nat → Bool} {n i : Nat} (hi : i < n) (hno : ∀ k, k < i → p k = false) (hp : p i = true) : fsI p n = nI i := by
  unfold fsI
  rw [first_at hi hno hp, if_pos hi]
theorem fsI_no {p : Nat → Bool} {n : Nat} (hno : ∀ k, k < n → p k = false) : fsI p n = -1 := by
  unfold fsI
  rw [first_none hno, if_neg (Nat.lt_irrefl _)]
def C3 (h : AH) (g : G) : Prop := Sh h ∧ NetC h g ∧ RchC h g
theorem w66 {d : Nat} {h : AH} {g : G} (S : C3 h g) (ho : GOK g) {F C : Nat} (hF : F < 2 ^ g.n) {Q : Option Value → AH → Prop} (K : Q (some (.int (fsI (wyp g F C) (2 ^ g.n)))) h) : ∀ m i, i + m = unc g.n C + 1 → (∀ k, k < i → wyp g F C k = false) → Wp (d + 2) 66 24 [.ref 20, .int (nI F), mk0, .int (nI (unc g.n C)), .int (nI (plc g g.n)), .int (nI i), mk0] [] h Q
  | 0, i, hi, hno => by
    have hu := p2_10 (unc_lt g.n C) ho.1
    refine g66_24 (d + 2) _ _ _ _ h S.1 Q ⟨fun _ => ?_, fun c => ?_⟩
    · rw [fsI_no (fun k hk => ?_)] at K
      · exact K
      · rcases Nat.lt_or_ge k i with z | z
        · exact hno k z
        · unfold wyp
          cases hsu : sub k (unc g.n C) with
          | false => rfl
          | true => have := sub_le hsu; omega
    · rw [nI_ltI (by omega) (by omega)] at c
      omega
  | m + 1, i, hi, hno => by
    have hu := p2_10 (unc_lt g.n C) ho.1
    have hul := unc_lt g.n C
    have hpl := plc_lt ho g.n (Nat.le_refl _)
    have hlt : i < 2 ^ g.n := by omega
    have hd : dif (unc g.n C) i ||| F < 2 ^ g.n := Nat.or_lt_two_pow (dif_lt hul ho.1) hF
    have nx : wyp g F C i = false → Wp (d + 2) 66 24 [.ref 20, .int (nI F), mk0, .int (nI (unc g.n C)), .int (nI (plc g g.n)), .int (nI (i + 1)), mk0] [] h Q := fun hg => w66 S ho hF K m (i + 1) (by omega) (fun k hk => by
      by_cases e : k = i
      · rw [e]; exact hg
      · exact hno k (by omega))
    have a1 := at10 S.1 S.2.2 ho hlt
    have a2 := at10 S.1 S.2.2 ho hd
    refine g66_24 (d + 2) _ _ _ _ h S.1 Q ⟨fun c => ?_, fun _ => ?_⟩
    · rw [nI_ltI (by omega) (by omega)] at c
      omega
    · rw [subC (by omega)]
      refine ⟨fun c => ?_, fun c => ?_⟩
      · refine g66_44 d _ _ _ _ _ h S.1 Q ⟨fun z => absurd z (by decide), fun _ => ?_⟩
        rw [dif_nI hu, fa_or, a1, a2, andnC (by omega), andnC (by omega), nI_1]
        refine ⟨fun c2 => ⟨fun c3 => ?_, fun c3 => ?_⟩, fun c2 => ?_⟩
        · rw [fsI_at hlt hno (by
            unfold wyp spn
            rw [c, decide_eq_true c2, decide_eq_true c3]
            rfl)] at K
          exact K
        · refine nx ?_
          unfold wyp spn
          rw [decide_eq_false c3]
          simp
        · refine nx ?_
          unfold wyp spn
          rw [decide_eq_false c2]
          simp
      · refine g66_44 d _ _ _ _ _ h S.1 Q ⟨fun _ => ?_, fun z => absurd rfl z⟩
        rw [nI_1]
        refine nx ?_
        unfold wyp
        rw [ts_nt c]
        rfl
theorem c66 {d : Nat} {h : AH} {g : G} (S : C3 h g) (ho : GOK g) {F C : Nat} (hF : F < 2 ^ g.n) {Q : Option Value → AH → Prop} (K : Q (some (.int (fsI (wyp g F C) (2 ^ g.n)))) h) : Cl (d + 2) 66 [.ref 20, .int (nI F), .int (nI C)] h Q := by
  refine Cl.enter rfl (g66_0 (d + 1) _ _ h S.1 Q ?_)
  refine c35 S.1 S.2.1 ho ⟨_, rfl, S.1, ?_⟩
  rw [uncC S.2.1 ho]
  exact w66 S ho hF K (unc g.n C + 1) 0 (Nat.zero_add _) (fun k hk => absurd hk (Nat.not_lt_zero k))
/-- the least of which p holds -/
def lst (p : Nat → Bool) (m : Nat → Nat) : Nat → Option Nat
  | 0 => none
  | s + 1 => if p s = true then (match lst p m s with
    | none => some s
    | some b => if m s < m b then some s else some b) else lst p m s
def oI : Option Nat → Int32
  | none => -1
  | some b => nI b
theorem lst_no {p : Nat → Bool} {m : Nat → Nat} {s : Nat} (h : p s = false) : lst p m (s + 1) = lst p m s := if_neg (by rw [h]; decide)
theorem lst_yes {p : Nat → Bool} {m : Nat → Nat} {s b : Nat} (h : p s = true) (hb : ∀ b', lst p m s = some b' → b = m b') (hlt : lst p m s ≠ none → m s < b) : lst p m (s + 1) = some s := by
  show (if p s = true then _ else _) = _
  rw [if_pos h]
  cases hl : lst p m s with
  | none => rfl
  | some b' =>
    have := hlt (by rw [hl]; exact fun z => by cases z)
    rw [hb b' hl] at this
    exact if_pos this
theorem lst_keep {p : Nat → Bool} {m : Nat → Nat} {s b' : Nat} (hl : lst p m s = some b') (hge : ¬ m s < m b') : lst p m (s + 1) = lst p m s := by
  show (if p s = true then _ else _) = _
  rw [hl]
  split
  · exact if_neg hge
  · rfl
theorem lst_in {p : Nat → Bool} {m : Nat → Nat} : ∀ {s b}, lst p m s = some b → b < s ∧ p b = true
  | 0, b, h => by cases h
  | s + 1, b, h => by
    unfold lst at h
    split at h
    · rename_i hp
      split at h
      · cases h
        exact ⟨Nat.lt_succ_self _, hp⟩
      · rename_i b0 hb0
        have ih := lst_in hb0
        split at h
        · cases h
          exact ⟨Nat.lt_succ_self _, hp⟩
        · cases h
          exact ⟨by omega, ih.2⟩
    · have ih := lst_in h
      exact ⟨by omega, ih.2⟩
theorem lst_end {p : Nat → Bool} {m : Nat → Nat} {i : Nat} : ∀ {n}, i ≤ n → (∀ k, i ≤ k → k < n → p k = false) → lst p m n = lst p m i
  | 0, h, _ => by rw [Nat.le_zero.mp h]
  | n + 1, h, hp => by
    by_cases e : i = n + 1
    · rw [e]
    · rw [lst_no (hp n (by omega) (by omega))]
      exact lst_end (by omega) (fun k h1 h2 => hp k h1 (by omega))
def ptp (g : G) (F C s : Nat) : Bool := sub s (opn g.n F C) && !jn g (dif (unc g.n C) s)
def ptn (g : G) (F C : Nat) : Option Nat := lst (ptp g F C) pop (2 ^ g.n)
theorem pop_le (s : Nat) : pop s ≤ 10 := fa_cnt_le _ 10
theorem pop_lt {n s : Nat} (h : s < 2 ^ n) (hn : n ≤ 9) : pop s < 10 := by
  have h9 : fa_cnt (fun i => s.testBit i) 9 ≤ 9 := fa_cnt_le _ 9
  have : pop s = fa_cnt (fun i => s.testBit i) 9 := fa_cnt_no (p := fun i => s.testBit i) (n := 9) (tb_ge h hn)
  omega
theorem opn_unc (n F C : Nat) : dif (unc n C) F = opn n F C ∨ 10 < n := by
  rcases Nat.lt_or_ge 10 n with z | z
  · exact Or.inr z
  · left
    apply tb_ext
    intro i
    rw [dif_tb (p2_10 (unc_lt n C) z), unc_tb, opn_tb]
    cases decide (i < n) <;> cases F.testBit i <;> cases C.testBit i <;> rfl
theorem w67 {d : Nat} {h : AH} {g : G} (S : C3 h g) (ho : GOK g) (h9 : g.n ≤ 9) {F C : Nat} {Q : Option Value → AH → Prop} (K : Q (some (.int (oI (ptn g F C)))) h) : ∀ m i (b : Nat), i + m = opn g.n F C + 1 → (∀ b', lst (ptp g F C) pop i = some b' → b = pop b') → (lst (ptp g F C) pop i = none → b = 10) → b ≤ 10 → Wp (d + 2) 67 29 [.ref 20, mk0, mk0, .int (nI (unc g.n C)), .int (nI (opn g.n F C)), .int (oI (lst (ptp g F C) pop i)), .int (nI b), .int (nI i), mk0] [] h Q
  | 0, i, b, hi, hb1, hb2, hb3 => by
    have hu := opn_lt g.n F C
    have hu2 := p2_10 hu ho.1
    refine g67_29 d _ _ _ _ _ h S.1 Q ⟨fun _ => ?_, fun c => ?_⟩
    · unfold ptn at K
      rw [lst_end (i := i) (by omega) (fun k h1 h2 => ?_)] at K
      · exact K
      · unfold ptp
        cases hsu : sub k (opn g.n F C) with
        | false => rfl
        | true => have := sub_le hsu; omega
    · rw [nI_ltI (by omega) (by omega)] at c
      omega
  | m + 1, i, b, hi, hb1, hb2, hb3 => by
    have hu := opn_lt g.n F C
    have hu2 := p2_10 hu ho.1
    have hun := unc_lt g.n C
    have hun2 := p2_10 hun ho.1
    have hlt : i < 2 ^ g.n := by omega
    have hpi := pop_lt hlt h9
    have hdl : dif (unc g.n C) i < 2 ^ g.n := dif_lt hun ho.1
    have same : lst (ptp g F C) pop (i + 1) = lst (ptp g F C) pop i → Wp (d + 2) 67 29 [.ref 20, mk0, mk0, .int (nI (unc g.n C)), .int (nI (opn g.n F C)), .int (oI (lst (ptp g F C) pop i)), .int (nI b), .int (nI (i + 1)), mk0] [] h Q := fun e => by
      have := w67 (d := d) S ho h9 K m (i + 1) b (by omega) (by rw [e]; exact hb1) (by rw [e]; exact hb2) hb3
      rwa [e] at this
    refine g67_29 d _ _ _ _ _ h S.1 Q ⟨fun c => ?_, fun _ => ?_⟩
    · rw [nI_ltI (by omega) (by omega)] at c
      omega
    · refine c199 S.1 (by omega) ⟨_, rfl, S.1, ?_⟩
      rw [subC (by omega), nI_ltI (by omega) (by omega), dif_nI hun2, jnC S.1 S.2.1 S.2.2 ho hdl, nI_1]
      refine ⟨fun c => ⟨fun c2 => ⟨fun c3 => ?_, fun c3 => ?_⟩, fun c2 => ?_⟩, fun c => ?_⟩
      · have hp : ptp g F C i = true := by
          unfold ptp
          rw [c, c3]
          rfl
        have e := lst_yes (m := pop) hp hb1 (fun _ => c2)
        have := w67 (d := d) S ho h9 K m (i + 1) (pop i) (by omega) (fun b' hb' => by rw [e] at hb'; cases hb'; rfl) (fun z => by rw [e] at z; cases z) (by omega)
        rwa [e] at this
      · refine same (lst_no ?_)
        unfold ptp
        rw [ts_nf c3]
        simp
      · refine same ?_
        cases hl : lst (ptp g F C) pop i with
        | none => rw [hb2 hl] at c2; omega
        | some b' =>
          rw [hb1 b' hl] at c2
          exact (lst_keep hl c2).trans hl
      · refine same (lst_no ?_)
        unfold ptp
        rw [ts_nt c]
        rfl
theorem c67 {d : Nat} {h : AH} {g : G} (S : C3 h g) (ho : GOK g) (h9 : g.n ≤ 9) {F C : Nat} {Q : Option Value → AH → Prop} (K : Q (some (.int (oI (ptn g F C)))) h) : Cl (d + 2) 67 [.ref 20, .int (nI F), .int (nI C)] h Q := by
  refine Cl.enter rfl (g67_0 (d + 1) _ _ h S.1 Q ?_)
  have hun2 := p2_10 (unc_lt g.n C) ho.1
  rw [uncC S.2.1 ho, dif_nI hun2, (opn_unc g.n F C).resolve_right (by omega)]
  exact w67 S ho h9 K (opn g.n F C + 1) 0 10 (Nat.zero_add _) (fun b' hb' => by cases hb') (fun _ => rfl) (by omega)
/-- the cheapest lanes to make fast first -/
def bgp (g : G) (F C s : Nat) : Bool := sub s (opn g.n F C) && hv g (F ||| s) C 1
def bgt (g : G) (F C : Nat) : Option Nat := lst (bgp g F C) (fun s => csm g.c s g.n) (2 ^ g.n)
theorem VS.sub {n F C s : Nat} (h : VS n F C) (hs : sub s (opn n F C) = true) : VS n (F ||| s) C := by
  have hlt : s < 2 ^ n := Nat.lt_of_le_of_lt (sub_le hs) (opn_lt n F C)
  refine ⟨Nat.or_lt_two_pow h.1 hlt, h.2.1, fun i z => ?_⟩
  rw [Nat.testBit_or, Bool.or_eq_true] at z
  rcases z.1 with q | q
  · exact h.2.2 i ⟨q, z.2⟩
  · have := sub_tb hs q
    rw [opn_tb, z.2] at this
    simp at this
theorem csm_mono {c : Nat → Nat} {s u : Nat} (h : ∀ i, s.testBit i = true → u.testBit i = true) : ∀ n, csm c s n ≤ csm c u n
  | 0 => Nat.le_refl _
  | n + 1 => by
    have ih := csm_mono (c := c) h n
    unfold csm
    cases hs : s.testBit n with
    | true => rw [h n hs, if_pos rfl, if_pos rfl]; omega
    | false =>
      rw [if_neg (by decide)]
      split <;> omega
theorem w68 {d : Nat} {g : G} {F C : Nat} (ho : GOK g) (hs : VS g.n F C) {h0 : AH} {Q : Option Value → AH → Prop} (K : ∀ h', SI h' g → SR h0 h' → Q (some (.int (oI (bgt g F C)))) h') : ∀ m i (b : Nat) h, i + m = opn g.n F C + 1 → (∀ b', lst (bgp g F C) (fun s => csm g.c s g.n) i = some b' → b = csm g.c b' g.n) → (lst (bgp g F C) (fun s => csm g.c s g.n) i = none → b = csm g.c (opn g.n F C) g.n + 1) → b ≤ 1000 → SI h g → SR h0 h → Wp (d + 25) 68 34 [.ref 20, .int (nI F), .int (nI C), .int (nI (opn g.n F C)), .int (oI (lst (bgp g F C) (fun s => csm g.c s g.n) i)), .int (nI b), .int (nI i), mk0] [] h Q
  | 0, i, b, h, hi, hb1, hb2, hb3, S, R => by
    have hu := opn_lt g.n F C
    have hu2 := p2_10 hu ho.1
    have kk := K h S R
    refine g68_34 (d + 24) _ _ _ _ _ _ h S.1 Q ⟨fun _ => ?_, fun c => ?_⟩
    · unfold bgt at kk
      rw [lst_end (i := i) (by omega) (fun k h1 h2 => ?_)] at kk
      · exact kk
      · unfold bgp
        cases hsu : sub k (opn g.n F C) with
        | false => rfl
        | true => have := sub_le hsu; omega
    · rw [nI_ltI (by omega) (by omega)] at c
      omega
  | m + 1, i, b, h, hi, hb1, hb2, hb3, S, R => by
    have hu := opn_lt g.n F C
    have hu2 := p2_10 hu ho.1
    have hlt : i < 2 ^ g.n := by omega
    have hcl : csm g.c i g.n ≤ 90 := by
      have := csm_le ho i g.n (Nat.le_refl _)
      have := ho.1
      omega
    have same : lst (bgp g F C) (fun s => csm g.c s g.n) (i + 1) = lst (bgp g F C) (fun s => csm g.c s g.n) i → ∀ h', SI h' g → SR h0 h' → Wp (d + 25) 68 34 [.ref 20, .int (nI F), .int (nI C), .int (nI (opn g.n F C)), .int (oI (lst (bgp g F C) (fun s => csm g.c s g.n) i)), .int (nI b), .int (nI (i + 1)), mk0] [] h' Q := fun e h' S' R' => by
      have := w68 (d := d) ho hs K m (i + 1) b h' (by omega) (by rw [e]; exact hb1) (by rw [e]; exact hb2) hb3 S' R'
      rwa [e] at this
    refine g68_34 (d + 24) _ _ _ _ _ _ h S.1 Q ⟨fun c => ?_, fun _ => ?_⟩
    · rw [nI_ltI (by omega) (by omega)] at c
      omega
    · rw [subC (by omega), fa_or, nI_1]
      refine ⟨fun c => ?_, fun c => ?_⟩
      · refine c33 S.1 S.2.1 ho ⟨_, rfl, S.1, ?_⟩
        rw [nI_ltI (by omega) (by omega)]
        refine ⟨fun c2 => ?_, fun c2 => ?_⟩
        · refine c58 (d := d) ho (w := 1) (by decide) (hs.sub c) S (fun h' S' R' => ⟨_, rfl, S'.1, ?_⟩)
          rw [ow0]
          refine ⟨fun c3 => ?_, fun c3 => ?_⟩
          · have hp : bgp g F C i = true := by
              unfold bgp
              rw [c, c3]
              rfl
            have e := lst_yes (m := fun s => csm g.c s g.n) hp hb1 (fun _ => c2)
            have := w68 (d := d) ho hs K m (i + 1) (csm g.c i g.n) h' (by omega) (fun b' hb' => by rw [e] at hb'; cases hb'; rfl) (fun z => by rw [e] at z; cases z) (by omega) S' (R.trans R')
            rwa [e] at this
          · refine same (lst_no ?_) h' S' (R.trans R')
            unfold bgp
            rw [ts_nt c3]
            simp
        · refine same ?_ h S R
          cases hl : lst (bgp g F C) (fun s => csm g.c s g.n) i with
          | none =>
            rw [hb2 hl] at c2
            have := csm_mono (c := g.c) (s := i) (u := opn g.n F C) (fun j hj => sub_tb c hj) g.n
            omega
          | some b' =>
            rw [hb1 b' hl] at c2
            exact (lst_keep hl c2).trans hl
      · refine same (lst_no ?_) h S R
        unfold bgp
        rw [ts_nt c]
        rfl
theorem c68 {d : Nat} {g : G} {F C : Nat} (ho : GOK g) (hs : VS g.n F C) {h : AH} (S : SI h g) {Q : Option Value → AH → Prop} (K : ∀ h', SI h' g → SR h h' → Q (some (.int (oI (bgt g F C)))) h') : Cl (d + 25) 68 [.ref 20, .int (nI F), .int (nI C)] h Q := by
  refine Cl.enter rfl (g68_0 (d + 24) _ _ h S.1 Q ?_)
  have hcl : csm g.c (opn g.n F C) g.n ≤ 90 := by
    have := csm_le ho (opn g.n F C) g.n (Nat.le_refl _)
    have := ho.1
    omega
  rw [opnC S.2.1 ho]
  refine c33 S.1 S.2.1 ho ⟨_, rfl, S.1, ?_⟩
  rw [nI_1]
  exact w68 ho hs K (opn g.n F C + 1) 0 _ h (Nat.zero_add _) (fun b' hb' => by cases hb') (fun _ => rfl) (by omega) S SR.rfl
