/-! all ways to go on as figures of base three -/
def rk (F C k : Nat) : Nat := fa_cnt (opb F C) k
def dg (c j : Nat) : Nat := c / 3 ^ j % 3
theorem dg_0 (c : Nat) : dg c 0 = c % 3 := by
  unfold dg
  rw [Nat.pow_zero, Nat.div_one]
theorem dg_s (c j : Nat) : dg c (j + 1) = dg (c / 3) j := by
  unfold dg
  rw [Nat.pow_succ, Nat.mul_comm, ← Nat.div_div_eq_div_mul]
theorem dg_lt (c j : Nat) : dg c j < 3 := Nat.mod_lt _ (by decide)
theorem dg_add : ∀ (j : Nat) {c x : Nat}, dg c j = 0 → x < 3 → ∀ i, dg (c + x * 3 ^ j) i = if i = j then x else dg c i
  | 0, c, x, h, hx, i => by
    rw [dg_0] at h
    rw [Nat.pow_zero, Nat.mul_one]
    cases i with
    | zero => rw [dg_0, if_pos rfl]; omega
    | succ i => rw [dg_s, dg_s, if_neg (Nat.succ_ne_zero i), show (c + x) / 3 = c / 3 from by omega]
  | j + 1, c, x, h, hx, i => by
    rw [dg_s] at h
    have e : x * 3 ^ (j + 1) = 3 * (x * 3 ^ j) := by
      rw [Nat.pow_succ, Nat.mul_comm (3 ^ j) 3, ← Nat.mul_assoc, Nat.mul_comm x 3, Nat.mul_assoc]
    rw [e]
    cases i with
    | zero => rw [dg_0, dg_0, if_neg (fun z => by cases z)]; omega
    | succ i =>
      rw [dg_s, dg_s, show (c + 3 * (x * 3 ^ j)) / 3 = c / 3 + x * 3 ^ j from by omega, dg_add j h hx i]
      by_cases ei : i = j
      · rw [if_pos ei, if_pos (by omega)]
      · rw [if_neg ei, if_neg (by omega)]
theorem dg_bd : ∀ (j : Nat) {c x m : Nat}, dg c j = 0 → x < 3 → j < m → c < 3 ^ m → c + x * 3 ^ j < 3 ^ m
  | 0, c, x, m, h, hx, hj, hc => by
    rw [dg_0] at h
    obtain ⟨m, rfl⟩ : ∃ m', m = m' + 1 := ⟨m - 1, by omega⟩
    rw [Nat.pow_succ] at hc ⊢
    rw [Nat.pow_zero]
    omega
  | j + 1, c, x, m, h, hx, hj, hc => by
    rw [dg_s] at h
    obtain ⟨m, rfl⟩ : ∃ m', m = m' + 1 := ⟨m - 1, by omega⟩
    have e : x * 3 ^ (j + 1) = 3 * (x * 3 ^ j) := by
      rw [Nat.pow_succ, Nat.mul_comm (3 ^ j) 3, ← Nat.mul_assoc, Nat.mul_comm x 3, Nat.mul_assoc]
    rw [Nat.pow_succ] at hc
    have := dg_bd j (c := c / 3) (x := x) (m := m) h hx (by omega) (by omega)
    rw [e, Nat.pow_succ 3 m]
    omega
def cF (n F C c : Nat) : Nat := msk (fun i => F.testBit i || (opb F C i && decide (dg c (rk F C i) = 1))) n
def cC (n F C c : Nat) : Nat := msk (fun i => C.testBit i || (opb F C i && decide (dg c (rk F C i) = 2))) n
theorem cF_tb (n F C c i : Nat) : (cF n F C c).testBit i = (decide (i < n) && (F.testBit i || (opb F C i && decide (dg c (rk F C i) = 1)))) := msk_tb _ _ _
theorem cC_tb (n F C c i : Nat) : (cC n F C c).testBit i = (decide (i < n) && (C.testBit i || (opb F C i && decide (dg c (rk F C i) = 2)))) := msk_tb _ _ _
theorem cVS {n F C : Nat} (h : VS n F C) (c : Nat) : VS n (cF n F C c) (cC n F C c) := by
  refine ⟨msk_lt _ _, msk_lt _ _, fun i z => ?_⟩
  rw [cF_tb, cC_tb] at z
  have := h.2.2 i
  unfold opb at z
  rcases Nat.lt_or_ge i n with q | q
  · rw [decide_eq_true q] at z
    cases a : F.testBit i <;> cases b : C.testBit i <;> simp [a, b] at z this
    omega
  · rw [decide_eq_false (by omega)] at z
    simp at z
theorem cop {n F C c k : Nat} (hk : k < n) : opb (cF n F C c) (cC n F C c) k = (opb F C k && decide (dg c (rk F C k) = 0)) := by
  have h3 := dg_lt c (rk F C k)
  unfold opb
  rw [cF_tb, cC_tb, decide_eq_true hk]
  unfold opb
  cases F.testBit k <;> cases C.testBit k <;> simp
  have e : dg c (rk F C k) = 0 ∨ dg c (rk F C k) = 1 ∨ dg c (rk F C k) = 2 := by omega
  rcases e with e | e | e <;> rw [e] <;> rfl
theorem c0F {n F C : Nat} (h : VS n F C) : cF n F C 0 = F := by
  have e : msk (fun i => F.testBit i) n = F := msk_self h.1
  refine Eq.trans (msk_cong (fun i _ => ?_)) e
  have : dg 0 (rk F C i) = 0 := by
    unfold dg
    rw [Nat.zero_div]
  rw [this]
  simp
theorem c0C {n F C : Nat} (h : VS n F C) : cC n F C 0 = C := by
  have e : msk (fun i => C.testBit i) n = C := msk_self h.2.1
  refine Eq.trans (msk_cong (fun i _ => ?_)) e
  have : dg 0 (rk F C i) = 0 := by
    unfold dg
    rw [Nat.zero_div]
  rw [this]
  simp
theorem rk_mono {F C : Nat} {i j : Nat} (h : i ≤ j) : rk F C i ≤ rk F C j := by
  induction j with
  | zero => rw [Nat.le_zero.mp h]; exact Nat.le_refl _
  | succ j ih =>
    by_cases e : i = j + 1
    · rw [e]; exact Nat.le_refl _
    · have := ih (by omega)
      refine Nat.le_trans this ?_
      show fa_cnt (opb F C) j ≤ fa_cnt (opb F C) (j + 1)
      cases hp : opb F C j with
      | true => rw [fa_cnt_yes hp]; omega
      | false => rw [fa_cnt_no hp]; omega
theorem rk_lt {F C : Nat} {i j : Nat} (h : i < j) (ho : opb F C i = true) : rk F C i < rk F C j := by
  have h1 : rk F C (i + 1) = rk F C i + 1 := fa_cnt_yes ho
  have h2 := rk_mono (F := F) (C := C) (i := i + 1) (j := j) h
  omega
theorem rk_inj {F C : Nat} {i j : Nat} (hi : opb F C i = true) (hj : opb F C j = true) (e : rk F C i = rk F C j) : i = j := by
  rcases Nat.lt_trichotomy i j with z | z | z
  · have := rk_lt z hi; omega
  · exact z
  · have := rk_lt z hj; omega
theorem rk_ex {F C : Nat} : ∀ {n j : Nat}, j < rk F C n → ∃ k, k < n ∧ opb F C k = true ∧ rk F C k = j
  | 0, j, h => absurd h (Nat.not_lt_zero j)
  | n + 1, j, h => by
    cases hp : opb F C n with
    | true =>
      have e : rk F C (n + 1) = rk F C n + 1 := fa_cnt_yes hp
      by_cases ej : j = rk F C n
      · exact ⟨n, by omega, hp, ej.symm⟩
      · obtain ⟨k, a, b, c⟩ := rk_ex (F := F) (C := C) (n := n) (j := j) (by omega)
        exact ⟨k, by omega, b, c⟩
    | false =>
      have e : rk F C (n + 1) = rk F C n := fa_cnt_no hp
      obtain ⟨k, a, b, c⟩ := rk_ex (F := F) (C := C) (n := n) (j := j) (by omega)
      exact ⟨k, by omega, b, c⟩
theorem rk_le (F C k : Nat) : rk F C k ≤ k := fa_cnt_le _ k
/-- a lane played, as a figure -/
theorem chF {n F C c k : Nat} (hk : k < n) (ho : opb F C k = true) (hd : dg c (rk F C k) = 0) : cF n F C (c + 1 * 3 ^ rk F C k) = cF n F C c ||| 2 ^ k ∧ cC n F C (c + 1 * 3 ^ rk F C k) = cC n F C c := by
  constructor
  · apply tb_ext
    intro i
    rw [Nat.testBit_or, cF_tb, cF_tb, Nat.testBit_two_pow]
    rcases Nat.lt_or_ge i n with z | z
    · rw [decide_eq_true z]
      cases hoi : opb F C i with
      | false =>
        have hne : k ≠ i := fun e => by rw [← e, ho] at hoi; cases hoi
        rw [decide_eq_false hne]
        simp
      | true =>
        rw [dg_add _ hd (by decide)]
        by_cases e : i = k
        · rw [if_pos (by rw [e]), decide_eq_true e.symm]
          simp
        · rw [if_neg (fun z => e (rk_inj hoi ho z)), decide_eq_false (p := k = i) (fun z => e z.symm), Bool.or_false]
    · rw [decide_eq_false (by omega), decide_eq_false (by omega : ¬ k = i)]
      rfl
  · apply tb_ext
    intro i
    rw [cC_tb, cC_tb]
    cases hoi : opb F C i with
    | false => rfl
    | true =>
      rw [dg_add _ hd (by decide)]
      by_cases e : i = k
      · rw [e, if_pos rfl, hd]
        rfl
      · rw [if_neg (fun z => e (rk_inj hoi ho z))]
theorem chC {n F C c k : Nat} (hk : k < n) (ho : opb F C k = true) (hd : dg c (rk F C k) = 0) : cF n F C (c + 2 * 3 ^ rk F C k) = cF n F C c ∧ cC n F C (c + 2 * 3 ^ rk F C k) = cC n F C c ||| 2 ^ k := by
  constructor
  · apply tb_ext
    intro i
    rw [cF_tb, cF_tb]
    cases hoi : opb F C i with
    | false => rfl
    | true =>
      rw [dg_add _ hd (by decide)]
      by_cases e : i = k
      · rw [e, if_pos rfl, hd]
        rfl
      · rw [if_neg (fun z => e (rk_inj hoi ho z))]
  · apply tb_ext
    intro i
    rw [Nat.testBit_or, cC_tb, cC_tb, Nat.testBit_two_pow]
    rcases Nat.lt_or_ge i n with z | z
    · rw [decide_eq_true z]
      cases hoi : opb F C i with
      | false =>
        have hne : k ≠ i := fun e => by rw [← e, ho] at hoi; cases hoi
        rw [decide_eq_false hne]
        simp
      | true =>
        rw [dg_add _ hd (by decide)]
        by_cases e : i = k
        · rw [if_pos (by rw [e]), decide_eq_true e.symm]
          simp
        · rw [if_neg (fun z => e (rk_inj hoi ho z)), decide_eq_false (p := k = i) (fun z => e z.symm), Bool.or_false]
    · rw [decide_eq_false (by omega), decide_eq_false (by omega : ¬ k = i)]
      rfl
/-- over the figures as over the lanes -/
theorem fo_rank {α : Type} {F C : Nat} {p : Nat → Bool} {p2 : Nat → Bool} {F1 f : Nat → α → α} {x : α} {n : Nat} (hp : ∀ k, k < n → p2 k = (opb F C k && p (rk F C k))) (hf : ∀ k, k < n → p2 k = true → ∀ y, F1 (rk F C k) y = f k y) : ∀ n', n' ≤ n → fo p F1 (rk F C n') x = fo p2 f n' x
  | 0, _ => rfl
  | n' + 1, h => by
    have ih := fo_rank (x := x) hp hf n' (by omega)
    cases ho : opb F C n' with
    | true =>
      have e : rk F C (n' + 1) = rk F C n' + 1 := fa_cnt_yes ho
      have e2 := hp n' (by omega)
      rw [ho, Bool.true_and] at e2
      rw [e]
      cases hpn : p (rk F C n') with
      | true =>
        rw [hpn] at e2
        rw [fo_yes hpn, fo_yes e2, ih, hf n' (by omega) e2]
      | false =>
        rw [hpn] at e2
        rw [fo_no hpn, fo_no e2, ih]
    | false =>
      have e : rk F C (n' + 1) = rk F C n' := fa_cnt_no ho
      have e2 := hp n' (by omega)
      rw [ho, Bool.false_and] at e2
      rw [e, fo_no e2, ih]
theorem fo_bit {p : Nat → Bool} {x : Nat} : ∀ n i, (fo p (fun k y => y ||| 2 ^ k) n x).testBit i = (x.testBit i || (decide (i < n) && p i))
  | 0, i => by
    show x.testBit i = _
    rw [decide_eq_false (Nat.not_lt_zero i)]
    simp
  | n + 1, i => by
    have ih := fo_bit (p := p) (x := x) n i
    by_cases e : i = n
    · subst e
      have h1 : decide (i < i) = false := decide_eq_false (Nat.lt_irrefl i)
      have h2 : decide (i < i + 1) = true := decide_eq_true (Nat.lt_succ_self i)
      cases hp : p i with
      | true => rw [fo_yes hp, Nat.testBit_or, tb_self, h2]; simp
      | false => rw [fo_no hp, ih, h1, Bool.false_and, Bool.and_false]
    · have h1 : decide (i < n + 1) = decide (i < n) := by
        apply Bool.eq_iff_iff.mpr
        rw [decide_eq_true_eq, decide_eq_true_eq]
        omega
      rw [h1, ← ih]
      cases hp : p n with
      | true => rw [fo_yes hp, Nat.testBit_or, Nat.testBit_two_pow, decide_eq_false (fun z => e z.symm), Bool.or_false]
      | false => rw [fo_no hp]
/-- the lane of a figure -/
def olN (n F C j : Nat) : Nat := fa_first (fun k => opb F C k && decide (rk F C k = j)) n
theorem ol_rk {n F C k : Nat} (hk : k < n) (ho : opb F C k = true) : olN n F C (rk F C k) = k := by
  refine first_at hk (fun k' hk' => ?_) (by rw [ho, decide_eq_true rfl]; rfl)
  cases ho' : opb F C k' with
  | false => rfl
  | true =>
    have := rk_lt hk' ho'
    rw [decide_eq_false (by omega)]
    rfl
theorem ol_ok {n F C j : Nat} (hj : j < oc n F C) : olN n F C j < n ∧ opb F C (olN n F C j) = true ∧ rk F C (olN n F C j) = j := by
  obtain ⟨k, a, b, c⟩ := rk_ex (n := n) hj
  have := ol_rk a b
  rw [c] at this
  rw [this]
  exact ⟨a, b, c⟩
def cFj (n F C c : Nat) : Nat → Nat := fun j => fo (fun j => decide (dg c j = 1)) (fun j y => y ||| 2 ^ olN n F C j) j F
def cLj (n F C c : Nat) : Nat → Nat := fun j => fo (fun j => !decide (dg c j = 2)) (fun j y => y ||| 2 ^ olN n F C j) j F
def cOj (c : Nat) : Nat → Nat := fun j => fa_cnt (fun j => decide (dg c j = 0)) j
theorem cFj_end {n F C c : Nat} (h : VS n F C) : cFj n F C c (oc n F C) = cF n F C c := by
  have e : cFj n F C c (oc n F C) = fo (fun k => opb F C k && decide (dg c (rk F C k) = 1)) (fun k y => y ||| 2 ^ k) n F := by
    refine fo_rank (fun k _ => rfl) (fun k hk hp y => ?_) n (Nat.le_refl _)
    rw [Bool.and_eq_true] at hp
    show y ||| 2 ^ olN n F C (rk F C k) = y ||| 2 ^ k
    rw [ol_rk hk hp.1]
  rw [e]
  apply tb_ext
  intro i
  rw [fo_bit, cF_tb]
  rcases Nat.lt_or_ge i n with z | z
  · rw [decide_eq_true z]
    rfl
  · rw [decide_eq_false (by omega), tb_ge h.1 z]
    rfl
theorem cLj_end {n F C c : Nat} (h : VS n F C) : cLj n F C c (oc n F C) = unc n (cC n F C c) := by
  have e : cLj n F C c (oc n F C) = fo (fun k => opb F C k && !decide (dg c (rk F C k) = 2)) (fun k y => y ||| 2 ^ k) n F := by
    refine fo_rank (fun k _ => rfl) (fun k hk hp y => ?_) n (Nat.le_refl _)
    rw [Bool.and_eq_true] at hp
    show y ||| 2 ^ olN n F C (rk F C k) = y ||| 2 ^ k
    rw [ol_rk hk hp.1]
  rw [e]
  apply tb_ext
  intro i
  rw [fo_bit, unc_tb, cC_tb]
  have hd := h.2.2 i
  rcases Nat.lt_or_ge i n with z | z
  · rw [decide_eq_true z]
    unfold opb
    cases a : F.testBit i <;> cases b : C.testBit i <;> simp [a, b] at hd ⊢
  · rw [decide_eq_false (by omega), tb_ge h.1 z]
    rfl
theorem cOj_end (n F C c : Nat) : cOj c (oc n F C) = oc n (cF n F C c) (cC n F C c) := by
  have key : ∀ n', n' ≤ n → fa_cnt (fun j => decide (dg c j = 0)) (rk F C n') = fa_cnt (opb (cF n F C c) (cC n F C c)) n' := by
    intro n'
    induction n' with
    | zero => intro _; rfl
    | succ n' ih =>
      intro h
      have e2 := cop (n := n) (F := F) (C := C) (c := c) (k := n') (by omega)
      cases ho : opb F C n' with
      | true =>
        have e : rk F C (n' + 1) = rk F C n' + 1 := fa_cnt_yes ho
        rw [ho, Bool.true_and] at e2
        rw [e]
        cases hpn : decide (dg c (rk F C n') = 0) with
        | true =>
          rw [hpn] at e2
          rw [fa_cnt_yes hpn, fa_cnt_yes e2, ih (by omega)]
        | false =>
          rw [hpn] at e2
          rw [fa_cnt_no hpn, fa_cnt_no e2, ih (by omega)]
      | false =>
        have e : rk F C (n' + 1) = rk F C n' := fa_cnt_no ho
        rw [ho, Bool.false_and] at e2
        rw [e, fa_cnt_no e2, ih (by omega)]
  exact key n (Nat.le_refl _)
/-- who has it, once more -/
theorem unc_none {n F C : Nat} (h : VS n F C) (h0 : oc n F C = 0) : unc n C = F := by
  apply tb_ext
  intro i
  rw [unc_tb]
  have hd := h.2.2 i
  rcases Nat.lt_or_ge i n with z | z
  · have := cnt_zero h0 i z
    unfold opb at this
    rw [decide_eq_true z]
    cases a : F.testBit i <;> cases b : C.testBit i <;> simp [a, b] at this hd ⊢
  · rw [decide_eq_false (by omega), tb_ge h.1 z]
    rfl
theorem hv_eq {g : G} {F C w : Nat} (h : VS g.n F C) : hv g F C w = (jn g F || (jn g (unc g.n C) && (if w = 0 then fo (opb F C) (fun k y => y || hv g (F ||| 2 ^ k) C 1) g.n false else fo (opb F C) (fun k y => y && hv g F (C ||| 2 ^ k) 0) g.n true))) := by
  unfold hv
  cases hl : oc g.n F C with
  | zero =>
    rw [unc_none h hl]
    show jn g F = _
    cases jn g F <;> simp
  | succ l =>
    have e1 : fo (opb F C) (fun k y => y || has g (oc g.n (F ||| 2 ^ k) C) (F ||| 2 ^ k) C 1) g.n false = fo (opb F C) (fun k y => y || has g l (F ||| 2 ^ k) C 1) g.n false := fo_cong (fun _ _ => rfl) (fun k hk hp y => by
      rw [show oc g.n (F ||| 2 ^ k) C = l from by have := oc_F hk hp; omega])
    have e2 : fo (opb F C) (fun k y => y && has g (oc g.n F (C ||| 2 ^ k)) F (C ||| 2 ^ k) 0) g.n true = fo (opb F C) (fun k y => y && has g l F (C ||| 2 ^ k) 0) g.n true := fo_cong (fun _ _ => rfl) (fun k hk hp y => by
      rw [show oc g.n F (C ||| 2 ^ k) = l from by have := oc_C hk hp; omega])
    rw [e1, e2]
    rfl
def cv (g : G) (how F C w : Nat) : Nat := chv g how (oc g.n F C) F C w
theorem cv_eq {g : G} {how F C w : Nat} (h : VS g.n F C) : cv g how F C w = (if jn g F = true then whl how (oc g.n F C) w else if jn g (unc g.n C) = true then (if cha how w = true then fo (opb F C) (fun k y => y + (if w = 0 then cv g how (F ||| 2 ^ k) C 1 else cv g how F (C ||| 2 ^ k) 0)) g.n 0 else if w = 0 then fo (opb F C) (fun k y => max y (cv g how (F ||| 2 ^ k) C 1)) g.n 0 else fo (opb F C) (fun k y => min y (cv g how F (C ||| 2 ^ k) 0)) g.n 1073741824) else 0) := by
  unfold cv
  cases hl : oc g.n F C with
  | zero =>
    rw [unc_none h hl]
    show (if jn g F = true then 1 else 0) = _
    split
    · rfl
    · rfl
  | succ l =>
    have eF : ∀ k, k < g.n → opb F C k = true → oc g.n (F ||| 2 ^ k) C = l := fun k hk hp => by have := oc_F hk hp; omega
    have eC : ∀ k, k < g.n → opb F C k = true → oc g.n F (C ||| 2 ^ k) = l := fun k hk hp => by have := oc_C hk hp; omega
    have e0 : fo (opb F C) (fun k y => y + (if w = 0 then chv g how (oc g.n (F ||| 2 ^ k) C) (F ||| 2 ^ k) C 1 else chv g how (oc g.n F (C ||| 2 ^ k)) F (C ||| 2 ^ k) 0)) g.n 0 = fo (opb F C) (fun k y => y + (if w = 0 then chv g how l (F ||| 2 ^ k) C 1 else chv g how l F (C ||| 2 ^ k) 0)) g.n 0 := fo_cong (fun _ _ => rfl) (fun k hk hp y => by rw [eF k hk hp, eC k hk hp])
    have e1 : fo (opb F C) (fun k y => max y (chv g how (oc g.n (F ||| 2 ^ k) C) (F ||| 2 ^ k) C 1)) g.n 0 = fo (opb F C) (fun k y => max y (chv g how l (F ||| 2 ^ k) C 1)) g.n 0 := fo_cong (fun _ _ => rfl) (fun k hk hp y => by rw [eF k hk hp])
    have e2 : fo (opb F C) (fun k y => min y (chv g how (oc g.n F (C ||| 2 ^ k)) F (C ||| 2 ^ k) 0)) g.n 1073741824 = fo (opb F C) (fun k y => min y (chv g how l F (C ||| 2 ^ k) 0)) g.n 1073741824 := fo_cong (fun _ _ => rfl) (fun k hk hp y => by rw [eC k hk hp])
    rw [e0, e1, e2]
    rfl
