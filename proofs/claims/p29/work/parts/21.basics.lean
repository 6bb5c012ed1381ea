/-! numbers and heaps: basics -/
theorem i1 : ∀ k, k < 31 → (1 : Int32) <<< (nI k &&& 31) = nI (2 ^ k) := by decide +kernel
theorem nI_eq0 {a : Nat} (h : a < 2 ^ 31) : nI a = 0 ↔ a = 0 := by
  rw [← nI_0]
  exact nI_eq h (by decide)
theorem nI_not : ∀ {k : Nat}, k ≤ 31 → ∀ {a : Nat}, a < 2 ^ k → nI (2 ^ k - 1) &&& (nI a ^^^ (-1)) = nI (2 ^ k - 1 - a) := by
  intro k hk a ha
  have hp : 2 ^ k ≤ 2 ^ 31 := Nat.pow_le_pow_right (by decide) hk
  apply b_ext
  intro i hi
  rw [b_and, b_xor, b_m1 i hi]
  unfold bt
  have e : ∀ m, (nI m).toBitVec = BitVec.ofNat 32 m := fun _ => rfl
  rw [e, e, e, BitVec.getLsbD_ofNat, BitVec.getLsbD_ofNat, BitVec.getLsbD_ofNat, Nat.sub_sub, Nat.add_comm 1 a, Nat.testBit_two_pow_sub_succ ha, Nat.testBit_two_pow_sub_one]
  by_cases hik : i < k
  · simp [hi, hik]
  · simp [hik]
theorem tnI {j : Nat} (h : j < 2 ^ 31) : (nI j).toNatClampNeg = j := nI_clamp h
theorem ixR_nI {j n : Nat} (h : j < n) (hn : n < 2 ^ 31) : ixR (nI j) n := by
  refine ⟨nI_pos (by omega), ?_⟩
  rw [tnI (by omega)]
  exact h
theorem nI_fold (n : Nat) : Int32.ofNat n = nI n := rfl
theorem atv_nI {h : AH} {a j : Nat} (hj : j < (AK h a).2) (hn : (AK h a).2 < 2 ^ 31) : atv h a (nI j) = AI h a j := by
  unfold atv
  rw [if_neg (nI_pos (by omega)), nI_fold, if_pos ((nI_ltI (by omega) hn).mpr hj), tnI (by omega)]
theorem atv_out {h : AH} {a j : Nat} (hj : (AK h a).2 ≤ j) (hj2 : j < 2 ^ 31) : atv h a (nI j) = 0 := by
  unfold atv
  rw [if_neg (nI_pos (by omega)), nI_fold, if_neg (fun z => by have := (nI_ltI (by omega) (by omega)).mp z; omega)]
theorem putv_nI {h : AH} {a j : Nat} {x : Int32} (hj : j < (AK h a).2) (hn : (AK h a).2 < 2 ^ 31) : putv h a (nI j) x = stI h a j x := by
  unfold putv
  rw [if_neg (nI_pos (by omega)), nI_fold, if_pos ((nI_ltI (by omega) hn).mpr hj), tnI (by omega)]
theorem K0_len {h : AH} (hs : Sh h) (i : Nat) {c n : Nat} (e : K0 i = (c, n)) (hn : c ≠ 1000 := by decide) : (AK h i).2 = n := by
  rw [hs.2.1 i (by rw [e]; exact hn), e]
/-- a row of the known objects, read and written -/
theorem atS {h : AH} (hs : Sh h) (i : Nat) {c n j : Nat} (e : K0 i = (c, n)) (hj : j < n) (hn : c ≠ 1000 := by decide) (hl : n < 2 ^ 31 := by decide) : atv h i (nI j) = AI h i j := by
  have := K0_len hs i e hn
  exact atv_nI (by omega) (by omega)
theorem putS {h : AH} (hs : Sh h) (i : Nat) {c n j : Nat} {x : Int32} (e : K0 i = (c, n)) (hj : j < n) (hn : c ≠ 1000 := by decide) (hl : n < 2 ^ 31 := by decide) : putv h i (nI j) x = stI h i j x := by
  have := K0_len hs i e hn
  exact putv_nI (by omega) (by omega)
theorem AI_stI (h : AH) (i j : Nat) (x : Int32) (a b : Nat) : AI (stI h i j x) a b = if a = i ∧ b = j then x else AI h a b := rfl
theorem AI_stI_s (h : AH) (i j : Nat) (x : Int32) : AI (stI h i j x) i j = x := if_pos ⟨rfl, rfl⟩
theorem AI_stI_o (h : AH) {i j a b : Nat} (x : Int32) (hn : a ≠ i ∨ b ≠ j) : AI (stI h i j x) a b = AI h a b := if_neg (fun z => hn.elim (fun q => q z.1) (fun q => q z.2))
theorem AL_stI (h : AH) (i j : Nat) (x : Int32) : AL (stI h i j x) = AL h := rfl
theorem AR_stI (h : AH) (i j : Nat) (x : Int32) : AR (stI h i j x) = AR h := rfl
theorem AK_stI (h : AH) (i j : Nat) (x : Int32) : AK (stI h i j x) = AK h := rfl
theorem AN_stI (h : AH) (i j : Nat) (x : Int32) : AN (stI h i j x) = AN h := rfl
theorem AT_stI (h : AH) (i j : Nat) (x : Int32) : AT (stI h i j x) = AT h := rfl
theorem AL_stL (h : AH) (i j : Nat) (x : Int64) (a b : Nat) : AL (stL h i j x) a b = if a = i ∧ b = j then x else AL h a b := rfl
theorem Sh.stI {h : AH} (hs : Sh h) (i j : Nat) (x : Int32) : Sh (stI h i j x) := hs.of rfl rfl rfl
theorem Sh.stL {h : AH} (hs : Sh h) (i j : Nat) (x : Int64) : Sh (stL h i j x) := hs.of rfl rfl rfl
/-- all but some cells stay -/
def Fr (P : Nat → Nat → Prop) (h h' : AH) : Prop := AN h' = AN h ∧ AT h' = AT h ∧ AK h' = AK h ∧ AR h' = AR h ∧ (∀ i j, ¬ P i j → AI h' i j = AI h i j) ∧ ∀ i j, ¬ P i j → AL h' i j = AL h i j
theorem Fr.rfl {P : Nat → Nat → Prop} {h : AH} : Fr P h h := ⟨Eq.refl _, Eq.refl _, Eq.refl _, Eq.refl _, fun _ _ _ => Eq.refl _, fun _ _ _ => Eq.refl _⟩
theorem Fr.trans {P : Nat → Nat → Prop} {h h1 h2 : AH} (a : Fr P h h1) (b : Fr P h1 h2) : Fr P h h2 := by
  obtain ⟨a1, a2, a3, a4, a5, a6⟩ := a
  obtain ⟨b1, b2, b3, b4, b5, b6⟩ := b
  exact ⟨b1.trans a1, b2.trans a2, b3.trans a3, b4.trans a4, fun i j hi => (b5 i j hi).trans (a5 i j hi), fun i j hi => (b6 i j hi).trans (a6 i j hi)⟩
theorem Fr.weak {P R : Nat → Nat → Prop} {h h' : AH} (a : Fr P h h') (hp : ∀ i j, P i j → R i j) : Fr R h h' := by
  obtain ⟨a1, a2, a3, a4, a5, a6⟩ := a
  exact ⟨a1, a2, a3, a4, fun i j hi => a5 i j (fun z => hi (hp i j z)), fun i j hi => a6 i j (fun z => hi (hp i j z))⟩
theorem Fr.stI {P : Nat → Nat → Prop} {h : AH} {i j : Nat} {x : Int32} (hp : P i j) : Fr P h (stI h i j x) := ⟨Eq.refl _, Eq.refl _, Eq.refl _, Eq.refl _, fun a b ha => if_neg (fun z => ha (by rw [z.1, z.2]; exact hp)), fun _ _ _ => Eq.refl _⟩
theorem Fr.stL {P : Nat → Nat → Prop} {h : AH} {i j : Nat} {x : Int64} (hp : P i j) : Fr P h (stL h i j x) := ⟨Eq.refl _, Eq.refl _, Eq.refl _, Eq.refl _, fun _ _ _ => Eq.refl _, fun a b ha => if_neg (fun z => ha (by rw [z.1, z.2]; exact hp))⟩
theorem Fr.Sh {P : Nat → Nat → Prop} {h h' : AH} (a : Fr P h h') (hs : Sh h) : Sh h' := hs.of a.1 a.2.2.1 a.2.2.2.1
theorem Fr.I {P : Nat → Nat → Prop} {h h' : AH} (a : Fr P h h') {i j : Nat} (hi : ¬ P i j) : AI h' i j = AI h i j := a.2.2.2.2.1 i j hi
theorem Fr.L {P : Nat → Nat → Prop} {h h' : AH} (a : Fr P h h') {i j : Nat} (hi : ¬ P i j) : AL h' i j = AL h i j := a.2.2.2.2.2 i j hi
/-- sets of lanes and places as numbers -/
theorem or_lt64 {a b : Nat} (ha : a < 64) (hb : b < 64) : a ||| b < 64 := Nat.or_lt_two_pow (n := 6) ha hb
theorem p2_lt64 {a : Nat} (h : a < 6) : 2 ^ a < 64 := Nat.pow_lt_pow_right (by decide) h
def Cls (n : Nat) (a b : Nat → Nat) (s : Nat) (m : Nat → Prop) : Prop := ∀ i, i < n → s.testBit i = true → (m (a i) ↔ m (b i))
/-- by the lanes of s one comes from f to p -/
def Rch (n : Nat) (a b : Nat → Nat) (s f p : Nat) : Prop := ∀ m : Nat → Prop, m f → Cls n a b s m → m p
def prs (a b : Nat → Nat) (i : Nat) : Nat := 2 ^ a i ||| 2 ^ b i
/-- one pass over the lanes -/
def onc (a b : Nat → Nat) (s : Nat) : Nat → Nat → Nat
  | 0, v => v
  | n + 1, v => if s.testBit n = true ∧ onc a b s n v &&& prs a b n ≠ 0 then onc a b s n v ||| prs a b n else onc a b s n v
theorem onc_sub {a b : Nat → Nat} {s : Nat} : ∀ (n v p : Nat), v.testBit p = true → (onc a b s n v).testBit p = true
  | 0, _, _, h => h
  | n + 1, v, p, h => by
    unfold onc
    split
    · rw [Nat.testBit_or, onc_sub n v p h]
      rfl
    · exact onc_sub n v p h
theorem onc_lt {a b : Nat → Nat} {s : Nat} : ∀ (n v : Nat), (∀ i, i < n → a i < 6 ∧ b i < 6) → v < 64 → onc a b s n v < 64
  | 0, _, _, h => h
  | n + 1, v, hab, h => by
    have ih := onc_lt (a := a) (b := b) (s := s) n v (fun i hi => hab i (by omega)) h
    unfold onc
    split
    · obtain ⟨h1, h2⟩ := hab n (by omega)
      exact or_lt64 ih (or_lt64 (p2_lt64 h1) (p2_lt64 h2))
    · exact ih
theorem prs_bit {a b : Nat → Nat} {i p : Nat} : (prs a b i).testBit p = true ↔ p = a i ∨ p = b i := by
  unfold prs
  rw [Nat.testBit_or, Nat.testBit_two_pow, Nat.testBit_two_pow, Bool.or_eq_true, decide_eq_true_eq, decide_eq_true_eq]
  constructor
  · rintro (z | z)
    · exact Or.inl z.symm
    · exact Or.inr z.symm
  · rintro (z | z)
    · exact Or.inl z.symm
    · exact Or.inr z.symm
theorem meets {v w : Nat} : v &&& w ≠ 0 ↔ ∃ p, v.testBit p = true ∧ w.testBit p = true := by
  constructor
  · intro h
    obtain ⟨p, hp⟩ := Nat.exists_testBit_of_ne_zero h
    rw [Nat.testBit_and, Bool.and_eq_true] at hp
    exact ⟨p, hp⟩
  · rintro ⟨p, h1, h2⟩ h0
    have : (v &&& w).testBit p = true := by rw [Nat.testBit_and, h1, h2]; rfl
    rw [h0, Nat.zero_testBit] at this
    cases this
theorem onc_least {a b : Nat → Nat} {s : Nat} (m : Nat → Prop) : ∀ (n v : Nat), Cls n a b s m → (∀ p, v.testBit p = true → m p) → ∀ p, (onc a b s n v).testBit p = true → m p
  | 0, _, _, h, p, hp => h p hp
  | n + 1, v, hc, h, p, hp => by
    have ih := onc_least m n v (fun i hi => hc i (by omega)) h
    unfold onc at hp
    split at hp
    · rename_i hs
      rw [Nat.testBit_or, Bool.or_eq_true] at hp
      rcases hp with hp | hp
      · exact ih p hp
      · obtain ⟨q, q1, q2⟩ := meets.mp hs.2
        have hq := ih q q1
        have hab := hc n (by omega) hs.1
        rw [prs_bit] at q2 hp
        have h1 : m (a n) ∧ m (b n) := by
          rcases q2 with rfl | rfl
          · exact ⟨hq, hab.mp hq⟩
          · exact ⟨hab.mpr hq, hq⟩
        rcases hp with rfl | rfl
        · exact h1.1
        · exact h1.2
    · exact ih p hp
theorem onc_mono {a b : Nat → Nat} {s : Nat} (n v : Nat) : ∀ k, ∀ p, (onc a b s n v).testBit p = true → (onc a b s (n + k) v).testBit p = true
  | 0, _, h => h
  | k + 1, p, h => by
    have ih := onc_mono n v k p h
    show (onc a b s (n + k + 1) v).testBit p = true
    unfold onc
    split
    · rw [Nat.testBit_or, ih]
      rfl
    · exact ih
/-- a pass that brings nothing: closed -/
theorem onc_closed {a b : Nat → Nat} {s n v : Nat} (h : onc a b s n v = v) : Cls n a b s (fun p => v.testBit p = true) := by
  intro i hi hs
  have key : ∀ q, (q = a i ∨ q = b i) → v.testBit q = true → ∀ r, (r = a i ∨ r = b i) → v.testBit r = true := by
    intro q hq hv r hr
    rw [← h]
    obtain ⟨k, rfl⟩ : ∃ k, n = i + 1 + k := ⟨n - (i + 1), by omega⟩
    refine onc_mono (i + 1) v k r ?_
    unfold onc
    rw [if_pos ⟨hs, meets.mpr ⟨q, onc_sub i v q hv, prs_bit.mpr hq⟩⟩, Nat.testBit_or, prs_bit.mpr hr, Bool.or_true]
  exact ⟨fun z => key _ (Or.inl rfl) z _ (Or.inr rfl), fun z => key _ (Or.inr rfl) z _ (Or.inl rfl)⟩
/-- a set of places is what is reached, if it is closed, holds the first place and holds no more than is reached -/
def IsR (n : Nat) (a b : Nat → Nat) (s f w : Nat) : Prop := ∀ p, w.testBit p = true ↔ Rch n a b s f p
theorem IsR.of {n s f w : Nat} {a b : Nat → Nat} (h1 : w.testBit f = true) (h2 : Cls n a b s (fun p => w.testBit p = true)) (h3 : ∀ p, w.testBit p = true → Rch n a b s f p) : IsR n a b s f w := fun p => ⟨h3 p, fun z => z _ h1 h2⟩
theorem IsR.uniq {n s f w w' : Nat} {a b : Nat → Nat} (h1 : IsR n a b s f w) (h2 : IsR n a b s f w') : w = w' := by
  apply Nat.eq_of_testBit_eq
  intro p
  have := (h1 p).trans (h2 p).symm
  cases e1 : w.testBit p <;> cases e2 : w'.testBit p <;> simp_all
theorem Rch.step {n s f : Nat} {a b : Nat → Nat} (v : Nat) (h : ∀ p, v.testBit p = true → Rch n a b s f p) : ∀ p, (onc a b s n v).testBit p = true → Rch n a b s f p := fun p hp m hf hc => onc_least m n v hc (fun q hq => h q hq m hf hc) p hp
/-- how many places -/
def pcn (v : Nat) : Nat := fa_cnt (fun p => v.testBit p) 6
theorem cnt_mono {p q : Nat → Bool} : ∀ n, (∀ k, k < n → p k = true → q k = true) → fa_cnt p n ≤ fa_cnt q n
  | 0, _ => Nat.le_refl _
  | n + 1, h => by
    have ih := cnt_mono n (fun k hk => h k (by omega))
    unfold fa_cnt
    have h1 := h n (by omega)
    cases hp : p n <;> cases hq : q n <;> simp_all <;> omega
theorem cnt_lt {p q : Nat → Bool} : ∀ n, (∀ k, k < n → p k = true → q k = true) → (∃ k, k < n ∧ p k = false ∧ q k = true) → fa_cnt p n < fa_cnt q n
  | 0, _, h => by obtain ⟨k, hk, -⟩ := h; omega
  | n + 1, h, ⟨k, hk, h1, h2⟩ => by
    unfold fa_cnt
    by_cases hkn : k = n
    · subst hkn
      have ih := cnt_mono k (p := p) (q := q) (fun j hj => h j (by omega))
      simp [h1, h2]
      omega
    · have ih := cnt_lt n (fun j hj => h j (by omega)) ⟨k, by omega, h1, h2⟩
      have h3 := h n (by omega)
      cases hp : p n <;> cases hq : q n <;> simp_all <;> omega
theorem pcn_lt {v w : Nat} (hv : v < 64) (hw : w < 64) (hs : ∀ p, v.testBit p = true → w.testBit p = true) (hne : w ≠ v) : pcn v < pcn w := by
  refine cnt_lt 6 (fun k _ => hs k) ?_
  apply Classical.byContradiction
  intro hno
  apply hne
  apply Nat.eq_of_testBit_eq
  intro p
  by_cases hp : p < 6
  · cases e : v.testBit p with
    | true => exact hs p e
    | false =>
      cases e2 : w.testBit p with
      | false => rfl
      | true => exact absurd ⟨p, hp, e, e2⟩ hno
  · have hpw : 2 ^ 6 ≤ 2 ^ p := Nat.pow_le_pow_right (by decide) (by omega)
    rw [Nat.testBit_lt_two_pow (Nat.lt_of_lt_of_le hv hpw), Nat.testBit_lt_two_pow (Nat.lt_of_lt_of_le hw hpw)]
theorem pcn_le (v : Nat) : pcn v ≤ 6 := fa_cnt_le _ 6
theorem pcn_pos {v f : Nat} (hf : f < 6) (h : v.testBit f = true) : 1 ≤ pcn v := by
  have h0 : pcn 0 = 0 := by decide
  have := cnt_lt (p := fun p => Nat.testBit 0 p) (q := fun p => v.testBit p) 6 (fun k _ z => by rw [Nat.zero_testBit] at z; cases z) ⟨f, hf, Nat.zero_testBit f, h⟩
  unfold pcn at h0 ⊢
  omega
