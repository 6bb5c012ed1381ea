/-! the near lanes -/
def dsE (g : G) (F C X r : Nat) : Nat → Nat := ruD g F C (d0 g.e X) r
def dsF (g : G) (F C X r : Nat) : Nat → Nat := ruD g F C (d0 g.f X) r
def nrX (g : G) (F C X r k : Nat) : Bool := opb F C k && (decide (dsE g F C X r (g.a k) + 1 + dsF g F C X r (g.b k) = dsE g F C X r g.f) || decide (dsE g F C X r (g.b k) + 1 + dsF g F C X r (g.a k) = dsE g F C X r g.f))
def nrp (g : G) (F C k : Nat) : Bool := nrX g F C 1000 5 k
/-- a triangle -/
theorem tri {g : G} {F C : Nat} {A B : Nat → Nat} (hA : IsD g F C g.e 1000 A) (hB : IsD g F C g.f 1000 B) (p : Nat) : A g.f ≤ A p + B p := by
  have h := hB.2.2.2 (fun q => 1000 - A q) (fun k hk hs => by
    obtain ⟨a, b⟩ := hA.1 k hk hs
    have c := hA.2.2.1 (g.a k)
    have d := hA.2.2.1 (g.b k)
    show 1000 - A (g.a k) ≤ 1000 - A (g.b k) + _ ∧ 1000 - A (g.b k) ≤ 1000 - A (g.a k) + _
    omega) (fun q => Nat.sub_le _ _) p
  have c := hA.2.2.1 p
  have d := hA.2.2.1 g.f
  have h2 : 1000 - A p ≤ 1000 - A g.f + B p := h
  omega
theorem near_ex {g : G} (ho : GOK g) {F C : Nat} (hs : VS g.n F C) (hj : jn g F = false) (hu : jn g (unc g.n C) = true) : ∃ k, k < g.n ∧ nrp g F C k = true := by
  obtain ⟨A, hA⟩ := ex_D ho F C g.e 1000
  obtain ⟨B, hB⟩ := ex_D ho F C g.f 1000
  have cA := conv5 ho ho.2.1 hA 5 (Nat.le_refl _)
  have cB := conv5 ho ho.2.2.1 hB 5 (Nat.le_refl _)
  have h100 := near_fin ho hs hA hu
  have h1 := near_pos ho hs hA hj
  apply Classical.byContradiction
  intro hno
  have none : ∀ k, k < g.n → opb F C k = true → A (g.a k) + 1 + B (g.b k) ≠ A g.f ∧ A (g.b k) + 1 + B (g.a k) ≠ A g.f := by
    intro k hk hp
    obtain ⟨la, lb⟩ := ho.ab k hk
    have e : ¬ nrp g F C k = true := fun z => hno ⟨k, hk, z⟩
    unfold nrp nrX dsE dsF at e
    rw [hp, cA _ la, cA _ lb, cB _ la, cB _ lb, cA _ ho.2.2.1, Bool.true_and, Bool.or_eq_true, decide_eq_true_eq, decide_eq_true_eq] at e
    exact ⟨fun z => e (Or.inl z), fun z => e (Or.inr z)⟩
  have hm : Rlx g F C (fun p => A p + (if 1 ≤ A p ∧ A p + B p = A g.f then 1 else 0)) := by
    intro k hk hs2
    obtain ⟨a1, a2⟩ := hA.1 k hk hs2
    obtain ⟨b1, b2⟩ := hB.1 k hk hs2
    have ta := tri hA hB (g.a k)
    have tb := tri hA hB (g.b k)
    have key : len1 F C k = 1 → opb F C k = true := by
      intro hl
      rw [← sta0]
      have := sta_lt F C k
      unfold len1 at hl
      split at hl
      · cases hl
      · omega
    have hl : len1 F C k = 0 ∨ len1 F C k = 1 := by unfold len1; split <;> omega
    show A (g.a k) + (if 1 ≤ A (g.a k) ∧ A (g.a k) + B (g.a k) = A g.f then 1 else 0) ≤ A (g.b k) + (if 1 ≤ A (g.b k) ∧ A (g.b k) + B (g.b k) = A g.f then 1 else 0) + len1 F C k ∧ A (g.b k) + (if 1 ≤ A (g.b k) ∧ A (g.b k) + B (g.b k) = A g.f then 1 else 0) ≤ A (g.a k) + (if 1 ≤ A (g.a k) ∧ A (g.a k) + B (g.a k) = A g.f then 1 else 0) + len1 F C k
    rcases hl with hl | hl
    · rw [hl] at a1 a2 b1 b2 ⊢
      split <;> split <;> omega
    · obtain ⟨n1, n2⟩ := none k hk (key hl)
      rw [hl] at a1 a2 b1 b2 ⊢
      split <;> split <;> omega
  have := hA.2.2.2 _ hm (fun p => by
    show A p + (if 1 ≤ A p ∧ A p + B p = A g.f then 1 else 0) ≤ 1000
    have := hA.2.2.1 p
    split <;> omega) g.f
  have h2 : A g.f + (if 1 ≤ A g.f ∧ A g.f + B g.f = A g.f then 1 else 0) ≤ A g.e + (if 1 ≤ A g.e ∧ A g.e + B g.e = A g.f then 1 else 0) + A g.f := this
  rw [hB.2.1, hA.2.1, if_pos ⟨h1, Nat.add_zero _⟩, if_neg (fun z => absurd z.1 (by decide))] at h2
  omega
/-- the reference's near lanes are the same -/
theorem near_ref {g : G} (ho : GOK g) {F C : Nat} (hs : VS g.n F C) (hu : jn g (unc g.n C) = true) {k : Nat} (hk : k < g.n) : nrX g F C 1048576 6 k = nrp g F C k := by
  obtain ⟨A, hA⟩ := ex_D ho F C g.e 1000
  obtain ⟨B, hB⟩ := ex_D ho F C g.f 1000
  obtain ⟨A2, hA2⟩ := ex_D ho F C g.e 1048576
  obtain ⟨B2, hB2⟩ := ex_D ho F C g.f 1048576
  have cA := conv5 ho ho.2.1 hA 5 (Nat.le_refl _)
  have cB := conv5 ho ho.2.2.1 hB 5 (Nat.le_refl _)
  have cA2 := conv5 ho ho.2.1 hA2 6 (by decide)
  have cB2 := conv5 ho ho.2.2.1 hB2 6 (by decide)
  have h100 := near_fin ho hs hA hu
  have mA := D_min (by decide) hA hA2
  have mB := D_min (by decide) hB hB2
  obtain ⟨la, lb⟩ := ho.ab k hk
  unfold nrp nrX dsE dsF
  rw [cA _ la, cA _ lb, cB _ la, cB _ lb, cA _ ho.2.2.1, cA2 _ la, cA2 _ lb, cB2 _ la, cB2 _ lb, cA2 _ ho.2.2.1]
  have m1 := mA (g.a k)
  have m2 := mA (g.b k)
  have m3 := mB (g.a k)
  have m4 := mB (g.b k)
  have m5 := mA g.f
  have s1 := small_D ho ho.2.1 hA2 la
  have s2 := small_D ho ho.2.1 hA2 lb
  have s3 := small_D ho ho.2.2.1 hB2 la
  have s4 := small_D ho ho.2.2.1 hB2 lb
  congr 1
  congr 1
  · apply Bool.eq_iff_iff.mpr
    rw [decide_eq_true_eq, decide_eq_true_eq]
    omega
  · apply Bool.eq_iff_iff.mpr
    rw [decide_eq_true_eq, decide_eq_true_eq]
    omega
/-- along or against, whichever is shorter -/
theorem near_min {g : G} (ho : GOK g) {F C : Nat} {k : Nat} (hk : k < g.n) (hp : opb F C k = true) : nrp g F C k = decide (min (dsE g F C 1000 5 (g.a k) + 1 + dsF g F C 1000 5 (g.b k)) (dsE g F C 1000 5 (g.b k) + 1 + dsF g F C 1000 5 (g.a k)) = dsE g F C 1000 5 g.f) := by
  obtain ⟨A, hA⟩ := ex_D ho F C g.e 1000
  obtain ⟨B, hB⟩ := ex_D ho F C g.f 1000
  have cA := conv5 ho ho.2.1 hA 5 (Nat.le_refl _)
  have cB := conv5 ho ho.2.2.1 hB 5 (Nat.le_refl _)
  obtain ⟨la, lb⟩ := ho.ab k hk
  have hs2 : sta F C k ≠ 2 := by
    rw [sta0.mpr hp]
    decide
  have hl : len1 F C k = 1 := by
    unfold len1
    rw [sta0.mpr hp]
    rfl
  obtain ⟨a1, a2⟩ := hA.1 k hk hs2
  have ta := tri hA hB (g.a k)
  have tb := tri hA hB (g.b k)
  unfold nrp nrX dsE dsF
  rw [cA _ la, cA _ lb, cB _ la, cB _ lb, cA _ ho.2.2.1, hp, Bool.true_and]
  apply Bool.eq_iff_iff.mpr
  rw [Bool.or_eq_true, decide_eq_true_eq, decide_eq_true_eq, decide_eq_true_eq]
  omega
/-- the first near one, or the dearest -/
def lsD (p : Nat → Bool) (c : Nat → Nat) (dear : Bool) : Nat → Option Nat
  | 0 => none
  | k + 1 => if p k = true then (match lsD p c dear k with
    | none => some k
    | some b => if dear = true ∧ c b < c k then some k else some b) else lsD p c dear k
theorem lsD_in {p : Nat → Bool} {c : Nat → Nat} {dear : Bool} : ∀ {k b}, lsD p c dear k = some b → b < k ∧ p b = true
  | 0, b, h => by cases h
  | k + 1, b, h => by
    unfold lsD at h
    split at h
    · rename_i hp
      split at h
      · cases h
        exact ⟨Nat.lt_succ_self _, hp⟩
      · rename_i b0 hb0
        have ih := lsD_in hb0
        split at h
        · cases h
          exact ⟨Nat.lt_succ_self _, hp⟩
        · cases h
          exact ⟨by omega, ih.2⟩
    · have ih := lsD_in h
      exact ⟨by omega, ih.2⟩
theorem lsD_some {p : Nat → Bool} {c : Nat → Nat} {dear : Bool} : ∀ {n k}, k < n → p k = true → lsD p c dear n ≠ none
  | 0, k, hk, _ => absurd hk (Nat.not_lt_zero k)
  | n + 1, k, hk, hp => by
    unfold lsD
    split
    · split
      · intro z; cases z
      · split <;> (intro z; cases z)
    · rename_i hpn
      refine lsD_some (k := k) ?_ hp
      rcases Nat.lt_or_ge k n with z | z
      · exact z
      · have : k = n := by omega
        rw [this] at hp
        exact absurd hp hpn
theorem lsD_cong {p q : Nat → Bool} {c : Nat → Nat} {dear : Bool} : ∀ {n}, (∀ k, k < n → p k = q k) → lsD p c dear n = lsD q c dear n
  | 0, _ => rfl
  | n + 1, h => by
    have ih := lsD_cong (c := c) (dear := dear) (n := n) (fun k hk => h k (by omega))
    unfold lsD
    rw [h n (by omega), ih]
def nrC (g : G) (F C : Nat) (dear : Bool) : Option Nat := lsD (nrp g F C) g.c dear g.n
/-- distances in a row -/
def DiC (h : AH) (i : Nat) (d : Nat → Nat) : Prop := ∀ p, p < 6 → AI h i p = nI (d p)
def Row6 (h : AH) (i : Nat) : Prop := 47 ≤ i ∧ AK h i = (20, 6)
theorem Row6.fr {P : Nat → Nat → Prop} {h h' : AH} {i : Nat} (r : Row6 h i) (hf : Fr P h h') : Row6 h' i := ⟨r.1, by rw [hf.2.2.1]; exact r.2⟩
theorem at6 {h : AH} {i p : Nat} (r : Row6 h i) (hp : p < 6) : atv h i (nI p) = AI h i p := by
  have hl : (AK h i).2 = 6 := by rw [r.2]
  exact atv_nI (by omega) (by omega)
theorem put6 {h : AH} {i p : Nat} {x : Int32} (r : Row6 h i) (hp : p < 6) : putv h i (nI p) x = stI h i p x := by
  have hl : (AK h i).2 = 6 := by rw [r.2]
  exact putv_nI (by omega) (by omega)
theorem DiC.st {h : AH} {i : Nat} {d : Nat → Nat} (s : DiC h i d) {p x : Nat} : DiC (stI h i p (nI x)) i (upN d p x) := by
  intro q hq
  rw [AI_stI]
  by_cases e : q = p
  · rw [if_pos ⟨rfl, e⟩, e, upN_s]
  · rw [if_neg (fun z => e z.2), upN_o _ _ e]
    exact s q hq
theorem w19 {d : Nat} {g : G} (ho : GOK g) {v i : Nat} (hv : St3 v) {t : ST} (hs : VS g.n t.F t.C) {dd : Nat → Nat} (hdd : ∀ p, dd p ≤ 1000) {h0 : AH} {Q : Option Value → AH → Prop} (K : ∀ h', Fr (fun a _ => a = i) h0 h' → DiC h' i (rnD g t.F t.C dd g.n) → Q none h') : ∀ m k h, k + m = g.n → Sh h → NetC h g → StC h v t → Row6 h i → Fr (fun a _ => a = i) h0 h → DiC h i (rnD g t.F t.C dd k) → Wp (d + 2) 19 7 [.ref i, .ref v, .ref 5, .int (nI k), mk0, mk0, mk0, mk0] [] h Q
  | 0, k, h, hk, HS, hn, sv, r6, hf, hd => by
    have hnn := ho.1
    have e : k = g.n := by omega
    subst e
    refine g19_7 (d + 1) _ _ _ _ h HS hv Q ⟨kS HS 5 rfl, okS HS 5 rfl rfl, fun z => ?_, fun _ => K h hf hd⟩
    rw [hn.1, nI_ltI (by omega) (by omega)] at z
    omega
  | m + 1, k, h, hk, HS, hn, sv, r6, hf, hd => by
    have hnn := ho.1
    have hlt : k < g.n := by omega
    obtain ⟨la, lb⟩ := ho.ab k hlt
    have hst := sta_lt t.F t.C k
    have hv46 : v < 17 ∧ 11 ≤ v := by rcases hv with rfl | rfl | rfl <;> decide
    have hi46 := r6.1
    have nb := hn.2.2.2 k hlt
    have bd : ∀ p, rnD g t.F t.C dd k p ≤ 1000 := fun p => Nat.le_trans (rnD_le g t.F t.C dd p k) (hdd p)
    have same : sta t.F t.C k = 2 → Wp (d + 2) 19 7 [.ref i, .ref v, .ref 5, .int (nI (k + 1)), mk0, mk0, mk0, mk0] [] h Q := fun hs2 => by
      refine w19 ho hv hs hdd K m (k + 1) h (by omega) HS hn sv r6 hf ?_
      have e : rnD g t.F t.C dd (k + 1) = rnD g t.F t.C dd k := by
        show stD g t.F t.C (rnD g t.F t.C dd k) k = _
        exact if_pos hs2
      rw [e]
      exact hd
    have mid : ∀ x, x = nI (len1 t.F t.C k) → sta t.F t.C k ≠ 2 → Wp (d + 2) 19 39 [.ref i, .ref v, .ref 5, .int (nI k), mk0, mk0, mk0, mk0] [.int x] h Q := by
      intro x hx hs2
      have hl1 : len1 t.F t.C k ≤ 1 := by unfold len1; split <;> omega
      have k6 : (AK h 6).1 = 20 := kS HS 6 rfl
      have k7 : (AK h 7).1 = 20 := kS HS 7 rfl
      refine g19_39 d _ _ _ _ _ h HS hv Q ⟨kS HS 5 rfl, okS HS 5 rfl rfl, 6, rS HS 5 0 rfl, k6, nS HS 6 rfl, 7, rS HS 5 1 rfl, k7, nS HS 7 rfl, by rw [r6.2], by rw [r6.2]; decide, by omega, fun h1 e1 => ?_⟩
      rw [atS HS 6 rfl (n := 10) (c := 20) (by omega), nb.1] at e1
      rw [atS HS 7 rfl (n := 10) (c := 20) (by omega), nb.2.1] at e1
      rw [at6 r6 la, at6 r6 lb, hd _ la, hd _ lb, hx, nI_add, minI (by have := bd (g.a k); omega) (by have := bd (g.b k); omega), put6 r6 la] at e1
      have f1 : Fr (fun a _ => a = i) h h1 := by rw [e1]; exact Fr.stI rfl
      have d1 : DiC h1 i (upN (rnD g t.F t.C dd k) (g.a k) (min (rnD g t.F t.C dd k (g.a k)) (rnD g t.F t.C dd k (g.b k) + len1 t.F t.C k))) := by rw [e1]; exact hd.st
      have r1 := r6.fr f1
      refine ⟨by rw [r1.2], by rw [r1.2]; decide, fun h2 e2 => ?_⟩
      have bd1 : ∀ p, upN (rnD g t.F t.C dd k) (g.a k) (min (rnD g t.F t.C dd k (g.a k)) (rnD g t.F t.C dd k (g.b k) + len1 t.F t.C k)) p ≤ 1000 := fun p => Nat.le_trans (upN_le (Nat.min_le_left _ _) p) (bd p)
      rw [atS HS 6 rfl (n := 10) (c := 20) (by omega), nb.1] at e2
      rw [atS HS 7 rfl (n := 10) (c := 20) (by omega), nb.2.1] at e2
      rw [at6 r1 la, at6 r1 lb, d1 _ la, d1 _ lb, hx, nI_add, minI (by have := bd1 (g.b k); omega) (by have := bd1 (g.a k); omega), put6 r1 lb] at e2
      have f2 : Fr (fun a _ => a = i) h1 h2 := by rw [e2]; exact Fr.stI rfl
      rw [nI_1]
      refine w19 ho hv hs hdd K m (k + 1) h2 (by omega) (f2.Sh (f1.Sh HS)) ((hn.fr f1 (fun a b c e z => by omega)).fr f2 (fun a b c e z => by omega)) ((sv.fr f1 (fun j => ⟨by omega, by omega⟩)).fr f2 (fun j => ⟨by omega, by omega⟩)) (r1.fr f2) ((hf.trans f1).trans f2) ?_
      have e : rnD g t.F t.C dd (k + 1) = upN (upN (rnD g t.F t.C dd k) (g.a k) (min (rnD g t.F t.C dd k (g.a k)) (rnD g t.F t.C dd k (g.b k) + len1 t.F t.C k))) (g.b k) (min (upN (rnD g t.F t.C dd k) (g.a k) (min (rnD g t.F t.C dd k (g.a k)) (rnD g t.F t.C dd k (g.b k) + len1 t.F t.C k)) (g.b k)) (upN (rnD g t.F t.C dd k) (g.a k) (min (rnD g t.F t.C dd k (g.a k)) (rnD g t.F t.C dd k (g.b k) + len1 t.F t.C k)) (g.a k) + len1 t.F t.C k)) := by
        show stD g t.F t.C (rnD g t.F t.C dd k) k = _
        exact if_neg hs2
      rw [e, e2]
      exact d1.st
    refine g19_7 (d + 1) _ _ _ _ h HS hv Q ⟨kS HS 5 rfl, okS HS 5 rfl rfl, fun _ => ?_, fun z => absurd (by rw [hn.1, nI_ltI (by omega) (by omega)]; exact hlt) z⟩
    refine c78 HS hv sv (by omega) ⟨_, rfl, HS, ?_⟩
    rw [eqC (y := 2) (b := 2) rfl rfl (by omega) (by omega), eqC (y := 1) (b := 1) rfl rfl (by omega) (by omega), nI_1]
    refine ⟨fun z => same z, fun z => ⟨fun z2 => mid _ ?_ z, fun z2 => mid _ ?_ z⟩⟩
    · unfold len1
      rw [if_pos z2]
      rfl
    · unfold len1
      rw [if_neg z2]
      rfl
theorem w18b {d : Nat} {g : G} (ho : GOK g) {v i : Nat} (hv : St3 v) {t : ST} (hs : VS g.n t.F t.C) {f : Nat} {h0 : AH} {Q : Option Value → AH → Prop} (K : ∀ h', Fr (fun a _ => a = i) h0 h' → DiC h' i (ruD g t.F t.C (d0 f 1000) 5) → Q none h') : ∀ m r h, r + m = 5 → Sh h → NetC h g → StC h v t → Row6 h i → Fr (fun a _ => a = i) h0 h → DiC h i (ruD g t.F t.C (d0 f 1000) r) → Wp (d + 3) 18 28 [.ref i, mk0, .ref v, .int (nI (r + 1))] [] h Q
  | 0, r, h, hr, HS, hn, sv, r6, hf, hd => by
    have e : r = 5 := by omega
    subst e
    exact g18_28 (d + 2) _ _ _ h HS hv Q ⟨fun z => absurd z (by decide), fun _ => K h hf hd⟩
  | m + 1, r, h, hr, HS, hn, sv, r6, hf, hd => by
    have hv46 : v < 17 ∧ 11 ≤ v := by rcases hv with rfl | rfl | rfl <;> decide
    have hi46 := r6.1
    refine g18_28 (d + 2) _ _ _ h HS hv Q ⟨fun _ => ?_, fun z => absurd ((ltC (y := 6) (b := 6) rfl rfl (by omega) (by omega)).mpr (by omega)) z⟩
    rw [nI_1]
    refine Cl.enter rfl (g19_0 (d + 1) _ _ h HS hv _ ?_)
    refine w19 (d := d) ho hv hs (dd := ruD g t.F t.C (d0 f 1000) r) (fun p => Nat.le_trans (ruD_le g t.F t.C _ p r) (d0_le f 1000 p)) (fun h1 f1 d1 => ⟨rfl, f1.Sh HS, ?_⟩) g.n 0 h (Nat.zero_add _) HS hn sv r6 Fr.rfl hd
    exact w18b ho hv hs K m (r + 1) h1 (by omega) (f1.Sh HS) (hn.fr f1 (fun a b c e z => by omega)) (sv.fr f1 (fun j => ⟨by omega, by omega⟩)) (r6.fr f1) (hf.trans f1) d1
theorem w18a {d : Nat} {g : G} (ho : GOK g) {v i : Nat} (hv : St3 v) {t : ST} (hs : VS g.n t.F t.C) {f : Nat} (hf6 : f < 6) {h0 : AH} {Q : Option Value → AH → Prop} (K : ∀ h', Fr (fun a _ => a = i) h0 h' → DiC h' i (ruD g t.F t.C (d0 f 1000) 5) → Q none h') : ∀ m p h, p + m = 6 → Sh h → NetC h g → StC h v t → Row6 h i → Fr (fun a _ => a = i) h0 h → (∀ q, q < p → AI h i q = 1000) → Wp (d + 3) 18 2 [.ref i, .int (nI f), .ref v, .int (nI p)] [] h Q
  | 0, p, h, hp, HS, hn, sv, r6, hf, hd => by
    have hv46 : v < 17 ∧ 11 ≤ v := by rcases hv with rfl | rfl | rfl <;> decide
    have hi46 := r6.1
    have e : p = 6 := by omega
    subst e
    refine g18_2 (d + 2) _ _ _ _ h HS hv Q ⟨Or.inl (by rw [r6.2]), fun z => ?_, fun _ => ⟨by rw [r6.2], by rw [r6.2]; decide, by omega, fun h1 e1 => ?_⟩⟩
    · rw [r6.2] at z
      exact absurd z (by decide)
    · rw [put6 r6 hf6] at e1
      have f1 : Fr (fun a _ => a = i) h h1 := by rw [e1]; exact Fr.stI rfl
      refine w18b (d := d) ho hv hs K 5 0 h1 rfl (f1.Sh HS) (hn.fr f1 (fun a b c e z => by omega)) (sv.fr f1 (fun j => ⟨by omega, by omega⟩)) (r6.fr f1) (hf.trans f1) (fun q hq => ?_)
      show _ = nI (d0 f 1000 q)
      unfold d0
      rw [e1, AI_stI]
      by_cases eq : q = f
      · rw [if_pos ⟨rfl, eq⟩, if_pos eq]
        rfl
      · rw [if_neg (fun z => eq z.2), if_neg eq, hd q hq]
        rfl
  | m + 1, p, h, hp, HS, hn, sv, r6, hf, hd => by
    have hv46 : v < 17 ∧ 11 ≤ v := by rcases hv with rfl | rfl | rfl <;> decide
    have hi46 := r6.1
    have hlt : p < 6 := by omega
    have hl2 : nI p < Int32.ofNat (AK h i).2 := by
      rw [r6.2]
      exact (nI_ltI (by omega) (by omega)).mpr hlt
    refine g18_2 (d + 2) _ _ _ _ h HS hv Q ⟨Or.inl (by rw [r6.2]), fun _ => ⟨by rw [r6.2], inR_of (nI_pos (by omega)) hl2 (by rw [r6.2]; decide), by omega, ?_⟩, fun z => absurd hl2 z⟩
    rw [tnI (by omega), nI_1]
    have f1 : Fr (fun a _ => a = i) h (stI h i p 1000) := Fr.stI rfl
    refine w18a ho hv hs hf6 K m (p + 1) _ (by omega) (f1.Sh HS) (hn.fr f1 (fun a b c e z => by omega)) (sv.fr f1 (fun j => ⟨by omega, by omega⟩)) (r6.fr f1) (hf.trans f1) (fun q hq => ?_)
    rw [AI_stI]
    by_cases eq : q = p
    · rw [if_pos ⟨rfl, eq⟩]
    · rw [if_neg (fun z => eq z.2)]
      exact hd q (by omega)
theorem c18 {d : Nat} {g : G} (ho : GOK g) {v i : Nat} (hv : St3 v) {t : ST} (hs : VS g.n t.F t.C) {f : Nat} (hf6 : f < 6) {h : AH} (HS : Sh h) (hn : NetC h g) (sv : StC h v t) (r6 : Row6 h i) {Q : Option Value → AH → Prop} (K : ∀ h', Fr (fun a _ => a = i) h h' → DiC h' i (ruD g t.F t.C (d0 f 1000) 5) → Q none h') : Cl (d + 3) 18 [.ref i, .int (nI f), .ref v] h Q :=
  Cl.enter rfl (g18_0 (d + 3) _ _ _ h HS hv Q (w18a ho hv hs hf6 K 6 0 h rfl HS hn sv r6 Fr.rfl (fun q hq => absurd hq (Nat.not_lt_zero q))))
