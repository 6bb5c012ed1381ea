/-! the reference's players -/
def rfP (i _j : Nat) : Prop := i = 43 ∨ i = 44
def lenR (F C k : Nat) : Nat := if sta F C k = 2 then 1048576 else len1 F C k
def stQ (g : G) (F C : Nat) (d : Nat → Nat) (k : Nat) : Nat → Nat := upN (upN d (g.a k) (min (d (g.a k)) (d (g.b k) + lenR F C k))) (g.b k) (min (upN d (g.a k) (min (d (g.a k)) (d (g.b k) + lenR F C k)) (g.b k)) (upN d (g.a k) (min (d (g.a k)) (d (g.b k) + lenR F C k)) (g.a k) + lenR F C k))
theorem stQ_eq {g : G} {F C k : Nat} {d : Nat → Nat} (h : ∀ p, d p ≤ 1048576) (p : Nat) : stQ g F C d k p = stD g F C d k p := by
  unfold stD
  by_cases h2 : sta F C k = 2
  · rw [if_pos h2]
    have hl : lenR F C k = 1048576 := if_pos h2
    unfold stQ
    rw [hl]
    have ha := h (g.a k)
    have hb := h (g.b k)
    have key : ∀ q, upN d (g.a k) (min (d (g.a k)) (d (g.b k) + 1048576)) q = d q := by
      intro q
      by_cases e : q = g.a k
      · rw [e, upN_s]
        omega
      · rw [upN_o _ _ e]
    rw [key, key]
    by_cases e : p = g.b k
    · rw [e, upN_s]
      omega
    · rw [upN_o _ _ e]
      exact key p
  · rw [if_neg h2]
    have hl : lenR F C k = len1 F C k := if_neg h2
    unfold stQ
    rw [hl]
theorem minK {P : Int32 → Prop} {x y : Nat} (hx : x < 2 ^ 31) (hy : y < 2 ^ 31) (H : P (nI (min x y))) : (nI y < nI x → P (nI y)) ∧ (¬ nI y < nI x → P (nI x)) := by
  rw [nI_ltI hy hx]
  refine ⟨fun z => ?_, fun z => ?_⟩
  · rw [Nat.min_eq_right (by omega)] at H
    exact H
  · rw [Nat.min_eq_left (by omega)] at H
    exact H
theorem in6 {h : AH} (HS : Sh h) {i p : Nat} (hi : i = 43 ∨ i = 44) (hp : p < 6) : inR h i (nI p) = true := by
  rcases hi with rfl | rfl
  · exact inS HS 43 (c := 20) (n := 6) rfl (ixR_nI hp (by decide))
  · exact inS HS 44 (c := 20) (n := 6) rfl (ixR_nI hp (by decide))
theorem DiC.o {h : AH} {i j : Nat} {d : Nat → Nat} (s : DiC h i d) (hn : i ≠ j) {q : Nat} {x : Int32} : DiC (stI h j q x) i d := fun p hp => by
  rw [AI_stI_o _ _ (Or.inl hn)]
  exact s p hp
theorem IR.rf {h h' : AH} {g : G} {F C : Nat} (R : IR h g F C) (hf : Fr rfP h h') : IR h' g F C := by
  have n : ∀ i j, i ≠ 43 → i ≠ 44 → ¬ rfP i j := fun i j a b z => by rcases z with z | z; exact a z; exact b z
  exact ⟨R.1.fr hf ⟨n _ _ (by decide) (by decide), n _ _ (by decide) (by decide)⟩ (fun j => ⟨n _ _ (by decide) (by decide), n _ _ (by decide) (by decide)⟩), by rw [hf.I (n _ _ (by decide) (by decide))]; exact R.2.1, R.2.2.fr hf (fun j => n _ _ (by decide) (by decide))⟩
theorem w184s {d : Nat} {h : AH} (HS : Sh h) {g : G} (ho : GOK g) {F C k : Nat} (hk : k < g.n) (R : IR h g F C) {r : Int32} {dd ee : Nat → Nat} (bd : ∀ p, dd p ≤ 1048576) (be : ∀ p, ee p ≤ 1048576) (h1 : DiC h 43 dd) (h2 : DiC h 44 ee) {x : Int32} (hx : x = nI (lenR F C k)) {Q : Option Value → AH → Prop} (K : ∀ h', Fr rfP h h' → DiC h' 43 (stQ g F C dd k) → DiC h' 44 (stQ g F C ee k) → Wp d 184 64 [.ref 23, .int r, .int (nI (k + 1)), mk0, mk0, mk0] [] h' Q) : Wp d 184 102 [.ref 23, .int r, .int (nI k), mk0, mk0, mk0] [.int x] h Q := by
  have hn := ho.1
  obtain ⟨la, lb⟩ := ho.ab k hk
  obtain ⟨ea, eb⟩ := R.1.2.2 k hk
  have lr : lenR F C k ≤ 1048576 := by unfold lenR len1; split; omega; split <;> omega
  have c1 := bd (g.a k)
  have c2 := bd (g.b k)
  have c3 := be (g.a k)
  have c4 := be (g.b k)
  refine g184_102 d _ _ _ h HS Q ⟨ixR_nI (by omega) (by decide), ixR_nI (by omega) (by decide), ?_⟩
  rw [tnI (by omega), ea, eb, tnI (by omega), tnI (by omega), h1 _ la, h1 _ lb, hx, nI_add]
  refine ⟨ixR_nI lb (by decide), ixR_nI la (by decide), ?_⟩
  refine minK (P := fun z => Wp d 184 163 [.ref 23, .int r, .int (nI k), .int (nI (lenR F C k)), .int (nI (g.a k)), .int (nI (g.b k))] [.int z, .int (nI (g.a k)), .ref 43] h Q) (by omega) (by omega) ?_
  refine g184_163 d _ _ _ _ _ _ _ _ h HS Q ?_
  rw [tnI (by omega), tnI (by omega)]
  have S1 := HS.stI 43 (g.a k) (nI (min (dd (g.a k)) (dd (g.b k) + lenR F C k)))
  have d1 : DiC (stI h 43 (g.a k) (nI (min (dd (g.a k)) (dd (g.b k) + lenR F C k)))) 43 (upN dd (g.a k) (min (dd (g.a k)) (dd (g.b k) + lenR F C k))) := h1.st
  have bd1 : ∀ p, upN dd (g.a k) (min (dd (g.a k)) (dd (g.b k) + lenR F C k)) p ≤ 1048576 := fun p => Nat.le_trans (upN_le (Nat.min_le_left _ _) p) (bd p)
  have e1 : DiC (stI h 43 (g.a k) (nI (min (dd (g.a k)) (dd (g.b k) + lenR F C k)))) 44 ee := h2.o (by decide)
  have f1 : Fr rfP h (stI h 43 (g.a k) (nI (min (dd (g.a k)) (dd (g.b k) + lenR F C k)))) := Fr.stI (Or.inl rfl)
  have c5 := bd1 (g.a k)
  have c6 := bd1 (g.b k)
  rw [d1 _ la, d1 _ lb, nI_add]
  refine ⟨kS HS 43 rfl, in6 HS (Or.inl rfl) la, by decide, ixR_nI la (by decide), ixR_nI lb (by decide), ?_⟩
  generalize stI h 43 (g.a k) (nI (min (dd (g.a k)) (dd (g.b k) + lenR F C k))) = ha at *
  generalize hd1 : upN dd (g.a k) (min (dd (g.a k)) (dd (g.b k) + lenR F C k)) = da at *
  refine minK (P := fun z => Wp d 184 208 [.ref 23, .int r, .int (nI k), .int (nI (lenR F C k)), .int (nI (g.a k)), .int (nI (g.b k))] [.int z, .int (nI (g.b k)), .ref 43] ha Q) (by omega) (by omega) ?_
  refine g184_208 d _ _ _ _ _ _ _ _ ha S1 Q ?_
  rw [tnI (by omega), tnI (by omega)]
  have S2 := S1.stI 43 (g.b k) (nI (min (da (g.b k)) (da (g.a k) + lenR F C k)))
  have d2 : DiC (stI ha 43 (g.b k) (nI (min (da (g.b k)) (da (g.a k) + lenR F C k)))) 43 (stQ g F C dd k) := by
    have e : stQ g F C dd k = upN da (g.b k) (min (da (g.b k)) (da (g.a k) + lenR F C k)) := by
      rw [← hd1]
      rfl
    rw [e]
    exact d1.st
  have e2 : DiC (stI ha 43 (g.b k) (nI (min (da (g.b k)) (da (g.a k) + lenR F C k)))) 44 ee := e1.o (by decide)
  have f2 : Fr rfP h (stI ha 43 (g.b k) (nI (min (da (g.b k)) (da (g.a k) + lenR F C k)))) := f1.trans (Fr.stI (Or.inl rfl))
  rw [e2 _ la, e2 _ lb, nI_add]
  refine ⟨kS S1 43 rfl, in6 S1 (Or.inl rfl) lb, by decide, ixR_nI lb (by decide), ixR_nI la (by decide), ?_⟩
  generalize stI ha 43 (g.b k) (nI (min (da (g.b k)) (da (g.a k) + lenR F C k))) = hb at *
  refine minK (P := fun z => Wp d 184 253 [.ref 23, .int r, .int (nI k), .int (nI (lenR F C k)), .int (nI (g.a k)), .int (nI (g.b k))] [.int z, .int (nI (g.a k)), .ref 44] hb Q) (by omega) (by omega) ?_
  refine g184_253 d _ _ _ _ _ _ _ _ hb S2 Q ?_
  rw [tnI (by omega), tnI (by omega)]
  have S3 := S2.stI 44 (g.a k) (nI (min (ee (g.a k)) (ee (g.b k) + lenR F C k)))
  have e3 : DiC (stI hb 44 (g.a k) (nI (min (ee (g.a k)) (ee (g.b k) + lenR F C k)))) 44 (upN ee (g.a k) (min (ee (g.a k)) (ee (g.b k) + lenR F C k))) := e2.st
  have d3 : DiC (stI hb 44 (g.a k) (nI (min (ee (g.a k)) (ee (g.b k) + lenR F C k)))) 43 (stQ g F C dd k) := d2.o (by decide)
  have be1 : ∀ p, upN ee (g.a k) (min (ee (g.a k)) (ee (g.b k) + lenR F C k)) p ≤ 1048576 := fun p => Nat.le_trans (upN_le (Nat.min_le_left _ _) p) (be p)
  have f3 : Fr rfP h (stI hb 44 (g.a k) (nI (min (ee (g.a k)) (ee (g.b k) + lenR F C k)))) := f2.trans (Fr.stI (Or.inr rfl))
  have c7 := be1 (g.a k)
  have c8 := be1 (g.b k)
  rw [e3 _ la, e3 _ lb, nI_add, nI_1]
  refine ⟨kS S2 44 rfl, in6 S2 (Or.inr rfl) la, by decide, ixR_nI la (by decide), ixR_nI lb (by decide), ?_⟩
  generalize stI hb 44 (g.a k) (nI (min (ee (g.a k)) (ee (g.b k) + lenR F C k))) = hc at *
  generalize he1 : upN ee (g.a k) (min (ee (g.a k)) (ee (g.b k) + lenR F C k)) = ea1 at *
  refine minK (P := fun z => Wp d 184 64 [.ref 23, .int r, .int (nI (k + 1)), mk0, mk0, mk0] [] (stI hc 44 (g.b k) z) Q) (by omega) (by omega) ?_
  refine K _ (f3.trans (Fr.stI (Or.inr rfl))) (d3.o (by decide)) ?_
  have e : stQ g F C ee k = upN ea1 (g.b k) (min (ea1 (g.b k)) (ea1 (g.a k) + lenR F C k)) := by
    rw [← he1]
    rfl
  rw [e]
  exact e3.st
theorem w184b {d : Nat} {g : G} (ho : GOK g) {F C : Nat} {r : Int32} {dd ee : Nat → Nat} (bd : ∀ p, dd p ≤ 1048576) (be : ∀ p, ee p ≤ 1048576) {h0 : AH} {Q : Option Value → AH → Prop} (nx : ∀ h, Sh h → IR h g F C → Fr rfP h0 h → DiC h 43 (rnD g F C dd g.n) → DiC h 44 (rnD g F C ee g.n) → Wp d 184 56 [.ref 23, .int (r + 1), mk0, mk0, mk0, mk0] [] h Q) : ∀ m k h, k + m = g.n → Sh h → IR h g F C → Fr rfP h0 h → DiC h 43 (rnD g F C dd k) → DiC h 44 (rnD g F C ee k) → Wp d 184 64 [.ref 23, .int r, .int (nI k), mk0, mk0, mk0] [] h Q
  | 0, k, h, hk, HS, R, hf, h1, h2 => by
    have hn := ho.1
    have e : k = g.n := by omega
    subst e
    refine g184_64 d _ _ h HS Q ⟨fun z => ?_, fun _ => nx h HS R hf h1 h2⟩
    rw [R.2.1, nI_ltI (by omega) (by omega)] at z
    omega
  | m + 1, k, h, hk, HS, R, hf, h1, h2 => by
    have hn := ho.1
    have hlt : k < g.n := by omega
    have hst := sta_lt F C k
    have b1 : ∀ p, rnD g F C dd k p ≤ 1048576 := fun p => Nat.le_trans (rnD_le g F C dd p k) (bd p)
    have b2 : ∀ p, rnD g F C ee k p ≤ 1048576 := fun p => Nat.le_trans (rnD_le g F C ee p k) (be p)
    have go : ∀ x, x = nI (lenR F C k) → Wp d 184 102 [.ref 23, .int r, .int (nI k), mk0, mk0, mk0] [.int x] h Q := by
      intro x hx
      refine w184s HS ho hlt R b1 b2 h1 h2 hx (fun h' f' x1 x2 => ?_)
      refine w184b ho bd be nx m (k + 1) h' (by omega) (f'.Sh HS) (R.rf f') (hf.trans f') (fun p hp => ?_) (fun p hp => ?_)
      · rw [x1 p hp, stQ_eq b1 p]
        rfl
      · rw [x2 p hp, stQ_eq b2 p]
        rfl
    refine g184_64 d _ _ h HS Q ⟨fun _ => ⟨ixR_nI (by omega) (by decide), ?_⟩, fun z => absurd (by rw [R.2.1, nI_ltI (by omega) (by omega)]; exact hlt) z⟩
    rw [tnI (by omega), R.2.2 k hlt, eqC (y := 2) (b := 2) rfl rfl (by omega) (by omega), eqC (y := 1) (b := 1) rfl rfl (by omega) (by omega)]
    refine ⟨fun z => go _ ?_, fun z => ⟨fun z2 => go _ ?_, fun z2 => go _ ?_⟩⟩
    · unfold lenR
      rw [if_pos z]
      rfl
    · unfold lenR len1
      rw [if_neg z, if_pos z2]
      rfl
    · unfold lenR len1
      rw [if_neg z, if_neg z2]
      rfl
theorem w184c {d : Nat} {g : G} (ho : GOK g) {F C : Nat} {h0 : AH} {Q : Option Value → AH → Prop} (K : ∀ h', Fr rfP h0 h' → DiC h' 43 (dsE g F C 1048576 6) → DiC h' 44 (dsF g F C 1048576 6) → Q none h') : ∀ m r h, r + m = 6 → Sh h → IR h g F C → Fr rfP h0 h → DiC h 43 (dsE g F C 1048576 r) → DiC h 44 (dsF g F C 1048576 r) → Wp d 184 56 [.ref 23, .int (nI r), mk0, mk0, mk0, mk0] [] h Q
  | 0, r, h, hr, HS, R, hf, h1, h2 => by
    have e : r = 6 := by omega
    subst e
    exact g184_56 d _ h HS Q ⟨fun z => absurd z (by decide), fun _ => K h hf h1 h2⟩
  | m + 1, r, h, hr, HS, R, hf, h1, h2 => by
    refine g184_56 d _ h HS Q ⟨fun _ => ?_, fun z => absurd ((ltC (y := 6) (b := 6) rfl rfl (by omega) (by omega)).mpr (by omega)) z⟩
    refine w184b ho (fun p => Nat.le_trans (ruD_le g F C _ p r) (d0_le g.e 1048576 p)) (fun p => Nat.le_trans (ruD_le g F C _ p r) (d0_le g.f 1048576 p)) (fun h' S' R' f' x1 x2 => ?_) g.n 0 h (Nat.zero_add _) HS R hf h1 h2
    rw [nI_1]
    exact w184c ho K m (r + 1) h' (by omega) S' R' f' x1 x2
theorem w184a {d : Nat} {g : G} (ho : GOK g) {F C : Nat} {h0 : AH} {Q : Option Value → AH → Prop} (K : ∀ h', Fr rfP h0 h' → DiC h' 43 (dsE g F C 1048576 6) → DiC h' 44 (dsF g F C 1048576 6) → Q none h') : ∀ m p h, p + m = 6 → Sh h → IR h g F C → Fr rfP h0 h → (∀ q, q < p → AI h 43 q = nI (d0 g.e 1048576 q) ∧ AI h 44 q = nI (d0 g.f 1048576 q)) → Wp d 184 2 [.ref 23, .int (nI p), mk0, mk0, mk0, mk0] [] h Q
  | 0, p, h, hp, HS, R, hf, hd => by
    have e : p = 6 := by omega
    subst e
    exact g184_2 d _ h HS Q ⟨fun z => absurd z (by decide), fun _ => w184c ho K 6 0 h rfl HS R hf (fun q hq => (hd q hq).1) (fun q hq => (hd q hq).2)⟩
  | m + 1, p, h, hp, HS, R, hf, hd => by
    have hlt : p < 6 := by omega
    have h1 := ho.2.1
    have h2 := ho.2.2.1
    have fin : ∀ x y, x = nI (d0 g.e 1048576 p) → y = nI (d0 g.f 1048576 p) → Wp d 184 2 [.ref 23, .int (nI (p + 1)), mk0, mk0, mk0, mk0] [] (stI (stI h 43 p x) 44 p y) Q := by
      intro x y hx hy
      have f1 : Fr rfP h (stI (stI h 43 p x) 44 p y) := (Fr.stI (Or.inl rfl)).trans (Fr.stI (Or.inr rfl))
      refine w184a ho K m (p + 1) _ (by omega) (f1.Sh HS) (R.rf f1) (hf.trans f1) (fun q hq => ?_)
      by_cases e : q = p
      · rw [e, AI_stI_o _ _ (Or.inl (by decide)), AI_stI_s, AI_stI_s, hx, hy]
        exact ⟨rfl, rfl⟩
      · rw [AI_stI_o _ _ (Or.inl (by decide)), AI_stI_o _ _ (Or.inr e), AI_stI_o _ _ (Or.inr e), AI_stI_o _ _ (Or.inl (by decide))]
        exact hd q (by omega)
    have mid : ∀ x, x = nI (d0 g.e 1048576 p) → Wp d 184 27 [.ref 23, .int (nI p), mk0, mk0, mk0, mk0] [.int x, .int (nI p), .ref 43] h Q := by
      intro x hx
      refine g184_27 d _ _ _ _ h HS Q ?_
      rw [AI_stI_o _ _ (Or.inl (by decide)), R.1.2.1, nI_eq (by omega) (by omega), nI_1, tnI (by omega)]
      refine ⟨kS HS 43 rfl, in6 HS (Or.inl rfl) hlt, by decide, fun z => ⟨ixR_nI hlt (by decide), fin x _ hx ?_⟩, fun z => ⟨ixR_nI hlt (by decide), fin x _ hx ?_⟩⟩
      · unfold d0
        rw [if_pos z]
        rfl
      · unfold d0
        rw [if_neg z]
        rfl
    refine g184_2 d _ h HS Q ⟨fun _ => ?_, fun z => absurd ((ltC (y := 6) (b := 6) rfl rfl (by omega) (by omega)).mpr hlt) z⟩
    rw [R.1.1, nI_eq (by omega) (by omega)]
    refine ⟨fun z => mid _ ?_, fun z => mid _ ?_⟩
    · unfold d0
      rw [if_pos z]
      rfl
    · unfold d0
      rw [if_neg z]
      rfl
theorem c185 {d : Nat} {h : AH} (HS : Sh h) {g : G} (ho : GOK g) {F C k : Nat} (hk : k < g.n) (R : IR h g F C) (h1 : DiC h 43 (dsE g F C 1048576 6)) (h2 : DiC h 44 (dsF g F C 1048576 6)) {Q : Option Value → AH → Prop} (K : Q (some (.int (b01 (nrX g F C 1048576 6 k)))) h) : Cl d 185 [.ref 23, .int (nI k)] h Q := by
  have hn := ho.1
  have he := ho.2.2.1
  obtain ⟨la, lb⟩ := ho.ab k hk
  obtain ⟨ea, eb⟩ := R.1.2.2 k hk
  have hst := sta_lt F C k
  have bE : ∀ p, dsE g F C 1048576 6 p ≤ 1048576 := fun p => Nat.le_trans (ruD_le g F C _ p 6) (d0_le g.e 1048576 p)
  have bF : ∀ p, dsF g F C 1048576 6 p ≤ 1048576 := fun p => Nat.le_trans (ruD_le g F C _ p 6) (d0_le g.f 1048576 p)
  have c1 := bE (g.a k)
  have c2 := bE (g.b k)
  have c3 := bF (g.a k)
  have c4 := bF (g.b k)
  have c5 := bE g.f
  have mid : ∀ x, x = b01 (decide (dsE g F C 1048576 6 (g.a k) + 1 + dsF g F C 1048576 6 (g.b k) = dsE g F C 1048576 6 g.f)) → Wp d 185 44 [.ref 23, .int (nI k), .int (nI (dsE g F C 1048576 6 g.f)), mk0] [.int x] h Q := by
    intro x hx
    refine g185_44 d _ _ _ h HS Q ⟨ixR_nI (by omega) (by decide), ?_⟩
    rw [tnI (by omega), R.2.2 k hk, nI_eq0 (by omega), sta0, ea, eb, tnI (by omega), tnI (by omega), h1 _ lb, h2 _ la, nI_1, nI_add, nI_eq (by omega) (by omega), hx, b01_0]
    unfold nrX at K
    refine ⟨fun z => ⟨fun z2 => ⟨ixR_nI (by omega) (by decide), ixR_nI lb (by decide), ixR_nI (by omega) (by decide), ixR_nI la (by decide), fun z3 => ?_, fun z3 => ?_⟩, fun z2 => ?_⟩, fun z => ?_⟩
    · rw [z, z2, decide_eq_true z3] at K
      exact K
    · rw [z, z2, decide_eq_false z3] at K
      exact K
    · rw [z, ts_nf z2] at K
      exact K
    · rw [ts_nt z] at K
      exact K
  refine Cl.enter rfl (g185_0 d _ h HS Q ?_)
  rw [R.1.2.1, tnI (by omega), tnI (by omega), ea, eb, tnI (by omega), tnI (by omega), h1 _ la, h1 _ he, h2 _ lb, nI_1, nI_add, nI_eq (by omega) (by omega)]
  refine ⟨ixR_nI he (by decide), ixR_nI (by omega) (by decide), ixR_nI la (by decide), ixR_nI (by omega) (by decide), ixR_nI lb (by decide), fun z => mid _ ?_, fun z => mid _ ?_⟩
  · rw [decide_eq_true z]; rfl
  · rw [decide_eq_false z]; rfl
theorem w186 {d : Nat} {h : AH} (HS : Sh h) {g : G} (ho : GOK g) {F C : Nat} (R : IR h g F C) (hcs : CoR h g) (h1 : DiC h 43 (dsE g F C 1048576 6)) (h2 : DiC h 44 (dsF g F C 1048576 6)) {dear : Bool} {Q : Option Value → AH → Prop} (K : Q (some (.int (oI (lsD (nrX g F C 1048576 6) g.c dear g.n)))) h) : ∀ m k, k + m = g.n → Wp (d + 1) 186 8 [.ref 23, .int (b01 dear), .int (oI (lsD (nrX g F C 1048576 6) g.c dear k)), .int (nI k), mk0] [] h Q
  | 0, k, hk => by
    have hn := ho.1
    have e : k = g.n := by omega
    subst e
    refine g186_8 (d + 1) _ _ _ h HS Q ⟨fun z => ?_, fun _ => K⟩
    rw [R.2.1, nI_ltI (by omega) (by omega)] at z
    omega
  | m + 1, k, hk => by
    have hn := ho.1
    have hlt : k < g.n := by omega
    have ih := w186 (d := d) HS ho R hcs h1 h2 K m (k + 1) (by omega)
    have same : lsD (nrX g F C 1048576 6) g.c dear (k + 1) = lsD (nrX g F C 1048576 6) g.c dear k → Wp (d + 1) 186 8 [.ref 23, .int (b01 dear), .int (oI (lsD (nrX g F C 1048576 6) g.c dear k)), .int (nI (k + 1)), mk0] [] h Q := fun e => by rwa [e] at ih
    have mid : ∀ x (bt : Bool), x = b01 bt → (nrX g F C 1048576 6 k = true → lsD (nrX g F C 1048576 6) g.c dear (k + 1) = if bt = true then some k else lsD (nrX g F C 1048576 6) g.c dear k) → Wp (d + 1) 186 45 [.ref 23, .int (b01 dear), .int (oI (lsD (nrX g F C 1048576 6) g.c dear k)), .int (nI k), mk0] [.int x] h Q := by
      intro x bt hx hb
      refine g186_45 d _ _ _ _ h HS Q ?_
      refine c185 HS ho hlt R h1 h2 ⟨_, rfl, HS, ?_⟩
      rw [b01_0, hx, b01_0, nI_1]
      refine ⟨fun z => same (if_neg (by rw [z]; decide)), fun z => ⟨fun z2 => same ?_, fun z2 => ?_⟩⟩
      · rw [hb (ts_nf z), z2]
        rfl
      · rw [hb (ts_nf z), if_pos (ts_nf z2)] at ih
        exact ih
    have bD : b01 dear = 0 ↔ dear = false := b01_0
    refine g186_8 (d + 1) _ _ _ h HS Q ⟨fun _ => ?_, fun z => absurd (by rw [R.2.1, nI_ltI (by omega) (by omega)]; exact hlt) z⟩
    have unf : nrX g F C 1048576 6 k = true → lsD (nrX g F C 1048576 6) g.c dear (k + 1) = (match lsD (nrX g F C 1048576 6) g.c dear k with
      | none => some k
      | some b => if dear = true ∧ g.c b < g.c k then some k else some b) := fun hp => if_pos hp
    cases hl : lsD (nrX g F C 1048576 6) g.c dear k with
    | none =>
      rw [hl] at mid unf
      exact ⟨fun _ => mid 1 true rfl unf, fun z => absurd rfl z⟩
    | some b =>
      have hb := (lsD_in hl).1
      have nm := nI_m1 (p := b) (by omega)
      have lk := (ho.2.2.2 k hlt).2.2
      have lb := (ho.2.2.2 b (by omega)).2.2
      rw [hl] at mid unf
      refine ⟨fun z => absurd z nm, fun _ => ?_⟩
      rw [bD, show oI (some b) = nI b from rfl, tnI (by omega), tnI (by omega), hcs k hlt, hcs b (by omega), nI_ltI (by omega) (by omega)]
      refine ⟨fun z => mid 0 false rfl (fun hp => ?_), fun z => ⟨ixR_nI (by omega) (by decide), ixR_nI (by omega) (by decide), fun z2 => mid 1 true rfl (fun hp => ?_), fun z2 => mid 0 false rfl (fun hp => ?_)⟩⟩
      · rw [unf hp]
        show (if dear = true ∧ g.c b < g.c k then some k else some b) = _
        rw [if_neg (fun q => by rw [z] at q; cases q.1)]
        rfl
      · rw [unf hp]
        show (if dear = true ∧ g.c b < g.c k then some k else some b) = _
        rw [if_pos ⟨ts_nf z, z2⟩]
        rfl
      · rw [unf hp]
        show (if dear = true ∧ g.c b < g.c k then some k else some b) = _
        rw [if_neg (fun q => z2 q.2)]
        rfl
theorem c186 {d : Nat} {h : AH} (HS : Sh h) {g : G} (ho : GOK g) {F C : Nat} (hs : VS g.n F C) (hu : jn g (unc g.n C) = true) (R : IR h g F C) (hcs : CoR h g) {dear : Bool} {Q : Option Value → AH → Prop} (K : ∀ h', Fr rfP h h' → Q (some (.int (oI (nrC g F C dear)))) h') : Cl (d + 1) 186 [.ref 23, .int (b01 dear)] h Q := by
  refine Cl.enter rfl (g186_0 d _ h HS Q ?_)
  refine Cl.enter rfl (g184_0 d h HS _ ?_)
  refine w184a ho (fun h1 f1 x1 x2 => ⟨rfl, f1.Sh HS, ?_⟩) 6 0 h rfl HS R Fr.rfl (fun q hq => absurd hq (Nat.not_lt_zero q))
  refine w186 (d := d) (f1.Sh HS) ho (R.rf f1) (fun i hi => by rw [f1.I (by rintro (z | z) <;> omega)]; exact hcs i hi) x1 x2 ?_ g.n 0 (Nat.zero_add _)
  have e : lsD (nrX g F C 1048576 6) g.c dear g.n = nrC g F C dear := lsD_cong (fun k hk => near_ref ho hs hu hk)
  rw [e]
  exact K h1 f1
theorem w183 {d : Nat} {h : AH} (HS : Sh h) {n F C : Nat} (hn : n ≤ 10) (hN : AI h 23 0 = nI n) (hl : LsR h n F C) {a : Nat} (ha : a < 1000) {Q : Option Value → AH → Prop} (K : Q (some (.int (nth n F C a))) h) : ∀ m i, i + m = n → fa_cnt (opb F C) i ≤ a → (∀ k, k < i → (opb F C k && decide (fa_cnt (opb F C) k = a)) = false) → Wp d 183 4 [.ref 23, mk0, .int (nI (a - fa_cnt (opb F C) i)), .int (nI i)] [] h Q
  | 0, i, hi, hc, hno => by
    have e : i = n := by omega
    subst e
    refine g183_4 d _ _ h HS Q ⟨fun c => ?_, fun _ => ?_⟩
    · rw [ltC rfl hN (by omega) (by omega)] at c
      omega
    · unfold nth at K
      rwa [fsI_no hno] at K
  | m + 1, i, hi, hc, hno => by
    have hlt : i < n := by omega
    have := sta_lt F C i
    refine g183_4 d _ _ h HS Q ⟨fun _ => ⟨ixR_nI (by omega) (by decide), ?_⟩, fun c => absurd ((ltC rfl hN (by omega) (by omega)).mpr hlt) c⟩
    rw [tnI (by omega), hl i hlt, nI_eq0 (by omega), nI_eq0 (by omega), sta0, nI_1]
    refine ⟨fun c => ⟨fun c2 => ?_, fun c2 => ?_⟩, fun c => ?_⟩
    · unfold nth at K
      rwa [fsI_at hlt hno (by rw [c, decide_eq_true (by omega)]; rfl)] at K
    · have e2 : fa_cnt (opb F C) (i + 1) = fa_cnt (opb F C) i + 1 := fa_cnt_yes c
      rw [show a - fa_cnt (opb F C) i = (a - fa_cnt (opb F C) (i + 1)) + 1 from by omega, pk_m1]
      refine w183 HS hn hN hl ha K m (i + 1) (by omega) (by omega) (fun k hk => ?_)
      by_cases e : k = i
      · rw [e, decide_eq_false (by omega), Bool.and_false]
      · exact hno k (by omega)
    · have e2 : fa_cnt (opb F C) (i + 1) = fa_cnt (opb F C) i := fa_cnt_no (ts_nt c)
      rw [← e2]
      refine w183 HS hn hN hl ha K m (i + 1) (by omega) (by omega) (fun k hk => ?_)
      by_cases e : k = i
      · rw [e, ts_nt c]
        rfl
      · exact hno k (by omega)
theorem c183 {d : Nat} {h : AH} (HS : Sh h) {n F C : Nat} (hn : n ≤ 10) (hN : AI h 23 0 = nI n) (hl : LsR h n F C) {a : Nat} (ha : a < 1000) {Q : Option Value → AH → Prop} (K : Q (some (.int (nth n F C a))) h) : Cl d 183 [.ref 23, .int (nI a)] h Q :=
  Cl.enter rfl (g183_0 d _ h HS Q (w183 HS hn hN hl ha K n 0 (Nat.zero_add _) (Nat.zero_le _) (fun k hk => absurd hk (Nat.not_lt_zero k))))
def tkP (i j : Nat) : Prop := solP i j ∨ i = 43 ∨ i = 44 ∨ (i = 23 ∧ j = 42)
theorem pop_opn2 {n F C : Nat} (hn : n ≤ 10) : pop (opn n F C) = oc n F C := pop_opn hn
theorem c188 {d : Nat} {h : AH} (HS : Sh h) {g : G} (ho : GOK g) {F C w p kd : Nat} (hs : VS g.n F C) (hw : w < 2) (hst : outc g F C = 0) (hp : p < 5) (hkd : kd < 5) (R : IR h g F C) (hcs : CoR h g) (hk : AI h 29 p = nI kd) {Q : Option Value → AH → Prop} (K : ∀ h', Fr tkP h h' → AL h' 23 42 = sdA kd (AL h 23 42) → Q (some (.int (tkA g F C w kd (AL h 23 42)))) h') : Cl (d + 7) 188 [.ref 23, .int (nI p), .int (nI w)] h Q := by
  have hoc := oc_pos hs hst
  have hoc9 := oc_10 F C ho.1
  obtain ⟨hj, hu⟩ := outc0 hst
  have e1 : nI kd = Int32.ofNat 1 ↔ kd = 1 := nI_eq (by omega) (by omega)
  have e2 : nI kd = Int32.ofNat 2 ↔ kd = 2 := nI_eq (by omega) (by omega)
  have e3 : nI kd = Int32.ofNat 3 ↔ kd = 3 := nI_eq (by omega) (by omega)
  have e4 : nI kd = Int32.ofNat 4 ↔ kd = 4 := nI_eq (by omega) (by omega)
  refine Cl.enter rfl (g188_0 (d + 5) _ _ h HS Q ⟨ixR_nI hp (by decide), ?_⟩)
  rw [tnI (by omega), hk, e1, e2, e3, e4]
  have same : ∀ h', Fr solP h h' ∨ Fr rfP h h' → kd ≠ 4 → Q (some (.int (tkA g F C w kd (AL h 23 42)))) h' := by
    intro h' hf hn4
    have es : sdA kd (AL h 23 42) = AL h 23 42 := if_neg hn4
    rcases hf with hf | hf
    · refine K h' (hf.weak (fun a b z => Or.inl z)) ?_
      rw [es, hf.L (by rintro (⟨-, z, z2⟩ | ⟨z, -⟩) <;> omega)]
    · refine K h' (hf.weak (fun a b z => by rcases z with z | z; exact Or.inr (Or.inl z); exact Or.inr (Or.inr (Or.inl z)))) ?_
      rw [es, hf.L (by rintro (z | z) <;> omega)]
  refine ⟨fun z => ?_, fun z => ⟨fun z2 => ?_, fun z2 => ⟨fun z3 => ?_, fun z3 => ⟨fun z4 => ?_, fun z4 => ?_⟩⟩⟩⟩
  · refine c154 (d := d + 1) HS ho hs hw R.1 R.2.1 R.2.2 (fun h1 f1 => ⟨_, rfl, f1.Sh HS, ?_⟩)
    have kk := same h1 (Or.inl f1) (by omega)
    unfold tkA at kk
    rw [if_pos z] at kk
    refine ⟨fun q => ?_, fun q => ?_⟩
    · rw [if_pos q] at kk
      have R1 := R.sol f1
      exact c183 (f1.Sh HS) ho.1 R1.2.1 R1.2.2 (a := 0) (by decide) ⟨_, rfl, f1.Sh HS, kk⟩
    · rwa [if_neg q] at kk
  · refine c186 (d := d + 5) (dear := false) HS ho hs hu R hcs (fun h1 f1 => ⟨_, rfl, f1.Sh HS, ?_⟩)
    have kk := same h1 (Or.inr f1) (by omega)
    unfold tkA at kk
    rwa [if_neg z, if_pos z2] at kk
  · refine c186 (d := d + 5) (dear := true) HS ho hs hu R hcs (fun h1 f1 => ⟨_, rfl, f1.Sh HS, ?_⟩)
    have kk := same h1 (Or.inr f1) (by omega)
    unfold tkA at kk
    rwa [if_neg z, if_neg z2, if_pos z3] at kk
  · refine c143 HS ho.1 R.2.1 R.2.2 (is := 0) (by decide) ⟨_, rfl, HS, ?_⟩
    rw [stm0]
    refine c165 HS (p2_10 (opn_lt _ _ _) ho.1) ⟨_, rfl, HS, ?_⟩
    rw [pop_opn2 ho.1]
    refine Cl.enter rfl (g182_0 (d + 6) _ h HS _ ⟨?_, ?_⟩)
    · rw [nI_l (by omega), show (0 : Int64) = lN 0 from rfl, pk_lEQ (by omega) (by omega)]
      omega
    · have f1 : Fr (fun a b => a = 23 ∧ b = 42) h (stL h 23 42 (drw (AL h 23 42))) := Fr.stL ⟨rfl, rfl⟩
      have es : AL (stL h 23 42 (drw (AL h 23 42))) 23 42 = drw (AL h 23 42) := by rw [AL_stL, if_pos ⟨rfl, rfl⟩]
      have es2 : sdA kd (AL h 23 42) = drw (AL h 23 42) := if_pos z4
      have kk := K _ (f1.weak (fun a b z => Or.inr (Or.inr (Or.inr z)))) (es.trans es2.symm)
      unfold tkA at kk
      rw [if_neg z, if_neg z2, if_neg z3, if_pos z4] at kk
      have hdv := drV_eq (AL h 23 42) hoc (by omega)
      have hlt : drV (AL h 23 42) (oc g.n F C) < oc g.n F C := Nat.mod_lt _ hoc
      have e0 : ((AL (stL h 23 42 (((1103515245 : Int64) * AL h 23 42 + (12345 : Int64)) &&& (2147483647 : Int64))) 23 42 / (65536 : Int64)) - (AL (stL h 23 42 (((1103515245 : Int64) * AL h 23 42 + (12345 : Int64)) &&& (2147483647 : Int64))) 23 42 / (65536 : Int64)) / (nI (oc g.n F C)).toInt64 * (nI (oc g.n F C)).toInt64).toInt32 = nI (drV (AL h 23 42) (oc g.n F C)) := by
        have e1 : AL (stL h 23 42 (((1103515245 : Int64) * AL h 23 42 + (12345 : Int64)) &&& (2147483647 : Int64))) 23 42 = drw (AL h 23 42) := es
        rw [e1]
        exact hdv
      refine ⟨_, rfl, f1.Sh HS, ?_⟩
      rw [e0]
      exact c183 (f1.Sh HS) ho.1 R.2.1 R.2.2 (a := drV (AL h 23 42) (oc g.n F C)) (by omega) ⟨_, rfl, f1.Sh HS, kk⟩
  · have kk := same h (Or.inl Fr.rfl) z4
    unfold tkA at kk
    rw [if_neg z, if_neg z2, if_neg z3, if_neg z4] at kk
    exact c183 HS ho.1 R.2.1 R.2.2 (a := 0) (by decide) ⟨_, rfl, HS, kk⟩
