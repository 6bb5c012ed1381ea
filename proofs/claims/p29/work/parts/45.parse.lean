/-! what begins a net -/
def isPl (c : Nat) : Bool := decide (97 ≤ c ∧ c ≤ 102)
def isCo (c : Nat) : Bool := decide (49 ≤ c ∧ c ≤ 57)
def nxt (s c p m : Nat) : Option Nat :=
  if s = 0 then (if isPl c = true then some 1 else none)
  else if s = 1 then (if isPl c = true ∧ c ≠ p then some 2 else none)
  else if s = 2 then (if c = 58 then some 3 else none)
  else if s = 3 then (if isPl c = true then some 4 else none)
  else if s = 4 then (if isPl c = true ∧ c ≠ p then some 5 else none)
  else if c = 44 then (if m < 9 then some 3 else none)
  else if s < 7 ∧ isCo c = true then some 7
  else if s = 5 ∧ (c = 43 ∨ c = 45) then some 6 else none
def pv (cd : Nat → Nat) (i : Nat) : Nat := if i = 0 then 0 else cd (i - 1)
def psr (cd : Nat → Nat) : Nat → Option (Nat × Nat)
  | 0 => some (0, 0)
  | i + 1 => match psr cd i with
    | none => none
    | some (s, m) => match nxt s (cd i) (pv cd i) m with
      | none => none
      | some s' => some (s', if s' = 5 then m + 1 else m)
theorem psr_s {cd : Nat → Nat} {i s m : Nat} (h : psr cd i = some (s, m)) : psr cd (i + 1) = match nxt s (cd i) (pv cd i) m with
    | none => none
    | some s' => some (s', if s' = 5 then m + 1 else m) := by
  show (match psr cd i with
    | none => none
    | some (s, m) => match nxt s (cd i) (pv cd i) m with
      | none => none
      | some s' => some (s', if s' = 5 then m + 1 else m)) = _
  rw [h]
theorem psr_none {cd : Nat → Nat} {k : Nat} (h : psr cd k = none) : ∀ j, k ≤ j → psr cd j = none
  | 0, hj => by rw [Nat.le_zero.mp hj] at h; exact h
  | j + 1, hj => by
    by_cases e : k = j + 1
    · rw [← e]; exact h
    · have ih := psr_none h j (by omega)
      show (match psr cd j with
        | none => none
        | some (s, m) => match nxt s (cd j) (pv cd j) m with
          | none => none
          | some s' => some (s', if s' = 5 then m + 1 else m)) = none
      rw [ih]
def PInv (s m : Nat) : Prop := s ≤ 7 ∧ m ≤ 9 ∧ (s = 3 ∨ s = 4 → m ≤ 8) ∧ (s ≤ 2 → m = 0) ∧ (5 ≤ s → 1 ≤ m)
theorem nxt_inv {s c p m s' : Nat} (h : PInv s m) (hn : nxt s c p m = some s') : PInv s' (if s' = 5 then m + 1 else m) := by
  obtain ⟨h1, h2, h3, h4, h5⟩ := h
  unfold nxt at hn
  repeat' split at hn
  all_goals first | (cases hn; done) | skip
  all_goals (have e := Option.some.inj hn; subst e)
  all_goals (simp [PInv]; omega)
theorem psr_inv {cd : Nat → Nat} : ∀ {i s m}, psr cd i = some (s, m) → PInv s m
  | 0, s, m, h => by
    cases h
    simp [PInv]
  | i + 1, s, m, h => by
    unfold psr at h
    split at h
    · cases h
    · rename_i s0 m0 h0
      have ih := psr_inv h0
      split at h
      · cases h
      · rename_i s' hn
        have := nxt_inv ih hn
        cases h
        exact this
def ftl (cd : Nat → Nat) (L : Nat) : Nat := fa_first (fun i => (psr cd (i + 1)).isNone) L
theorem ftl_at {cd : Nat → Nat} {L i : Nat} (hi : i < L) {x : Nat × Nat} (h0 : psr cd i = some x) (h1 : psr cd (i + 1) = none) : ftl cd L = i := by
  refine first_at hi (fun k hk => ?_) (by rw [h1]; rfl)
  cases e : psr cd (k + 1) with
  | some _ => rfl
  | none =>
    rw [psr_none e i (by omega)] at h0
    cases h0
theorem ftl_end {cd : Nat → Nat} {L : Nat} {x : Nat × Nat} (h0 : psr cd L = some x) : ftl cd L = L := by
  refine first_none (fun k hk => ?_)
  cases e : psr cd (k + 1) with
  | some _ => rfl
  | none =>
    rw [psr_none e L (by omega)] at h0
    cases h0
theorem plI {c : Nat} (h : c < 2 ^ 31) : (nI c < 97 ↔ c < 97) ∧ (102 < nI c ↔ 102 < c) ∧ (nI c < 49 ↔ c < 49) ∧ (57 < nI c ↔ 57 < c) := ⟨ltC (y := 97) (b := 97) rfl rfl h (by omega), ltC (x := 102) (a := 102) rfl rfl (by omega) h, ltC (y := 49) (b := 49) rfl rfl h (by omega), ltC (x := 57) (a := 57) rfl rfl (by omega) h⟩
theorem isPl_f1 {c : Nat} (h : c < 97) : ¬ isPl c = true := fun z => by
  have := of_decide_eq_true z
  omega
theorem isPl_f2 {c : Nat} (h : 102 < c) : ¬ isPl c = true := fun z => by
  have := of_decide_eq_true z
  omega
theorem isPl_t {c : Nat} (h1 : ¬ c < 97) (h2 : ¬ 102 < c) : isPl c = true := decide_eq_true (by omega)
theorem isCo_f1 {c : Nat} (h : c < 49) : ¬ isCo c = true := fun z => by
  have := of_decide_eq_true z
  omega
theorem isCo_f2 {c : Nat} (h : 57 < c) : ¬ isCo c = true := fun z => by
  have := of_decide_eq_true z
  omega
theorem isCo_t {c : Nat} (h1 : ¬ c < 49) (h2 : ¬ 57 < c) : isCo c = true := decide_eq_true (by omega)
theorem eqN {a b : Nat} (ha : a < 2 ^ 31) (hb : b < 2 ^ 31) : nI a = Int32.ofNat b ↔ a = b := nI_eq ha hb
theorem c47 {d : Nat} {h : AH} (HS : Sh h) {s c p m : Nat} (h5 : 5 ≤ s) (hs : s ≤ 7) (hc : c ≤ 126) (hm : m ≤ 9) {Q : Option Value → AH → Prop} (K : Q (some (.int (oI (nxt s c p m)))) h) : Cl (d + 1) 47 [.int (nI s), .int (nI c), .int (nI m)] h Q := by
  obtain ⟨-, -, q3, q4⟩ := plI (c := c) (by omega)
  have e : nxt s c p m = if c = 44 then (if m < 9 then some 3 else none) else if s < 7 ∧ isCo c = true then some 7 else if s = 5 ∧ (c = 43 ∨ c = 45) then some 6 else none := by
    unfold nxt
    rw [if_neg (by omega), if_neg (by omega), if_neg (by omega), if_neg (by omega), if_neg (by omega)]
  rw [e] at K
  have last : c ≠ 44 → ¬ (s < 7 ∧ isCo c = true) → Wp (d + 1) 47 34 [.int (nI s), .int (nI c), mk0] [] h Q := by
    intro h1 h2
    rw [if_neg h1, if_neg h2] at K
    refine g47_34 (d + 1) _ _ h HS Q ?_
    rw [eqC (y := 5) (b := 5) rfl rfl (by omega) (by omega), eqC (y := 43) (b := 43) rfl rfl (by omega) (by omega), eqC (y := 45) (b := 45) rfl rfl (by omega) (by omega)]
    refine ⟨fun z => ⟨fun z2 => ?_, fun z2 => ⟨fun z3 => ?_, fun z3 => ?_⟩⟩, fun z => ?_⟩
    · rwa [if_pos ⟨z, Or.inl z2⟩] at K
    · rwa [if_pos ⟨z, Or.inr z3⟩] at K
    · rwa [if_neg (fun q => by rcases q.2 with q | q; exact z2 q; exact z3 q)] at K
    · rwa [if_neg (fun q => z q.1)] at K
  refine Cl.enter rfl (g47_0 d _ _ _ h HS Q ?_)
  rw [q3, q4, eqC (y := 44) (b := 44) rfl rfl (by omega) (by omega), ltC (y := 9) (b := 9) rfl rfl (by omega) (by omega), ltC (y := 7) (b := 7) rfl rfl (by omega) (by omega)]
  refine ⟨fun z => ⟨fun z2 => ?_, fun z2 => ?_⟩, fun z => ⟨fun z2 => ⟨fun z3 => last z (fun q => isCo_f1 z3 q.2), fun z3 => ⟨fun z4 => last z (fun q => isCo_f2 z4 q.2), fun z4 => ?_⟩⟩, fun z2 => last z (fun q => z2 q.1)⟩⟩
  · rwa [if_pos z, if_pos z2] at K
  · rwa [if_pos z, if_neg z2] at K
  · rwa [if_neg z, if_pos ⟨z2, isCo_t z3 z4⟩] at K
theorem c46 {d : Nat} {h : AH} (HS : Sh h) {s c p m : Nat} (hs : s ≤ 7) (hc : c ≤ 126) (hp : p ≤ 126) (hm : m ≤ 9) {Q : Option Value → AH → Prop} (K : Q (some (.int (oI (nxt s c p m)))) h) : Cl (d + 2) 46 [.int (nI s), .int (nI c), .int (nI p), .int (nI m)] h Q := by
  obtain ⟨q1, q2, -, -⟩ := plI (c := c) (by omega)
  refine Cl.enter rfl (g46_0 (d + 1) _ _ _ _ h HS Q ?_)
  rw [q1, q2, eqN (by omega) (by omega), eqN (by omega) (by omega), eqN (by omega) (by omega), eqN (by omega) (by omega), eqN (by omega) (by omega), nI_eq (by omega) (by omega), eqC (y := 58) (b := 58) rfl rfl (by omega) (by omega)]
  unfold nxt at K
  refine ⟨fun z => ?_, fun z => ⟨fun z2 => ?_, fun z2 => ⟨fun z3 => ?_, fun z3 => ⟨fun z4 => ?_, fun z4 => ⟨fun z5 => ?_, fun z5 => ?_⟩⟩⟩⟩⟩
  · rw [if_pos z] at K
    refine ⟨fun y => ?_, fun y => ⟨fun y2 => ?_, fun y2 => ?_⟩⟩
    · rwa [if_neg (isPl_f1 y)] at K
    · rwa [if_neg (isPl_f2 y2)] at K
    · rwa [if_pos (isPl_t y y2)] at K
  · rw [if_neg z, if_pos z2] at K
    refine ⟨fun y => ?_, fun y => ⟨fun y2 => ?_, fun y2 => ⟨fun y3 => ?_, fun y3 => ?_⟩⟩⟩
    · rwa [if_neg (fun q => isPl_f1 y q.1)] at K
    · rwa [if_neg (fun q => isPl_f2 y2 q.1)] at K
    · rwa [if_neg (fun q => q.2 y3)] at K
    · rwa [if_pos ⟨isPl_t y y2, y3⟩] at K
  · rw [if_neg z, if_neg z2, if_pos z3] at K
    refine ⟨fun y => ?_, fun y => ?_⟩
    · rwa [if_pos y] at K
    · rwa [if_neg y] at K
  · rw [if_neg z, if_neg z2, if_neg z3, if_pos z4] at K
    refine ⟨fun y => ?_, fun y => ⟨fun y2 => ?_, fun y2 => ?_⟩⟩
    · rwa [if_neg (isPl_f1 y)] at K
    · rwa [if_neg (isPl_f2 y2)] at K
    · rwa [if_pos (isPl_t y y2)] at K
  · rw [if_neg z, if_neg z2, if_neg z3, if_neg z4, if_pos z5] at K
    refine ⟨fun y => ?_, fun y => ⟨fun y2 => ?_, fun y2 => ⟨fun y3 => ?_, fun y3 => ?_⟩⟩⟩
    · rwa [if_neg (fun q => isPl_f1 y q.1)] at K
    · rwa [if_neg (fun q => isPl_f2 y2 q.1)] at K
    · rwa [if_neg (fun q => q.2 y3)] at K
    · rwa [if_pos ⟨isPl_t y y2, y3⟩] at K
  · refine c47 (p := p) HS (by omega) hs hc hm ⟨_, rfl, HS, ?_⟩
    unfold nxt
    exact K
theorem oI_m1 {o : Option Nat} (h : ∀ x, o = some x → x < 2 ^ 31) : oI o = -1 ↔ o = none := by
  cases o with
  | none => exact ⟨fun _ => rfl, fun _ => rfl⟩
  | some x => exact ⟨fun z => absurd z (nI_m1 (h x rfl)), fun z => by cases z⟩
def lsP (i j : Nat) : Prop := i = 3 ∧ j = 2
theorem PgC.fr {P : Nat → Nat → Prop} {h h' : AH} {L : Nat} {cd : Nat → Nat} (s : PgC h L cd) (hf : Fr P h h') (h1 : ¬ P 3 1) (h2 : ∀ j, ¬ P 4 j) : PgC h' L cd := ⟨by rw [hf.I h1]; exact s.1, fun i hi => by rw [hf.I (h2 i)]; exact s.2 i hi⟩
theorem PgR.fr {P : Nat → Nat → Prop} {h h' : AH} {L : Nat} {cd : Nat → Nat} (s : PgR h L cd) (hf : Fr P h h') (h1 : ¬ P 23 14) (h2 : ∀ j, ¬ P 30 j) : PgR h' L cd := ⟨by rw [hf.I h1]; exact s.1, fun i hi => by rw [hf.I (h2 i)]; exact s.2 i hi⟩
theorem w45 {d : Nat} {L : Nat} {cd : Nat → Nat} (po : POK L cd) {h0 : AH} {Q : Option Value → AH → Prop} (K : ∀ h', Fr lsP h0 h' → (∀ s m, psr cd L = some (s, m) → AI h' 3 2 = nI s) → Q (some (.int (nI (ftl cd L)))) h') : ∀ r i s m h, i + r = L → Sh h → PgC h L cd → Fr lsP h0 h → psr cd i = some (s, m) → AI h 3 2 = nI s → Wp (d + 3) 45 11 [.ref 3, .int (nI m), .int (nI (pv cd i)), .int (nI i), mk0] [] h Q
  | 0, i, s, m, h, hi, HS, hp, hf, hs, h2 => by
    have hL := po.1
    have e : i = L := by omega
    subst e
    refine g45_11 (d + 1) _ _ _ h HS Q ⟨fun z => ?_, fun _ => ?_⟩
    · rw [hp.1, nI_ltI (by omega) (by omega)] at z
      omega
    · have kk := K h hf (fun s' m' e => by rw [hs] at e; cases e; exact h2)
      rw [ftl_end hs] at kk
      rw [hp.1]
      exact kk
  | r + 1, i, s, m, h, hi, HS, hp, hf, hs, h2 => by
    have hL := po.1
    have hlt : i < L := by omega
    obtain ⟨v1, v2, v3, v4, v5⟩ := psr_inv hs
    have hc := po.2 i hlt
    have hpv : pv cd i ≤ 126 := by
      unfold pv
      split
      · omega
      · exact po.2 _ (by omega)
    have hs1 := psr_s hs
    refine g45_11 (d + 1) _ _ _ h HS Q ⟨fun _ => ?_, fun z => absurd (by rw [hp.1, nI_ltI (by omega) (by omega)]; exact hlt) z⟩
    rw [h2, atS HS 4 rfl (n := 50) (c := 20) (by omega), hp.2 i hlt]
    refine c46 HS v1 hc hpv v2 ⟨_, rfl, HS, ?_⟩
    rw [AI_stI_s, nI_1, nI_1]
    have f1 : Fr lsP h (stI h 3 2 (oI (nxt s (cd i) (pv cd i) m))) := Fr.stI ⟨rfl, rfl⟩
    cases hn : nxt s (cd i) (pv cd i) m with
    | none =>
      rw [hn] at hs1 f1
      refine ⟨fun _ => ?_, fun z => absurd rfl z⟩
      have hz := psr_none hs1 L (by omega)
      have kk := K _ (hf.trans f1) (fun s' m' e => by rw [hz] at e; cases e)
      rw [ftl_at hlt hs hs1] at kk
      exact kk
    | some s' =>
      rw [hn] at hs1 f1
      have iv := psr_inv hs1
      have nm := nI_m1 (p := s') (by have := iv.1; omega)
      have nx := w45 (d := d) po K r (i + 1) s' (if s' = 5 then m + 1 else m) _ (by omega) (f1.Sh HS) (hp.fr f1 (fun z => absurd z.2 (by decide)) (fun j z => absurd z.1 (by decide))) (hf.trans f1) hs1 (AI_stI_s _ _ _ _)
      have ep : pv cd (i + 1) = cd i := by
        unfold pv
        rw [if_neg (Nat.succ_ne_zero i), Nat.add_sub_cancel]
      rw [ep] at nx
      refine ⟨fun z => absurd z nm, fun _ => ?_⟩
      rw [show oI (some s') = nI s' from rfl, eqC (y := 5) (b := 5) rfl rfl (by have := iv.1; omega) (by omega)]
      refine ⟨fun z => ?_, fun z => ?_⟩
      · rw [if_pos z] at nx
        exact nx
      · rw [if_neg z] at nx
        exact nx
theorem c45 {d : Nat} {L : Nat} {cd : Nat → Nat} (po : POK L cd) {h : AH} (HS : Sh h) (hp : PgC h L cd) {Q : Option Value → AH → Prop} (K : ∀ h', Fr lsP h h' → (∀ s m, psr cd L = some (s, m) → AI h' 3 2 = nI s) → Q (some (.int (nI (ftl cd L)))) h') : Cl (d + 3) 45 [.ref 3] h Q := by
  refine Cl.enter rfl (g45_0 (d + 3) h HS Q ?_)
  have f1 : Fr lsP h (stI h 3 2 0) := Fr.stI ⟨rfl, rfl⟩
  exact w45 po K L 0 0 0 _ (Nat.zero_add _) (f1.Sh HS) (hp.fr f1 (fun z => absurd z.2 (by decide)) (fun j z => absurd z.1 (by decide))) f1 rfl (AI_stI_s _ _ _ _)
