/-! letters -/
def byN (W : Int64) (k : Nat) : Nat := W.toBitVec.toNat / 2 ^ (8 * k) % 256
theorem byN_lt (W : Int64) (k : Nat) : byN W k < 256 := Nat.mod_lt _ (by decide)
theorem e8k (k : Nat) : (8 : Int32) * nI k = nI (8 * k) := by rw [show (8 : Int32) = nI 8 from rfl, pk_mul]
theorem byU (W : Int64) {k : Nat} (hk : k < 8) : ((W.toUInt64 >>> (((8 : Int32) * nI k).toInt64.toUInt64 &&& Int64.toUInt64 63)).toInt64 &&& (255 : Int64)).toInt32 = nI (byN W k) := by
  obtain ⟨n, hn, e⟩ := wb_of W
  unfold byN
  rw [e8k, e, wb_tn hn, wb_shr hn (by omega)]
  have e255 : (255 : Int64) = lN (2 ^ 8 - 1) := rfl
  have e256 : (2 : Nat) ^ 8 = 256 := by decide
  rw [e255, wb_mask (Nat.lt_of_le_of_lt (Nat.div_le_self _ _) hn) (by decide), lN_i, e256]
theorem b255L : ∀ i, i < 64 → (255 : Int64).toBitVec.getLsbD i = decide (i < 8) := by decide +kernel
theorem byE (W : Int64) {k : Nat} (hk : k < 8) : (W >>> (((8 : Int32) * nI k).toInt64 &&& 63)) &&& (255 : Int64) = ((W.toUInt64 >>> (((8 : Int32) * nI k).toInt64.toUInt64 &&& Int64.toUInt64 63)).toInt64) &&& (255 : Int64) := by
  rw [e8k, wb_c _ (by omega), wb_cu _ (by omega)]
  apply wb_inj
  rw [Int64.toBitVec_and, Int64.toBitVec_and, Int64.toBitVec_shiftRight]
  apply BitVec.eq_of_getLsbD_eq
  intro i hi
  rw [BitVec.getLsbD_and, BitVec.getLsbD_and, b255L i hi]
  by_cases h8 : i < 8
  · congr 1
    show (W.toBitVec.sshiftRight ((lN (8 * k)).toBitVec.smod 64).toNat).getLsbD i = (W.toUInt64 >>> UInt64.ofNat (8 * k)).toBitVec.getLsbD i
    rw [UInt64.toBitVec_shiftRight, wb_tb, wb_sm _ (by omega)]
    have e1 : (BitVec.ofNat 64 (8 * k)).toNat = 8 * k := by rw [BitVec.toNat_ofNat, Nat.mod_eq_of_lt (by omega)]
    show _ = (W.toBitVec >>> ((UInt64.ofNat (8 * k)).toBitVec % 64).toNat).getLsbD i
    have e2 : ((UInt64.ofNat (8 * k)).toBitVec % 64).toNat = 8 * k := by
      rw [BitVec.toNat_umod]
      show (BitVec.ofNat 64 (8 * k)).toNat % 64 = 8 * k
      rw [e1]
      omega
    rw [e1, e2, BitVec.getLsbD_sshiftRight, BitVec.getLsbD_ushiftRight, decide_eq_false (by omega), if_pos (by omega)]
    rfl
  · rw [decide_eq_false h8, Bool.and_false, Bool.and_false]
theorem byS (W : Int64) {k : Nat} (hk : k < 8) : ((W >>> (((8 : Int32) * nI k).toInt64 &&& 63)) &&& (255 : Int64)).toInt32 = nI (byN W k) := by rw [byE W hk, byU W hk]
theorem byB (W : Int64) {k : Nat} (hk : k < 8) (hb : byN W k < 128) : vp_nar .byte (W >>> (((8 : Int32) * nI k).toInt64 &&& 63)).toInt32.toInt8.toInt32 = nI (byN W k) := by
  have e1 : (W >>> (((8 : Int32) * nI k).toInt64 &&& 63)).toInt32 &&& 255 = nI (byN W k) := by
    rw [← byS W hk, Int64.toInt32_and]
    rfl
  have e2 : (W >>> (((8 : Int32) * nI k).toInt64 &&& 63)).toInt32.toInt8 = (nI (byN W k)).toInt8 := by rw [← e1, fa_byte_low]
  rw [e2, fa_byte_small hb]
  show (nI (byN W k)).toInt8.toInt32 = _
  exact fa_byte_small hb
/-- how far eight bytes are letters -/
def apS (W : Int64) : Nat → Option (Nat × Bool)
  | 0 => some (0, false)
  | k + 1 => match apS W k with
    | none => none
    | some (m, ov) => if 126 < byN W k then none else if byN W k = 0 then some (m, true) else if ov = true then none else some (m + 1, ov)
theorem apS_none {W : Int64} {k : Nat} (h : apS W k = none) : ∀ j, k ≤ j → apS W j = none
  | 0, hj => by rw [Nat.le_zero.mp hj] at h; exact h
  | j + 1, hj => by
    by_cases e : k = j + 1
    · rw [← e]; exact h
    · have ih := apS_none h j (by omega)
      show (match apS W j with
        | none => none
        | some (m, ov) => if 126 < byN W j then none else if byN W j = 0 then some (m, true) else if ov = true then none else some (m + 1, ov)) = none
      rw [ih]
theorem apS_ok {W : Int64} : ∀ {k m ov}, apS W k = some (m, ov) → m ≤ k ∧ (∀ i, i < m → byN W i ≤ 126) ∧ (ov = false → m = k)
  | 0, m, ov, h => by
    cases h
    exact ⟨Nat.le_refl _, fun i hi => absurd hi (Nat.not_lt_zero i), fun _ => rfl⟩
  | k + 1, m, ov, h => by
    unfold apS at h
    split at h
    · cases h
    · rename_i m0 ov0 h0
      obtain ⟨a, b, c⟩ := apS_ok h0
      split at h
      · cases h
      · rename_i h126
        split at h
        · cases h
          exact ⟨by omega, b, fun z => by cases z⟩
        · split at h
          · cases h
          · rename_i hov
            cases h
            have e := c (ts_nt hov)
            refine ⟨by omega, fun i hi => ?_, fun _ => by omega⟩
            by_cases ei : i = k
            · rw [ei]; omega
            · exact b i (by omega)
def apM (W : Int64) : Nat := match apS W 8 with
  | none => 0
  | some (m, _) => m
/-- the page: how many letters, which -/
def PgC (h : AH) (L : Nat) (cd : Nat → Nat) : Prop := AI h 3 1 = nI L ∧ ∀ i, i < L → AI h 4 i = nI (cd i)
def PgR (h : AH) (L : Nat) (cd : Nat → Nat) : Prop := AI h 23 14 = nI L ∧ ∀ i, i < L → AI h 30 i = nI (cd i)
def POK (L : Nat) (cd : Nat → Nat) : Prop := L ≤ 50 ∧ ∀ i, i < L → cd i ≤ 126
def ltA (W : Int64) (L : Nat) : Int32 := match apS W 8 with
  | none => -102
  | some (m, _) => if 50 < L + m then -104 else nI (L + m)
def ltL (W : Int64) (L : Nat) : Nat := match apS W 8 with
  | none => L
  | some (m, _) => if 50 < L + m then L else L + m
def lcC (W : Int64) (L : Nat) (cd : Nat → Nat) : Nat → Nat := fun i => if i < L then cd i else byN W (i - L)
theorem POK.lt {W : Int64} {L : Nat} {cd : Nat → Nat} (h : POK L cd) : POK (ltL W L) (lcC W L cd) := by
  unfold ltL
  split
  · exact ⟨h.1, fun i hi => by unfold lcC; rw [if_pos hi]; exact h.2 i hi⟩
  · rename_i m ov hs
    obtain ⟨a, b, c⟩ := apS_ok hs
    split
    · exact ⟨h.1, fun i hi => by unfold lcC; rw [if_pos hi]; exact h.2 i hi⟩
    · refine ⟨by omega, fun i hi => ?_⟩
      unfold lcC
      by_cases e : i < L
      · rw [if_pos e]; exact h.2 i e
      · rw [if_neg e]; exact b _ (by omega)
def pgP (i j : Nat) : Prop := (i = 3 ∧ j = 1) ∨ i = 4
theorem w42b {d : Nat} {W : Int64} {L m : Nat} {cd : Nat → Nat} (hL : L + m ≤ 50) (hm : m ≤ 8) {h0 : AH} {Q : Option Value → AH → Prop} (K : ∀ h', Fr pgP h0 h' → PgC h' (L + m) (lcC W L cd) → Q (some (.int (nI (L + m)))) h') : ∀ r i h, i + r = m → Sh h → Fr pgP h0 h → AI h 3 1 = nI L → (∀ j, j < L + i → AI h 4 j = nI (lcC W L cd j)) → Wp (d + 1) 42 80 [.ref 3, .long W, mk0, .int (nI m), mk0, .int (nI i), mk0] [] h Q
  | 0, i, h, hi, HS, hf, h1, h2 => by
    have e : i = m := by omega
    subst e
    refine g42_80 d _ _ _ h HS Q ⟨fun z => ?_, fun _ => ?_⟩
    · rw [nI_ltI (by omega) (by omega)] at z
      omega
    · rw [AI_stI_s, h1, nI_add]
      refine K _ (hf.trans (Fr.stI (Or.inl ⟨rfl, rfl⟩))) ⟨AI_stI_s _ _ _ _, fun j hj => ?_⟩
      rw [AI_stI_o _ _ (Or.inl (by decide))]
      exact h2 j hj
  | r + 1, i, h, hi, HS, hf, h1, h2 => by
    have hlt : i < m := by omega
    refine g42_80 d _ _ _ h HS Q ⟨fun _ => (fun h2' e2 => ?_), fun z => absurd ((nI_ltI (by omega) (by omega)).mpr hlt) z⟩
    rw [h1, nI_add, byU W (by omega), putS HS 4 rfl (n := 50) (c := 20) (by omega)] at e2
    have f1 : Fr pgP h h2' := by rw [e2]; exact Fr.stI (Or.inr rfl)
    rw [nI_1]
    refine w42b hL hm K r (i + 1) h2' (by omega) (f1.Sh HS) (hf.trans f1) ?_ (fun j hj => ?_)
    · rw [e2, AI_stI_o _ _ (Or.inl (by decide)), h1]
    · by_cases e : j = L + i
      · rw [e2, e, AI_stI_s]
        unfold lcC
        rw [if_neg (by omega), Nat.add_sub_cancel_left]
      · rw [e2, AI_stI_o _ _ (Or.inr e)]
        exact h2 j (by omega)
theorem lt50 {a : Nat} (h : a < 2 ^ 31) : (50 : Int32) < nI a ↔ 50 < a := ltC (x := 50) (a := 50) rfl rfl (by omega) h
theorem lt126 {a : Nat} (h : a < 2 ^ 31) : (126 : Int32) < nI a ↔ 126 < a := ltC (x := 126) (a := 126) rfl rfl (by omega) h
theorem apS_s {W : Int64} {k m : Nat} {ov : Bool} (h : apS W k = some (m, ov)) : apS W (k + 1) = if 126 < byN W k then none else if byN W k = 0 then some (m, true) else if ov = true then none else some (m + 1, ov) := by
  show (match apS W k with
    | none => none
    | some (m, ov) => if 126 < byN W k then none else if byN W k = 0 then some (m, true) else if ov = true then none else some (m + 1, ov)) = _
  rw [h]
theorem lt_same {W : Int64} {h : AH} {L : Nat} {cd : Nat → Nat} (hp : ∀ i, i < L → AI h 4 i = nI (cd i)) {j : Nat} (hj : j < L) : AI h 4 j = nI (lcC W L cd j) := by
  unfold lcC
  rw [if_pos hj]
  exact hp j hj
theorem w42 {d : Nat} {W : Int64} {L : Nat} {cd : Nat → Nat} {h : AH} (HS : Sh h) (hp : PgC h L cd) (hL : L ≤ 50) {Q : Option Value → AH → Prop} (K : ∀ h', Fr pgP h h' → PgC h' (ltL W L) (lcC W L cd) → Q (some (.int (ltA W L))) h') : ∀ r k m ov, k + r = 8 → apS W k = some (m, ov) → Wp (d + 1) 42 8 [.ref 3, .long W, mk0, .int (nI m), .int (b01 ov), .int (nI k), mk0] [] h Q := by
  have same : ltL W L = L → PgC h (ltL W L) (lcC W L cd) := fun e => by
    rw [e]
    exact ⟨hp.1, fun j hj => lt_same hp.2 hj⟩
  have bad : ∀ k, k ≤ 8 → apS W k = none → Q (some (.int (-102))) h := fun k hk hn => by
    have h8 := apS_none hn 8 hk
    have eL : ltL W L = L := by unfold ltL; rw [h8]
    have eA : ltA W L = -102 := by unfold ltA; rw [h8]
    have := K h Fr.rfl (same eL)
    rwa [eA] at this
  intro r
  induction r with
  | zero =>
    intro k m ov hk hs
    have e : k = 8 := hk
    subst e
    obtain ⟨a, b, c⟩ := apS_ok hs
    have eL : ltL W L = if 50 < L + m then L else L + m := by unfold ltL; rw [hs]
    have eA : ltA W L = if 50 < L + m then -104 else nI (L + m) := by unfold ltA; rw [hs]
    refine g42_8 d _ _ _ _ h HS Q ⟨fun z => absurd z (by decide), fun _ => ?_⟩
    rw [hp.1, nI_add, lt50 (by omega)]
    refine ⟨fun z => ?_, fun z => ?_⟩
    · rw [if_pos z] at eL eA
      have := K h Fr.rfl (same eL)
      rwa [eA] at this
    · rw [if_neg z] at eL eA
      rw [eL, eA] at K
      exact w42b (d := d) (by omega) a K m 0 h (Nat.zero_add _) HS Fr.rfl hp.1 (fun j hj => lt_same hp.2 hj)
  | succ r ih =>
    intro k m ov hk hs
    have hlt : k < 8 := by omega
    have hs1 := apS_s hs
    have hb := byN_lt W k
    refine g42_8 d _ _ _ _ h HS Q ⟨fun _ => ?_, fun z => absurd ((ltC (y := 8) (b := 8) rfl rfl (by omega) (by omega)).mpr hlt) z⟩
    rw [byU W hlt, lt126 (by omega), nI_eq0 (by omega), b01_0, nI_1, nI_1]
    refine ⟨fun z => ?_, fun z => ⟨fun z2 => ⟨fun z3 => ?_, fun z3 => ?_⟩, fun z2 => ⟨fun z3 => ?_, fun z3 => ?_⟩⟩⟩
    · rw [if_pos z] at hs1
      exact bad (k + 1) (by omega) hs1
    · rw [if_neg z, if_pos z3] at hs1
      exact ih (k + 1) m true (by omega) hs1
    · rw [if_neg z, if_neg z3, if_neg (by rw [z2]; decide)] at hs1
      exact ih (k + 1) (m + 1) ov (by omega) hs1
    · rw [if_neg z, if_pos z3] at hs1
      exact ih (k + 1) m true (by omega) hs1
    · rw [if_neg z, if_neg z3, if_pos (ts_nf z2)] at hs1
      exact bad (k + 1) (by omega) hs1
theorem c42 {d : Nat} {W : Int64} {L : Nat} {cd : Nat → Nat} {h : AH} (HS : Sh h) (hp : PgC h L cd) (hL : L ≤ 50) {Q : Option Value → AH → Prop} (K : ∀ h', Fr pgP h h' → PgC h' (ltL W L) (lcC W L cd) → Q (some (.int (ltA W L))) h') : Cl (d + 1) 42 [.ref 3, .long W] h Q :=
  Cl.enter rfl (g42_0 (d + 1) _ h HS Q (w42 HS hp hL K 8 0 0 false rfl rfl))
def prP (i j : Nat) : Prop := (i = 23 ∧ j = 14) ∨ i = 30
