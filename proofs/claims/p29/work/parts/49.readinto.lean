/-! the class's new net -/
theorem upN_id (f : Nat → Nat) (i : Nat) : upN f i (f i) = f := by
  funext j
  unfold upN
  split
  · rename_i e
    rw [e]
  · rfl
theorem upN_tw (f : Nat → Nat) (i x y : Nat) : upN (upN f i x) i y = upN f i y := by
  funext j
  unfold upN
  split <;> rfl
theorem psr_next {cd : Nat → Nat} {i L s m : Nat} {x : Nat × Nat} (hL : psr cd L = some x) (hi : i < L) (h : psr cd i = some (s, m)) : ∃ s', nxt s (cd i) (pv cd i) m = some s' ∧ psr cd (i + 1) = some (s', if s' = 5 then m + 1 else m) := by
  have h1 := psr_s h
  cases hn : nxt s (cd i) (pv cd i) m with
  | none =>
    rw [hn] at h1
    rw [psr_none h1 L (by omega)] at hL
    cases hL
  | some s' =>
    rw [hn] at h1
    exact ⟨s', rfl, h1⟩
theorem fnF_up {D D0 : Dt} {m : Nat} (h : ∀ k, k < m → D.I k = D0.I k) : fnF D (m + 1) = if D.I m = 1 then fnF D0 m ||| 2 ^ m else fnF D0 m := by
  have e : msk (fun k => decide (D.I k = 1)) m = msk (fun k => decide (D0.I k = 1)) m := msk_cong (fun k hk => by rw [h k hk])
  show (if decide (D.I m = 1) = true then msk (fun k => decide (D.I k = 1)) m ||| 2 ^ m else msk (fun k => decide (D.I k = 1)) m) = _
  rw [e]
  by_cases z : D.I m = 1
  · rw [if_pos (decide_eq_true z), if_pos z]
    rfl
  · rw [if_neg (fun y => z (of_decide_eq_true y)), if_neg z]
    rfl
theorem fnC_up {D D0 : Dt} {m : Nat} (h : ∀ k, k < m → D.I k = D0.I k) : fnC D (m + 1) = if D.I m = 2 then fnC D0 m ||| 2 ^ m else fnC D0 m := by
  have e : msk (fun k => decide (D.I k = 2)) m = msk (fun k => decide (D0.I k = 2)) m := msk_cong (fun k hk => by rw [h k hk])
  show (if decide (D.I m = 2) = true then msk (fun k => decide (D.I k = 2)) m ||| 2 ^ m else msk (fun k => decide (D.I k = 2)) m) = _
  rw [e]
  by_cases z : D.I m = 2
  · rw [if_pos (decide_eq_true z), if_pos z]
    rfl
  · rw [if_neg (fun y => z (of_decide_eq_true y)), if_neg z]
    rfl
theorem fnF_cg {D D0 : Dt} {m : Nat} (h : D.I = D0.I) : fnF D m = fnF D0 m := by unfold fnF; rw [h]
theorem fnC_cg {D D0 : Dt} {m : Nat} (h : D.I = D0.I) : fnC D m = fnC D0 m := by unfold fnC; rw [h]
theorem fnG_cg {D D0 : Dt} {m : Nat} (hA : D.A = D0.A) (hB : D.B = D0.B) (hC : D.C = D0.C) (ho : D.o = D0.o) (ht : D.t = D0.t) : fnG D m = fnG D0 m := by unfold fnG; rw [hA, hB, hC, ho, ht]
theorem addG_fn {D D0 : Dt} {m a b p : Nat} (hA : D.A = upN D0.A m a) (hB : D.B = upN D0.B m b) (hC : D.C = upN D0.C m p) (ho : D.o = D0.o) (ht : D.t = D0.t) : addG (fnG D0 m) a b p = fnG D (m + 1) := by
  unfold fnG
  rw [hA, hB, hC, ho, ht]
  rfl
theorem fnF_m (D0 : Dt) (A B C : Nat → Nat) (o t x m : Nat) : fnF (mkD A B (upN D0.I m x) C o t) (m + 1) = if x = 1 then fnF D0 m ||| 2 ^ m else fnF D0 m := by
  have h := fnF_up (D := mkD A B (upN D0.I m x) C o t) (D0 := D0) (m := m) (fun k hk => upN_o D0.I (i := m) (j := k) x (by omega))
  rw [h]
  show (if upN D0.I m x m = 1 then _ else _) = _
  rw [upN_s]
theorem fnC_m (D0 : Dt) (A B C : Nat → Nat) (o t x m : Nat) : fnC (mkD A B (upN D0.I m x) C o t) (m + 1) = if x = 2 then fnC D0 m ||| 2 ^ m else fnC D0 m := by
  have h := fnC_up (D := mkD A B (upN D0.I m x) C o t) (D0 := D0) (m := m) (fun k hk => upN_o D0.I (i := m) (j := k) x (by omega))
  rw [h]
  show (if upN D0.I m x m = 2 then _ else _) = _
  rw [upN_s]
def rcP (i _j : Nat) : Prop := 5 ≤ i ∧ i ≤ 10
def rcQ (i _j : Nat) : Prop := 5 ≤ i ∧ i ≤ 11
theorem w50e {d : Nat} {L : Nat} {D : Dt} {m : Nat} (hL50 : L ≤ 50) {h0 : AH} {Q : Option Value → AH → Prop} (K : ∀ h', Fr rcQ h0 h' → NetC h' (fnG D m) → RchC h' (fnG D m) → StC h' 11 (fnT D m) → Q none h') {j : Nat} (hj : L ≤ j) (hj2 : j ≤ 100) {h : AH} (HS : Sh h) (hL : AI h 3 1 = nI L) (hf : Fr rcP h0 h) (hn : NetC h (fnG D m)) (hr : RchC h (fnG D m)) : Wp (d + 5) 50 28 [.ref 3, .ref 5, .ref 11, .int (nI (fnF D m)), .int (nI (fnC D m)), .int (nI j), mk0, mk0, mk0, mk0] [] h Q := by
  refine g50_28 (d + 3) _ _ _ _ h HS (Or.inl rfl) Q ⟨fun z => ?_, fun _ => ?_⟩
  · rw [hL, nI_ltI (by omega) (by omega)] at z
    omega
  · have f : Fr (fun i _ => i = 11) h (stI (stI (stI (stI h 11 3 (nI (fnF D m))) 11 4 (nI (fnC D m))) 11 5 0) 11 2 0) := (((Fr.stI (P := fun i _ => i = 11) rfl).trans (Fr.stI (P := fun i _ => i = 11) rfl)).trans (Fr.stI (P := fun i _ => i = 11) rfl)).trans (Fr.stI (P := fun i _ => i = 11) rfl)
    refine K _ ((hf.weak (fun a b z => ⟨z.1, by have := z.2; omega⟩)).trans (f.weak (fun a b z => by rw [z]; exact ⟨by decide, by decide⟩))) (hn.fr f (fun i j a b z => by omega)) (hr.fr f (fun j z => by omega)) ⟨AI_stI_s _ _ _ _, ?_, ?_, ?_, fun i hi => absurd hi (Nat.not_lt_zero i)⟩
    · rw [AI_stI_o _ _ (Or.inr (by decide)), AI_stI_o _ _ (Or.inr (by decide)), AI_stI_o _ _ (Or.inr (by decide)), AI_stI_s]
      rfl
    · rw [AI_stI_o _ _ (Or.inr (by decide)), AI_stI_o _ _ (Or.inr (by decide)), AI_stI_s]
      rfl
    · rw [AI_stI_o _ _ (Or.inr (by decide)), AI_stI_s]
      rfl
theorem w50 {d : Nat} {L sL mL : Nat} {cd : Nat → Nat} (po : POK L cd) (hE : psr cd L = some (sL, mL)) (h5 : 5 ≤ sL) {h0 : AH} {Q : Option Value → AH → Prop} (K : ∀ h', Fr rcQ h0 h' → NetC h' (fnG (dtt cd L) mL) → RchC h' (fnG (dtt cd L) mL) → StC h' 11 (fnT (dtt cd L) mL) → Q none h') : ∀ r i m h, L ≤ i + r → i ≤ L → psr cd i = some (3, m) → Sh h → PgC h L cd → Fr rcP h0 h → NetC h (fnG (dtt cd i) m) → RchC h (fnG (dtt cd i) m) → Wp (d + 5) 50 28 [.ref 3, .ref 5, .ref 11, .int (nI (fnF (dtt cd i) m)), .int (nI (fnC (dtt cd i) m)), .int (nI i), mk0, mk0, mk0, mk0] [] h Q
  | 0, i, m, h, hr, hi, hs, HS, hp, hf, hn, hc => by
    have e : i = L := by omega
    rw [e, hE] at hs
    cases hs
    omega
  | r + 1, i, m, h, hr, hi, hs, HS, hp, hf, hn, hc => by
    have hL50 := po.1
    have hiL : i < L := by
      rcases Nat.lt_or_eq_of_le hi with z | z
      · exact z
      · rw [z, hE] at hs
        cases hs
        omega
    have iv := psr_inv hs
    have hm8 : m ≤ 8 := iv.2.2.1 (Or.inl rfl)
    -- the first place
    obtain ⟨s1, n1, hs1⟩ := psr_next hE hiL hs
    have e1 : s1 = 4 ∧ isPl (cd i) = true := by
      unfold nxt at n1
      rw [if_neg (by decide), if_neg (by decide), if_neg (by decide), if_pos rfl] at n1
      split at n1
      · rename_i z
        cases n1
        exact ⟨rfl, z⟩
      · cases n1
    obtain ⟨rfl, p1⟩ := e1
    rw [if_neg (by decide)] at hs1
    have hiL1 : i + 1 < L := by
      rcases Nat.lt_or_eq_of_le hiL with z | z
      · exact z
      · rw [show i + 1 = L from z, hE] at hs1
        cases hs1
        omega
    obtain ⟨s2, n2, hs2⟩ := psr_next hE hiL1 hs1
    have e2 : s2 = 5 ∧ isPl (cd (i + 1)) = true := by
      unfold nxt at n2
      rw [if_neg (by decide), if_neg (by decide), if_neg (by decide), if_neg (by decide), if_pos rfl] at n2
      split at n2
      · rename_i z
        cases n2
        exact ⟨rfl, z.1⟩
      · cases n2
    obtain ⟨rfl, p2⟩ := e2
    rw [if_pos rfl] at hs2
    have q1 := isPl_r p1
    have q2 := isPl_r p2
    -- the data so far
    generalize eD0 : dtt cd i = D0 at hn hc ⊢
    have eD1 : dtt cd (i + 1) = mkD (upN D0.A m (cd i - 97)) D0.B (upN D0.I m 0) (upN D0.C m 1) D0.o D0.t := by
      rw [dtt_s hs, eD0]
      rfl
    have eD2 : dtt cd (i + 2) = mkD (upN D0.A m (cd i - 97)) (upN D0.B m (cd (i + 1) - 97)) (upN D0.I m 0) (upN D0.C m 1) D0.o D0.t := by
      rw [dtt_s hs1, eD1]
      rfl
    have a1 : atv h 4 (nI i) - 97 = nI (cd i - 97) := by rw [atS HS 4 rfl (n := 50) (c := 20) (by omega), hp.2 i hiL, show (97 : Int32) = nI 97 from rfl, pk_sub (by omega)]
    have a2 : atv h 4 (nI i + 1) - 97 = nI (cd (i + 1) - 97) := by rw [nI_1, atS HS 4 rfl (n := 50) (c := 20) (by omega), hp.2 _ hiL1, show (97 : Int32) = nI 97 from rfl, pk_sub (by omega)]
    have bit : (1 : Int32) <<< (AI h 5 5 &&& 31) = nI (2 ^ m) := by
      rw [hn.1]
      exact i1 m (by omega)
    have go0 : GOK (fnG D0 m) := by
      obtain ⟨z1, z2, z3, -, -⟩ := dtt_ok hs
      rw [eD0] at z1 z2 z3
      refine ⟨by show m ≤ 10; omega, z1 (by decide), z2 (by decide), fun k hk => ?_⟩
      obtain ⟨y1, y2, y3, y4⟩ := z3 k hk
      exact ⟨y1, y2, y4⟩
    -- the end of a lane
    have nx : ∀ j m' h', i < j → j ≤ L → psr cd j = some (3, m') → Sh h' → PgC h' L cd → Fr rcP h0 h' → NetC h' (fnG (dtt cd j) m') → RchC h' (fnG (dtt cd j) m') → Wp (d + 5) 50 28 [.ref 3, .ref 5, .ref 11, .int (nI (fnF (dtt cd j) m')), .int (nI (fnC (dtt cd j) m')), .int (nI j), mk0, mk0, mk0, mk0] [] h' Q := fun j m' h' hij hjL hsj HS' hp' hf' hn' hc' => w50 po hE h5 K r j m' h' (by omega) hjL hsj HS' hp' hf' hn' hc'
    have add : ∀ p, p < 10 → ∀ (Q2 : Option Value → AH → Prop), (∀ h', Sh h' → PgC h' L cd → Fr rcP h0 h' → NetC h' (addG (fnG D0 m) (cd i - 97) (cd (i + 1) - 97) p) → RchC h' (addG (fnG D0 m) (cd i - 97) (cd (i + 1) - 97) p) → Q2 none h') → Cl (d + 4) 22 [.ref 5, .int (nI (cd i - 97)), .int (nI (cd (i + 1) - 97)), .int (nI p)] h Q2 := by
      intro p hp10 Q2 K2
      refine c22 (d := d + 1) HS hn hc go0 (by show m < 10; omega) (by omega) (by omega) hp10 (fun h' f' n' r' => ?_)
      have f2 : Fr rcP h h' := f'.weak (fun a b z => by
        rcases z with ⟨z, -⟩ | ⟨z1, z2⟩
        · rw [z]
          exact ⟨by decide, by decide⟩
        · exact ⟨by omega, z2⟩)
      exact K2 h' (f'.Sh HS) (hp.fr f2 (fun z => absurd z.1 (by decide)) (fun j z => absurd z.1 (by decide))) (hf.trans f2) n' r'
    -- behind the places and the sign
    have tail : ∀ j s D, (s = 5 ∨ s = 6) → i < j → j ≤ L → psr cd j = some (s, m + 1) → dtt cd j = D → D.A = upN D0.A m (cd i - 97) → D.B = upN D0.B m (cd (i + 1) - 97) → D.C = upN D0.C m 1 → D.o = D0.o → D.t = D0.t → (s = 5 → j < L → cd j ≠ 43 ∧ cd j ≠ 45) → Wp (d + 5) 50 127 [.ref 3, .ref 5, .ref 11, .int (nI (fnF D (m + 1))), .int (nI (fnC D (m + 1))), .int (nI j), mk0, .int (nI (cd i - 97)), .int (nI (cd (i + 1) - 97)), .int 1] [] h Q := by
      intro j s D hs56 hij hjL hsj eD dA dB dC dO dT hno
      have one : Cl (d + 4) 22 [.ref 5, .int (nI (cd i - 97)), .int (nI (cd (i + 1) - 97)), .int 1] h (fun r h3 => r = none ∧ Sh h3 ∧ Wp (d + 5) 50 28 [.ref 3, .ref 5, .ref 11, .int (nI (fnF D (m + 1))), .int (nI (fnC D (m + 1))), .int (nI j + 1), mk0, mk0, mk0, mk0] [] h3 Q) ∨ (j < L ∧ cd j ≠ 44) := by
        by_cases hz : j < L ∧ cd j ≠ 44
        · exact Or.inr hz
        · refine Or.inl ?_
          rw [nI_1]
          refine add 1 (by decide) _ (fun h' HS' hp' hf' n' r' => ⟨rfl, HS', ?_⟩)
          have eG := addG_fn dA dB dC dO dT
          rw [eG] at n' r'
          by_cases hjl : j = L
          · subst hjl
            rw [hE] at hsj
            cases hsj
            have K' := K
            rw [eD] at K'
            exact w50e hL50 K' (by omega) (by omega) HS' hp'.1 hf' n' r'
          · have hj2 : j < L := by omega
            have c44 : cd j = 44 := by
              apply Classical.byContradiction
              exact fun y => hz ⟨hj2, y⟩
            obtain ⟨s', ns, hsn⟩ := psr_next hE hj2 hsj
            rw [nxt5 (by omega), if_pos c44] at ns
            split at ns
            · cases ns
              have eDn : dtt cd (j + 1) = D := by
                rw [dtt_s hsj, dtS5 (by omega), if_pos c44, eD]
              have := nx (j + 1) (m + 1) h' (by omega) (by omega) hsn HS' hp' hf' (by rw [eDn]; exact n') (by rw [eDn]; exact r')
              rw [eDn] at this
              exact this
            · cases ns
      refine g50_127 (d + 3) _ _ _ _ _ _ _ h HS (Or.inl rfl) Q ?_
      rw [hp.1, nI_ltI (by omega) (by omega)]
      refine ⟨fun hj2 => ?_, fun hj2 => ?_⟩
      · have hcj := po.2 j hj2
        rw [atS HS 4 rfl (n := 50) (c := 20) (by omega), hp.2 j hj2]
        obtain ⟨-, -, q3, q4⟩ := plI (c := cd j) (by omega)
        rw [q3, q4]
        obtain ⟨s', ns, hsn⟩ := psr_next hE hj2 hsj
        have ns' := ns
        rw [nxt5 (by omega)] at ns
        refine ⟨fun z => ?_, fun z => ⟨fun z2 => ?_, fun z2 => ?_⟩⟩
        · rcases one with o | o
          · exact o
          · exfalso
            rw [if_neg o.2, if_neg (fun y => isCo_f1 z y.2)] at ns
            split at ns
            · rename_i y
              rcases hno y.1 hj2 with ⟨y1, y2⟩
              rcases y.2 with y | y
              · exact y1 y
              · exact y2 y
            · cases ns
        · exfalso
          rw [if_neg (by omega), if_neg (fun y => isCo_f2 z2 y.2), if_neg (by omega)] at ns
          cases ns
        · rw [show (48 : Int32) = nI 48 from rfl, pk_sub (by omega), nI_1, nI_1]
          rw [if_neg (by omega), if_pos ⟨by omega, isCo_t z z2⟩] at ns
          cases ns
          rw [if_neg (by decide)] at hsn
          have eDn : dtt cd (j + 1) = mkD D.A D.B D.I (upN D.C m (cd j - 48)) D.o D.t := by
            rw [dtt_s hsj, dtS5 (by omega), if_neg (by omega), if_neg (by omega), if_neg (by omega), eD]
            rfl
          generalize eD' : dtt cd (j + 1) = D' at eDn
          have eG : addG (fnG D0 m) (cd i - 97) (cd (i + 1) - 97) (cd j - 48) = fnG D' (m + 1) := by
            rw [eDn]
            refine addG_fn dA dB ?_ dO dT
            show upN D.C m (cd j - 48) = _
            rw [dC, upN_tw]
          have eF : fnF D (m + 1) = fnF D' (m + 1) := by rw [eDn]; exact fnF_cg rfl
          have eC : fnC D (m + 1) = fnC D' (m + 1) := by rw [eDn]; exact fnC_cg rfl
          rw [eF, eC]
          refine add (cd j - 48) (by omega) _ (fun h' HS' hp' hf' n' r' => ⟨rfl, HS', ?_⟩)
          rw [eG] at n' r'
          by_cases hjl : j + 1 = L
          · rw [hjl, hE] at hsn
            cases hsn
            have K' := K
            rw [← hjl, eD'] at K'
            exact w50e hL50 K' (by omega) (by omega) HS' hp'.1 hf' n' r'
          · have hj3 : j + 1 < L := by omega
            obtain ⟨s'', ns2, hsn2⟩ := psr_next hE hj3 hsn
            rw [nxt5 (by decide)] at ns2
            split at ns2
            · rename_i c44
              split at ns2
              · cases ns2
                have eDm : dtt cd (j + 2) = D' := by
                  rw [dtt_s hsn, dtS5 (by decide), if_pos c44, eD']
                have := nx (j + 2) (m + 1) h' (by omega) (by omega) hsn2 HS' hp' hf' (by rw [eDm]; exact n') (by rw [eDm]; exact r')
                rw [eDm] at this
                exact this
              · cases ns2
            · rw [if_neg (fun y => absurd y.1 (by decide)), if_neg (fun y => absurd y.1 (by decide))] at ns2
              cases ns2
      · rcases one with o | o
        · exact o
        · exact absurd o.1 hj2
    have tail2 : ∀ j s D x3 x4, (s = 5 ∨ s = 6) → i < j → j ≤ L → psr cd j = some (s, m + 1) → dtt cd j = D → D.A = upN D0.A m (cd i - 97) → D.B = upN D0.B m (cd (i + 1) - 97) → D.C = upN D0.C m 1 → D.o = D0.o → D.t = D0.t → (s = 5 → j < L → cd j ≠ 43 ∧ cd j ≠ 45) → x3 = nI (fnF D (m + 1)) → x4 = nI (fnC D (m + 1)) → Wp (d + 5) 50 127 [.ref 3, .ref 5, .ref 11, .int x3, .int x4, .int (nI j), mk0, .int (nI (cd i - 97)), .int (nI (cd (i + 1) - 97)), .int 1] [] h Q := by
      intro j s D x3 x4 a b c e f g1 g2 g3 g4 g5 g6 e3 e4
      rw [e3, e4]
      exact tail j s D a b c e f g1 g2 g3 g4 g5 g6
    refine g50_28 (d + 3) _ _ _ _ h HS (Or.inl rfl) Q ⟨fun _ => ⟨fun _ => ⟨fun _ => ?_, fun z => absurd (by rw [hp.1, nI_1, nI_ltI (by omega) (by omega)]; exact hiL1) z⟩, fun z => absurd (by rw [hn.1]; exact (ltC (y := 9) (b := 9) rfl rfl (by show m < _; omega) (by omega)).mpr (by show m < 9; omega)) z⟩, fun z => absurd (by rw [hp.1, nI_ltI (by omega) (by omega)]; exact hiL) z⟩
    rw [a1, a2, bit, fa_or, fa_or, show nI i + 2 = nI (i + 2) from nI_add i 2, hp.1, nI_ltI (by omega) (by omega), nI_1]
    have plain : ∀ (hj : i + 2 < L → cd (i + 2) ≠ 43 ∧ cd (i + 2) ≠ 45), Wp (d + 5) 50 127 [.ref 3, .ref 5, .ref 11, .int (nI (fnF D0 m)), .int (nI (fnC D0 m)), .int (nI (i + 2)), mk0, .int (nI (cd i - 97)), .int (nI (cd (i + 1) - 97)), .int 1] [] h Q := by
      intro hj
      refine tail2 (i + 2) 5 _ _ _ (Or.inl rfl) (by omega) (by omega) hs2 eD2 rfl rfl rfl rfl rfl (fun _ => hj) ?_ ?_
      · rw [fnF_m, if_neg (by decide)]
      · rw [fnC_m, if_neg (by decide)]
    refine ⟨fun hj2 => ?_, fun hj2 => plain (fun z => absurd z hj2)⟩
    have hcj := po.2 (i + 2) hj2
    rw [atS HS 4 rfl (n := 50) (c := 20) (by omega), hp.2 _ hj2, eqC (y := 43) (b := 43) rfl rfl (by omega) (by omega), eqC (y := 45) (b := 45) rfl rfl (by omega) (by omega)]
    obtain ⟨s3, n3, hs3⟩ := psr_next hE hj2 hs2
    rw [nxt5 (by decide)] at n3
    have sgn : ∀ x, (cd (i + 2) = 43 ∨ cd (i + 2) = 45) → dtt cd (i + 3) = mkD (upN D0.A m (cd i - 97)) (upN D0.B m (cd (i + 1) - 97)) (upN D0.I m x) (upN D0.C m 1) D0.o D0.t → (x3 x4 : Int32) → x3 = nI (if x = 1 then fnF D0 m ||| 2 ^ m else fnF D0 m) → x4 = nI (if x = 2 then fnC D0 m ||| 2 ^ m else fnC D0 m) → Wp (d + 5) 50 127 [.ref 3, .ref 5, .ref 11, .int x3, .int x4, .int (nI (i + 3)), mk0, .int (nI (cd i - 97)), .int (nI (cd (i + 1) - 97)), .int 1] [] h Q := by
      intro x hx eD3 x3 x4 e3 e4
      have nco : ¬ ((5 : Nat) < 7 ∧ isCo (cd (i + 2)) = true) := fun y => by have := isCo_r y.2; omega
      rw [if_neg (by omega), if_neg nco, if_pos ⟨rfl, hx⟩] at n3
      cases n3
      rw [if_neg (by decide)] at hs3
      refine tail2 (i + 3) 6 _ _ _ (Or.inr rfl) (by omega) (by omega) hs3 eD3 rfl rfl rfl rfl rfl (fun z => (by cases z)) ?_ ?_
      · rw [e3, fnF_m]
      · rw [e4, fnC_m]
    refine ⟨fun z => ?_, fun z => ⟨fun z2 => ?_, fun z2 => plain (fun _ => ⟨z, z2⟩)⟩⟩
    · refine sgn 1 (Or.inl z) ?_ _ _ (by rw [if_pos rfl]) (by rw [if_neg (by decide)])
      rw [dtt_s hs2, dtS5 (by decide), if_neg (show ¬ cd (i + 2) = 44 by omega), if_pos z, eD2]
      show mkD _ _ (upN (upN D0.I m 0) (m + 1 - 1) 1) _ _ _ = _
      rw [Nat.add_sub_cancel, upN_tw]
      rfl
    · refine sgn 2 (Or.inr z2) ?_ _ _ (by rw [if_neg (by decide)]) (by rw [if_pos rfl])
      rw [dtt_s hs2, dtS5 (by decide), if_neg (show ¬ cd (i + 2) = 44 by omega), if_neg z, if_pos z2, eD2]
      show mkD _ _ (upN (upN D0.I m 0) (m + 1 - 1) 2) _ _ _ = _
      rw [Nat.add_sub_cancel, upN_tw]
      rfl
