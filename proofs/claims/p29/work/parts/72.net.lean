/-! the law's net: written letter by letter, and read -/
theorem mk31 (y : Int32) : ∃ m, m < 2 ^ 31 ∧ y &&& 2147483647 = nI m := by
  obtain ⟨n, hn, rfl⟩ := wb_of32 y
  exact ⟨n % 2 ^ 31, Nat.mod_lt _ (by decide), by rw [show (2147483647 : Int32) = nI (2 ^ 31 - 1) from rfl, fa_mask]⟩
theorem mk14 (y : Int32) : ∃ m, m < 16384 ∧ y &&& 16383 = nI m := by
  obtain ⟨n, hn, rfl⟩ := wb_of32 y
  exact ⟨n % 2 ^ 14, Nat.mod_lt _ (by decide), by rw [show (16383 : Int32) = nI (2 ^ 14 - 1) from rfl, fa_mask]⟩
/-- a cell: any number -/
theorem c128 {d : Nat} {h : AH} (HS : Sh h) {Ls : Nat} (h0 : AK h 0 = (20, Ls)) (hL : Ls < 2 ^ 31) {k : Nat} (hk : k < 1000) {Q : Option Value → AH → Prop} (K : ∀ x, x < 2 ^ 31 → Q (some (.int (nI x))) h) : Cl d 128 [.ref 0, .int (nI k)] h Q := by
  refine Cl.enter rfl (g128_0 d _ h HS Q ⟨by rw [h0]; exact Or.inl rfl, fun c => ⟨by rw [h0], inR_of (nI_pos (by omega)) c (by rw [h0]; exact hL), ?_⟩, fun _ => ?_⟩)
  · obtain ⟨m, hm, e⟩ := mk31 (AI h 0 (nI k).toNatClampNeg)
    rw [e]
    exact K m hm
  · obtain ⟨m, hm, e⟩ := mk31 ((7919 : Int32) * nI k + 13)
    rw [e]
    exact K m hm
theorem psr_cg {cd cd' : Nat → Nat} : ∀ {L}, (∀ i, i < L → cd' i = cd i) → psr cd' L = psr cd L ∧ dtt cd' L = dtt cd L
  | 0, _ => ⟨rfl, rfl⟩
  | L + 1, h => by
    obtain ⟨e1, e2⟩ := psr_cg (L := L) (fun i hi => h i (by omega))
    have e3 := h L (by omega)
    have e4 : pv cd' L = pv cd L := by
      unfold pv
      by_cases z : L = 0
      · rw [if_pos z, if_pos z]
      · rw [if_neg z, if_neg z]
        exact h (L - 1) (by omega)
    constructor
    · show (match psr cd' L with
        | none => none
        | some (s, m) => match nxt s (cd' L) (pv cd' L) m with
          | none => none
          | some s' => some (s', if s' = 5 then m + 1 else m)) = _
      rw [e1, e3, e4]
      rfl
    · show (match psr cd' L with
        | none => dtt cd' L
        | some (s, m) => dtS s m (cd' L) (dtt cd' L)) = _
      rw [e1, e2, e3]
      rfl
theorem byN_s {c : Nat} (hc : c < 256) : byN (lN c) 0 = c ∧ ∀ k, 1 ≤ k → k < 8 → byN (lN c) k = 0 := by
  have e : (lN c).toBitVec.toNat = c := wb_tn (by omega)
  constructor
  · unfold byN
    rw [e, Nat.mul_zero, Nat.pow_zero, Nat.div_one, Nat.mod_eq_of_lt hc]
  · intro k h1 h8
    unfold byN
    rw [e]
    have h2 : 2 ^ 8 ≤ 2 ^ (8 * k) := Nat.pow_le_pow_right (by decide) (by omega)
    rw [Nat.div_eq_of_lt (by omega), Nat.zero_mod]
theorem apS_1 {c : Nat} (h1 : 1 ≤ c) (h2 : c ≤ 126) : ∀ k, k < 7 → apS (lN c) (k + 1) = some (1, decide (0 < k))
  | 0, _ => by
    rw [apS_s (k := 0) (m := 0) (ov := false) rfl, (byN_s (by omega)).1, if_neg (by omega), if_neg (by omega)]
    rfl
  | k + 1, hk => by
    rw [apS_s (apS_1 h1 h2 k (by omega)), (byN_s (by omega)).2 (k + 1) (by omega) (by omega), if_neg (by decide), if_pos rfl]
    rfl
theorem lt_one {c L : Nat} (h1 : 1 ≤ c) (h2 : c ≤ 126) (hL : L < 50) {cd : Nat → Nat} : ltA (lN c) L = nI (L + 1) ∧ ltL (lN c) L = L + 1 ∧ (∀ i, i < L → lcC (lN c) L cd i = cd i) ∧ lcC (lN c) L cd L = c := by
  have e : apS (lN c) 8 = some (1, true) := by
    rw [apS_s (apS_1 h1 h2 6 (by decide)), (byN_s (by omega)).2 7 (by decide) (by decide), if_neg (by decide), if_pos rfl]
  refine ⟨?_, ?_, fun i hi => if_pos hi, ?_⟩
  · unfold ltA
    rw [e]
    exact if_neg (by omega)
  · unfold ltL
    rw [e]
    exact if_neg (by omega)
  · unfold lcC
    rw [if_neg (Nat.lt_irrefl L), Nat.sub_self, (byN_s (by omega)).1]
/-- how far the page is read -/
def PS (w : WD) (s m p : Nat) (D : Dt) : Prop := WdOK w ∧ w.nn ≤ 1000 ∧ psr w.cd w.L = some (s, m) ∧ dtt w.cd w.L = D ∧ pv w.cd w.L = p
theorem PS.put {w : WD} {s m p c s' : Nat} {D : Dt} (P : PS w s m p D) (h1 : 1 ≤ c) (h2 : c ≤ 126) (hL : w.L < 50) (hn : nxt s c p m = some s') : PS (wP w (ltL (lN c) w.L) (lcC (lN c) w.L w.cd)) s' (if s' = 5 then m + 1 else m) c (dtS s m c D) := by
  obtain ⟨p1, p2, p3, p4, p5⟩ := P
  obtain ⟨l1, l2, l3, l4⟩ := lt_one (cd := w.cd) h1 h2 hL
  obtain ⟨c1, c2⟩ := psr_cg (L := w.L) (cd := w.cd) (cd' := lcC (lN c) w.L w.cd) l3
  have c1' := c1.trans p3
  have c2' := c2.trans p4
  have e5 : pv (lcC (lN c) w.L w.cd) w.L = p := by
    rw [← p5]
    unfold pv
    by_cases z : w.L = 0
    · rw [if_pos z, if_pos z]
    · rw [if_neg z, if_neg z]
      exact l3 _ (by omega)
  obtain ⟨o1, o2, o3, o4, o5, o6, o7, o8⟩ := id p1
  refine ⟨⟨o1.lt, o2, o3, o4, o5, o6, o7, o8⟩, p2, ?_, ?_, ?_⟩
  · show psr (lcC (lN c) w.L w.cd) (ltL (lN c) w.L) = _
    rw [l2, psr_s c1', l4, e5, hn]
  · show dtt (lcC (lN c) w.L w.cd) (ltL (lN c) w.L) = _
    rw [l2, dtt_s c1', l4, c2']
  · show pv (lcC (lN c) w.L w.cd) (ltL (lN c) w.L) = _
    rw [l2, pv_s, l4]
theorem FrC.I {h h' : AH} (f : FrC h h') {i j : Nat} (hi : 23 ≤ i ∧ i < 46) : AI h' i j = AI h i j := (f.2.2 i j (Or.inr hi)).1
theorem FrC.K {h h' : AH} (f : FrC h h') : AK h' = AK h := f.2.1.2.2.1
/-- a letter -/
theorem c129 {d : Nat} {h : AH} {w : WD} {s m p c s' : Nat} {D : Dt} (C : CI h w) (P : PS w s m p D) (h1 : 1 ≤ c) (h2 : c ≤ 126) (hL : w.L < 50) (hn : nxt s c p m = some s') {Q : Option Value → AH → Prop} (K : ∀ h' w', CI h' w' → FrC h h' → PS w' s' (if s' = 5 then m + 1 else m) c (dtS s m c D) → w'.L = w.L + 1 → Q (some (.int 1)) h') : Cl (d + 41) 129 [.ref 2, .int (nI c)] h Q := by
  obtain ⟨l1, l2, l3, l4⟩ := lt_one (cd := w.cd) h1 h2 hL
  refine Cl.enter rfl (g129_0 (d + 40) _ h C.Sh Q ?_)
  rw [nI_l (by omega)]
  refine fC89 (d := d) P.1 (lN c) h _ C (fun h' C' f => ⟨_, rfl, f.1, ?_⟩)
  rw [l1]
  refine ⟨fun _ => ?_, fun z => absurd ((ltC (x := 0) (a := 0) rfl rfl (by omega) (by omega)).mpr (Nat.succ_pos _)) z⟩
  exact K h' _ C' f (P.put h1 h2 hL hn) l2
/-- the rows told so far -/
def RD (h : AH) (D : Dt) (i : Nat) : Prop := (∀ k, k < i → AI h 23 (2 * k) = nI (D.A k) ∧ AI h 23 (2 * k + 1) = nI (D.B k) ∧ AI h 24 k = nI (D.I k) ∧ AI h 25 k = nI (D.C k)) ∧ AI h 23 20 = nI D.o ∧ AI h 23 21 = nI D.t
theorem RD.frC {h h' : AH} {D : Dt} {i : Nat} (r : RD h D i) (f : FrC h h') : RD h' D i := by
  obtain ⟨r1, r2, r3⟩ := r
  refine ⟨fun k hk => ?_, by rw [f.I (by decide)]; exact r2, by rw [f.I (by decide)]; exact r3⟩
  rw [f.I (by decide), f.I (by decide), f.I (by decide), f.I (by decide)]
  exact r1 k hk
def SM4 (hz h : AH) : Prop := AN h = AN hz ∧ AT h = AT hz ∧ AK h = AK hz ∧ AR h = AR hz
theorem SM4.frC {hz h h' : AH} (s : SM4 hz h) (f : FrC h h') : SM4 hz h' := ⟨f.2.1.1.trans s.1, f.2.1.2.1.trans s.2.1, f.2.1.2.2.1.trans s.2.2.1, f.2.1.2.2.2.trans s.2.2.2⟩
def NI (hz : AH) (h : AH) (w : WD) (s i : Nat) (D : Dt) : Prop := CI h w ∧ (∃ p, PS w s i p D) ∧ RD h D i ∧ (i = 0 ∧ s = 3 ∨ 0 < i ∧ 5 ≤ s ∧ s ≤ 7) ∧ w.L ≤ 3 + 5 * i ∧ SM4 hz h
section NET
variable {d Ls many P i : Nat} {hz : AH} {Q : Option Value → AH → Prop}
/-- what stands behind the places of lane i -/
def MIn (hz : AH) (h : AH) (w : WD) (s i isv cost : Nat) (D : Dt) : Prop := CI h w ∧ (∃ p, PS w s (i + 1) p D) ∧ RD h D i ∧ (AI h 23 (2 * i) = nI (D.A i) ∧ AI h 23 (2 * i + 1) = nI (D.B i) ∧ AI h 24 i = nI isv ∧ AI h 25 i = nI cost) ∧ SM4 hz h
def H116 (d : Nat) (many P l : Nat) (h : AH) (Q : Option Value → AH → Prop) : Prop := Wp (d + 42) 130 116 [.ref 2, .ref 0, .int 0, mk0, .ref 23, .ref 24, .ref 25, mk0, .int (nI many), .int (nI P), .int 1, .int (nI l), mk0] [] h Q
theorem RD.up {h : AH} {D D' : Dt} {i : Nat} (r : RD h D i) (hA : ∀ k, k ≤ i → D'.A k = D.A k) (hB : ∀ k, k ≤ i → D'.B k = D.B k) (hI : ∀ k, k < i → D'.I k = D.I k) (hC : ∀ k, k < i → D'.C k = D.C k) (ho : D'.o = D.o) (ht : D'.t = D.t) {isv cost : Nat} (e : AI h 23 (2 * i) = nI (D.A i) ∧ AI h 23 (2 * i + 1) = nI (D.B i) ∧ AI h 24 i = nI isv ∧ AI h 25 i = nI cost) (eI : D'.I i = isv) (eC : D'.C i = cost) : RD h D' (i + 1) := by
  obtain ⟨r1, r2, r3⟩ := r
  refine ⟨fun k hk => ?_, by rw [ho]; exact r2, by rw [ht]; exact r3⟩
  by_cases z : k = i
  · rw [z, hA i (Nat.le_refl _), hB i (Nat.le_refl _), eI, eC]
    exact e
  · rw [hA k (by omega), hB k (by omega), hI k (by omega), hC k (by omega)]
    exact r1 k (by omega)
/-- the cost -/
theorem n358 (hi : i < 6) (nx : ∀ h w s D, NI hz h w s (i + 1) D → H116 d many P (i + 1) h Q) {h : AH} {w : WD} {s isv cost : Nat} {D : Dt} (M : MIn hz h w s i isv cost D) (hs : s = 5 ∨ s = 6) (hc1 : 1 ≤ cost) (hc9 : cost ≤ 9) (hI : D.I i = isv) (hL : w.L ≤ 7 + 5 * i) : Wp (d + 42) 130 358 [.ref 2, .ref 0, .int 0, mk0, .ref 23, .ref 24, .ref 25, mk0, .int (nI many), .int (nI P), mk0, .int (nI i), mk0] [] h Q := by
  obtain ⟨C, ⟨p, PP⟩, R, ⟨e1, e2, e3, e4⟩, h0⟩ := M
  refine g130_358 (d + 41) _ _ _ _ h C.Sh Q ⟨ixR_nI (by omega) (by decide), ?_⟩
  rw [tnI (by omega), e4, show (48 : Int32) + nI cost = nI (48 + cost) from by rw [fa_lit 48, nI_add], nI_1]
  have hn : nxt s (48 + cost) p (i + 1) = some 7 := by
    rw [nxt5 (by omega), if_neg (by omega), if_pos ⟨by omega, isCo_t (by omega) (by omega)⟩]
  have hD : dtS s (i + 1) (48 + cost) D = mkD D.A D.B D.I (upN D.C i cost) D.o D.t := by
    rw [dtS5 (by omega), if_neg (by omega), if_neg (by omega), if_neg (by omega), Nat.add_sub_cancel, Nat.add_sub_cancel_left]
  refine c129 (d := d) C PP (by omega) (by omega) (by omega) hn (fun h' w' C' f P' hL' => ⟨_, rfl, f.1, fun z => absurd z (by decide), fun _ => ?_⟩)
  rw [hD, if_neg (by decide)] at P'
  refine nx h' w' 7 _ ⟨C', ⟨_, P'⟩, ?_, Or.inr ⟨Nat.succ_pos _, by decide, by decide⟩, by omega, h0.frC f⟩
  refine (R.frC f).up (D' := mkD D.A D.B D.I (upN D.C i cost) D.o D.t) (fun _ _ => rfl) (fun _ _ => rfl) (fun _ _ => rfl) (fun k hk => upN_o _ _ (by omega)) rfl rfl (isv := isv) (cost := cost) ?_ hI (upN_s _ _ _)
  rw [f.I (by decide), f.I (by decide), f.I (by decide), f.I (by decide)]
  exact ⟨e1, e2, e3, e4⟩
/-- the cost, told or not -/
theorem nCost (hi : i < 6) (nx : ∀ h w s D, NI hz h w s (i + 1) D → H116 d many P (i + 1) h Q) {h : AH} {w : WD} {s isv cost v : Nat} {D : Dt} (M : MIn hz h w s i isv cost D) (hs : s = 5 ∨ s = 6) (hv : v < 16384) (hc1 : 1 ≤ cost) (hc9 : cost ≤ 9) (hI : D.I i = isv) (hC : D.C i = 1) (hL : w.L ≤ 7 + 5 * i) : ixR (nI i) 12 ∧ (((AI h 25 (nI i).toNatClampNeg) = 1 → (((nI v - nI v / 2 * 2) = 0 → Wp (d + 42) 130 116 [.ref 2, .ref 0, .int 0, mk0, .ref 23, .ref 24, .ref 25, mk0, .int (nI many), .int (nI P), .int 1, .int (nI i + 1), mk0] [] h Q) ∧ (¬ (nI v - nI v / 2 * 2) = 0 → Wp (d + 42) 130 358 [.ref 2, .ref 0, .int 0, mk0, .ref 23, .ref 24, .ref 25, mk0, .int (nI many), .int (nI P), mk0, .int (nI i), mk0] [] h Q))) ∧ (¬ (AI h 25 (nI i).toNatClampNeg) = 1 → Wp (d + 42) 130 358 [.ref 2, .ref 0, .int 0, mk0, .ref 23, .ref 24, .ref 25, mk0, .int (nI many), .int (nI P), mk0, .int (nI i), mk0] [] h Q)) := by
  have go := n358 hi nx M hs hc1 hc9 hI hL
  obtain ⟨C, ⟨p, PP⟩, R, ⟨e1, e2, e3, e4⟩, h0⟩ := M
  refine ⟨ixR_nI (by omega) (by decide), fun z => ⟨fun _ => ?_, fun _ => go⟩, fun _ => go⟩
  rw [tnI (by omega), e4, eqC (y := 1) (b := 1) rfl rfl (by omega) (by omega)] at z
  rw [nI_1]
  refine nx h w s D ⟨C, ⟨p, PP⟩, ?_, Or.inr ⟨Nat.succ_pos _, by omega, by omega⟩, by omega, h0⟩
  exact R.up (fun _ _ => rfl) (fun _ _ => rfl) (fun _ _ => rfl) (fun _ _ => rfl) rfl rfl ⟨e1, e2, e3, e4⟩ hI (hC.trans z.symm)
/-- the sign -/
theorem n336 (hi : i < 6) (nx : ∀ h w s D, NI hz h w s (i + 1) D → H116 d many P (i + 1) h Q) {h : AH} {w : WD} {isv cost v : Nat} {D : Dt} (M : MIn hz h w 5 i isv cost D) (hv : v < 16384) (hc1 : 1 ≤ cost) (hc9 : cost ≤ 9) (hC : D.C i = 1) (hL : w.L ≤ 6 + 5 * i) {sg : Nat} (hsg : sg = 43 ∧ isv = 1 ∨ sg = 45 ∧ isv = 2) : Wp (d + 42) 130 336 [.ref 2, .ref 0, .int 0, mk0, .ref 23, .ref 24, .ref 25, mk0, .int (nI many), .int (nI P), mk0, .int (nI i), .int (nI v)] [.int (nI sg), .ref 2] h Q := by
  obtain ⟨C, ⟨p, PP⟩, R, ⟨e1, e2, e3, e4⟩, h0⟩ := M
  refine g130_336 (d + 41) _ _ _ _ _ _ _ h C.Sh Q ?_
  have hn : nxt 5 sg p (i + 1) = some 6 := by
    rw [nxt5 (by decide), if_neg (by omega), if_neg (fun z => by have := isCo_r z.2; omega), if_pos ⟨rfl, by omega⟩]
  have hD : dtS 5 (i + 1) sg D = mkD D.A D.B (upN D.I i isv) D.C D.o D.t := by
    rw [dtS5 (by decide), if_neg (by omega), Nat.add_sub_cancel]
    rcases hsg with ⟨rfl, rfl⟩ | ⟨rfl, rfl⟩
    · rw [if_pos rfl]
    · rw [if_neg (by decide), if_pos rfl]
  refine c129 (d := d) C PP (by omega) (by omega) (by omega) hn (fun h' w' C' f P' hL' => ⟨_, rfl, f.1, fun z => absurd z (by decide), fun _ => ?_⟩)
  rw [hD, if_neg (by decide)] at P'
  refine nCost hi nx (s := 6) (isv := isv) (cost := cost) (D := mkD D.A D.B (upN D.I i isv) D.C D.o D.t) ⟨C', ⟨_, P'⟩, ?_, ?_, h0.frC f⟩ (Or.inr rfl) hv hc1 hc9 (upN_s _ _ _) hC (by omega)
  · obtain ⟨r1, r2, r3⟩ := R.frC f
    refine ⟨fun k hk => ?_, r2, r3⟩
    obtain ⟨q1, q2, q3, q4⟩ := r1 k hk
    refine ⟨q1, q2, ?_, q4⟩
    rw [q3]
    exact congrArg nI (upN_o D.I (i := i) (j := k) isv (by omega)).symm
  · rw [f.I (by decide), f.I (by decide), f.I (by decide), f.I (by decide)]
    exact ⟨e1, e2, e3, e4⟩
/-- the places -/
theorem n275 (hi : i < 6) (nx : ∀ h w s D, NI hz h w s (i + 1) D → H116 d many P (i + 1) h Q) {h : AH} {w : WD} {a b isv cost v p : Nat} {D : Dt} (C : CI h w) (PP : PS w 3 i p D) (R : RD h D i) (ea : AI h 23 (2 * i) = nI a) (eb : AI h 23 (2 * i + 1) = nI b) (ei : AI h 24 i = nI isv) (ec : AI h 25 i = nI cost) (h0 : SM4 hz h) (ha : a < 6) (hb : b < 6) (hab : a ≠ b) (his : isv < 3) (hv : v < 16384) (hc1 : 1 ≤ cost) (hc9 : cost ≤ 9) (hL : w.L ≤ 4 + 5 * i) : Wp (d + 42) 130 275 [.ref 2, .ref 0, .int 0, mk0, .ref 23, .ref 24, .ref 25, mk0, .int (nI many), .int (nI P), mk0, .int (nI i), .int (nI v)] [] h Q := by
  refine g130_275 (d + 41) _ _ _ _ _ h C.Sh Q ?_
  rw [fa_lit 2, pk_mul, nI_1 (2 * i)]
  refine ⟨ixR_nI (by omega) (by decide), ?_⟩
  rw [tnI (by omega), ea, show (97 : Int32) + nI a = nI (97 + a) from by rw [fa_lit 97, nI_add]]
  have n1 : nxt 3 (97 + a) p i = some 4 := by
    unfold nxt
    rw [if_neg (by decide), if_neg (by decide), if_neg (by decide), if_pos rfl, if_pos (isPl_t (by omega) (by omega))]
  have d1 : dtS 3 i (97 + a) D = mkD (upN D.A i a) D.B (upN D.I i 0) (upN D.C i 1) D.o D.t := by
    unfold dtS
    rw [if_neg (by decide), if_neg (by decide), if_neg (by decide), if_pos rfl, Nat.add_sub_cancel_left]
  refine c129 (d := d) C PP (by omega) (by omega) (by omega) n1 (fun h1 w1 C1 f1 P1 L1 => ⟨_, rfl, f1.1, fun z => absurd z (by decide), fun _ => ⟨ixR_nI (by omega) (by decide), ?_⟩⟩)
  rw [d1, if_neg (by decide)] at P1
  rw [tnI (by omega), f1.I (by decide), eb, show (97 : Int32) + nI b = nI (97 + b) from by rw [fa_lit 97, nI_add]]
  have n2 : nxt 4 (97 + b) (97 + a) i = some 5 := by
    unfold nxt
    rw [if_neg (by decide), if_neg (by decide), if_neg (by decide), if_neg (by decide), if_pos rfl, if_pos ⟨isPl_t (by omega) (by omega), by omega⟩]
  have d2 : dtS 4 i (97 + b) (mkD (upN D.A i a) D.B (upN D.I i 0) (upN D.C i 1) D.o D.t) = mkD (upN D.A i a) (upN D.B i b) (upN D.I i 0) (upN D.C i 1) D.o D.t := by
    unfold dtS
    rw [if_neg (by decide), if_neg (by decide), if_neg (by decide), if_neg (by decide), if_pos rfl, Nat.add_sub_cancel_left]
    rfl
  refine c129 (d := d) C1 P1 (by omega) (by omega) (by omega) n2 (fun h2 w2 C2 f2 P2 L2 => ⟨_, rfl, f2.1, fun z => absurd z (by decide), fun _ => ⟨ixR_nI (by omega) (by decide), ?_⟩⟩)
  rw [d2, if_pos rfl] at P2
  have R2 : RD h2 (mkD (upN D.A i a) (upN D.B i b) (upN D.I i 0) (upN D.C i 1) D.o D.t) i := by
    obtain ⟨r1, r2, r3⟩ := (R.frC f1).frC f2
    refine ⟨fun k hk => ?_, r2, r3⟩
    obtain ⟨q1, q2, q3, q4⟩ := r1 k hk
    have ne : k ≠ i := by omega
    refine ⟨q1.trans (congrArg nI (upN_o D.A (i := i) (j := k) a ne).symm), q2.trans (congrArg nI (upN_o D.B (i := i) (j := k) b ne).symm), q3.trans (congrArg nI (upN_o D.I (i := i) (j := k) 0 ne).symm), q4.trans (congrArg nI (upN_o D.C (i := i) (j := k) 1 ne).symm)⟩
  have M : MIn hz h2 w2 5 i isv cost (mkD (upN D.A i a) (upN D.B i b) (upN D.I i 0) (upN D.C i 1) D.o D.t) := by
    refine ⟨C2, ⟨_, P2⟩, R2, ⟨?_, ?_, ?_, ?_⟩, (h0.frC f1).frC f2⟩
    · rw [f2.I (by decide), f1.I (by decide), ea]
      exact congrArg nI (upN_s D.A i a).symm
    · rw [f2.I (by decide), f1.I (by decide), eb]
      exact congrArg nI (upN_s D.B i b).symm
    · rw [f2.I (by decide), f1.I (by decide), ei]
    · rw [f2.I (by decide), f1.I (by decide), ec]
  have ei2 : AI h2 24 i = nI isv := M.2.2.2.1.2.2.1
  rw [tnI (by omega), ei2, nI_eq0 (by omega), eqC (y := 1) (b := 1) rfl rfl (by omega) (by omega)]
  have eC : (mkD (upN D.A i a) (upN D.B i b) (upN D.I i 0) (upN D.C i 1) D.o D.t).C i = 1 := upN_s D.C i 1
  have eI : (mkD (upN D.A i a) (upN D.B i b) (upN D.I i 0) (upN D.C i 1) D.o D.t).I i = 0 := upN_s D.I i 0
  refine ⟨fun z => ?_, fun z => ⟨fun z1 => ?_, fun z1 => ?_⟩⟩
  · have := nCost hi nx M (Or.inl rfl) hv hc1 hc9 (eI.trans z.symm) eC (by omega)
    rw [tnI (by omega)] at this
    exact this
  · exact n336 hi nx M hv hc1 hc9 eC (by omega) (sg := 43) (Or.inl ⟨rfl, z1⟩)
  · exact n336 hi nx M hv hc1 hc9 eC (by omega) (sg := 45) (Or.inr ⟨rfl, by omega⟩)
/-- the rows of a lane written -/
theorem RD.row {h : AH} {D : Dt} {i : Nat} (r : RD h D i) {P : Nat → Nat → Prop} {h' : AH} (f : Fr P h h') (hi : i < 6) (hp : ∀ a j, P a j → (a = 23 ∧ (j = 2 * i ∨ j = 2 * i + 1)) ∨ (a = 24 ∧ j = i) ∨ (a = 25 ∧ j = i)) : RD h' D i := by
  obtain ⟨r1, r2, r3⟩ := r
  refine ⟨fun k hk => ?_, by rw [f.I (fun z => by have := hp _ _ z; omega)]; exact r2, by rw [f.I (fun z => by have := hp _ _ z; omega)]; exact r3⟩
  rw [f.I (fun z => by have := hp _ _ z; omega), f.I (fun z => by have := hp _ _ z; omega), f.I (fun z => by have := hp _ _ z; omega), f.I (fun z => by have := hp _ _ z; omega)]
  exact r1 k hk
theorem CI.row {h h' : AH} {w : WD} (C : CI h w) {P : Nat → Nat → Prop} (f : Fr P h h') (hp : ∀ a j, P a j → a = 23 ∨ a = 24 ∨ a = 25 ∨ a = 26) : CI h' w := C.frR (f.weak (fun i j z => by have := hp i j z; unfold rgP; omega))
theorem n255 (hi : i < 6) (nx : ∀ h w s D, NI hz h w s (i + 1) D → H116 d many P (i + 1) h Q) {h : AH} {w : WD} {s a b isv cost v : Nat} {D : Dt} (N : NI hz h w s i D) (ea : AI h 23 (2 * i) = nI a) (eb : AI h 23 (2 * i + 1) = nI b) (ei : AI h 24 i = nI isv) (ha : a < 6) (hb : b < 6) (hab : a ≠ b) (his : isv < 3) (hv : v < 16384) (hc1 : 1 ≤ cost) (hc9 : cost ≤ 9) : Wp (d + 42) 130 255 [.ref 2, .ref 0, .int 0, mk0, .ref 23, .ref 24, .ref 25, mk0, .int (nI many), .int (nI P), .int 1, .int (nI i), .int (nI v)] [.int (nI cost), .int (nI i), .ref 25] h Q := by
  obtain ⟨C, ⟨p, PP⟩, R, hs, hL, h0⟩ := N
  have HS := C.Sh
  have k25 : AK h 25 = (20, 12) := HS.2.1 25 (by decide)
  refine g130_255 (d + 41) _ _ _ _ _ _ _ _ _ h HS Q ⟨by rw [k25], in12 k25 (by omega), by decide, fun z => absurd z (by decide), fun _ => ?_⟩
  rw [tnI (by omega), nI_eq0 (by omega)]
  have f1 : Fr (fun a j => a = 25 ∧ j = i) h (stI h 25 i (nI cost)) := Fr.stI ⟨rfl, rfl⟩
  have C1 := C.row f1 (fun a j z => by omega)
  have R1 := R.row f1 hi (fun a j z => by omega)
  have ea1 : AI (stI h 25 i (nI cost)) 23 (2 * i) = nI a := by rw [AI_stI_o _ _ (Or.inl (by decide))]; exact ea
  have eb1 : AI (stI h 25 i (nI cost)) 23 (2 * i + 1) = nI b := by rw [AI_stI_o _ _ (Or.inl (by decide))]; exact eb
  have ei1 : AI (stI h 25 i (nI cost)) 24 i = nI isv := by rw [AI_stI_o _ _ (Or.inl (by decide))]; exact ei
  have ec1 : AI (stI h 25 i (nI cost)) 25 i = nI cost := AI_stI_s _ _ _ _
  have h01 : SM4 hz (stI h 25 i (nI cost)) := h0
  generalize stI h 25 i (nI cost) = h1 at f1 C1 R1 ea1 eb1 ei1 ec1 h01 ⊢
  refine ⟨fun z => ?_, fun z => ?_⟩
  · have s3 : s = 3 := by omega
    rw [s3] at PP
    exact n275 hi nx C1 PP R1 ea1 eb1 ei1 ec1 h01 ha hb hab his hv hc1 hc9 (by omega)
  · have hn : nxt s 44 p i = some 3 := by
      rw [nxt5 (by omega), if_pos rfl, if_pos (by omega)]
    have hD : dtS s i 44 D = D := by rw [dtS5 (by omega), if_pos rfl]
    refine c129 (d := d) C1 PP (c := 44) (by decide) (by decide) (by omega) hn (fun h2 w2 C2 f2 P2 L2 => ⟨_, rfl, f2.1, fun z => absurd z (by decide), fun _ => ?_⟩)
    rw [hD, if_neg (by decide)] at P2
    exact n275 hi nx C2 P2 (R1.frC f2) (by rw [f2.I (by decide)]; exact ea1) (by rw [f2.I (by decide)]; exact eb1) (by rw [f2.I (by decide)]; exact ei1) (by rw [f2.I (by decide)]; exact ec1) (h01.frC f2) ha hb hab his hv hc1 hc9 (by omega)
theorem n224 (hi : i < 6) (nx : ∀ h w s D, NI hz h w s (i + 1) D → H116 d many P (i + 1) h Q) {h : AH} {w : WD} {s a b isv v : Nat} {D : Dt} (N : NI hz h w s i D) (ea : AI h 23 (2 * i) = nI a) (eb : AI h 23 (2 * i + 1) = nI b) (ha : a < 6) (hb : b < 6) (hab : a ≠ b) (his : isv < 3) (hv : v < 16384) : Wp (d + 42) 130 224 [.ref 2, .ref 0, .int 0, mk0, .ref 23, .ref 24, .ref 25, mk0, .int (nI many), .int (nI P), .int 1, .int (nI i), .int (nI v)] [.int (nI isv), .int (nI i), .ref 24] h Q := by
  obtain ⟨C, PP, R, hs, hL, h0⟩ := N
  have HS := C.Sh
  have k24 : AK h 24 = (20, 12) := HS.2.1 24 (by decide)
  refine g130_224 (d + 42) _ _ _ _ _ _ _ _ _ h HS Q ⟨by rw [k24], in12 k24 (by omega), by decide, ?_⟩
  rw [tnI (by omega)]
  have f1 : Fr (fun a j => a = 24 ∧ j = i) h (stI h 24 i (nI isv)) := Fr.stI ⟨rfl, rfl⟩
  have N1 : NI hz (stI h 24 i (nI isv)) w s i D := ⟨C.row f1 (fun a j z => by omega), PP, R.row f1 hi (fun a j z => by omega), hs, hL, h0⟩
  have ea1 : AI (stI h 24 i (nI isv)) 23 (2 * i) = nI a := by rw [AI_stI_o _ _ (Or.inl (by decide))]; exact ea
  have eb1 : AI (stI h 24 i (nI isv)) 23 (2 * i + 1) = nI b := by rw [AI_stI_o _ _ (Or.inl (by decide))]; exact eb
  have ei1 : AI (stI h 24 i (nI isv)) 24 i = nI isv := AI_stI_s _ _ _ _
  have e9 : (1 : Int32) + ((nI v / 1536) - (nI v / 1536) / 9 * 9) = nI (1 + v / 1536 % 9) := by
    rw [fa_lit 1536, pk_div (by omega) (by decide) (by decide), fa_lit 9, pk_rem (by omega) (by decide) (by decide), fa_lit 1, nI_add]
  rw [e9]
  refine ⟨fun _ => ?_, fun _ => ?_⟩
  · exact n255 hi nx N1 ea1 eb1 ei1 ha hb hab his hv (cost := 1) (by decide) (by decide)
  · exact n255 hi nx N1 ea1 eb1 ei1 ha hb hab his hv (cost := 1 + v / 1536 % 9) (by omega) (by omega)
/-- behind the last lane: the net is read -/
theorem n116e (hmany : 1 ≤ many ∧ many ≤ 6) {h : AH} {w : WD} {s : Nat} {D : Dt} (N : NI hz h w s many D) (K : ∀ h', CI h' (wN w (fnG D many) (fnT D many)) → FrC h h' → WdOK (wN w (fnG D many) (fnT D many)) → (∀ k, k < many → D.I k < 3) → RD h' D many → SM4 hz h' → Q (some (.int (nI many))) h') : H116 d many P many h Q := by
  obtain ⟨C, ⟨p, PP⟩, R, hs, hL, h0⟩ := N
  obtain ⟨o1, o2, p3, p4, p5⟩ := id PP
  have hq : ntQ w.cd w.L = some many := by
    unfold ntQ
    rw [p3]
    exact if_pos (by omega)
  unfold H116
  refine g130_116 (d + 41) _ _ _ _ _ h C.Sh Q ⟨fun z => ?_, fun _ => ⟨fun z => absurd z (by decide), fun _ => ?_⟩⟩
  · rw [nI_ltI (by omega) (by omega)] at z
    omega
  refine fC91 (d := d + 1) o1 h _ C (fun h1 C1 f1 => ⟨_, rfl, f1.1, ?_⟩)
  refine fC113 (d := d + 1) o1 7 h1 _ C1 (fun h2 C2 f2 => ⟨_, rfl, f2.1, ?_⟩)
  have e7 : ctA w 7 = nI w.L := rfl
  have efl : ftl w.cd w.L = w.L := ftl_end p3
  show (nI (ftl w.cd w.L) = ctA w 7 → _) ∧ _
  rw [e7, efl]
  refine ⟨fun _ => ?_, fun z => absurd rfl z⟩
  refine fC92 (d := d + 1) o1 o2 h2 _ C2 (fun h3 C3 f3 => ⟨_, rfl, f3.1, ?_⟩)
  have eA : ntA w = nI many := by unfold ntA; rw [hq]
  have eW : ntW w = wN w (fnG D many) (fnT D many) := by unfold ntW; rw [hq, p4]
  have okW := ntW_ok o1
  rw [eW] at C3 okW
  rw [eA]
  refine ⟨fun _ => ?_, fun z => absurd rfl z⟩
  have hI : ∀ k, k < many → D.I k < 3 := fun k hk => by
    have dk := dtt_ok p3
    rw [p4] at dk
    exact (dk.2.2.1 k hk).2.2.1
  exact K h3 C3 ((f1.trans f2).trans f3) okW hI (((R.frC f1).frC f2).frC f3) (((h0.frC f1).frC f2).frC f3)
theorem mod_ne {a b P : Nat} (h : a < P) (h2 : b < P - 1) : a ≠ (a + 1 + b) % P := by
  rcases Nat.lt_or_ge (a + 1 + b) P with q | q
  · rw [Nat.mod_eq_of_lt q]
    omega
  · rw [Nat.mod_eq_sub_mod q, Nat.mod_eq_of_lt (show a + 1 + b - P < P by omega)]
    omega
theorem n116 (hmany : 1 ≤ many ∧ many ≤ 6) (hP : 2 ≤ P ∧ P ≤ 6) (hLs : Ls < 2 ^ 31) (hz0 : AK hz 0 = (20, Ls)) (K : ∀ h w s D, NI hz h w s many D → H116 d many P many h Q) : ∀ m i h w s D, i + m = many → NI hz h w s i D → H116 d many P i h Q
  | 0, i, h, w, s, D, hi, N => by
    have e : i = many := hi
    subst e
    exact K h w s D N
  | m + 1, i, h, w, s, D, hi, N => by
    have hlt : i < many := by omega
    obtain ⟨C, PP, R, hs, hL, h0⟩ := id N
    have HS := C.Sh
    unfold H116
    refine g130_116 (d + 41) _ _ _ _ _ h HS Q ⟨fun _ => ?_, fun z => absurd ((nI_ltI (by omega) (by omega)).mpr hlt) z⟩
    have ek : ((0 : Int32) + 1) + nI i / 2 = nI (1 + i / 2) := by
      rw [fa_lit 2, pk_div (by omega) (by decide) (by decide), show ((0 : Int32) + 1) = nI 1 from rfl, nI_add]
    rw [ek]
    refine c128 HS (by rw [h0.2.2.1]; exact hz0) hLs (by omega) (fun x hx => ⟨_, rfl, HS, ?_⟩)
    obtain ⟨v, hv, ev⟩ := mk14 (nI x >>> (((14 : Int32) * (nI i - nI i / 2 * 2)) &&& 31))
    rw [ev]
    have eM : nI P - 1 = nI (P - 1) := by
      rw [fa_lit 1, pk_sub (by omega)]
    have e2 : (2 : Int32) * nI i = nI (2 * i) := by rw [fa_lit 2, pk_mul]
    have ea : nI v - nI v / nI P * nI P = nI (v % P) := pk_rem (by omega) (by omega) (by omega)
    have e8 : (nI v / 8) - (nI v / 8) / nI (P - 1) * nI (P - 1) = nI (v / 8 % (P - 1)) := by
      rw [fa_lit 8, pk_div (by omega) (by decide) (by decide), pk_rem (by omega) (by omega) (by omega)]
    have h81 : v / 8 % (P - 1) < P - 1 := Nat.mod_lt _ (by omega)
    have hva : v % P < P := Nat.mod_lt _ (by omega)
    have e64 : (nI v / 64) - (nI v / 64) / 8 * 8 = nI (v / 64 % 8) := by
      rw [fa_lit 64, pk_div (by omega) (by decide) (by decide), fa_lit 8, pk_rem (by omega) (by decide) (by decide)]
    rw [eM, e2, nI_1 (2 * i), ea, e8, e64, tnI (by omega), tnI (by omega), AI_stI_s, nI_1 (v % P), nI_add, pk_rem (by omega) (by omega) (by omega)]
    have n0 : ∀ k, 0 < k → k < 10 → ¬ nI k = 0 := fun k h1 h2 z => by
      rw [nI_eq0 (by omega)] at z
      omega
    refine ⟨n0 P (by omega) (by omega), ixR_nI (by omega) (by decide), n0 (P - 1) (by omega) (by omega), n0 P (by omega) (by omega), ixR_nI (by omega) (by decide), ?_⟩
    have hb : (v % P + 1 + v / 8 % (P - 1)) % P < P := Nat.mod_lt _ (by omega)
    have hne : v % P ≠ (v % P + 1 + v / 8 % (P - 1)) % P := mod_ne (Nat.mod_lt _ (by omega)) (Nat.mod_lt _ (by omega))
    have f1 : Fr (fun a j => a = 23 ∧ (j = 2 * i ∨ j = 2 * i + 1)) h (stI (stI h 23 (2 * i) (nI (v % P))) 23 (2 * i + 1) (nI ((v % P + 1 + v / 8 % (P - 1)) % P))) := (Fr.stI (P := fun a j => a = 23 ∧ (j = 2 * i ∨ j = 2 * i + 1)) ⟨rfl, Or.inl rfl⟩).trans (Fr.stI (P := fun a j => a = 23 ∧ (j = 2 * i ∨ j = 2 * i + 1)) ⟨rfl, Or.inr rfl⟩)
    have N1 : NI hz (stI (stI h 23 (2 * i) (nI (v % P))) 23 (2 * i + 1) (nI ((v % P + 1 + v / 8 % (P - 1)) % P))) w s i D := ⟨C.row f1 (fun a j z => by omega), PP, R.row f1 (by omega) (fun a j z => by omega), hs, hL, h0⟩
    have ea1 : AI (stI (stI h 23 (2 * i) (nI (v % P))) 23 (2 * i + 1) (nI ((v % P + 1 + v / 8 % (P - 1)) % P))) 23 (2 * i) = nI (v % P) := by
      rw [AI_stI_o _ _ (Or.inr (by omega)), AI_stI_s]
    have eb1 : AI (stI (stI h 23 (2 * i) (nI (v % P))) 23 (2 * i + 1) (nI ((v % P + 1 + v / 8 % (P - 1)) % P))) 23 (2 * i + 1) = nI ((v % P + 1 + v / 8 % (P - 1)) % P) := AI_stI_s _ _ _ _
    have nx : ∀ h w s D, NI hz h w s (i + 1) D → H116 d many P (i + 1) h Q := fun h' w' s' D' N' => n116 hmany hP hLs hz0 K m (i + 1) h' w' s' D' (by omega) N'
    rw [ltC (y := 6) (b := 6) rfl rfl (by omega) (by omega)]
    refine ⟨fun _ => ?_, fun z => ?_⟩
    · exact n224 (by omega) nx N1 ea1 eb1 (by omega) (by omega) hne (isv := 0) (by decide) hv
    · have e5 : nI (v / 64 % 8) - 5 = nI (v / 64 % 8 - 5) := by
        rw [fa_lit 5, pk_sub (by omega)]
      rw [e5]
      exact n224 (by omega) nx N1 ea1 eb1 (by omega) (by omega) hne (isv := v / 64 % 8 - 5) (by omega) hv
theorem c130 (hLs : Ls < 2 ^ 31) {h : AH} {w : WD} {D : Dt} (C : CI h w) (PP : PS w 0 0 0 D) (hL : w.L = 0) (h0 : AK h 0 = (20, Ls)) (K : ∀ h' w' D many, 1 ≤ many → many ≤ 6 → CI h' (wN w' (fnG D many) (fnT D many)) → WdOK (wN w' (fnG D many) (fnT D many)) → (∀ k, k < many → D.I k < 3) → RD h' D many → SM4 h h' → Q (some (.int (nI many))) h') : Cl (d + 42) 130 [.ref 2, .ref 0, .int 0, .int 6, .ref 23, .ref 24, .ref 25] h Q := by
  have HS := C.Sh
  refine Cl.enter rfl (g130_0 (d + 41) _ _ h HS Q ?_)
  refine c128 (k := 0) HS h0 hLs (by decide) (fun x hx => ⟨_, rfl, HS, ?_⟩)
  have eP : (2 : Int32) + ((nI x / 16) - (nI x / 16) / 5 * 5) = nI (2 + x / 16 % 5) := by
    rw [fa_lit 16, pk_div (by omega) (by decide) (by decide), fa_lit 5, pk_rem (by omega) (by decide) (by decide), fa_lit 2, nI_add]
  have hP5 : x / 16 % 5 < 5 := Nat.mod_lt _ (by decide)
  rw [eP]
  generalize hPe : 2 + x / 16 % 5 = P
  have eE : (nI x / 128) - (nI x / 128) / nI P * nI P = nI (x / 128 % P) := by
    rw [fa_lit 128, pk_div (by omega) (by decide) (by decide), pk_rem (by omega) (by omega) (by omega)]
  have eM : nI P - 1 = nI (P - 1) := by rw [fa_lit 1, pk_sub (by omega)]
  have e10 : (nI x / 1024) - (nI x / 1024) / nI (P - 1) * nI (P - 1) = nI (x / 1024 % (P - 1)) := by
    rw [fa_lit 1024, pk_div (by omega) (by decide) (by decide), pk_rem (by omega) (by omega) (by omega)]
  have hE : x / 128 % P < P := Nat.mod_lt _ (by omega)
  have hT : x / 1024 % (P - 1) < P - 1 := Nat.mod_lt _ (by omega)
  have t20 : ((20 : Int32)).toNatClampNeg = 20 := rfl
  have t21 : ((21 : Int32)).toNatClampNeg = 21 := rfl
  rw [eM, eE, e10, t20, t21, AI_stI_s, nI_1 (x / 128 % P), nI_add, pk_rem (by omega) (by omega) (by omega), AI_stI_o _ _ (Or.inr (by decide)), AI_stI_s]
  have n0 : ∀ k, 0 < k → k < 10 → ¬ nI k = 0 := fun k h1 h2 z => by
    rw [nI_eq0 (by omega)] at z
    omega
  refine ⟨by decide, n0 P (by omega) (by omega), ixR_nI (j := 20) (by decide) (by decide), n0 (P - 1) (by omega) (by omega), n0 P (by omega) (by omega), ixR_nI (j := 21) (by decide) (by decide), ?_⟩
  generalize hEe : x / 128 % P = E at hE
  have hTb : (E + 1 + x / 1024 % (P - 1)) % P < P := Nat.mod_lt _ (by omega)
  have hne : E ≠ (E + 1 + x / 1024 % (P - 1)) % P := by
    intro z
    rcases Nat.lt_or_ge (E + 1 + x / 1024 % (P - 1)) P with q | q
    · rw [Nat.mod_eq_of_lt q] at z
      omega
    · rw [Nat.mod_eq_sub_mod q, Nat.mod_eq_of_lt (by omega)] at z
      omega
  generalize (E + 1 + x / 1024 % (P - 1)) % P = T at hTb hne
  have e97 : ∀ k, (97 : Int32) + nI k = nI (97 + k) := fun k => by rw [fa_lit 97, nI_add]
  have em : (1 : Int32) + (nI x - nI x / 6 * 6) = nI (1 + x % 6) := by
    rw [fa_lit 6, pk_rem (by omega) (by decide) (by decide), fa_lit 1, nI_add]
  rw [e97, em]
  have hm6 : x % 6 < 6 := Nat.mod_lt _ (by decide)
  generalize hme : 1 + x % 6 = many
  have f1 : Fr (fun a j => a = 23 ∧ (j = 20 ∨ j = 21)) h (stI (stI h 23 20 (nI E)) 23 21 (nI T)) := (Fr.stI (P := fun a j => a = 23 ∧ (j = 20 ∨ j = 21)) ⟨rfl, Or.inl rfl⟩).trans (Fr.stI (P := fun a j => a = 23 ∧ (j = 20 ∨ j = 21)) ⟨rfl, Or.inr rfl⟩)
  have C1 := C.row f1 (fun a j z => by omega)
  have o1 : AI (stI (stI h 23 20 (nI E)) 23 21 (nI T)) 23 20 = nI E := by rw [AI_stI_o _ _ (Or.inr (by decide)), AI_stI_s]
  have o2 : AI (stI (stI h 23 20 (nI E)) 23 21 (nI T)) 23 21 = nI T := AI_stI_s _ _ _ _
  have same1 : SM4 h (stI (stI h 23 20 (nI E)) 23 21 (nI T)) := ⟨rfl, rfl, rfl, rfl⟩
  generalize stI (stI h 23 20 (nI E)) 23 21 (nI T) = h1 at f1 C1 o1 o2 same1 ⊢
  -- the ends
  have n1 : nxt 0 (97 + E) 0 0 = some 1 := by
    unfold nxt
    rw [if_pos rfl, if_pos (isPl_t (by omega) (by omega))]
  have d1 : dtS 0 0 (97 + E) D = mkD D.A D.B D.I D.C E D.t := by
    unfold dtS
    rw [if_pos rfl, Nat.add_sub_cancel_left]
  refine c129 (d := d) C1 PP (by omega) (by omega) (by omega) n1 (fun h2 w2 C2 f2 P2 L2 => ⟨_, rfl, f2.1, fun z => absurd z (by decide), fun _ => ⟨ixR_nI (j := 21) (by decide) (by decide), ?_⟩⟩)
  rw [d1, if_neg (by decide)] at P2
  rw [f2.I (by decide), o2, e97]
  have n2 : nxt 1 (97 + T) (97 + E) 0 = some 2 := by
    unfold nxt
    rw [if_neg (by decide), if_pos rfl, if_pos ⟨isPl_t (by omega) (by omega), by omega⟩]
  have d2 : dtS 1 0 (97 + T) (mkD D.A D.B D.I D.C E D.t) = mkD D.A D.B D.I D.C E T := by
    unfold dtS
    rw [if_neg (by decide), if_pos rfl, Nat.add_sub_cancel_left]
    rfl
  refine c129 (d := d) C2 P2 (by omega) (by omega) (by omega) n2 (fun h3 w3 C3 f3 P3 L3 => ⟨_, rfl, f3.1, fun z => absurd z (by decide), fun _ => ?_⟩)
  rw [d2, if_neg (by decide)] at P3
  have n3 : nxt 2 58 (97 + T) 0 = some 3 := rfl
  have d3 : dtS 2 0 58 (mkD D.A D.B D.I D.C E T) = mkD D.A D.B D.I D.C E T := rfl
  refine c129 (d := d) (c := 58) C3 P3 (by decide) (by decide) (by omega) n3 (fun h4 w4 C4 f4 P4 L4 => ⟨_, rfl, f4.1, fun z => absurd z (by decide), fun _ => ?_⟩)
  rw [d3, if_neg (by decide)] at P4
  have N0 : NI h h4 w4 3 0 (mkD D.A D.B D.I D.C E T) := by
    refine ⟨C4, ⟨_, P4⟩, ⟨fun k hk => absurd hk (Nat.not_lt_zero k), ?_, ?_⟩, Or.inl ⟨rfl, rfl⟩, by omega, ((same1.frC f2).frC f3).frC f4⟩
    · rw [f4.I (by decide), f3.I (by decide), f2.I (by decide), o1]
      rfl
    · rw [f4.I (by decide), f3.I (by decide), f2.I (by decide), o2]
      rfl
  refine n116 (d := d) (hz := h) (by omega) (by omega) hLs h0 (fun h' w' s' D' N' => ?_) many 0 h4 w4 3 _ (Nat.zero_add _) N0
  exact n116e (by omega) N' (fun h'' C'' f'' okW hI R'' S'' => K h'' w' D' many (by omega) (by omega) C'' okW hI R'' S'')
end NET
