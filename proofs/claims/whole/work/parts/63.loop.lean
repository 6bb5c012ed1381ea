/-! the law's loop -/
def Gd (w : WD) (p : Int32 × WD) : Prop := WdOK p.2 ∧ p.2.nn ≤ w.nn + 1
theorem Gd.same {w : WD} {p : Int32 × WD} (ok : WdOK w) (e : p.2 = w) : Gd w p := by
  unfold Gd
  rw [e]
  exact ⟨ok, Nat.le_succ _⟩
theorem lnR_w (w : WD) (x y : Int32) : (lnR w x y).2 = w := by
  unfold lnR
  repeat' split
  all_goals rfl
theorem stR1_w (w : WD) : (stR1 w).2 = w := by
  unfold stR1
  split <;> rfl
theorem whR_w (w : WD) (x : Int32) : (whR w x).2 = w := by
  unfold whR
  repeat' split
  all_goals rfl
theorem byR_w (w : WD) (x : Int32) : (byR w x).2 = w := by
  unfold byR
  repeat' split
  all_goals rfl
theorem anR_w (w : WD) (x : Int32) : (anR w x).2 = w := by
  unfold anR
  repeat' split
  all_goals rfl
theorem loR_w (w : WD) : (loR w).2 = w := by
  unfold loR
  split <;> rfl
theorem wyR_w (w : WD) : (wyR w).2 = w := by
  unfold wyR
  split <;> rfl
theorem ptR_w (w : WD) (x : Int32) : (ptR w x).2 = w := by
  unfold ptR
  repeat' split
  all_goals rfl
theorem boR_w (w : WD) (x : Int32) : (boR w x).2 = w := by
  unfold boR
  repeat' split
  all_goals rfl
theorem lkR_w (w : WD) (x y : Int32) : (lkR w x y).2 = w := by
  unfold lkR
  repeat' split
  all_goals rfl
theorem asR_w (w : WD) (x y : Int32) : (asR w x y).2 = w := by
  unfold asR
  repeat' split
  all_goals rfl
theorem mvR_w (w : WD) (x y : Int32) : (mvR w x y).2 = w := by
  unfold mvR
  repeat' split
  all_goals rfl
theorem gmR_w (w : WD) (a b c e : Int32) : (gmR w a b c e).2 = w := by
  unfold gmR
  repeat' split
  all_goals rfl
theorem sdQ_lt {x : Int32} {who : Nat} (h : sdQ x = some who) : who < 2 := by
  unfold sdQ at h
  split at h
  · cases h
    decide
  · split at h
    · cases h
      decide
    · cases h
theorem bgnR_ok {w : WD} (ok : WdOK w) (x : Int32) : Gd w (bgnR w x) := by
  unfold bgnR
  split
  · exact Gd.same ok rfl
  · rename_i who hs
    split
    · exact Gd.same ok rfl
    · split
      · exact Gd.same ok rfl
      · rename_i hk
        obtain ⟨o1, o2, o3, o4, o5, o6, o7, o8⟩ := ok
        exact ⟨⟨o1, o2, o3, bgn_ok o4 hk (sdQ_lt hs), o5, o6, o7, o8⟩, Nat.le_succ _⟩
theorem lnQ_in {n j : Nat} {x : Int32} (h : lnQ n x = some j) : j < n := by
  unfold lnQ at h
  split at h
  · cases h
  · split at h
    · rename_i hl
      cases h
      exact hl
    · cases h
theorem tkR_ok {w : WD} (ok : WdOK w) (x : Int32) : Gd w (tkR w x) := by
  unfold tkR
  split
  · exact Gd.same ok rfl
  · rename_i j hj
    split
    · rename_i hh
      obtain ⟨o1, o2, o3, o4, o5, o6, o7, o8⟩ := ok
      exact ⟨⟨o1, o2, o3, o4.ply (lnQ_in hj) hh.2, o5, o6, o7, o8⟩, Nat.le_succ _⟩
    · exact Gd.same ok rfl
theorem bkR_ok {w : WD} (ok : WdOK w) : Gd w (bkR w) := by
  unfold bkR
  split
  · exact Gd.same ok rfl
  · rename_i hn
    obtain ⟨o1, o2, o3, o4, o5, o6, o7, o8⟩ := ok
    exact ⟨⟨o1, o2, o3, o4.und o2.1 (by omega), o5, o6, o7, o8⟩, Nat.le_succ _⟩
theorem mdR_ok {w : WD} (ok : WdOK w) (x : Int32) : Gd w (mdR w x) := by
  unfold mdR
  split
  · exact Gd.same ok rfl
  · rename_i hn
    split
    · exact Gd.same ok rfl
    · obtain ⟨o1, o2, o3, o4, o5, o6, o7, o8⟩ := ok
      exact ⟨⟨o1, o2, o3, o4, o5, o6, o7, by show w.md + 1 ≤ 20; omega⟩, Nat.le_succ _⟩
theorem plR_g {w : WD} (ok : WdOK w) (x : Int32) : Gd w (plR w x) := by
  refine ⟨plR_ok ok x, ?_⟩
  unfold plR
  repeat' split
  all_goals exact Nat.le_succ _
theorem imR_g {w : WD} (ok : WdOK w) : Gd w (imR w) := by
  refine ⟨imR_ok ok, ?_⟩
  unfold imR
  split <;> exact Nat.le_succ _
theorem rsR_g {w : WD} (ok : WdOK w) : Gd w (rsR w) := by
  refine ⟨rsR_ok ok, ?_⟩
  unfold rsR
  split <;> exact Nat.le_succ _
theorem ltR_g {w : WD} (ok : WdOK w) (W : Int64) : Gd w (ltA W w.L, wP w (ltL W w.L) (lcC W w.L w.cd)) := by
  obtain ⟨o1, o2, o3, o4, o5, o6, o7, o8⟩ := ok
  exact ⟨⟨o1.lt, o2, o3, o4, o5, o6, o7, o8⟩, Nat.le_succ _⟩
theorem blR_g {w : WD} (ok : WdOK w) : Gd w (nI w.L, wP w 0 w.cd) := by
  obtain ⟨o1, o2, o3, o4, o5, o6, o7, o8⟩ := ok
  exact ⟨⟨⟨Nat.zero_le _, fun i hi => absurd hi (Nat.not_lt_zero i)⟩, o2, o3, o4, o5, o6, o7, o8⟩, Nat.le_succ _⟩
theorem ntR_g {w : WD} (ok : WdOK w) : Gd w (ntA w, ntW w) := by
  refine ⟨ntW_ok ok, ?_⟩
  show (ntW w).nn ≤ w.nn + 1
  unfold ntW
  split
  · exact Nat.le_succ _
  · exact Nat.le_refl _
/-- where the loop stands -/
def LI (Ls j : Nat) (h : AH) (w : WD) : Prop := WdOK w ∧ CI h w ∧ RI h w ∧ AK h 0 = (20, Ls) ∧ w.nn ≤ j
theorem inR0 {h : AH} {Ls a : Nat} (hk : AK h 0 = (20, Ls)) (ha : a < Ls) (hL : Ls ≤ 2560) : inR h 0 (nI a) = true := by
  unfold inR
  rw [hk, decide_eq_true (nI_pos (by omega)), tnI (by omega), decide_eq_true ha]
  rfl
theorem subL {L i : Nat} (hL : L ≤ 2560) (hi : i ≤ 10000) : nI L - 5 < nI i ↔ L < i + 5 := by
  by_cases h5 : 5 ≤ L
  · rw [show (5 : Int32) = nI 5 from rfl, pk_sub h5, nI_ltI (by omega) (by omega)]
    omega
  · have t : ∀ L, L < 5 → nI L - 5 < 0 := by decide
    have h0 : ¬ nI i < 0 := nI_pos (by omega)
    exact ⟨fun _ => by omega, fun _ => fa_trans (t L (by omega)) (fa_of_nlt h0)⟩
theorem st0 {d m1 m2 Ls j i : Nat} {w : WD} {p : Int32 × WD} {h : AH} (hL : Ls ≤ 2560) (hi : i + 5 ≤ Ls) (I : LI Ls j h w) (g : Gd w p) (cf : CFp d m1 [.ref 2] w p) (rf : RFp d m2 [.ref 23] w p) {Q : Option Value → AH → Prop} (nx : ∀ h', LI Ls (j + 1) h' p.2 → Wp (d + 1) 204 18 [.ref 0, .ref 2, .ref 23, .int (nI i + 5)] [] h' Q) : (Cl d m1 [.ref 2] h (fun r h8 => ∃ x10 : Int32, r = some (.int x10) ∧ Sh h8 ∧ ((Cl d m2 [.ref 23] h8 (fun r h14 => ∃ x16 : Int32, r = some (.int x16) ∧ Sh h14 ∧ ((x10 = x16 → Wp (d + 1) 204 18 [.ref 0, .ref 2, .ref 23, .int (nI i + 5)] [] h14 Q) ∧ (¬ x10 = x16 → Q (some (.int 0)) h14))))))) := by
  obtain ⟨ok, c, r, hk, hn⟩ := I
  refine cf h _ c (fun h8 c8 f8 => ⟨_, rfl, f8.1, ?_⟩)
  have e0 : ∀ a, AI h8 0 a = AI h 0 a := fun a => (f8.2.2 0 a (Or.inl (by decide))).1
  refine rf h8 _ (r.frC f8) f8.1 (fun h14 r14 f14 => ⟨_, rfl, f14.Sh f8.1, fun _ => ?_, fun z => absurd rfl z⟩)
  exact nx h14 ⟨g.1, c8.frR f14, r14, by rw [f14.2.2.1, f8.2.1, hk], by have := g.2; omega⟩
theorem st1 {d m1 m2 Ls j i : Nat} {w : WD} {p : Int32 × WD} {h : AH} (hL : Ls ≤ 2560) (hi : i + 5 ≤ Ls) (I : LI Ls j h w) (g : Gd w p) (cf : CFp d m1 [.ref 2, .int (AI h 0 (nI i + 1).toNatClampNeg)] w p) (rf : RFp d m2 [.ref 23, .int (AI h 0 (nI i + 1).toNatClampNeg)] w p) {Q : Option Value → AH → Prop} (nx : ∀ h', LI Ls (j + 1) h' p.2 → Wp (d + 1) 204 18 [.ref 0, .ref 2, .ref 23, .int (nI i + 5)] [] h' Q) : inR h 0 (nI i + 1) = true ∧ (Cl d m1 [.ref 2, .int (AI h 0 (nI i + 1).toNatClampNeg)] h (fun r h8 => ∃ x10 : Int32, r = some (.int x10) ∧ Sh h8 ∧ ((AK h8 0).1 = 20 ∧ inR h8 0 (nI i + 1) = true ∧ (Cl d m2 [.ref 23, .int (AI h8 0 (nI i + 1).toNatClampNeg)] h8 (fun r h14 => ∃ x16 : Int32, r = some (.int x16) ∧ Sh h14 ∧ ((x10 = x16 → Wp (d + 1) 204 18 [.ref 0, .ref 2, .ref 23, .int (nI i + 5)] [] h14 Q) ∧ (¬ x10 = x16 → Q (some (.int 0)) h14))))))) := by
  obtain ⟨ok, c, r, hk, hn⟩ := I
  refine ⟨by rw [show (1 : Int32) = nI 1 from rfl, nI_add]; exact inR0 hk (by omega) hL, cf h _ c (fun h8 c8 f8 => ⟨_, rfl, f8.1, by rw [f8.2.1, hk], by rw [show (1 : Int32) = nI 1 from rfl, nI_add]; exact inR0 (f8.2.1.trans hk) (by omega) hL, ?_⟩)⟩
  have e0 : ∀ a, AI h8 0 a = AI h 0 a := fun a => (f8.2.2 0 a (Or.inl (by decide))).1
  simp only [e0]
  refine rf h8 _ (r.frC f8) f8.1 (fun h14 r14 f14 => ⟨_, rfl, f14.Sh f8.1, fun _ => ?_, fun z => absurd rfl z⟩)
  exact nx h14 ⟨g.1, c8.frR f14, r14, by rw [f14.2.2.1, f8.2.1, hk], by have := g.2; omega⟩
theorem st2 {d m1 m2 Ls j i : Nat} {w : WD} {p : Int32 × WD} {h : AH} (hL : Ls ≤ 2560) (hi : i + 5 ≤ Ls) (I : LI Ls j h w) (g : Gd w p) (cf : CFp d m1 [.ref 2, .int (AI h 0 (nI i + 1).toNatClampNeg), .int (AI h 0 (nI i + 2).toNatClampNeg)] w p) (rf : RFp d m2 [.ref 23, .int (AI h 0 (nI i + 1).toNatClampNeg), .int (AI h 0 (nI i + 2).toNatClampNeg)] w p) {Q : Option Value → AH → Prop} (nx : ∀ h', LI Ls (j + 1) h' p.2 → Wp (d + 1) 204 18 [.ref 0, .ref 2, .ref 23, .int (nI i + 5)] [] h' Q) : inR h 0 (nI i + 1) = true ∧ inR h 0 (nI i + 2) = true ∧ (Cl d m1 [.ref 2, .int (AI h 0 (nI i + 1).toNatClampNeg), .int (AI h 0 (nI i + 2).toNatClampNeg)] h (fun r h8 => ∃ x10 : Int32, r = some (.int x10) ∧ Sh h8 ∧ ((AK h8 0).1 = 20 ∧ inR h8 0 (nI i + 1) = true ∧ inR h8 0 (nI i + 2) = true ∧ (Cl d m2 [.ref 23, .int (AI h8 0 (nI i + 1).toNatClampNeg), .int (AI h8 0 (nI i + 2).toNatClampNeg)] h8 (fun r h14 => ∃ x16 : Int32, r = some (.int x16) ∧ Sh h14 ∧ ((x10 = x16 → Wp (d + 1) 204 18 [.ref 0, .ref 2, .ref 23, .int (nI i + 5)] [] h14 Q) ∧ (¬ x10 = x16 → Q (some (.int 0)) h14))))))) := by
  obtain ⟨ok, c, r, hk, hn⟩ := I
  refine ⟨by rw [show (1 : Int32) = nI 1 from rfl, nI_add]; exact inR0 hk (by omega) hL, by rw [show (2 : Int32) = nI 2 from rfl, nI_add]; exact inR0 hk (by omega) hL, cf h _ c (fun h8 c8 f8 => ⟨_, rfl, f8.1, by rw [f8.2.1, hk], by rw [show (1 : Int32) = nI 1 from rfl, nI_add]; exact inR0 (f8.2.1.trans hk) (by omega) hL, by rw [show (2 : Int32) = nI 2 from rfl, nI_add]; exact inR0 (f8.2.1.trans hk) (by omega) hL, ?_⟩)⟩
  have e0 : ∀ a, AI h8 0 a = AI h 0 a := fun a => (f8.2.2 0 a (Or.inl (by decide))).1
  simp only [e0]
  refine rf h8 _ (r.frC f8) f8.1 (fun h14 r14 f14 => ⟨_, rfl, f14.Sh f8.1, fun _ => ?_, fun z => absurd rfl z⟩)
  exact nx h14 ⟨g.1, c8.frR f14, r14, by rw [f14.2.2.1, f8.2.1, hk], by have := g.2; omega⟩
theorem st4 {d m1 m2 Ls j i : Nat} {w : WD} {p : Int32 × WD} {h : AH} (hL : Ls ≤ 2560) (hi : i + 5 ≤ Ls) (I : LI Ls j h w) (g : Gd w p) (cf : CFp d m1 [.ref 2, .int (AI h 0 (nI i + 1).toNatClampNeg), .int (AI h 0 (nI i + 2).toNatClampNeg), .int (AI h 0 (nI i + 3).toNatClampNeg), .int (AI h 0 (nI i + 4).toNatClampNeg)] w p) (rf : RFp d m2 [.ref 23, .int (AI h 0 (nI i + 1).toNatClampNeg), .int (AI h 0 (nI i + 2).toNatClampNeg), .int (AI h 0 (nI i + 3).toNatClampNeg), .int (AI h 0 (nI i + 4).toNatClampNeg)] w p) {Q : Option Value → AH → Prop} (nx : ∀ h', LI Ls (j + 1) h' p.2 → Wp (d + 1) 204 18 [.ref 0, .ref 2, .ref 23, .int (nI i + 5)] [] h' Q) : inR h 0 (nI i + 1) = true ∧ inR h 0 (nI i + 2) = true ∧ inR h 0 (nI i + 3) = true ∧ inR h 0 (nI i + 4) = true ∧ (Cl d m1 [.ref 2, .int (AI h 0 (nI i + 1).toNatClampNeg), .int (AI h 0 (nI i + 2).toNatClampNeg), .int (AI h 0 (nI i + 3).toNatClampNeg), .int (AI h 0 (nI i + 4).toNatClampNeg)] h (fun r h8 => ∃ x10 : Int32, r = some (.int x10) ∧ Sh h8 ∧ ((AK h8 0).1 = 20 ∧ inR h8 0 (nI i + 1) = true ∧ inR h8 0 (nI i + 2) = true ∧ inR h8 0 (nI i + 3) = true ∧ inR h8 0 (nI i + 4) = true ∧ (Cl d m2 [.ref 23, .int (AI h8 0 (nI i + 1).toNatClampNeg), .int (AI h8 0 (nI i + 2).toNatClampNeg), .int (AI h8 0 (nI i + 3).toNatClampNeg), .int (AI h8 0 (nI i + 4).toNatClampNeg)] h8 (fun r h14 => ∃ x16 : Int32, r = some (.int x16) ∧ Sh h14 ∧ ((x10 = x16 → Wp (d + 1) 204 18 [.ref 0, .ref 2, .ref 23, .int (nI i + 5)] [] h14 Q) ∧ (¬ x10 = x16 → Q (some (.int 0)) h14))))))) := by
  obtain ⟨ok, c, r, hk, hn⟩ := I
  refine ⟨by rw [show (1 : Int32) = nI 1 from rfl, nI_add]; exact inR0 hk (by omega) hL, by rw [show (2 : Int32) = nI 2 from rfl, nI_add]; exact inR0 hk (by omega) hL, by rw [show (3 : Int32) = nI 3 from rfl, nI_add]; exact inR0 hk (by omega) hL, by rw [show (4 : Int32) = nI 4 from rfl, nI_add]; exact inR0 hk (by omega) hL, cf h _ c (fun h8 c8 f8 => ⟨_, rfl, f8.1, by rw [f8.2.1, hk], by rw [show (1 : Int32) = nI 1 from rfl, nI_add]; exact inR0 (f8.2.1.trans hk) (by omega) hL, by rw [show (2 : Int32) = nI 2 from rfl, nI_add]; exact inR0 (f8.2.1.trans hk) (by omega) hL, by rw [show (3 : Int32) = nI 3 from rfl, nI_add]; exact inR0 (f8.2.1.trans hk) (by omega) hL, by rw [show (4 : Int32) = nI 4 from rfl, nI_add]; exact inR0 (f8.2.1.trans hk) (by omega) hL, ?_⟩)⟩
  have e0 : ∀ a, AI h8 0 a = AI h 0 a := fun a => (f8.2.2 0 a (Or.inl (by decide))).1
  simp only [e0]
  refine rf h8 _ (r.frC f8) f8.1 (fun h14 r14 f14 => ⟨_, rfl, f14.Sh f8.1, fun _ => ?_, fun z => absurd rfl z⟩)
  exact nx h14 ⟨g.1, c8.frR f14, r14, by rw [f14.2.2.1, f8.2.1, hk], by have := g.2; omega⟩
theorem stW {d m1 m2 Ls j i : Nat} {w : WD} {p : Int32 × WD} {h : AH} (hL : Ls ≤ 2560) (hi : i + 5 ≤ Ls) (I : LI Ls j h w) (g : Gd w p) (cf : CFp d m1 [.ref 2, .long (((AI h 0 (nI i + 1).toNatClampNeg).toInt64 <<< ((32 : Int32).toInt64 &&& 63)) ||| ((AI h 0 (nI i + 2).toNatClampNeg).toInt64 &&& (4294967295 : Int64)))] w p) (rf : RFp d m2 [.ref 23, .long (((AI h 0 (nI i + 1).toNatClampNeg).toInt64 <<< ((32 : Int32).toInt64 &&& 63)) ||| ((AI h 0 (nI i + 2).toNatClampNeg).toInt64 &&& (4294967295 : Int64)))] w p) {Q : Option Value → AH → Prop} (nx : ∀ h', LI Ls (j + 1) h' p.2 → Wp (d + 1) 204 18 [.ref 0, .ref 2, .ref 23, .int (nI i + 5)] [] h' Q) : inR h 0 (nI i + 1) = true ∧ inR h 0 (nI i + 2) = true ∧ (Cl d m1 [.ref 2, .long (((AI h 0 (nI i + 1).toNatClampNeg).toInt64 <<< ((32 : Int32).toInt64 &&& 63)) ||| ((AI h 0 (nI i + 2).toNatClampNeg).toInt64 &&& (4294967295 : Int64)))] h (fun r h8 => ∃ x10 : Int32, r = some (.int x10) ∧ Sh h8 ∧ ((AK h8 0).1 = 20 ∧ inR h8 0 (nI i + 1) = true ∧ inR h8 0 (nI i + 2) = true ∧ (Cl d m2 [.ref 23, .long (((AI h8 0 (nI i + 1).toNatClampNeg).toInt64 <<< ((32 : Int32).toInt64 &&& 63)) ||| ((AI h8 0 (nI i + 2).toNatClampNeg).toInt64 &&& (4294967295 : Int64)))] h8 (fun r h14 => ∃ x16 : Int32, r = some (.int x16) ∧ Sh h14 ∧ ((x10 = x16 → Wp (d + 1) 204 18 [.ref 0, .ref 2, .ref 23, .int (nI i + 5)] [] h14 Q) ∧ (¬ x10 = x16 → Q (some (.int 0)) h14))))))) := by
  obtain ⟨ok, c, r, hk, hn⟩ := I
  refine ⟨by rw [show (1 : Int32) = nI 1 from rfl, nI_add]; exact inR0 hk (by omega) hL, by rw [show (2 : Int32) = nI 2 from rfl, nI_add]; exact inR0 hk (by omega) hL, cf h _ c (fun h8 c8 f8 => ⟨_, rfl, f8.1, by rw [f8.2.1, hk], by rw [show (1 : Int32) = nI 1 from rfl, nI_add]; exact inR0 (f8.2.1.trans hk) (by omega) hL, by rw [show (2 : Int32) = nI 2 from rfl, nI_add]; exact inR0 (f8.2.1.trans hk) (by omega) hL, ?_⟩)⟩
  have e0 : ∀ a, AI h8 0 a = AI h 0 a := fun a => (f8.2.2 0 a (Or.inl (by decide))).1
  simp only [e0]
  refine rf h8 _ (r.frC f8) f8.1 (fun h14 r14 f14 => ⟨_, rfl, f14.Sh f8.1, fun _ => ?_, fun z => absurd rfl z⟩)
  exact nx h14 ⟨g.1, c8.frR f14, r14, by rw [f14.2.2.1, f8.2.1, hk], by have := g.2; omega⟩
theorem lg_self {x : Int64} : lg_cmp x x = 0 := by
  unfold lg_cmp
  simp
def LQ (r : Option Value) (h : AH) : Prop := r = some (.int 1) ∧ AN h ≤ 600002 ∧ AT h ≤ 7302250
theorem LI.mono {Ls j : Nat} {h : AH} {w : WD} (I : LI Ls j h w) : LI Ls (j + 1) h w := by
  obtain ⟨a, b, c, e, f⟩ := I
  exact ⟨a, b, c, e, by omega⟩
theorem LI.end_ {Ls j : Nat} {h : AH} {w : WD} (I : LI Ls j h w) : LQ (some (.int 1)) h := by
  obtain ⟨a, ⟨⟨-, -, -, -, b, c⟩, -⟩, -⟩ := I
  have := a.2.2.2.2.2.1
  exact ⟨rfl, by omega, by omega⟩
theorem w204 {Ls : Nat} (hL : Ls ≤ 2560) : ∀ r j h w, Ls < 5 * (j + r) + 5 → j ≤ 600 → LI Ls j h w → Wp 1000 204 18 [.ref 0, .ref 2, .ref 23, .int (nI (5 * j))] [] h LQ
  | 0, j, h, w, hr, hj, I => by
    refine g204_18 999 _ h I.2.1.Sh LQ ⟨Or.inl (by rw [I.2.2.2.1]), fun _ => I.end_, fun z => absurd ?_ z⟩
    rw [I.2.2.2.1]
    exact (subL hL (by omega)).mpr (by omega)
  | r + 1, j, h, w, hr, hj, I => by
    refine g204_18 999 _ h I.2.1.Sh LQ ⟨Or.inl (by rw [I.2.2.2.1]), fun _ => I.end_, fun z => ?_⟩
    rw [I.2.2.2.1, nI_fold, subL hL (by omega)] at z
    have hi : 5 * j + 5 ≤ Ls := by omega
    have nx : ∀ h' w', LI Ls (j + 1) h' w' → Wp (999 + 1) 204 18 [.ref 0, .ref 2, .ref 23, .int (nI (5 * j) + 5)] [] h' LQ := fun h' w' I' => by
      have := w204 hL r (j + 1) h' w' (by omega) (by omega) I'
      rw [show (5 : Int32) = nI 5 from rfl, nI_add]
      exact this
    refine ⟨by rw [I.2.2.2.1], inR0 I.2.2.2.1 (by omega) hL, ?_⟩
    refine ⟨fun _ => stW hL hi I (ltR_g I.1 _) (fC89 I.1 _) (fR131 I.1 _) (fun h' I' => nx h' _ I'), fun _ => ?_⟩
    refine ⟨fun _ => st0 hL hi I (blR_g I.1) fC90 fR132 (fun h' I' => nx h' _ I'), fun _ => ?_⟩
    refine ⟨fun _ => st0 hL hi I (Gd.same I.1 (p := (nI (ftl w.cd w.L), w)) rfl) (fC91 I.1) (fR136 I.1) (fun h' I' => nx h' _ I'), fun _ => ?_⟩
    refine ⟨fun _ => st0 hL hi I (ntR_g I.1) (fC92 I.1 (by have := I.2.2.2.2; omega)) (fR137 I.1) (fun h' I' => nx h' _ I'), fun _ => ?_⟩
    refine ⟨fun _ => st2 hL hi I (Gd.same I.1 (lnR_w w _ _)) (fC93 I.1 _ _) (fR140 I.1 _ _) (fun h' I' => nx h' _ I'), fun _ => ?_⟩
    refine ⟨fun _ => st0 hL hi I (Gd.same I.1 (stR1_w w)) (fC94 I.1) (fR145 I.1) (fun h' I' => nx h' _ I'), fun _ => ?_⟩
    refine ⟨fun _ => st1 hL hi I (bgnR_ok I.1 _) (fC95 I.1 _) (fR156 I.1 _) (fun h' I' => nx h' _ I'), fun _ => ?_⟩
    refine ⟨fun _ => st1 hL hi I (tkR_ok I.1 _) (fC96 I.1 _) (fR157 I.1 _) (fun h' I' => nx h' _ I'), fun _ => ?_⟩
    refine ⟨fun _ => st0 hL hi I (bkR_ok I.1) (fC97 I.1) (fR158 I.1) (fun h' I' => nx h' _ I'), fun _ => ?_⟩
    refine ⟨fun _ => st1 hL hi I (Gd.same I.1 (whR_w w _)) (fC98 I.1 _) (fR152 I.1 _) (fun h' I' => nx h' _ I'), fun _ => ?_⟩
    refine ⟨fun _ => st1 hL hi I (Gd.same I.1 (byR_w w _)) (fC99 I.1 _) (fR155 I.1 _) (fun h' I' => nx h' _ I'), fun _ => ?_⟩
    refine ⟨fun _ => st1 hL hi I (Gd.same I.1 (anR_w w _)) (fC100 I.1 _) (fR159 I.1 _) (fun h' I' => nx h' _ I'), fun _ => ?_⟩
    refine ⟨fun _ => st0 hL hi I (Gd.same I.1 (loR_w w)) (fC101 I.1) (fR162 I.1) (fun h' I' => nx h' _ I'), fun _ => ?_⟩
    refine ⟨fun _ => st0 hL hi I (Gd.same I.1 (wyR_w w)) (fC102 I.1) (fR164 I.1) (fun h' I' => nx h' _ I'), fun _ => ?_⟩
    refine ⟨fun _ => st1 hL hi I (Gd.same I.1 (ptR_w w _)) (fC103 I.1 _) (fR167 I.1 _) (fun h' I' => nx h' _ I'), fun _ => ?_⟩
    refine ⟨fun _ => st1 hL hi I (mdR_ok I.1 _) (fC104 I.1 (by have := I.2.2.2.2; omega) _) (fR170 I.1 _) (fun h' I' => nx h' _ I'), fun _ => ?_⟩
    refine ⟨fun _ => st1 hL hi I (Gd.same I.1 (boR_w w _)) (fC105 I.1 _) (fR172 I.1 _) (fun h' I' => nx h' _ I'), fun _ => ?_⟩
    refine ⟨fun _ => st2 hL hi I (Gd.same I.1 (lkR_w w _ _)) (fC106 I.1 _ _) (fR178 I.1 _ _) (fun h' I' => nx h' _ I'), fun _ => ?_⟩
    refine ⟨fun _ => st1 hL hi I (plR_g I.1 _) (fC107 I.1 _) (fR179 I.1 _) (fun h' I' => nx h' _ I'), fun _ => ?_⟩
    refine ⟨fun _ => st2 hL hi I (Gd.same I.1 (asR_w w _ _)) (fC108 I.1 _ _) (fR181 I.1 _ _) (fun h' I' => nx h' _ I'), fun _ => ?_⟩
    refine ⟨fun _ => st2 hL hi I (Gd.same I.1 (mvR_w w _ _)) (fC109 I.1 _ _) (fR189 I.1 _ _) (fun h' I' => nx h' _ I'), fun _ => ?_⟩
    refine ⟨fun _ => st4 hL hi I (Gd.same I.1 (gmR_w w _ _ _ _)) (fC110 I.1 _ _ _ _) (fR191 I.1 _ _ _ _) (fun h' I' => nx h' _ I'), fun _ => ?_⟩
    refine ⟨fun _ => st0 hL hi I (imR_g I.1) (fC111 I.1) (fR192 I.1) (fun h' I' => nx h' _ I'), fun _ => ?_⟩
    refine ⟨fun _ => st0 hL hi I (rsR_g I.1) (fC112 I.1) (fR193 I.1 (by have := I.2.2.2.2; omega)) (fun h' I' => nx h' _ I'), fun _ => ?_⟩
    refine ⟨fun _ => st1 hL hi I (Gd.same I.1 (p := (ctA w _, w)) rfl) (fC113 I.1 _) (fR195 I.1 _) (fun h' I' => nx h' _ I'), fun _ => ?_⟩
    refine ⟨fun _ => ?_, fun _ => nx h w I.mono⟩
    obtain ⟨ok, c, r', hk, hn⟩ := I
    refine fC114 (d := 939) ok c (fun h1 c1 f1 => ⟨_, rfl, f1.1, ?_⟩)
    refine fR198 (d := 939) ok (r'.frC f1) f1.1 (fun h2 r2 f2 => ⟨_, rfl, f2.Sh f1.1, fun _ => ?_, fun z => absurd lg_self z⟩)
    exact nx h2 w ⟨ok, c1.frR f2, r2, by rw [f2.2.2.1, f1.2.1, hk], by omega⟩
