/-! one step -/
theorem nx_inv {q : Nat} {L S : List Value} {h : AH} {pc' : Nat} {L' S' : List Value} {h' : AH} (e : nx q L S h = some (.inl (pc', L', S', h'))) : pc' = q ∧ L' = L ∧ S' = S ∧ h' = h := by
  unfold nx at e
  injection e with e
  injection e with e
  injection e with e1 e
  injection e with e2 e
  injection e with e3 e4
  exact ⟨e1.symm, e2.symm, e3.symm, e4.symm⟩
theorem bin_inv {S : List Value} {q : Nat} {L : List Value} {h : AH} {f : Int32 → Int32 → Int32} {pc' : Nat} {L' S' : List Value} {h' : AH} (e : bin S q L h f = some (.inl (pc', L', S', h'))) : ∃ x y S1, S = .int y :: .int x :: S1 ∧ pc' = q ∧ L' = L ∧ S' = .int (f x y) :: S1 ∧ h' = h := by
  unfold bin at e
  split at e
  · exact ⟨_, _, _, rfl, nx_inv e⟩
  · cases e
theorem binL_inv {S : List Value} {q : Nat} {L : List Value} {h : AH} {f : Int64 → Int64 → Int64} {pc' : Nat} {L' S' : List Value} {h' : AH} (e : binL S q L h f = some (.inl (pc', L', S', h'))) : ∃ x y S1, S = .long y :: .long x :: S1 ∧ pc' = q ∧ L' = L ∧ S' = .long (f x y) :: S1 ∧ h' = h := by
  unfold binL at e
  split at e
  · exact ⟨_, _, _, rfl, nx_inv e⟩
  · cases e
theorem shL_inv {S : List Value} {q : Nat} {L : List Value} {h : AH} {f : Int64 → Int32 → Int64} {pc' : Nat} {L' S' : List Value} {h' : AH} (e : shL S q L h f = some (.inl (pc', L', S', h'))) : ∃ x y S1, S = .int y :: .long x :: S1 ∧ pc' = q ∧ L' = L ∧ S' = .long (f x y) :: S1 ∧ h' = h := by
  unfold shL at e
  split at e
  · exact ⟨_, _, _, rfl, nx_inv e⟩
  · cases e
theorem un1_inv {S : List Value} {q : Nat} {L : List Value} {h : AH} {f : Int32 → Value} {pc' : Nat} {L' S' : List Value} {h' : AH} (e : un1 S q L h f = some (.inl (pc', L', S', h'))) : ∃ x S1, S = .int x :: S1 ∧ pc' = q ∧ L' = L ∧ S' = f x :: S1 ∧ h' = h := by
  unfold un1 at e
  split at e
  · exact ⟨_, _, rfl, nx_inv e⟩
  · cases e
theorem brI_inv {S : List Value} {L : List Value} {h : AH} {f : Int32 → Nat} {pc' : Nat} {L' S' : List Value} {h' : AH} (e : brI S L h f = some (.inl (pc', L', S', h'))) : ∃ x S1, S = .int x :: S1 ∧ pc' = f x ∧ L' = L ∧ S' = S1 ∧ h' = h := by
  unfold brI at e
  split at e
  · exact ⟨_, _, rfl, nx_inv e⟩
  · cases e
theorem brII_inv {S : List Value} {L : List Value} {h : AH} {f : Int32 → Int32 → Nat} {pc' : Nat} {L' S' : List Value} {h' : AH} (e : brII S L h f = some (.inl (pc', L', S', h'))) : ∃ x y S1, S = .int y :: .int x :: S1 ∧ pc' = f x y ∧ L' = L ∧ S' = S1 ∧ h' = h := by
  unfold brII at e
  split at e
  · exact ⟨_, _, _, rfl, nx_inv e⟩
  · cases e
theorem mmx_inv {S : List Value} {q : Nat} {L : List Value} {h : AH} {f : Int32 → Int32 → Int32} {pc' : Nat} {L' S' : List Value} {h' : AH} (e : mmx S q L h f = some (.inl (pc', L', S', h'))) : ∃ x y S1, S = .int y :: .int x :: S1 ∧ pc' = q ∧ L' = L ∧ S' = .int (f x y) :: S1 ∧ h' = h ∧ catOK S1 = true := by
  unfold mmx at e
  split at e
  · split at e
    · obtain ⟨a, b, c, d⟩ := nx_inv e
      exact ⟨_, _, _, rfl, a, b, c, d, ‹_›⟩
    · cases e
  · cases e
theorem cal_no {j : Nat} {a r : List Value} {q : St} (e : cal j a r = some (.inl q)) : False := by
  unfold cal at e
  split at e <;> cases e
theorem retI_no {k : Nat} {S : List Value} {q : St} (e : retI k S = some (.inl q)) : False := by
  unfold retI at e
  split at e
  · split at e
    · cases e
    · split at e <;> cases e
    · cases e
  · cases e
theorem catOK_le {l : List Value} (h : catOK l = true) : (l.map fun v => v.category).sum ≤ 8 := Nat.le_of_ble_eq_true h
theorem any_ld {own idx : Nat} {v : Int32} (h : ldT.any (fun q => Nat.beq q.2.1 own && Nat.beq q.2.2.1 idx && decide (q.2.2.2 = v)) = true) : (Jvm.Cond.constant (rcl own) idx v) ∈ tblG := by
  obtain ⟨q, hq, h⟩ := List.any_eq_true.mp h
  simp only [Bool.and_eq_true, decide_eq_true_eq] at h
  obtain ⟨⟨h1, h2⟩, h3⟩ := h
  have hf := List.all_eq_true.mp ldT_ok q hq
  unfold ldChk at hf
  rw [beqE h1, beqE h2, h3] at hf
  exact tAt_in hf
theorem any_ld2 {own idx : Nat} {v : Int64} (h : ldT2.any (fun q => Nat.beq q.2.1 own && Nat.beq q.2.2.1 idx && decide (q.2.2.2 = v)) = true) : (Jvm.Cond.constantLong (rcl own) idx v) ∈ tblG := by
  obtain ⟨q, hq, h⟩ := List.any_eq_true.mp h
  simp only [Bool.and_eq_true, decide_eq_true_eq] at h
  obtain ⟨⟨h1, h2⟩, h3⟩ := h
  have hf := List.all_eq_true.mp ldT2_ok q hq
  unfold ldChk2 at hf
  rw [beqE h1, beqE h2, h3] at hf
  exact tAt_in hf
theorem tsw_spec (x : Int32) (T : Nat → Nat) (d lo : Nat) : ∀ (n a : Nat), lo + a + n < 2147483648 → tsw x ((List.range n).map (fun t => (lo + a + t, T (a + t)))) d = if (lo + a : Int) ≤ x.toInt ∧ x.toInt < (lo + a + n : Int) then T (x.toInt - lo).toNat else d
  | 0, a, _ => by
    rw [if_neg (by omega)]
    rfl
  | n + 1, a, h => by
    rw [List.range_succ_eq_map, List.map_cons, List.map_map]
    have e : (fun t => (lo + a + t, T (a + t))) ∘ Nat.succ = fun t => (lo + (a + 1) + t, T (a + 1 + t)) := by
      funext t
      simp only [Function.comp, Nat.succ_eq_add_one]
      rw [show lo + a + (t + 1) = lo + (a + 1) + t by omega, show a + (t + 1) = a + 1 + t by omega]
    rw [e]
    unfold tsw
    rw [tsw_spec x T d lo n (a + 1) (by omega)]
    have hv : (Int32.ofNat (lo + a + 0)).toInt = (lo + a : Int) := by
      have e9 := nI_toInt (n := lo + a + 0) (by omega)
      show (nI (lo + a + 0)).toInt = _
      rw [e9]
      omega
    by_cases hx : x = Int32.ofNat (lo + a + 0)
    · rw [if_pos hx]
      have : x.toInt = (lo + a : Int) := by rw [hx, hv]
      rw [if_pos ⟨by omega, by omega⟩, show (x.toInt - (lo : Int)).toNat = a + 0 by omega]
    · rw [if_neg hx]
      have hne : x.toInt ≠ (lo + a : Int) := fun z => hx (Int32.toInt_inj.mp (by rw [hv]; exact z))
      by_cases h1 : ((lo : Int) + ((a + 1 : Nat) : Int)) ≤ x.toInt ∧ x.toInt < (lo + ((a + 1 : Nat) : Int) + n : Int)
      · rw [if_pos h1, if_pos ⟨by omega, by omega⟩]
      · rw [if_neg h1, if_neg (by omega)]
theorem up1_at {α : Type} (f : Nat → α) (n : Nat) (x : α) : up1 f n x n = x := if_pos rfl
theorem in_int : (Jvm.Cond.arrayClass .int) ∈ tblG := tAt_in arr_int
theorem in_long : (Jvm.Cond.arrayClass .long) ∈ tblG := tAt_in arr_long
section STEP
variable {p : Program} {l : Launch} {e : Env} {R : Room} {s : State} {m : MethodId} {args : Array Value} {below : List Frame} {meth : Method} {c : Code} {H : Heap} {locs : List Loc} {cells slots : Nat} {Q : State → Prop} {pc : Nat} {ls : Array Slot} {rest : List Value}
variable {g : Nat × Nat × Nat} {Ls : Nat} {xs : Nat → Int32} {D : va_G} {cA : Nat → ClassId} {h : AH} {k i : Nat}
set_option maxHeartbeats 8000000 in
theorem stepW {op : OpE} {L S : List Value} {pc' : Nat} {L' S' : List Value} {h' : AH} (C : Cx p s m args meth c k g Ls xs D cA) (hk : k < 205) (hop : opAt k pc = some op) (ha : act k pc op L S h = some (.inl (pc', L', S', h'))) (hR : Rel g Ls xs D cA s.heap h H locs) (hl : LH g ls (mMax k) L) (hfr : 1 ≤ R.frames) (hlo : 60 ≤ R.locals) (hc : cells + (AN h' - AN h) ≤ R.cells) (hs : slots + (AT h' - AT h) ≤ R.slots)
    (kk : ∀ (H1 : Heap) (locs1 : List Loc) (ls1 : Array Slot), Rel g Ls xs D cA s.heap h' H1 locs1 → LH g ls1 (mMax k) L' → W p l e R s m args below meth c H1 locs1 (cells + (AN h' - AN h)) (slots + (AT h' - AT h)) Q (F0 m pc' ls1 (S'.map (rv g)))) : W p l e R s m args below meth c H locs cells slots Q (F0 m pc ls (S.map (rv g))) := by
  obtain ⟨hd, hck⟩ := op_ok hk hop
  obtain ⟨len, ins, vi, vl, b, c2, lst⟩ := op
  obtain ⟨hx, hb, hml, hown, hts, hnm, hret, hlk, hW⟩ := id C
  have K1 : ∀ {pc2 : Nat} {S2 : List Value}, pc' = pc2 → L' = L → S' = S2 → h' = h → W p l e R s m args below meth c H locs cells slots Q (F0 m pc2 ls (S2.map (rv g))) := by
    rintro _ _ rfl rfl rfl rfl
    have := kk H locs ls hR hl
    simpa only [Nat.sub_self, Nat.add_zero] using this
  have K2 : ∀ {pc2 : Nat} {S2 L2 : List Value} (ls1 : Array Slot), pc' = pc2 → L' = L2 → S' = S2 → h' = h → LH g ls1 (mMax k) L2 → W p l e R s m args below meth c H locs cells slots Q (F0 m pc2 ls1 (S2.map (rv g))) := by
    rintro _ _ _ ls1 rfl rfl rfl rfl hl1
    have := kk H locs ls1 hR hl1
    simpa only [Nat.sub_self, Nat.add_zero] using this
  have K3 : ∀ {pc2 : Nat} {S2 : List Value} (H1 : Heap) (locs1 : List Loc), pc' = pc2 → L' = L → S' = S2 → AN h' = AN h → AT h' = AT h → Rel g Ls xs D cA s.heap h' H1 locs1 → W p l e R s m args below meth c H1 locs1 cells slots Q (F0 m pc2 ls (S2.map (rv g))) := by
    rintro _ _ H1 locs1 rfl rfl rfl e1 e2 hR1
    have := kk H1 locs1 ls hR1 hl
    simpa only [e1, e2, Nat.sub_self, Nat.add_zero] using this
  have K4 : ∀ {pc2 : Nat} {S2 : List Value} {n : Nat} {kd : Nat} (H1 : Heap) (locs1 : List Loc), pc' = pc2 → L' = L → S' = S2 → h' = newO h kd n → Rel g Ls xs D cA s.heap (newO h kd n) H1 locs1 → W p l e R s m args below meth c H1 locs1 (cells + 1) (slots + n) Q (F0 m pc2 ls (S2.map (rv g))) := by
    rintro _ _ n kd H1 locs1 rfl rfl rfl rfl hR1
    have := kk H1 locs1 ls hR1 hl
    have e1 : AN (newO h kd n) - AN h = 1 := by
      show AN h + 1 - AN h = 1
      omega
    have e2 : AT (newO h kd n) - AT h = n := by
      show AT h + n - AT h = n
      omega
    rw [e1, e2] at this
    exact this
  have N4 : ∀ {n kd : Nat}, h' = newO h kd n → cells + 1 ≤ R.cells ∧ slots + n ≤ R.slots := by
    rintro n kd rfl
    have e1 : AN (newO h kd n) - AN h = 1 := by
      show AN h + 1 - AN h = 1
      omega
    have e2 : AT (newO h kd n) - AT h = n := by
      show AT h + n - AT h = n
      omega
    rw [e1] at hc
    rw [e2] at hs
    exact ⟨hc, hs⟩
  unfold chk at hck
  unfold act at ha
  cases ins
  case bipush n =>
    dsimp only at ha hck hd
    rw [Bool.and_eq_true, decide_eq_true_eq] at hck
    have hlen := beqE hck.2
    subst hlen
    obtain ⟨e1, e2, e3, e4⟩ := nx_inv ha
    exact lv_bipush hx hb hd hck.1 (K1 e1 e2 e3 e4)
  case sipush n =>
    dsimp only at ha hck hd
    rw [Bool.and_eq_true, decide_eq_true_eq] at hck
    have hlen := beqE hck.2
    subst hlen
    obtain ⟨e1, e2, e3, e4⟩ := nx_inv ha
    exact lv_sipush hx hb hd hck.1 (K1 e1 e2 e3 e4)
  case iconst n =>
    dsimp only at ha hck hd
    rw [Bool.and_eq_true, decide_eq_true_eq] at hck
    have hlen := beqE hck.2
    subst hlen
    obtain ⟨e1, e2, e3, e4⟩ := nx_inv ha
    exact lv_iconst hx hb hd hck.1 (K1 e1 e2 e3 e4)
  case lconst n =>
    dsimp only at ha hck hd
    rw [Bool.and_eq_true, decide_eq_true_eq] at hck
    have hlen := beqE hck.1
    subst hlen
    obtain ⟨e1, e2, e3, e4⟩ := nx_inv ha
    exact lv_lconst hx hb hd hck.2 (K1 e1 e2 e3 e4)
  case ldc n =>
    dsimp only at ha hck hd
    rw [Bool.and_eq_true] at hck
    have hlen := beqE hck.1
    subst hlen
    obtain ⟨e1, e2, e3, e4⟩ := nx_inv ha
    exact lv_ldc hx hb hown (hts _ (any_ld hck.2)) hd (K1 e1 e2 e3 e4)
  case ldc_w n =>
    dsimp only at ha hck hd
    rw [Bool.and_eq_true] at hck
    have hlen := beqE hck.1
    subst hlen
    obtain ⟨e1, e2, e3, e4⟩ := nx_inv ha
    exact lv_ldcw hx hb hown (hts _ (any_ld hck.2)) hd (K1 e1 e2 e3 e4)
  case ldc2_w n =>
    dsimp only at ha hck hd
    rw [Bool.and_eq_true] at hck
    have hlen := beqE hck.1
    subst hlen
    obtain ⟨e1, e2, e3, e4⟩ := nx_inv ha
    exact lv_ldc2 hx hb hown (hts _ (any_ld2 hck.2)) hd (K1 e1 e2 e3 e4)
  case aconst_null =>
    dsimp only at ha hck hd
    have hlen := beqE hck
    subst hlen
    obtain ⟨e1, e2, e3, e4⟩ := nx_inv ha
    exact lv_null hx hb hd (K1 e1 e2 e3 e4)
  case iload i =>
    dsimp only at ha hck hd
    have hlen := beqE hck
    subst hlen
    unfold loI at ha
    split at ha
    · rename_i x hx2
      obtain ⟨e1, e2, e3, e4⟩ := nx_inv ha
      exact lv_iload hx hb hd (hl.at hx2 (fun q z => by cases z)) (K1 e1 e2 e3 e4)
    · cases ha
  case iload_n i =>
    dsimp only at ha hck hd
    have hlen := beqE hck
    subst hlen
    unfold loI at ha
    split at ha
    · rename_i x hx2
      obtain ⟨e1, e2, e3, e4⟩ := nx_inv ha
      exact lv_iload_n hx hb hd rfl (hl.at hx2 (fun q z => by cases z)) (K1 e1 e2 e3 e4)
    · cases ha
  case lload i =>
    dsimp only at ha hck hd
    have hlen := beqE hck
    subst hlen
    unfold loL at ha
    split at ha
    · rename_i x hx2
      obtain ⟨e1, e2, e3, e4⟩ := nx_inv ha
      exact lv_lload hx hb hd (hl.at hx2 (fun q z => by cases z)) (K1 e1 e2 e3 e4)
    · cases ha
  case lload_n i =>
    dsimp only at ha hck hd
    have hlen := beqE hck
    subst hlen
    unfold loL at ha
    split at ha
    · rename_i x hx2
      obtain ⟨e1, e2, e3, e4⟩ := nx_inv ha
      exact lv_lload_n hx hb hd rfl (hl.at hx2 (fun q z => by cases z)) (K1 e1 e2 e3 e4)
    · cases ha
  case aload i =>
    dsimp only at ha hck hd
    have hlen := beqE hck
    subst hlen
    unfold loA at ha
    split at ha
    · rename_i x hx2
      obtain ⟨e1, e2, e3, e4⟩ := nx_inv ha
      exact lv_aload hx hb hd (hl.at hx2 (fun q z => by cases z)) (K1 e1 e2 e3 e4)
    · rename_i hx2
      obtain ⟨e1, e2, e3, e4⟩ := nx_inv ha
      exact lv_aloadN hx hb hd (hl.at hx2 (fun q z => by cases z)) (K1 e1 e2 e3 e4)
    · cases ha
  case aload_n i =>
    dsimp only at ha hck hd
    have hlen := beqE hck
    subst hlen
    unfold loA at ha
    split at ha
    · rename_i x hx2
      obtain ⟨e1, e2, e3, e4⟩ := nx_inv ha
      exact lv_aload_n hx hb hd rfl (hl.at hx2 (fun q z => by cases z)) (K1 e1 e2 e3 e4)
    · rename_i hx2
      obtain ⟨e1, e2, e3, e4⟩ := nx_inv ha
      exact lv_aload_nN hx hb hd rfl (hl.at hx2 (fun q z => by cases z)) (K1 e1 e2 e3 e4)
    · cases ha
  case istore i =>
    dsimp only at ha hck hd
    have hlen := beqE hck
    subst hlen
    unfold soI at ha
    split at ha
    · split at ha
      · rename_i hlt
        have hlt2 := Nat.le_of_ble_eq_true hlt
        obtain ⟨e1, e2, e3, e4⟩ := nx_inv ha
        exact lv_istore hx hb hd hl.has (by rw [← hl.2.2.1]; exact hlt2) rfl (fun ls1 h1 => K2 ls1 e1 e2 e3 e4 (hl.put1 h1))
      · cases ha
    · cases ha
  case istore_n i =>
    dsimp only at ha hck hd
    have hlen := beqE hck
    subst hlen
    unfold soI at ha
    split at ha
    · split at ha
      · rename_i hlt
        have hlt2 := Nat.le_of_ble_eq_true hlt
        obtain ⟨e1, e2, e3, e4⟩ := nx_inv ha
        exact lv_istore_n hx hb hd rfl hl.has (by rw [← hl.2.2.1]; exact hlt2) rfl (fun ls1 h1 => K2 ls1 e1 e2 e3 e4 (hl.put1 h1))
      · cases ha
    · cases ha
  case lstore i =>
    dsimp only at ha hck hd
    have hlen := beqE hck
    subst hlen
    unfold soL at ha
    split at ha
    · split at ha
      · rename_i hlt
        have hlt2 := Nat.le_of_ble_eq_true hlt
        obtain ⟨e1, e2, e3, e4⟩ := nx_inv ha
        exact lv_lstore hx hb hd hl.has (by rw [← hl.2.2.1]; exact hlt2) rfl (fun ls1 h1 => K2 ls1 e1 e2 e3 e4 (hl.put2 h1))
      · cases ha
    · cases ha
  case lstore_n i =>
    dsimp only at ha hck hd
    have hlen := beqE hck
    subst hlen
    unfold soL at ha
    split at ha
    · split at ha
      · rename_i hlt
        have hlt2 := Nat.le_of_ble_eq_true hlt
        obtain ⟨e1, e2, e3, e4⟩ := nx_inv ha
        exact lv_lstore_n hx hb hd rfl hl.has (by rw [← hl.2.2.1]; exact hlt2) rfl (fun ls1 h1 => K2 ls1 e1 e2 e3 e4 (hl.put2 h1))
      · cases ha
    · cases ha
  case astore i =>
    dsimp only at ha hck hd
    have hlen := beqE hck
    subst hlen
    unfold soA at ha
    split at ha
    · split at ha
      · rename_i hlt
        have hlt2 := Nat.le_of_ble_eq_true hlt
        obtain ⟨e1, e2, e3, e4⟩ := nx_inv ha
        exact lv_astore hx hb hd hl.has (by rw [← hl.2.2.1]; exact hlt2) rfl (fun ls1 h1 => K2 ls1 e1 e2 e3 e4 (hl.put1 h1))
      · cases ha
    · split at ha
      · rename_i hlt
        have hlt2 := Nat.le_of_ble_eq_true hlt
        obtain ⟨e1, e2, e3, e4⟩ := nx_inv ha
        exact lv_astoreN hx hb hd hl.has (by rw [← hl.2.2.1]; exact hlt2) rfl (fun ls1 h1 => K2 ls1 e1 e2 e3 e4 (hl.put1 h1))
      · cases ha
    · cases ha
  case astore_n i =>
    dsimp only at ha hck hd
    have hlen := beqE hck
    subst hlen
    unfold soA at ha
    split at ha
    · split at ha
      · rename_i hlt
        have hlt2 := Nat.le_of_ble_eq_true hlt
        obtain ⟨e1, e2, e3, e4⟩ := nx_inv ha
        exact lv_astore_n hx hb hd rfl hl.has (by rw [← hl.2.2.1]; exact hlt2) rfl (fun ls1 h1 => K2 ls1 e1 e2 e3 e4 (hl.put1 h1))
      · cases ha
    · split at ha
      · rename_i hlt
        have hlt2 := Nat.le_of_ble_eq_true hlt
        obtain ⟨e1, e2, e3, e4⟩ := nx_inv ha
        exact lv_astore_nN hx hb hd rfl hl.has (by rw [← hl.2.2.1]; exact hlt2) rfl (fun ls1 h1 => K2 ls1 e1 e2 e3 e4 (hl.put1 h1))
      · cases ha
    · cases ha
  case iinc i n =>
    dsimp only at ha hck hd
    simp only [Bool.and_eq_true, decide_eq_true_eq] at hck
    have hlen := beqE hck.1.1
    have hi := beqE hck.1.2
    subst hlen hi
    split at ha
    · rename_i x hx2
      obtain ⟨e1, e2, e3, e4⟩ := nx_inv ha
      have hin := asc_in (g := g) hx2 (fun q z => by cases z)
      obtain ⟨kx, hkx⟩ := List.getElem?_of_mem hin
      refine lv_iinc (v := x + vi) hx hb hd hl.has hkx (by rw [hck.2]) (by rw [← hl.2.2.1]; exact (List.getElem?_eq_some_iff.mp hx2).1) rfl (fun ls1 h1 => K2 ls1 e1 e2 e3 e4 (hl.put1 h1))
    · cases ha
  case iadd =>
    dsimp only at ha hck hd
    have hlen := beqE hck
    subst hlen
    obtain ⟨x, y, S1, rfl, e1, e2, e3, e4⟩ := bin_inv ha
    exact lv_iadd hx hb hd (K1 e1 e2 e3 e4)
  case isub =>
    dsimp only at ha hck hd
    have hlen := beqE hck
    subst hlen
    obtain ⟨x, y, S1, rfl, e1, e2, e3, e4⟩ := bin_inv ha
    exact lv_isub hx hb hd (K1 e1 e2 e3 e4)
  case imul =>
    dsimp only at ha hck hd
    have hlen := beqE hck
    subst hlen
    obtain ⟨x, y, S1, rfl, e1, e2, e3, e4⟩ := bin_inv ha
    exact lv_imul hx hb hd (K1 e1 e2 e3 e4)
  case iand =>
    dsimp only at ha hck hd
    have hlen := beqE hck
    subst hlen
    obtain ⟨x, y, S1, rfl, e1, e2, e3, e4⟩ := bin_inv ha
    exact lv_iand hx hb hd (K1 e1 e2 e3 e4)
  case ior =>
    dsimp only at ha hck hd
    have hlen := beqE hck
    subst hlen
    obtain ⟨x, y, S1, rfl, e1, e2, e3, e4⟩ := bin_inv ha
    exact lv_ior hx hb hd (K1 e1 e2 e3 e4)
  case ixor =>
    dsimp only at ha hck hd
    have hlen := beqE hck
    subst hlen
    obtain ⟨x, y, S1, rfl, e1, e2, e3, e4⟩ := bin_inv ha
    exact lv_ixor hx hb hd (K1 e1 e2 e3 e4)
  case ishl =>
    dsimp only at ha hck hd
    have hlen := beqE hck
    subst hlen
    obtain ⟨x, y, S1, rfl, e1, e2, e3, e4⟩ := bin_inv ha
    exact lv_ishl hx hb hd (K1 e1 e2 e3 e4)
  case ishr =>
    dsimp only at ha hck hd
    have hlen := beqE hck
    subst hlen
    obtain ⟨x, y, S1, rfl, e1, e2, e3, e4⟩ := bin_inv ha
    exact lv_ishr hx hb hd (K1 e1 e2 e3 e4)
  case iushr =>
    dsimp only at ha hck hd
    have hlen := beqE hck
    subst hlen
    obtain ⟨x, y, S1, rfl, e1, e2, e3, e4⟩ := bin_inv ha
    exact lv_iushr hx hb hd rfl (K1 e1 e2 e3 e4)
  case ladd =>
    dsimp only at ha hck hd
    have hlen := beqE hck
    subst hlen
    obtain ⟨x, y, S1, rfl, e1, e2, e3, e4⟩ := binL_inv ha
    exact lv_ladd hx hb hd (K1 e1 e2 e3 e4)
  case lmul =>
    dsimp only at ha hck hd
    have hlen := beqE hck
    subst hlen
    obtain ⟨x, y, S1, rfl, e1, e2, e3, e4⟩ := binL_inv ha
    exact lv_lmul hx hb hd (K1 e1 e2 e3 e4)
  case land =>
    dsimp only at ha hck hd
    have hlen := beqE hck
    subst hlen
    obtain ⟨x, y, S1, rfl, e1, e2, e3, e4⟩ := binL_inv ha
    exact lv_land hx hb hd (K1 e1 e2 e3 e4)
  case lor =>
    dsimp only at ha hck hd
    have hlen := beqE hck
    subst hlen
    obtain ⟨x, y, S1, rfl, e1, e2, e3, e4⟩ := binL_inv ha
    exact lv_lor hx hb hd (K1 e1 e2 e3 e4)
  case lshl =>
    dsimp only at ha hck hd
    have hlen := beqE hck
    subst hlen
    obtain ⟨x, y, S1, rfl, e1, e2, e3, e4⟩ := shL_inv ha
    exact lv_lshl hx hb hd rfl (K1 e1 e2 e3 e4)
  case lshr =>
    dsimp only at ha hck hd
    have hlen := beqE hck
    subst hlen
    obtain ⟨x, y, S1, rfl, e1, e2, e3, e4⟩ := shL_inv ha
    exact lv_lshr hx hb hd rfl (K1 e1 e2 e3 e4)
  case lushr =>
    dsimp only at ha hck hd
    have hlen := beqE hck
    subst hlen
    obtain ⟨x, y, S1, rfl, e1, e2, e3, e4⟩ := shL_inv ha
    exact lv_lushr hx hb hd rfl (K1 e1 e2 e3 e4)
  case idiv =>
    dsimp only at ha hck hd
    have hlen := beqE hck
    subst hlen
    split at ha
    · split at ha
      · cases ha
      · rename_i hne
        obtain ⟨e1, e2, e3, e4⟩ := nx_inv ha
        exact lv_idiv hx hb hd hne (K1 e1 e2 e3 e4)
    · cases ha
  case irem =>
    dsimp only at ha hck hd
    have hlen := beqE hck
    subst hlen
    split at ha
    · split at ha
      · cases ha
      · rename_i hne
        obtain ⟨e1, e2, e3, e4⟩ := nx_inv ha
        exact lv_irem hx hb hd hne (K1 e1 e2 e3 e4)
    · cases ha
  case ldiv =>
    dsimp only at ha hck hd
    have hlen := beqE hck
    subst hlen
    split at ha
    · split at ha
      · cases ha
      · rename_i hne
        obtain ⟨e1, e2, e3, e4⟩ := nx_inv ha
        exact lv_ldiv hx hb hd hne (K1 e1 e2 e3 e4)
    · cases ha
  case lrem =>
    dsimp only at ha hck hd
    have hlen := beqE hck
    subst hlen
    split at ha
    · split at ha
      · cases ha
      · rename_i hne
        obtain ⟨e1, e2, e3, e4⟩ := nx_inv ha
        exact lv_lrem hx hb hd hne (K1 e1 e2 e3 e4)
    · cases ha
  case lcmp =>
    dsimp only at ha hck hd
    have hlen := beqE hck
    subst hlen
    split at ha
    · obtain ⟨e1, e2, e3, e4⟩ := nx_inv ha
      exact W.lcmp hx hb hd (K1 e1 e2 e3 e4)
    · cases ha
  case i2l =>
    dsimp only at ha hck hd
    have hlen := beqE hck
    subst hlen
    obtain ⟨x, S1, rfl, e1, e2, e3, e4⟩ := un1_inv ha
    exact lv_i2l hx hb hd rfl (K1 e1 e2 e3 e4)
  case i2b =>
    dsimp only at ha hck hd
    have hlen := beqE hck
    subst hlen
    obtain ⟨x, S1, rfl, e1, e2, e3, e4⟩ := un1_inv ha
    exact lv_i2b hx hb hd rfl (K1 e1 e2 e3 e4)
  case l2i =>
    dsimp only at ha hck hd
    have hlen := beqE hck
    subst hlen
    split at ha
    · obtain ⟨e1, e2, e3, e4⟩ := nx_inv ha
      exact lv_l2i hx hb hd rfl (K1 e1 e2 e3 e4)
    · cases ha
  case dup =>
    dsimp only at ha hck hd
    have hlen := beqE hck
    subst hlen
    split at ha
    · obtain ⟨e1, e2, e3, e4⟩ := nx_inv ha
      exact lv_dup hx hb hd rfl (K1 e1 e2 e3 e4)
    · obtain ⟨e1, e2, e3, e4⟩ := nx_inv ha
      exact lv_dup hx hb hd rfl (K1 e1 e2 e3 e4)
    · cases ha
  case ifCond cn off =>
    dsimp only at hck hd
    rw [Bool.and_eq_true, decide_eq_true_eq] at hck
    have hlen := beqE hck.1
    subst hlen
    cases cn <;> dsimp only at ha
    case eq =>
      obtain ⟨x, S1, rfl, e1, e2, e3, e4⟩ := brI_inv ha
      refine lv_if_eq (tgt := b) hx hb hd hck.2 (fun z => ?_) (fun z => ?_)
      · rw [if_pos z] at e1
        exact K1 e1 e2 e3 e4
      · rw [if_neg z] at e1
        exact K1 e1 e2 e3 e4
    case ne =>
      obtain ⟨x, S1, rfl, e1, e2, e3, e4⟩ := brI_inv ha
      refine lv_if_ne (tgt := b) hx hb hd hck.2 (fun z => ?_) (fun z => ?_)
      · rw [if_neg z] at e1
        exact K1 e1 e2 e3 e4
      · rw [if_pos z] at e1
        exact K1 e1 e2 e3 e4
    case lt =>
      obtain ⟨x, S1, rfl, e1, e2, e3, e4⟩ := brI_inv ha
      refine lv_if_lt (tgt := b) hx hb hd hck.2 (fun z => ?_) (fun z => ?_)
      · rw [if_pos z] at e1
        exact K1 e1 e2 e3 e4
      · rw [if_neg z] at e1
        exact K1 e1 e2 e3 e4
    case ge =>
      obtain ⟨x, S1, rfl, e1, e2, e3, e4⟩ := brI_inv ha
      refine lv_if_ge (tgt := b) hx hb hd hck.2 (fun z => ?_) (fun z => ?_)
      · rw [if_neg (Int32.not_lt.mpr z)] at e1
        exact K1 e1 e2 e3 e4
      · rw [if_pos (Int32.not_le.mp z)] at e1
        exact K1 e1 e2 e3 e4
    case gt =>
      obtain ⟨x, S1, rfl, e1, e2, e3, e4⟩ := brI_inv ha
      refine lv_if_gt (tgt := b) hx hb hd hck.2 (fun z => ?_) (fun z => ?_)
      · rw [if_pos z] at e1
        exact K1 e1 e2 e3 e4
      · rw [if_neg z] at e1
        exact K1 e1 e2 e3 e4
    case le =>
      obtain ⟨x, S1, rfl, e1, e2, e3, e4⟩ := brI_inv ha
      refine lv_if_le (tgt := b) hx hb hd hck.2 (fun z => ?_) (fun z => ?_)
      · rw [if_neg (Int32.not_lt.mpr z)] at e1
        exact K1 e1 e2 e3 e4
      · rw [if_pos (Int32.not_le.mp z)] at e1
        exact K1 e1 e2 e3 e4
  case if_icmp cn off =>
    dsimp only at hck hd
    rw [Bool.and_eq_true, decide_eq_true_eq] at hck
    have hlen := beqE hck.1
    subst hlen
    cases cn <;> dsimp only at ha
    case eq =>
      obtain ⟨x, y, S1, rfl, e1, e2, e3, e4⟩ := brII_inv ha
      refine lv_icmp_eq (tgt := b) hx hb hd hck.2 (fun z => ?_) (fun z => ?_)
      · rw [if_pos z] at e1
        exact K1 e1 e2 e3 e4
      · rw [if_neg z] at e1
        exact K1 e1 e2 e3 e4
    case ne =>
      obtain ⟨x, y, S1, rfl, e1, e2, e3, e4⟩ := brII_inv ha
      refine lv_icmp_ne (tgt := b) hx hb hd hck.2 (fun z => ?_) (fun z => ?_)
      · rw [if_neg z] at e1
        exact K1 e1 e2 e3 e4
      · rw [if_pos z] at e1
        exact K1 e1 e2 e3 e4
    case lt =>
      obtain ⟨x, y, S1, rfl, e1, e2, e3, e4⟩ := brII_inv ha
      refine lv_icmp_lt (tgt := b) hx hb hd hck.2 (fun z => ?_) (fun z => ?_)
      · rw [if_pos z] at e1
        exact K1 e1 e2 e3 e4
      · rw [if_neg z] at e1
        exact K1 e1 e2 e3 e4
    case ge =>
      obtain ⟨x, y, S1, rfl, e1, e2, e3, e4⟩ := brII_inv ha
      refine lv_icmp_ge (tgt := b) hx hb hd hck.2 (fun z => ?_) (fun z => ?_)
      · rw [if_neg (Int32.not_lt.mpr z)] at e1
        exact K1 e1 e2 e3 e4
      · rw [if_pos (Int32.not_le.mp z)] at e1
        exact K1 e1 e2 e3 e4
    case gt =>
      obtain ⟨x, y, S1, rfl, e1, e2, e3, e4⟩ := brII_inv ha
      refine lv_icmp_gt (tgt := b) hx hb hd hck.2 (fun z => ?_) (fun z => ?_)
      · rw [if_pos z] at e1
        exact K1 e1 e2 e3 e4
      · rw [if_neg z] at e1
        exact K1 e1 e2 e3 e4
    case le =>
      obtain ⟨x, y, S1, rfl, e1, e2, e3, e4⟩ := brII_inv ha
      refine lv_icmp_le (tgt := b) hx hb hd hck.2 (fun z => ?_) (fun z => ?_)
      · rw [if_neg (Int32.not_lt.mpr z)] at e1
        exact K1 e1 e2 e3 e4
      · rw [if_pos (Int32.not_le.mp z)] at e1
        exact K1 e1 e2 e3 e4
  case goto off =>
    dsimp only at ha hck hd
    rw [Bool.and_eq_true, decide_eq_true_eq] at hck
    have hlen := beqE hck.1
    subst hlen
    obtain ⟨e1, e2, e3, e4⟩ := nx_inv ha
    exact lv_goto hx hb hd hck.2 (K1 e1 e2 e3 e4)
  case ifnull off =>
    dsimp only at ha hck hd
    rw [Bool.and_eq_true, decide_eq_true_eq] at hck
    have hlen := beqE hck.1
    subst hlen
    split at ha
    · obtain ⟨e1, e2, e3, e4⟩ := nx_inv ha
      exact lv_ifnullN hx hb hd hck.2 (K1 e1 e2 e3 e4)
    · obtain ⟨e1, e2, e3, e4⟩ := nx_inv ha
      exact lv_ifnull hx hb hd (K1 e1 e2 e3 e4)
    · cases ha
  case ifnonnull off =>
    dsimp only at ha hck hd
    rw [Bool.and_eq_true, decide_eq_true_eq] at hck
    have hlen := beqE hck.1
    subst hlen
    split at ha
    · obtain ⟨e1, e2, e3, e4⟩ := nx_inv ha
      exact lv_ifnonnullN hx hb hd (K1 e1 e2 e3 e4)
    · obtain ⟨e1, e2, e3, e4⟩ := nx_inv ha
      exact lv_ifnonnull hx hb hd hck.2 (K1 e1 e2 e3 e4)
    · cases ha
  case tableswitch dd lo hi offs =>
    dsimp only at ha hck hd
    simp only [Bool.and_eq_true, decide_eq_true_eq] at hck
    obtain ⟨⟨⟨⟨⟨⟨h1, h2⟩, h3⟩, h4⟩, h5⟩, h6⟩, h7⟩ := hck
    obtain ⟨x, S1, rfl, e1, e2, e3, e4⟩ := brI_inv ha
    obtain ⟨lo2, rfl⟩ := Int.eq_ofNat_of_zero_le h2
    have hts2 := tsw_spec x (fun t => ((pc : Int) + offs.getD t 0).toNat) b lo2 (hi - lo2 + 1).toNat 0 (by omega)
    simp only [Nat.add_zero, Nat.zero_add] at hts2
    rw [h4, show ((lo2 : Int)).toNat = lo2 by omega, hts2] at e1
    by_cases hin : (lo2 : Int) ≤ x.toInt ∧ x.toInt ≤ hi
    · rw [if_pos ⟨by omega, by omega⟩] at e1
      have hsz : (x.toInt - (lo2 : Int)).toNat < offs.size := by omega
      have hget : offs[(x.toInt - (lo2 : Int)).toNat]? = some (offs.getD (x.toInt - (lo2 : Int)).toNat 0) := by
        rw [Array.getElem?_eq_getElem hsz, Array.getD_eq_getD_getElem?, Array.getElem?_eq_getElem hsz]
        rfl
      have h8 : 0 ≤ (pc : Int) + offs.getD (x.toInt - (lo2 : Int)).toNat 0 := by
        have hm := Array.mem_of_getElem? hget
        have := Array.all_eq_true'.mp h7 _ hm
        exact of_decide_eq_true this
      exact lv_tableIn hx hb hd (by omega) (by omega) hget (Int.toNat_of_nonneg h8).symm (K1 e1 e2 e3 e4)
    · rw [if_neg (by omega)] at e1
      exact lv_tableOut hx hb hd (by omega) h1 (K1 e1 e2 e3 e4)
  case getfield n =>
    dsimp only at ha hck hd
    rw [Bool.and_eq_true] at hck
    have hlen := beqE hck.1
    subst hlen
    split at ha
    · split at ha
      · rename_i hok
        obtain ⟨e1, e2, e3, e4⟩ := nx_inv ha
        exact getW C hR hck.2 hok hd (K1 e1 e2 e3 e4)
      · cases ha
    · cases ha
  case putfield n =>
    dsimp only at ha hck hd
    simp only [Bool.and_eq_true] at hck
    obtain ⟨⟨h1, h2⟩, h3⟩ := hck
    have hlen := beqE h1
    subst hlen
    split at ha
    · split at ha
      · rename_i hok
        rw [Bool.and_eq_true] at hok
        split at ha
        · rename_i h2' hw
          obtain ⟨e1, e2, e3, e4⟩ := nx_inv ha
          obtain ⟨a1, a2, -⟩ := wrf_spec hw
          subst e4
          exact putW C hR h2 h3 (Nat.le_of_ble_eq_true hok.1) hok.2 hw hd (fun H1 l1 hR1 => K3 H1 l1 e1 e2 e3 a1 a2 hR1)
        · cases ha
      · cases ha
    · cases ha
  case iaload =>
    dsimp only at ha hck hd
    have hlen := beqE hck
    subst hlen
    unfold ald at ha
    split at ha
    · split at ha
      · rename_i hok
        rw [Bool.and_eq_true] at hok
        obtain ⟨e1, e2, e3, e4⟩ := nx_inv ha
        exact ialdW C hR (beqE hok.1) hok.2 hd (K1 e1 e2 e3 e4)
      · cases ha
    · cases ha
  case laload =>
    dsimp only at ha hck hd
    have hlen := beqE hck
    subst hlen
    unfold ald at ha
    split at ha
    · split at ha
      · rename_i hok
        rw [Bool.and_eq_true] at hok
        obtain ⟨e1, e2, e3, e4⟩ := nx_inv ha
        exact laldW C hR (beqE hok.1) hok.2 hd (K1 e1 e2 e3 e4)
      · cases ha
    · cases ha
  case aaload =>
    dsimp only at ha hck hd
    have hlen := beqE hck
    subst hlen
    unfold ald at ha
    split at ha
    · split at ha
      · rename_i hok
        rw [Bool.and_eq_true] at hok
        obtain ⟨e1, e2, e3, e4⟩ := nx_inv ha
        exact aaldW C hR (beqE hok.1) hok.2 hd (K1 e1 e2 e3 e4)
      · cases ha
    · cases ha
  case baload =>
    dsimp only at hck
    cases hck
  case iastore =>
    dsimp only at ha hck hd
    have hlen := beqE hck
    subst hlen
    unfold ast at ha
    split at ha
    · split at ha
      · rename_i v x i S1 hok
        simp only [Bool.and_eq_true] at hok
        cases v <;> dsimp only at ha <;> first | (cases ha; done) | skip
        obtain ⟨e1, e2, e3, e4⟩ := nx_inv ha
        subst e4
        exact iastW C hR (Nat.le_of_ble_eq_true hok.1.1) (beqE hok.1.2) hok.2 hd (fun H1 l1 hR1 => K3 H1 l1 e1 e2 e3 rfl rfl hR1)
      · cases ha
    · cases ha
  case lastore =>
    dsimp only at ha hck hd
    have hlen := beqE hck
    subst hlen
    unfold ast at ha
    split at ha
    · split at ha
      · rename_i v x i S1 hok
        simp only [Bool.and_eq_true] at hok
        cases v <;> dsimp only at ha <;> first | (cases ha; done) | skip
        obtain ⟨e1, e2, e3, e4⟩ := nx_inv ha
        subst e4
        exact lastW C hR (Nat.le_of_ble_eq_true hok.1.1) (beqE hok.1.2) hok.2 hd (fun H1 l1 hR1 => K3 H1 l1 e1 e2 e3 rfl rfl hR1)
      · cases ha
    · cases ha
  case bastore =>
    dsimp only at hck
    cases hck
  case aastore =>
    dsimp only at hck
    cases hck
  case arraylength =>
    dsimp only at ha hck hd
    have hlen := beqE hck
    subst hlen
    split at ha
    · split at ha
      · rename_i hok
        simp only [Bool.or_eq_true] at hok
        obtain ⟨e1, e2, e3, e4⟩ := nx_inv ha
        refine alenW C hR ?_ hd (K1 e1 e2 e3 e4)
        rcases hok with (z | z) | z
        · exact Or.inl (beqE z)
        · exact Or.inr (Or.inl (beqE z))
        · exact Or.inr (Or.inr (beqE z))
      · cases ha
    · cases ha
  case newarray t =>
    dsimp only at ha hck hd
    rw [Bool.and_eq_true] at hck
    have hlen := beqE hck.1
    subst hlen
    unfold newA at ha
    split at ha
    · split at ha
      · rename_i hok
        simp only [Bool.and_eq_true, decide_eq_true_eq] at hok
        obtain ⟨e1, e2, e3, e4⟩ := nx_inv ha
        obtain ⟨n1, n2⟩ := N4 e4
        have hle := Nat.le_of_ble_eq_true hok.2
        have ek : ∀ kd n, AK (newO h kd n) (NX h) = (kd, n) := fun kd n => if_pos rfl
        have eI : ∀ kd n, AI (newO h kd n) (NX h) = fun _ => 0 := fun kd n => if_pos rfl
        have eL : ∀ kd n, AL (newO h kd n) (NX h) = fun _ => 0 := fun kd n => if_pos rfl
        have hck2 := hck.2
        cases t <;> dsimp only at hck2 <;> first | (cases hck2; done) | (have eb := beqE hck2; subst eb)
        · exact newaW (t := 0) (kd := 20) (ty := .int) C hR rfl rfl (fun C z => by cases z) in_int (fun n => by rw [ce_arr (t := 0) (kd := 20) (by rw [ek]) (Or.inl ⟨rfl, rfl⟩), ek, eI]; rfl) rfl (by decide) hok.1 hle hd n1 n2 (fun H1 hR1 => K4 H1 locs e1 e2 e3 e4 hR1)
        · exact newaW (t := 1) (kd := 21) (ty := .long) C hR rfl rfl (fun C z => by cases z) in_long (fun n => by rw [ce_long (by rw [ek]), ek, eL]; rfl) rfl (by decide) hok.1 hle hd n1 n2 (fun H1 hR1 => K4 H1 locs e1 e2 e3 e4 hR1)
      · cases ha
    · cases ha
  case anewarray n =>
    dsimp only at ha hck hd
    simp only [Bool.and_eq_true] at hck
    have hlen := beqE hck.1.1
    have hn := beqE hck.2
    subst hlen hn
    unfold newA at ha
    split at ha
    · split at ha
      · rename_i hok
        simp only [Bool.and_eq_true, decide_eq_true_eq] at hok
        obtain ⟨e1, e2, e3, e4⟩ := nx_inv ha
        obtain ⟨n1, n2⟩ := N4 e4
        exact newqW C hR (beqE hck.1.2) hok.1 (Nat.le_of_ble_eq_true hok.2) hd n1 n2 (fun H1 hR1 => K4 H1 locs e1 e2 e3 e4 hR1)
      · cases ha
    · cases ha
  case new n =>
    dsimp only at ha hck hd
    rw [Bool.and_eq_true] at hck
    have hlen := beqE hck.1
    subst hlen
    obtain ⟨e1, e2, e3, e4⟩ := nx_inv ha
    obtain ⟨n1, n2⟩ := N4 e4
    exact newW C hR hck.2 hd n1 n2 (fun H1 hR1 => K4 H1 locs e1 e2 e3 e4 hR1)
  case instanceof n =>
    dsimp only at hck
    cases hck
  case getstatic n =>
    dsimp only at hck
    cases hck
  case invokevirtual n =>
    dsimp only at ha hck hd
    split at ha
    · split at ha
      · exact (cal_no ha).elim
      · cases ha
    · cases ha
  case invokespecial n =>
    dsimp only at ha hck hd
    rw [Bool.and_eq_true] at hck
    have hlen := beqE hck.1
    subst hlen
    split at ha
    · rename_i i S1 hdrop
      cases hb9 : Nat.beq b 9999 with
      | false =>
        rw [hb9, cond_false] at ha
        exact (cal_no ha).elim
      | true =>
        rw [hb9, cond_true] at ha
        have hck2 := hck.2
        rw [hb9, cond_true, Bool.and_eq_true] at hck2
        have hc0 := beqE hck2.1
        subst hc0
        rw [List.drop_zero] at hdrop
        subst hdrop
        split at ha
        · rename_i hcat
          obtain ⟨e1, e2, e3, e4⟩ := nx_inv ha
          obtain ⟨q, hq, hv⟩ := List.any_eq_true.mp hck2.2
          rw [Bool.and_eq_true] at hv
          have hf2 := List.all_eq_true.mp oT_ok q hq
          unfold oChk at hf2
          rw [beqE hv.1, beqE hv.2] at hf2
          have hcat2 := catOK_le hcat
          have hroom := lv_room (m := m) (pc := pc) (ls := ls) (rest := ([] : List Value)) (st := S1.map (rv g)) (by rw [rv_map_cat]; exact hcat2)
          refine W.objInit hx hb hown (hts _ (tAt_in hf2)) (hts _ (tAt_in oInst_ok)) (hts _ (tAt_in oCode_ok)) rfl (by rw [hml]; exact hl.1) rfl hd hfr ?_ ?_
          · have : (F0 m pc ls (.ref (adr g i) :: S1.map (rv g))).monitorRoom = (F0 m pc ls ([] : List Value)).monitorRoom := rfl
            show 2 * (F0 m pc ls (.ref (adr g i) :: S1.map (rv g))).monitorRoom + _ + 12 ≤ R.locals
            rw [this]
            omega
          · exact W.eq rfl (K1 e1 e2 e3 e4)
        · cases ha
    · cases ha
  case invokestatic n =>
    dsimp only at ha hck hd
    rw [Bool.and_eq_true] at hck
    have hlen := beqE hck.1
    subst hlen
    have hck2 := hck.2
    cases hb9 : Nat.beq b 9001 with
    | true =>
      rw [hb9, cond_true] at hck2
      exact absurd hck2 (by simp [mxT])
    | false =>
      rw [hb9, cond_false] at ha hck2
      cases hb8 : Nat.beq b 9002 with
      | true =>
        rw [hb8, cond_true] at hck2
        exact absurd hck2 (by simp [mnT])
      | false =>
        rw [hb8, cond_false] at ha
        split at ha
        · exact (cal_no ha).elim
        · cases ha
  case ireturn =>
    exact (retI_no ha).elim
  case lreturn =>
    dsimp only at ha hck hd
    split at ha
    · split at ha <;> cases ha
    · cases ha
  case areturn =>
    dsimp only at ha hck hd
    split at ha
    · split at ha <;> cases ha
    · cases ha
  case return_ =>
    dsimp only at ha hck hd
    split at ha <;> cases ha
  all_goals (cases ha)
end STEP
