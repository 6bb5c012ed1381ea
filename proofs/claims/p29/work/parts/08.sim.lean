/-! THE SIMULATION: what the abstract machine does, the machine does -/
theorem newO_mono (h : AH) (kd n : Nat) : AN h ≤ AN (newO h kd n) ∧ AT h ≤ AT (newO h kd n) := ⟨Nat.le_succ _, Nat.le_add_right _ _⟩
theorem act_mono {k pc : Nat} {op : OpE} {L S : List Value} {h : AH} {pc' : Nat} {L' S' : List Value} {h' : AH} (ha : act k pc op L S h = some (.inl (pc', L', S', h'))) : AN h ≤ AN h' ∧ AT h ≤ AT h' := by
  have K : h' = h → AN h ≤ AN h' ∧ AT h ≤ AT h' := by
    rintro rfl
    exact ⟨Nat.le_refl _, Nat.le_refl _⟩
  have N : ∀ {q : Nat} {L S : List Value} {h2 : AH}, nx q L S h2 = some (.inl (pc', L', S', h')) → (AN h ≤ AN h2 ∧ AT h ≤ AT h2) → AN h ≤ AN h' ∧ AT h ≤ AT h' := fun e z => by
    obtain ⟨-, -, -, rfl⟩ := nx_inv e
    exact z
  have Z : AN h ≤ AN h ∧ AT h ≤ AT h := ⟨Nat.le_refl _, Nat.le_refl _⟩
  obtain ⟨len, ins, vi, vl, b, c2, lst⟩ := op
  unfold act at ha
  cases ins
  case ifCond cn off => cases cn <;> (obtain ⟨x, S1, -, -, -, -, e4⟩ := brI_inv ha; exact K e4)
  case if_icmp cn off => cases cn <;> (obtain ⟨x, y, S1, -, -, -, -, e4⟩ := brII_inv ha; exact K e4)
  case tableswitch => obtain ⟨x, S1, -, -, -, -, e4⟩ := brI_inv ha; exact K e4
  case newarray t =>
    dsimp only at ha
    unfold newA at ha
    split at ha
    · split at ha
      · exact N ha (newO_mono _ _ _)
      · cases ha
    · cases ha
  case anewarray t =>
    dsimp only at ha
    unfold newA at ha
    split at ha
    · split at ha
      · exact N ha (newO_mono _ _ _)
      · cases ha
    · cases ha
  case new t => exact N ha (newO_mono _ _ _)
  case putfield n =>
    dsimp only at ha
    split at ha
    · split at ha
      · split at ha
        · rename_i hw
          obtain ⟨a1, a2, -⟩ := wrf_spec hw
          exact N ha ⟨Nat.le_of_eq a1.symm, Nat.le_of_eq a2.symm⟩
        · cases ha
      · cases ha
    · cases ha
  case invokevirtual n =>
    dsimp only at ha
    split at ha
    · split at ha
      · exact (cal_no ha).elim
      · cases ha
    · cases ha
  case invokespecial n =>
    dsimp only at ha
    split at ha
    · cases hb9 : Nat.beq b 9999 with
      | false => rw [hb9, cond_false] at ha; exact (cal_no ha).elim
      | true =>
        rw [hb9, cond_true] at ha
        split at ha
        · exact N ha Z
        · cases ha
    · cases ha
  case invokestatic n =>
    dsimp only at ha
    cases hb9 : Nat.beq b 9001 with
    | true =>
      rw [hb9, cond_true] at ha
      obtain ⟨x, y, S1, -, -, -, -, e4, -⟩ := mmx_inv ha
      exact K e4
    | false =>
      rw [hb9, cond_false] at ha
      cases hb8 : Nat.beq b 9002 with
      | true =>
        rw [hb8, cond_true] at ha
        obtain ⟨x, y, S1, -, -, -, -, e4, -⟩ := mmx_inv ha
        exact K e4
      | false =>
        rw [hb8, cond_false] at ha
        split at ha
        · exact (cal_no ha).elim
        · cases ha
  case ireturn => exact (retI_no ha).elim
  case iastore =>
    dsimp only at ha
    unfold ast at ha
    split at ha
    · split at ha
      · rename_i v x i S1 hok
        cases v <;> dsimp only at ha <;> first | (cases ha; done) | exact N ha ⟨Nat.le_refl _, Nat.le_refl _⟩
      · cases ha
    · cases ha
  case bastore =>
    dsimp only at ha
    unfold ast at ha
    split at ha
    · split at ha
      · rename_i v x i S1 hok
        cases v <;> dsimp only at ha <;> first | (cases ha; done) | exact N ha ⟨Nat.le_refl _, Nat.le_refl _⟩
      · cases ha
    · cases ha
  case lastore =>
    dsimp only at ha
    unfold ast at ha
    split at ha
    · split at ha
      · rename_i v x i S1 hok
        cases v <;> dsimp only at ha <;> first | (cases ha; done) | exact N ha ⟨Nat.le_refl _, Nat.le_refl _⟩
      · cases ha
    · cases ha
  case aastore =>
    dsimp only at ha
    unfold ast at ha
    split at ha
    · split at ha
      · rename_i v x i S1 hok
        cases v <;> dsimp only at ha <;> first | (cases ha; done) | skip
        rename_i y
        by_cases hy : (Nat.ble 2 y && (Nat.beq (AK h y).1 0 || Nat.beq (AK h y).1 1 || Nat.beq (AK h y).1 2 || Nat.beq (AK h y).1 4 || Nat.beq (AK h y).1 7)) = true
        · rw [if_pos hy] at ha
          exact N ha ⟨Nat.le_refl _, Nat.le_refl _⟩
        · rw [if_neg hy] at ha
          cases ha
      · cases ha
    · cases ha
  case iaload => dsimp only at ha; unfold ald at ha; split at ha <;> (try split at ha) <;> first | exact N ha Z | cases ha
  case baload => dsimp only at ha; unfold ald at ha; split at ha <;> (try split at ha) <;> first | exact N ha Z | cases ha
  case laload => dsimp only at ha; unfold ald at ha; split at ha <;> (try split at ha) <;> first | exact N ha Z | cases ha
  case aaload => dsimp only at ha; unfold ald at ha; split at ha <;> (try split at ha) <;> first | exact N ha Z | cases ha
  case iadd => obtain ⟨x, y, S1, -, -, -, -, e4⟩ := bin_inv ha; exact K e4
  case isub => obtain ⟨x, y, S1, -, -, -, -, e4⟩ := bin_inv ha; exact K e4
  case imul => obtain ⟨x, y, S1, -, -, -, -, e4⟩ := bin_inv ha; exact K e4
  case iand => obtain ⟨x, y, S1, -, -, -, -, e4⟩ := bin_inv ha; exact K e4
  case ior => obtain ⟨x, y, S1, -, -, -, -, e4⟩ := bin_inv ha; exact K e4
  case ixor => obtain ⟨x, y, S1, -, -, -, -, e4⟩ := bin_inv ha; exact K e4
  case ishl => obtain ⟨x, y, S1, -, -, -, -, e4⟩ := bin_inv ha; exact K e4
  case ishr => obtain ⟨x, y, S1, -, -, -, -, e4⟩ := bin_inv ha; exact K e4
  case iushr => obtain ⟨x, y, S1, -, -, -, -, e4⟩ := bin_inv ha; exact K e4
  case ladd => obtain ⟨x, y, S1, -, -, -, -, e4⟩ := binL_inv ha; exact K e4
  case lmul => obtain ⟨x, y, S1, -, -, -, -, e4⟩ := binL_inv ha; exact K e4
  case land => obtain ⟨x, y, S1, -, -, -, -, e4⟩ := binL_inv ha; exact K e4
  case lor => obtain ⟨x, y, S1, -, -, -, -, e4⟩ := binL_inv ha; exact K e4
  case lshl => obtain ⟨x, y, S1, -, -, -, -, e4⟩ := shL_inv ha; exact K e4
  case lshr => obtain ⟨x, y, S1, -, -, -, -, e4⟩ := shL_inv ha; exact K e4
  case lushr => obtain ⟨x, y, S1, -, -, -, -, e4⟩ := shL_inv ha; exact K e4
  case i2l => obtain ⟨x, S1, -, -, -, -, e4⟩ := un1_inv ha; exact K e4
  case i2b => obtain ⟨x, S1, -, -, -, -, e4⟩ := un1_inv ha; exact K e4
  all_goals first
    | (cases ha; done)
    | exact N ha Z
    | (dsimp only at ha
       first | unfold loI at ha | unfold loL at ha | unfold loA at ha | unfold soI at ha | unfold soL at ha | unfold soA at ha | skip
       repeat' (first | exact N ha Z | (cases ha; done) | split at ha))
theorem exec_mono : ∀ (n d k pc : Nat) (L S : List Value) (h : AH) (r : Option Value × AH), exec n d k pc L S h = some r → AN h ≤ AN r.2 ∧ AT h ≤ AT r.2
  | 0, _, _, _, _, _, _, _, e => by cases e
  | n + 1, d, k, pc, L, S, h, r, e => by
    unfold exec at e
    split at e
    · cases e
    · split at e
      · cases e
      · rename_i q hq
        obtain ⟨a1, a2⟩ := act_mono (pc' := q.1) (L' := q.2.1) (S' := q.2.2.1) (h' := q.2.2.2) hq
        obtain ⟨b1, b2⟩ := exec_mono n _ _ _ _ _ _ _ e
        exact ⟨Nat.le_trans a1 b1, Nat.le_trans a2 b2⟩
      · cases e
        exact ⟨Nat.le_refl _, Nat.le_refl _⟩
      · split at e
        · cases e
        · split at e
          · cases e
          · rename_i r1 h1
            obtain ⟨a1, a2⟩ := exec_mono n _ _ _ _ _ _ _ h1
            obtain ⟨b1, b2⟩ := exec_mono n _ _ _ _ _ _ _ e
            exact ⟨Nat.le_trans a1 b1, Nat.le_trans a2 b2⟩
def SimW (n : Nat) : Prop := ∀ (d k pc : Nat) (L S : List Value) (h : AH) (r : Option Value) (h' : AH), exec n d k pc L S h = some (r, h') → k < 205 →
  ∀ (p : Program) (l : Launch) (e : Env) (R : Room) (s : State) (m : MethodId) (args : Array Value) (below : List Frame) (meth : Method) (c : Code) (H : Heap) (locs : List Loc) (cells slots : Nat) (Q : State → Prop) (ls : Array Slot) (g : Nat × Nat × Nat) (Ls : Nat) (xs : Nat → Int32) (D : va_G) (cA : Nat → ClassId),
  Cx p s m args meth c k g Ls xs D cA → Rel g Ls xs D cA s.heap h H locs → LH g ls (mMax k) L → d + 1 ≤ R.frames → 60 * (d + 1) ≤ R.locals → cells + (AN h' - AN h) ≤ R.cells → slots + (AT h' - AT h) ≤ R.slots →
  (∀ (pc1 : Nat) (op1 : OpE) (L1 S1 : List Value) (ls1 : Array Slot) (H1 : Heap) (locs1 : List Loc), opAt k pc1 = some op1 → act k pc1 op1 L1 S1 h' = some (.inr (.inr r)) → Rel g Ls xs D cA s.heap h' H1 locs1 → W p l e R s m args below meth c H1 locs1 (cells + (AN h' - AN h)) (slots + (AT h' - AT h)) Q (F0 m pc1 ls1 (S1.map (rv g)))) →
  W p l e R s m args below meth c H locs cells slots Q (F0 m pc ls (S.map (rv g)))
/-- the contract of a method out of its run -/
def conP (g : Nat × Nat × Nat) (Ls : Nat) (xs : Nat → Int32) (D : va_G) (cA : Nat → ClassId) (h : AH) : State → Prop := fun U => WF g Ls xs D cA U ∧ Rel g Ls xs D cA U.heap h U.heap []
def conQ (g : Nat × Nat × Nat) (Ls : Nat) (xs : Nat → Int32) (D : va_G) (cA : Nat → ClassId) (r : Option Value) (h' : AH) : Array Value → State → Outcome → State → Prop := fun _ st o t => o = .returned (r.map (rv g)) ∧ Rel g Ls xs D cA st.heap h' t.heap []
theorem ret_fin {k pc : Nat} {op : OpE} {L S : List Value} {h : AH} {r : Option Value} (hk : k < 205) (hop : opAt k pc = some op) (ha : act k pc op L S h = some (.inr (.inr r)))
    {p : Program} {l : Launch} {e : Env} {R : Room} {s : State} {m : MethodId} {args : Array Value} {below : List Frame} {meth : Method} {c : Code} {H : Heap} {locs : List Loc} {cells slots : Nat} {ls : Array Slot} {g : Nat × Nat × Nat} {Ls : Nat} {xs : Nat → Int32} {D : va_G} {cA : Nat → ClassId}
    (C : Cx p s m args meth c k g Ls xs D cA) (hR : Rel g Ls xs D cA s.heap h H locs) : W p l e R s m args below meth c H locs cells slots (MQ below (conQ g Ls xs D cA r h) args s cells slots (Aw g)) (F0 m pc ls (S.map (rv g))) := by
  obtain ⟨hd, hck⟩ := op_ok hk hop
  obtain ⟨len, ins, vi, vl, b, c2, lst⟩ := op
  obtain ⟨hx, hb, hml, hown, hts, hnm, hrt, hlk, hW⟩ := id C
  have hq : ∀ t : State, t.heap = H → Rel g Ls xs D cA s.heap h t.heap [] := fun t ht => by
    rw [ht]
    obtain ⟨r1, r2, r3, r4, r5, r6, r7, r8, r9⟩ := hR
    exact ⟨r1, r2, ⟨r3.1, r3.2.1, fun q hq => by cases hq⟩, r4, r5, r6, r7, r8, r9⟩
  have hf : ∀ q ∈ locs, Aw g q.base := hR.2.2.1.2.2
  unfold chk at hck
  unfold act at ha
  cases ins
  case ireturn =>
    dsimp only at ha hck hd
    have hlen := beqE hck
    subst hlen
    unfold retI at ha
    split at ha
    · split at ha
      · rename_i hm
        cases ha
        exact W.iret hx hb (hrt.trans hm) (fun t ht _ => ⟨rfl, hq t ht⟩) hf hd hlk
      · rename_i hm
        split at ha
        · rename_i hB
          cases ha
          exact W.zret (ty := .boolean) hx hb (hrt.trans hm) (isB_nar hB).1 (fun t ht _ => ⟨rfl, hq t ht⟩) hf hd hlk
        · cases ha
      · cases ha
    · cases ha
  case lreturn =>
    dsimp only at ha hck hd
    have hlen := beqE hck
    subst hlen
    split at ha
    · split at ha
      · rename_i hm
        cases ha
        exact W.lret hx hb (hrt.trans hm) (fun t ht _ => ⟨rfl, hq t ht⟩) hf hd hlk
      · cases ha
    · cases ha
  case areturn =>
    dsimp only at ha hck hd
    rw [Bool.and_eq_true] at hck
    have hlen := beqE hck.1
    have hck2 := hck.2
    subst hlen
    have hret : (∃ n, mRet k = some (.object n)) ∨ ∃ t, mRet k = some (.array t) := by
      split at hck2
      · exact Or.inl ⟨_, ‹_›⟩
      · exact Or.inr ⟨_, ‹_›⟩
      · cases hck2
    split at ha
    · rename_i v
      split at ha
      · rename_i hA
        cases ha
        have hA2 : rv g v = .null ∨ ∃ a, rv g v = .ref a := by
          cases v <;> first | (cases hA; done) | exact Or.inl rfl | exact Or.inr ⟨_, rfl⟩
        rcases hret with ⟨n, hn⟩ | ⟨t, ht⟩
        · exact W.aret hx hb (hrt.trans hn) (Or.inl ⟨n, rfl⟩) hA2 (fun t ht _ => ⟨rfl, hq t ht⟩) hf hd hlk
        · exact W.aret hx hb (hrt.trans ht) (Or.inr ⟨t, rfl⟩) hA2 (fun t ht _ => ⟨rfl, hq t ht⟩) hf hd hlk
      · cases ha
    · cases ha
  case return_ =>
    dsimp only at ha hck hd
    rw [Bool.and_eq_true] at hck
    have hlen := beqE hck.1
    have hck2 := hck.2
    subst hlen
    have hv : mRet k = none := by
      split at hck2
      · assumption
      · cases hck2
    split at ha
    · cases ha
      exact W.vret hx hb (hrt.trans hv) (fun t ht _ => ⟨rfl, hq t ht⟩) hf hd hlk
    · cases ha
  case invokestatic n =>
    exfalso
    dsimp only at ha
    cases hb9 : Nat.beq b 9001 <;> cases hb8 : Nat.beq b 9002 <;> simp only [hb9, hb8, cond_true, cond_false] at ha <;> (repeat' (first | (cases ha; done) | unfold mmx at ha | unfold nx at ha | unfold cal at ha | split at ha))
  case invokespecial n =>
    exfalso
    dsimp only at ha
    cases hb9 : Nat.beq b 9999 <;> simp only [hb9, cond_true, cond_false] at ha <;> (repeat' (first | (cases ha; done) | unfold nx at ha | unfold cal at ha | split at ha))
  case ifCond cn off => cases cn <;> (exfalso; dsimp only at ha; unfold brI at ha; split at ha <;> first | (cases ha; done) | (unfold nx at ha; cases ha))
  case if_icmp cn off => cases cn <;> (exfalso; dsimp only at ha; unfold brII at ha; split at ha <;> first | (cases ha; done) | (unfold nx at ha; cases ha))
  all_goals first
    | (cases ha; done)
    | (exfalso
       dsimp only at ha
       first | unfold loI at ha | unfold loL at ha | unfold loA at ha | unfold soI at ha | unfold soL at ha | unfold soA at ha | unfold bin at ha | unfold binL at ha | unfold shL at ha | unfold un1 at ha | unfold brI at ha | unfold brII at ha | unfold ald at ha | unfold ast at ha | unfold newA at ha | skip
       repeat' (first | (cases ha; done) | unfold nx at ha | unfold cal at ha | split at ha | dsimp only at ha))
    | skip
def Pcn (g : Nat × Nat × Nat) (Ls : Nat) (xs : Nat → Int32) (D : va_G) (cA : Nat → ClassId) (as : List Value) (h : AH) : Array Value → State → Prop := va_Pc (as.map (rv g)) (conP g Ls xs D cA h)
theorem conOf {n : Nat} (ih : SimW n) {d k : Nat} {as : List Value} {h h' : AH} {r : Option Value} (hk : k < 204) (hlen : (exL as).length ≤ mMax k) (he : exec n d k 0 (ini (mMax k) as) [] h = some (r, h')) (l : Launch) (g : Nat × Nat × Nat) (Ls : Nat) (xs : Nat → Int32) (D : va_G) (cA : Nat → ClassId) :
    Met l (mName k) (wsM k) (rmD d (AN h' - AN h) (AT h' - AT h)) (Pcn g Ls xs D cA as h) (conQ g Ls xs D cA r h') (AN h' - AN h) (AT h' - AT h) (Aw g) := by
  refine Met.ofW (cc := mCode k) (maxL := mMax k) (ret := mRet k) (mFacts hk).2.2.2 rfl ?_
  intro p e s m args' below meth c s₁ B hml hv
  obtain ⟨rfl, hW, hR⟩ := hv
  have hts := atoms_spec (ws := wsM k) B.pre
  have C : Cx p s m (as.map (rv g)).toArray meth c k g Ls xs D cA := ⟨B.exec, B.bytes, hml, by rw [(mFacts hk).2.1]; exact findClass_of_methodNamed B.named, fun w hw => hts w (List.mem_cons_of_mem _ hw), fun z => (name_of_methodNamed B.named B.method).1.trans z, B.returns, B.notSynchronized, hW⟩
  have hl := lv_entry (as.map (rv g)) (n := mMax k) (by rw [exL_len]; exact hlen)
  rw [lg_entry_eq]
  have hL := LH.entry g as hlen hl
  refine ih d k 0 _ [] h r h' he (by omega) p l e (headSpec (wsM k) (rmD d (AN h' - AN h) (AT h' - AT h))).room s m _ below meth c s.heap [] 0 0 _ _ g Ls xs D cA C hR hL (Nat.le_refl _) (Nat.le_refl _) (by rw [Nat.zero_add]; exact Nat.le_refl _) (by rw [Nat.zero_add]; exact Nat.le_refl _) ?_
  intro pc1 op1 L1 S1 ls1 H1 locs1 ho ha hR1
  rw [Nat.zero_add, Nat.zero_add]
  exact ret_fin (by omega) ho ha C hR1
theorem take_drop_map {g : Nat × Nat × Nat} {S S1 : List Value} {c : Nat} {i : Nat} (hd : S.drop c = .ref i :: S1) : S.map (rv g) = ((S.take c).reverse.map (rv g)).reverse ++ .ref (adr g i) :: S1.map (rv g) ∧ (S.take c).reverse.length = c := by
  constructor
  · rw [← List.map_reverse, List.reverse_reverse]
    conv => lhs; rw [← List.take_append_drop c S, hd, List.map_append, List.map_cons]
    rfl
  · have h1 : (S.drop c).length = S1.length + 1 := by rw [hd]; rfl
    rw [List.length_drop] at h1
    rw [List.length_reverse, List.length_take]
    omega
theorem cal_inv {j : Nat} {a r : List Value} {q : Nat × List Value × List Value} (e : cal j a r = some (.inr (.inl q))) : q = (j, a, r) ∧ catOK r = true ∧ (exL a).length ≤ mMax j := by
  unfold cal at e
  split at e
  · rename_i hc
    rw [Bool.and_eq_true] at hc
    cases e
    exact ⟨rfl, hc.1, Nat.le_of_ble_eq_true hc.2⟩
  · cases e
theorem vT_lt {own idx ci j : Nat} (hv : vT.any (fun r => Nat.beq r.2.2.2.1 own && Nat.beq r.2.2.2.2.1 idx && Nat.beq r.2.2.2.2.2.1 ci && Nat.beq r.2.2.2.2.2.2 j) = true) : ci < 13 ∧ j < 204 := by
  obtain ⟨r, hr, hv⟩ := List.any_eq_true.mp hv
  simp only [Bool.and_eq_true] at hv
  have hf2 := List.all_eq_true.mp vT_ok r hr
  simp only [vChk, Bool.and_eq_true, decide_eq_true_eq] at hf2
  rw [beqE hv.1.2, beqE hv.2] at hf2
  exact ⟨hf2.2, hf2.1.2⟩
theorem uT_lt {own idx ci j : Nat} (hv : uT.any (fun r => Nat.beq (r.getD 5 0) own && Nat.beq (r.getD 6 0) idx && Nat.beq (r.getD 7 0) ci && Nat.beq (r.getD 8 0) j) = true) : ci < 13 ∧ j < 204 := by
  obtain ⟨r, hr, hv⟩ := List.any_eq_true.mp hv
  simp only [Bool.and_eq_true] at hv
  have hf2 := List.all_eq_true.mp uT_ok r hr
  simp only [uChk, Bool.and_eq_true, decide_eq_true_eq] at hf2
  rw [beqE hv.1.2, beqE hv.2] at hf2
  exact ⟨hf2.1.2, hf2.1.1.1.2⟩
theorem sT_lt {own idx j : Nat} (hv : (sT.any (fun r => Nat.beq r.2.2.1 own && Nat.beq r.2.2.2.1 idx && Nat.beq r.2.2.2.2 j) || snT.any (fun r => Nat.beq r.2.2.1 own && Nat.beq r.2.2.2.1 idx && Nat.beq r.2.2.2.2 j)) = true) : j < 204 := by
  rcases Bool.or_eq_true _ _ |>.mp hv with hv | hv
  · obtain ⟨r, hr, hv⟩ := List.any_eq_true.mp hv
    simp only [Bool.and_eq_true] at hv
    have hf2 := List.all_eq_true.mp sT_ok r hr
    simp only [sChk, Bool.and_eq_true, decide_eq_true_eq] at hf2
    rw [beqE hv.2] at hf2
    exact hf2.2
  · obtain ⟨r, hr, hv⟩ := List.any_eq_true.mp hv
    simp only [Bool.and_eq_true] at hv
    have hf2 := List.all_eq_true.mp snT_ok r hr
    simp only [snChk, Bool.and_eq_true, decide_eq_true_eq] at hf2
    rw [beqE hv.2] at hf2
    exact hf2.2
theorem cT_lt {own idx j : Nat} (hv : (cT.any (fun r => Nat.beq r.2.2.1 own && Nat.beq r.2.2.2.1 idx && Nat.beq r.2.2.2.2 j) || cnT.any (fun r => Nat.beq r.2.2.1 own && Nat.beq r.2.2.2.1 idx && Nat.beq r.2.2.2.2 j)) = true) : j < 204 := by
  rcases Bool.or_eq_true _ _ |>.mp hv with hv | hv
  · obtain ⟨r, hr, hv⟩ := List.any_eq_true.mp hv
    simp only [Bool.and_eq_true] at hv
    have hf2 := List.all_eq_true.mp cT_ok r hr
    simp only [cChk, Bool.and_eq_true, decide_eq_true_eq] at hf2
    rw [beqE hv.2] at hf2
    exact hf2.1.1.2
  · obtain ⟨r, hr, hv⟩ := List.any_eq_true.mp hv
    simp only [Bool.and_eq_true] at hv
    have hf2 := List.all_eq_true.mp cnT_ok r hr
    simp only [cnChk, Bool.and_eq_true, decide_eq_true_eq] at hf2
    rw [beqE hv.2] at hf2
    exact hf2.1.1.2
theorem callW {n : Nat} (ih : SimW n) {d k pc : Nat} {op : OpE} {L S : List Value} {h : AH} {q : Nat × List Value × List Value} {r1 : Option Value} {h1 : AH} (hk : k < 205) (hop : opAt k pc = some op) (ha : act k pc op L S h = some (.inr (.inl q))) (he : exec n d q.1 0 (ini (mMax q.1) q.2.1) [] h = some (r1, h1))
    {p : Program} {l : Launch} {e : Env} {R : Room} {s : State} {m : MethodId} {args : Array Value} {below : List Frame} {meth : Method} {c : Code} {H : Heap} {locs : List Loc} {cells slots : Nat} {ls : Array Slot} {g : Nat × Nat × Nat} {Ls : Nat} {xs : Nat → Int32} {D : va_G} {cA : Nat → ClassId}
    (C : Cx p s m args meth c k g Ls xs D cA) (hR : Rel g Ls xs D cA s.heap h H locs) (hl : LH g ls (mMax k) L) (hfr : d + 2 ≤ R.frames) (hlo : 60 * (d + 2) ≤ R.locals) (hc : cells + (AN h1 - AN h) ≤ R.cells) (hs : slots + (AT h1 - AT h) ≤ R.slots) :
    va_Run p l e R s m args below meth c H locs cells slots (AN h1 - AN h) (AT h1 - AT h) (F0 m pc ls (S.map (rv g))) (q.2.2.map (rv g)) (conQ g Ls xs D cA r1 h1 (q.2.1.map (rv g)).toArray) (Aw g) := by
  obtain ⟨hd, hck⟩ := op_ok hk hop
  obtain ⟨len, ins, vi, vl, b, c2, lst⟩ := op
  have hW := C.2.2.2.2.2.2.2.2
  have hpre : ∀ (as : List Value) (U : State), U.heap = H → s.WarmedH U.vm → Pcn g Ls xs D cA as h (as.map (rv g)).toArray U := fun as U hU hWm => by
    refine ⟨rfl, hW.warm hWm (by rw [hU]; exact hR.2.2.1.1) (by rw [hU]; exact hR.2.2.1.2.1), ?_⟩
    rw [hU]
    exact hR.self
  have hbl : ∀ as, FrameBlind (Pcn g Ls xs D cA as h) := fun as a U gg mk z => ⟨z.1, z.2.1.calling gg mk a, z.2.2⟩
  unfold chk at hck
  unfold act at ha
  cases ins
  case invokevirtual n =>
    dsimp only at ha hck hd
    rw [Bool.and_eq_true] at hck
    have hlen := beqE hck.1
    subst hlen
    split at ha
    · rename_i i S1 hdrop
      split at ha
      · rename_i j hlk
        obtain ⟨rfl, hcat, hex⟩ := cal_inv ha
        have v1 := List.all_eq_true.mp hck.2 _ (lookup_in hlk)
        simp only [Bool.and_eq_true] at v1
        obtain ⟨t1, t2⟩ := take_drop_map (g := g) hdrop
        have hn : ((S.take c2).reverse.map (rv g)).length = mArg j := by rw [List.length_map, t2, beqE v1.1]
        have hcat2 : ((S1.map (rv g)).map fun v => v.category).sum ≤ 8 := by rw [rv_map_cat]; exact catOK_le hcat
        rcases Bool.or_eq_true _ _ |>.mp v1.2 with v2 | v2
        · obtain ⟨h13, hj⟩ := vT_lt v2
          have h2 : 2 ≤ i := hR.big (by omega)
          have hat := hR.at h2 (by omega)
          rw [ce_obj h13] at hat
          have hrecv := va_recv hW.1 hR.2.1 (clsP _ h13).1 hat
          have hM := conOf ih hj hex he l g Ls xs D cA
          rw [t1]
          exact runV C hM v2 hfr hlo (hbl _) hrecv (hpre _) hn hl.1 hcat2 hd ⟨hc, hs⟩
        · obtain ⟨h13, hj⟩ := uT_lt v2
          have h2 : 2 ≤ i := hR.big (by omega)
          have hat := hR.at h2 (by omega)
          rw [ce_obj h13] at hat
          have hrecv := va_recv hW.1 hR.2.1 (clsP _ h13).1 hat
          have hM := conOf ih hj hex he l g Ls xs D cA
          rw [t1]
          exact runU C hM v2 hfr hlo (hbl _) hrecv (hpre _) hn hl.1 hcat2 hd ⟨hc, hs⟩
      · cases ha
    · cases ha
  case invokespecial n =>
    dsimp only at ha hck hd
    rw [Bool.and_eq_true] at hck
    have hlen := beqE hck.1
    subst hlen
    split at ha
    · rename_i i S1 hdrop
      cases hb9 : Nat.beq b 9999 with
      | true =>
        rw [hb9, cond_true] at ha
        split at ha <;> cases ha
      | false =>
        rw [hb9, cond_false] at ha
        obtain ⟨rfl, hcat, hex⟩ := cal_inv ha
        have v1 := hck.2
        rw [hb9, cond_false, Bool.and_eq_true] at v1
        obtain ⟨t1, t2⟩ := take_drop_map (g := g) hdrop
        have hn : ((S.take c2).reverse.map (rv g)).length = mArg b := by rw [List.length_map, t2, beqE v1.1]
        have hcat2 : ((S1.map (rv g)).map fun v => v.category).sum ≤ 8 := by rw [rv_map_cat]; exact catOK_le hcat
        have hj := cT_lt v1.2
        have hM := conOf ih hj hex he l g Ls xs D cA
        rw [t1]
        exact runI C hM v1.2 hfr hlo (hbl _) (hpre _) hn hl.1 hcat2 hd ⟨hc, hs⟩
    · cases ha
  case invokestatic n =>
    dsimp only at ha hck hd
    rw [Bool.and_eq_true] at hck
    have hlen := beqE hck.1
    subst hlen
    have v1 := hck.2
    cases hb9 : Nat.beq b 9001 with
    | true =>
      rw [hb9, cond_true] at ha
      unfold mmx at ha
      split at ha
      · split at ha <;> cases ha
      · cases ha
    | false =>
      rw [hb9, cond_false] at ha v1
      cases hb8 : Nat.beq b 9002 with
      | true =>
        rw [hb8, cond_true] at ha
        unfold mmx at ha
        split at ha
        · split at ha <;> cases ha
        · cases ha
      | false =>
        rw [hb8, cond_false] at ha v1
        rw [Bool.and_eq_true] at v1
        by_cases hlen3 : Nat.ble c2 S.length = true
        case neg => rw [if_neg hlen3] at ha; cases ha
        rw [if_pos hlen3] at ha
        have hlen2 := Nat.le_of_ble_eq_true hlen3
        obtain ⟨rfl, hcat, hex⟩ := cal_inv ha
        have hj := sT_lt v1.2
        have hM := conOf ih hj hex he l g Ls xs D cA
        have hcat2 : (((S.drop c2).map (rv g)).map fun v => v.category).sum ≤ 8 := by rw [rv_map_cat]; exact catOK_le hcat
        have t1 : S.map (rv g) = ((S.take c2).reverse.map (rv g)).reverse ++ (S.drop c2).map (rv g) := by
          rw [← List.map_reverse, List.reverse_reverse, ← List.map_append, List.take_append_drop]
        have hn : ((S.take c2).reverse.map (rv g)).length = mArg b := by
          rw [List.length_map, List.length_reverse, List.length_take, beqE v1.1]
          omega
        rw [t1]
        exact runS C hM v1.2 hfr hlo (hbl _) (hpre _) hn hl.1 hcat2 hd ⟨hc, hs⟩
  case ifCond cn off => cases cn <;> (exfalso; dsimp only at ha; unfold brI at ha; split at ha <;> first | (cases ha; done) | (unfold nx at ha; cases ha))
  case if_icmp cn off => cases cn <;> (exfalso; dsimp only at ha; unfold brII at ha; split at ha <;> first | (cases ha; done) | (unfold nx at ha; cases ha))
  all_goals first
    | (cases ha; done)
    | (exfalso
       dsimp only at ha
       first | unfold loI at ha | unfold loL at ha | unfold loA at ha | unfold soI at ha | unfold soL at ha | unfold soA at ha | unfold bin at ha | unfold binL at ha | unfold shL at ha | unfold un1 at ha | unfold brI at ha | unfold brII at ha | unfold ald at ha | unfold ast at ha | unfold newA at ha | unfold retI at ha | skip
       repeat' (first | (cases ha; done) | unfold nx at ha | unfold cal at ha | split at ha | dsimp only at ha))
theorem simW : ∀ n, SimW n
  | 0 => fun d k pc L S h r h' he => by cases he
  | n + 1 => by
    have ih := simW n
    intro d k pc L S h r h' he hk p l e R s m args below meth c H locs cells slots Q ls g Ls xs D cA C hR hl hfr hlo hc hs hE
    unfold exec at he
    split at he
    · cases he
    · rename_i op hop
      split at he
      · cases he
      · rename_i q ha
        obtain ⟨pc1, L1, S1, h1⟩ := q
        obtain ⟨m1, m2⟩ := act_mono ha
        obtain ⟨m3, m4⟩ := exec_mono _ _ _ _ _ _ _ _ he
        dsimp only at he m3 m4
        refine stepW C hk hop ha hR hl (by omega) (by omega) (by omega) (by omega) (fun H1 locs1 ls1 hR1 hl1 => ?_)
        have e1 : cells + (AN h1 - AN h) + (AN h' - AN h1) = cells + (AN h' - AN h) := by omega
        have e2 : slots + (AT h1 - AT h) + (AT h' - AT h1) = slots + (AT h' - AT h) := by omega
        refine ih d k pc1 L1 S1 h1 r h' he hk p l e R s m args below meth c H1 locs1 _ _ Q ls1 g Ls xs D cA C hR1 hl1 hfr hlo (by omega) (by omega) ?_
        intro pc2 op2 L2 S2 ls2 H2 locs2 ho2 ha2 hR2
        rw [e1, e2]
        exact hE pc2 op2 L2 S2 ls2 H2 locs2 ho2 ha2 hR2
      · rename_i v ha
        cases he
        have := hE pc op L S ls H locs hop ha hR
        simpa only [Nat.sub_self, Nat.add_zero] using this
      · rename_i q ha
        split at he
        · cases he
        · rename_i d'
          split at he
          · cases he
          · rename_i r1 he1
            obtain ⟨v1, h1⟩ := r1
            obtain ⟨m1, m2⟩ := exec_mono _ _ _ _ _ _ _ _ he1
            obtain ⟨m3, m4⟩ := exec_mono _ _ _ _ _ _ _ _ he
            dsimp only at he m1 m2 m3 m4
            have hr := callW ih hk hop ha he1 C hR hl (by omega) (by omega) (by omega) (by omega) (l := l) (e := e) (below := below) (cells := cells) (slots := slots) (R := R)
            have e1 : cells + (AN h1 - AN h) + (AN h' - AN h1) = cells + (AN h' - AN h) := by omega
            have e2 : slots + (AT h1 - AT h) + (AT h' - AT h1) = slots + (AT h' - AT h) := by omega
            intro T hT X
            obtain ⟨v, st₀, t, T', L', h0, X', hL, g1, g2, ⟨hv, hRt⟩, st⟩ := hr T hT X
            have hv2 : v = v1.map (rv g) := Outcome.returned.inj hv
            subst hv2
            have hR2 : Rel g Ls xs D cA s.heap h1 T'.heap (locs ++ L') := by
              refine hR.next ?_ hL
              rw [← h0, g1]
              exact hRt
            have K := ih (d' + 1) k (pc + 3) L (v1.toList ++ q.2.2) h1 r h' he hk p l e R s m args below meth c T'.heap (locs ++ L') (cells + (AN h1 - AN h)) (slots + (AT h1 - AT h)) Q ls g Ls xs D cA C hR2 hl hfr hlo (by omega) (by omega) (fun pc2 op2 L2 S2 ls2 H2 locs2 ho2 ha2 hR3 => by
              rw [e1, e2]
              exact hE pc2 op2 L2 S2 ls2 H2 locs2 ho2 ha2 hR3)
            obtain ⟨t2, a1, b1⟩ := K T' rfl X'
            refine ⟨t2, st t2 ?_, b1⟩
            have es : (v1.map (rv g)).toList ++ q.2.2.map (rv g) = (v1.toList ++ q.2.2).map (rv g) := by
              rw [List.map_append]
              cases v1 <;> rfl
            rw [es]
            exact a1
