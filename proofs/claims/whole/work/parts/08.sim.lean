/-! THE SIMULATION: what the abstract machine does, the machine does -/
theorem newO_mono (h : AH) (kd n : Nat) : AN h ≤ AN (newO h kd n) ∧ AT h ≤ AT (newO h kd n) := ⟨Nat.le_succ _, Nat.le_add_right _ _⟩
theorem act_mono {k pc : Nat} {op : OpE} {L S : List Value} {h : AH} {pc' : Nat} {L' S' : List Value} {h' : AH} (ha : act k pc op L S h = some (.inl (pc', L', S', h'))) : AN h ≤ AN h' ∧ AT h ≤ AT h' := by
  have K : h' = h → AN h ≤ AN h' ∧ AT h ≤ AT h' := by
    rintro rfl
    exact ⟨Nat.le_refl _, Nat.le_refl _⟩
  have N : ∀ {q : Nat} {L S : List Value} {h2 : AH}, nx q L S h2 = some (.inl (pc', L', S', h')) → (AN h ≤ AN h2 ∧ AT h ≤ AT h2) → AN h ≤ AN h' ∧ AT h ≤ AT h' := fun e z => by
    obtain ⟨-, -, -, rfl⟩ := nx_inv e
    exact z
  have Z : AN h ≤ AN h ∧ AT h ≤ AT h := ⟨Nat.le_refl _, Nat.le_refl _⟩
  obtain ⟨len, ins, vi, vl, b, c2, lst⟩ := op
  unfold act at ha
  cases ins
  case ifCond cn off => cases cn <;> (obtain ⟨x, S1, -, -, -, -, e4⟩ := brI_inv ha; exact K e4)
  case if_icmp cn off => cases cn <;> (obtain ⟨x, y, S1, -, -, -, -, e4⟩ := brII_inv ha; exact K e4)
  case tableswitch => obtain ⟨x, S1, -, -, -, -, e4⟩ := brI_inv ha; exact K e4
  case newarray t =>
    dsimp only at ha
    unfold newA at ha
    split at ha
    · split at ha
      · exact N ha (newO_mono _ _ _)
      · cases ha
    · cases ha
  case anewarray t =>
    dsimp only at ha
    unfold newA at ha
    split at ha
    · split at ha
      · exact N ha (newO_mono _ _ _)
      · cases ha
    · cases ha
  case new t => exact N ha (newO_mono _ _ _)
  case putfield n =>
    dsimp only at ha
    split at ha
    · split at ha
      · split at ha
        · rename_i hw
          obtain ⟨a1, a2, -⟩ := wrf_spec hw
          exact N ha ⟨Nat.le_of_eq a1.symm, Nat.le_of_eq a2.symm⟩
        · cases ha
      · cases ha
    · cases ha
  case invokevirtual n =>
    dsimp only at ha
    split at ha
    · split at ha
      · exact (cal_no ha).elim
      · cases ha
    · cases ha
  case invokespecial n =>
    dsimp only at ha
    split at ha
    · cases hb9 : Nat.beq b 9999 with
      | false => rw [hb9, cond_false] at ha; exact (cal_no ha).elim
      | true =>
        rw [hb9, cond_true] at ha
        split at ha
        · exact N ha Z
        · cases ha
    · cases ha
  case invokestatic n =>
    dsimp only at ha
    cases hb9 : Nat.beq b 9001 with
    | true =>
      rw [hb9, cond_true] at ha
      obtain ⟨x, y, S1, -, -, -, -, e4, -⟩ := mmx_inv ha
      exact K e4
    | false =>
      rw [hb9, cond_false] at ha
      cases hb8 : Nat.beq b 9002 with
      | true =>
        rw [hb8, cond_true] at ha
        obtain ⟨x, y, S1, -, -, -, -, e4, -⟩ := mmx_inv ha
        exact K e4
      | false =>
        rw [hb8, cond_false] at ha
        exact (cal_no ha).elim
  case ireturn => exact (retI_no ha).elim
  case iastore =>
    dsimp only at ha
    unfold ast at ha
    split at ha
    · split at ha
      · rename_i v x i S1 hok
        cases v <;> dsimp only at ha <;> first | (cases ha; done) | exact N ha ⟨Nat.le_refl _, Nat.le_refl _⟩
      · cases ha
    · cases ha
  case bastore =>
    dsimp only at ha
    unfold ast at ha
    split at ha
    · split at ha
      · rename_i v x i S1 hok
        cases v <;> dsimp only at ha <;> first | (cases ha; done) | exact N ha ⟨Nat.le_refl _, Nat.le_refl _⟩
      · cases ha
    · cases ha
  case lastore =>
    dsimp only at ha
    unfold ast at ha
    split at ha
    · split at ha
      · rename_i v x i S1 hok
        cases v <;> dsimp only at ha <;> first | (cases ha; done) | exact N ha ⟨Nat.le_refl _, Nat.le_refl _⟩
      · cases ha
    · cases ha
  case aastore =>
    dsimp only at ha
    unfold ast at ha
    split at ha
    · split at ha
      · rename_i v x i S1 hok
        cases v <;> dsimp only at ha <;> first | (cases ha; done) | skip
        rename_i y
        by_cases hy : (Nat.ble 2 y && (Nat.beq (AK h y).1 0 || Nat.beq (AK h y).1 1 || Nat.beq (AK h y).1 2 || Nat.beq (AK h y).1 4 || Nat.beq (AK h y).1 7)) = true
        · rw [if_pos hy] at ha
          exact N ha ⟨Nat.le_refl _, Nat.le_refl _⟩
        · rw [if_neg hy] at ha
          cases ha
      · cases ha
    · cases ha
  case iaload => dsimp only at ha; unfold ald at ha; split at ha <;> (try split at ha) <;> first | exact N ha Z | cases ha
  case baload => dsimp only at ha; unfold ald at ha; split at ha <;> (try split at ha) <;> first | exact N ha Z | cases ha
  case laload => dsimp only at ha; unfold ald at ha; split at ha <;> (try split at ha) <;> first | exact N ha Z | cases ha
  case aaload => dsimp only at ha; unfold ald at ha; split at ha <;> (try split at ha) <;> first | exact N ha Z | cases ha
  case iadd => obtain ⟨x, y, S1, -, -, -, -, e4⟩ := bin_inv ha; exact K e4
  case isub => obtain ⟨x, y, S1, -, -, -, -, e4⟩ := bin_inv ha; exact K e4
  case imul => obtain ⟨x, y, S1, -, -, -, -, e4⟩ := bin_inv ha; exact K e4
  case iand => obtain ⟨x, y, S1, -, -, -, -, e4⟩ := bin_inv ha; exact K e4
  case ior => obtain ⟨x, y, S1, -, -, -, -, e4⟩ := bin_inv ha; exact K e4
  case ixor => obtain ⟨x, y, S1, -, -, -, -, e4⟩ := bin_inv ha; exact K e4
  case ishl => obtain ⟨x, y, S1, -, -, -, -, e4⟩ := bin_inv ha; exact K e4
  case ishr => obtain ⟨x, y, S1, -, -, -, -, e4⟩ := bin_inv ha; exact K e4
  case iushr => obtain ⟨x, y, S1, -, -, -, -, e4⟩ := bin_inv ha; exact K e4
  case ladd => obtain ⟨x, y, S1, -, -, -, -, e4⟩ := binL_inv ha; exact K e4
  case lmul => obtain ⟨x, y, S1, -, -, -, -, e4⟩ := binL_inv ha; exact K e4
  case land => obtain ⟨x, y, S1, -, -, -, -, e4⟩ := binL_inv ha; exact K e4
  case lor => obtain ⟨x, y, S1, -, -, -, -, e4⟩ := binL_inv ha; exact K e4
  case lshl => obtain ⟨x, y, S1, -, -, -, -, e4⟩ := shL_inv ha; exact K e4
  case lshr => obtain ⟨x, y, S1, -, -, -, -, e4⟩ := shL_inv ha; exact K e4
  case lushr => obtain ⟨x, y, S1, -, -, -, -, e4⟩ := shL_inv ha; exact K e4
  case i2l => obtain ⟨x, S1, -, -, -, -, e4⟩ := un1_inv ha; exact K e4
  case i2b => obtain ⟨x, S1, -, -, -, -, e4⟩ := un1_inv ha; exact K e4
  all_goals first
    | (cases ha; done)
    | exact N ha Z
    | (dsimp only at ha
       first | unfold loI at ha | unfold loL at ha | unfold loA at ha | unfold soI at ha | unfold soL at ha | unfold soA at ha | skip
       repeat (first | exact N ha Z | (cases ha; done) | split at ha))
theorem exec_mono : ∀ (n d k pc : Nat) (L S : List Value) (h : AH) (r : Option Value × AH), exec n d k pc L S h = some r → AN h ≤ AN r.2 ∧ AT h ≤ AT r.2
  | 0, _, _, _, _, _, _, _, e => by cases e
  | n + 1, d, k, pc, L, S, h, r, e => by
    unfold exec at e
    split at e
    · cases e
    · split at e
      · cases e
      · rename_i q hq
        obtain ⟨a1, a2⟩ := act_mono (pc' := q.1) (L' := q.2.1) (S' := q.2.2.1) (h' := q.2.2.2) hq
        obtain ⟨b1, b2⟩ := exec_mono n _ _ _ _ _ _ _ e
        exact ⟨Nat.le_trans a1 b1, Nat.le_trans a2 b2⟩
      · cases e
        exact ⟨Nat.le_refl _, Nat.le_refl _⟩
      · split at e
        · cases e
        · split at e
          · cases e
          · rename_i r1 h1
            obtain ⟨a1, a2⟩ := exec_mono n _ _ _ _ _ _ _ h1
            obtain ⟨b1, b2⟩ := exec_mono n _ _ _ _ _ _ _ e
            exact ⟨Nat.le_trans a1 b1, Nat.le_trans a2 b2⟩
def SimW (n : Nat) : Prop := ∀ (d k pc : Nat) (L S : List Value) (h : AH) (r : Option Value) (h' : AH), exec n d k pc L S h = some (r, h') → k < 203 →
  ∀ (p : Program) (l : Launch) (e : Env) (R : Room) (s : State) (m : MethodId) (args : Array Value) (below : List Frame) (meth : Method) (c : Code) (H : Heap) (locs : List Loc) (cells slots : Nat) (Q : State → Prop) (ls : Array Slot) (g : Nat × Nat × Nat) (Ls : Nat) (xs : Nat → Int32) (D : va_G) (cA : Nat → ClassId),
  Cx p s m args meth c k g Ls xs D cA → Rel g Ls xs D cA s.heap h H locs → LH g ls (mMax k) L → d + 1 ≤ R.frames → 60 * (d + 1) ≤ R.locals → cells + (AN h' - AN h) ≤ R.cells → slots + (AT h' - AT h) ≤ R.slots →
  (∀ (pc1 : Nat) (op1 : OpE) (L1 S1 : List Value) (ls1 : Array Slot) (H1 : Heap) (locs1 : List Loc), opAt k pc1 = some op1 → act k pc1 op1 L1 S1 h' = some (.inr (.inr r)) → Rel g Ls xs D cA s.heap h' H1 locs1 → W p l e R s m args below meth c H1 locs1 (cells + (AN h' - AN h)) (slots + (AT h' - AT h)) Q (F0 m pc1 ls1 (S1.map (rv g)))) →
  W p l e R s m args below meth c H locs cells slots Q (F0 m pc ls (S.map (rv g)))
/-- the contract of a method out of its run -/
def conP (g : Nat × Nat × Nat) (Ls : Nat) (xs : Nat → Int32) (D : va_G) (cA : Nat → ClassId) (h : AH) : State → Prop := fun U => WF g Ls xs D cA U ∧ Rel g Ls xs D cA U.heap h U.heap []
def conQ (g : Nat × Nat × Nat) (Ls : Nat) (xs : Nat → Int32) (D : va_G) (cA : Nat → ClassId) (r : Option Value) (h' : AH) : Array Value → State → Outcome → State → Prop := fun _ st o t => o = .returned (r.map (rv g)) ∧ Rel g Ls xs D cA st.heap h' t.heap []
theorem ret_fin {k pc : Nat} {op : OpE} {L S : List Value} {h : AH} {r : Option Value} (hk : k < 203) (hop : opAt k pc = some op) (ha : act k pc op L S h = some (.inr (.inr r)))
    {p : Program} {l : Launch} {e : Env} {R : Room} {s : State} {m : MethodId} {args : Array Value} {below : List Frame} {meth : Method} {c : Code} {H : Heap} {locs : List Loc} {cells slots : Nat} {ls : Array Slot} {g : Nat × Nat × Nat} {Ls : Nat} {xs : Nat → Int32} {D : va_G} {cA : Nat → ClassId}
    (C : Cx p s m args meth c k g Ls xs D cA) (hR : Rel g Ls xs D cA s.heap h H locs) (hret : ∀ v, r = some v → isA v = true → (∃ n, mRet k = some (.object n)) ∨ ∃ t, mRet k = some (.array t)) (hv : r = none → mRet k = none) : W p l e R s m args below meth c H locs cells slots (MQ below (conQ g Ls xs D cA r h) args s cells slots (Aw g)) (F0 m pc ls (S.map (rv g))) := by
  obtain ⟨hd, hck⟩ := op_ok hk hop
  obtain ⟨len, ins, vi, vl, b, c2, lst⟩ := op
  obtain ⟨hx, hb, hml, hown, hts, hnm, hrt, hlk, hW⟩ := id C
  have hq : ∀ t : State, t.heap = H → Rel g Ls xs D cA s.heap h t.heap [] := fun t ht => by
    rw [ht]
    obtain ⟨r1, r2, r3, r4, r5, r6, r7, r8, r9⟩ := hR
    exact ⟨r1, r2, ⟨r3.1, r3.2.1, fun q hq => by cases hq⟩, r4, r5, r6, r7, r8, r9⟩
  have hf : ∀ q ∈ locs, Aw g q.base := hR.2.2.1.2.2
  unfold chk at hck
  unfold act at ha
  cases ins
  case ireturn =>
    dsimp only at ha hck hd
    have hlen := beqE hck
    subst hlen
    unfold retI at ha
    split at ha
    · split at ha
      · rename_i hm
        cases ha
        exact W.iret hx hb (hrt.trans hm) (fun t ht _ => ⟨rfl, hq t ht⟩) hf hd hlk
      · rename_i hm
        split at ha
        · rename_i hB
          cases ha
          exact W.zret (ty := .boolean) hx hb (hrt.trans hm) (isB_nar hB).1 (fun t ht _ => ⟨rfl, hq t ht⟩) hf hd hlk
        · cases ha
      · cases ha
    · cases ha
  case lreturn =>
    dsimp only at ha hck hd
    have hlen := beqE hck
    subst hlen
    split at ha
    · split at ha
      · rename_i hm
        cases ha
        exact W.lret hx hb (hrt.trans hm) (fun t ht _ => ⟨rfl, hq t ht⟩) hf hd hlk
      · cases ha
    · cases ha
  case areturn =>
    dsimp only at ha hck hd
    have hlen := beqE hck
    subst hlen
    split at ha
    · rename_i v
      split at ha
      · rename_i hA
        cases ha
        have hA2 : rv g v = .null ∨ ∃ a, rv g v = .ref a := by
          cases v <;> first | (cases hA; done) | exact Or.inl rfl | exact Or.inr ⟨_, rfl⟩
        rcases hret v rfl hA with ⟨n, hn⟩ | ⟨t, ht⟩
        · exact W.aret hx hb (hrt.trans hn) (Or.inl ⟨n, rfl⟩) hA2 (fun t ht _ => ⟨rfl, hq t ht⟩) hf hd hlk
        · exact W.aret hx hb (hrt.trans ht) (Or.inr ⟨t, rfl⟩) hA2 (fun t ht _ => ⟨rfl, hq t ht⟩) hf hd hlk
      · cases ha
    · cases ha
  case return_ =>
    dsimp only at ha hck hd
    have hlen := beqE hck
    subst hlen
    split at ha
    · cases ha
      exact W.vret hx hb (hrt.trans (hv rfl)) (fun t ht _ => ⟨rfl, hq t ht⟩) hf hd hlk
    · cases ha
  all_goals sorry
