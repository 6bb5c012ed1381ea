/-! THE CLAIM OUT OF A STATEMENT OF THE ABSTRACT MACHINE ALONE -/
def h00 (Ls : Nat) (xs : Nat → Int32) : AH := ((2, 0), fun i => if i = 0 then (20, Ls) else if i = 1 then (20, Ls) else (99, 0), fun i j => if i = 0 then xs j else if i = 1 then xs j else 0, fun _ _ => 0, fun _ _ => none)
/-- the abstract law: on every script it answers 1, in its room -/
def AbsLaw : Prop := ∀ (Ls : Nat) (xs : Nat → Int32), Ls ≤ 260 → ∃ (n : Nat) (h' : AH), exec n 1000 204 0 (ini 17 [.ref 0]) [] (h00 Ls xs) = some (some (.int 1), h') ∧ AN h' ≤ 600002 ∧ AT h' ≤ 7302249
theorem mem_X {i : Nat} {w : Jvm.Cond} (h : tblX[i]? = some w) : w ∈ tblX := List.mem_of_getElem? h
theorem nest_in : ∀ e ∈ snT ++ cnT, (Jvm.Cond.methodLinkNest (rcl e.2.2.1) e.2.2.2.1 (mName e.2.2.2.2) "CutsOrFast") ∈ tblX := by
  intro e he
  rcases List.mem_append.mp he with he | he
  · have hf := List.all_eq_true.mp snT_ok e he
    simp only [snChk, Bool.and_eq_true, decide_eq_true_eq] at hf
    exact mem_X hf.1.1
  · have hf := List.all_eq_true.mp cnT_ok e he
    simp only [cnChk, Bool.and_eq_true, decide_eq_true_eq] at hf
    exact mem_X hf.1.1.1.1
theorem hts_X {s : State} {args : Array Value} (h : ∀ w ∈ lw_tbl, w.before args s = true) : ∀ w ∈ tblX, w.before args s = true := h
def instPos : List Nat := [44, 44, 44, 142, 44, 44, 27, 44, 100, 129, 75, 19, 44]
theorem inst_ok : ∀ ci, ci < 13 → tblX[instPos.getD ci 0]? = some (.instantiable (rcl ci) (nF ci)) := by decide +kernel
theorem arr_K {s : State} {args : Array Value} {ty : FieldType} (hp : ∀ C, ty ≠ .object C) (h : (Cond.arrayClass ty).before args s = true) : ∃ c : ClassId, ArrOfT s c ty ∧ va_RA s c ty := by
  obtain ⟨c, k, comp, h1, h2, h3⟩ := Cond.arrayClass_spec h
  refine ⟨c, fun n z => ⟨fun q hq => (by cases hq), k, h2, comp, h3⟩, ?_⟩
  unfold va_RA
  cases ty <;> first | exact absurd rfl (hp _) | exact h1
theorem arr_KO {s : State} {args : Array Value} (h : (Cond.arrayOver (.object "CutsOrFast$Player")).before args s = true) : ∃ c : ClassId, ArrOfT s c (.object "CutsOrFast$Player") ∧ va_RA s c (.object "CutsOrFast$Player") := by
  obtain ⟨comp, c, k, h1, h2, h3, h4, h5⟩ := Cond.arrayOver_spec h
  exact ⟨c, fun n z => ⟨fun q hq => (by cases hq), k, h3, comp, h4⟩, k, comp, h3, h4, h1, h5⟩
theorem castN_in : ∀ q ∈ castN, (Jvm.Cond.not (.castable (rcl q.1) (rcl q.2))) ∈ flatC (Jvm.Cond.and given_1 narrow_1) := by decide +kernel
theorem castY_in : ∀ q ∈ castY, (Jvm.Cond.castable (rcl q.1) (rcl q.2)) ∈ tblX := by decide +kernel
/-! THE CLAIM OUT OF ONE WALK OF THE LAW'S BODY. Your part is whole_start (and what it stands on); all else here is the same for every law, but numbers. -/
def R_law : String := "CutsOrFastLaw"
def lw_P (b : Addr) (xs : List Int32) (args : Array Value) (s : State) : Prop := args = #[.ref b] ∧ s.IntsAt b xs ∧ xs.length ≤ 260 ∧ (Jvm.Cond.and given_1 narrow_1).before args s = true
def lw_Q (_ : Array Value) (s : State) (o : Outcome) (t : State) : Prop := o = .returned (some (.int 1)) ∧ Framed s o t [] 600000 7302249
def lw_Z (below : List Frame) (a : Array Value) (s : State) : State → Prop := fun t => ∃ o, t.status = .running ∧ Ended t below o ∧ lw_Q a s o t
/-- the law's own end, with 1 on the stack, nothing written that was there before, its room as the claim has it -/
theorem lw_ret {p : Program} {l : Launch} {e : Env} {s : State} {m : MethodId} {below : List Frame} {meth : Method} {c : Code} {b : Nat} (hx : p.tables.exec = Jvm.exec) (hb : c.code = code) (hr : meth.sig.returnType = ret) (hlocks : meth.locks = false) {pc : Nat} {H : Heap} {ls : Array Slot} (hdg : decode code pc = .ok (.ireturn, 1)) : W p l e room_1 s m #[Value.ref b] below meth c H [] 600000 7302249 (lw_Z below #[Value.ref b] s) (F0 m pc ls [.int 1]) := by
  intro T hT X
  obtain ⟨fs, hret, hrun, hended, hW, hframe⟩ := X.leave (v := some (.int 1)) (hlocks := hlocks) (fun h => by rw [hr] at h; cases h)
  have hmeth' : T.vm.method? m = some meth := X.method'
  refine ⟨T.setFrames fs, ?_, .returned (some (.int 1)), hrun, hended, rfl, ⟨_, rfl⟩, hW, hframe⟩
  jvm_step X.here [X.here.top, hx, hb, hdg, hmeth', hr, ret, narrow_b1]
  (try refine ⟨rfl, ?_⟩); (try refine ⟨rfl, ?_⟩)
  first | (intro acts; rw [hret _ acts rfl rfl rfl]) | rw [hret _ _ rfl rfl rfl]
  exact Steps.refl _
/-- what holds at the law's entry: the machine, the code, the tables' words (any of lw_tbl by 'hts w (by decide +kernel)'), the script of L ints xs at the cell b, what the Statement gives of the start (any of its parts by flat_of_before) -/
def lw_At (p : Program) (s : State) (m : MethodId) (meth : Method) (c : Code) (b L : Nat) (xs : Nat → Int32) : Prop :=
  p.tables.exec = Jvm.exec ∧ c.code = code ∧ meth.sig.returnType = ret ∧ c.maxLocals = 17 ∧ s.vm.findClass R_law = some m.cls ∧ (∀ w ∈ lw_tbl, w.before #[Value.ref b] s = true) ∧ va_X b L xs s s.heap ∧ b < s.heap.size ∧ meth.locks = false ∧ (Jvm.Cond.and given_1 narrow_1).before #[Value.ref b] s = true
theorem whole_start_of (habs : AbsLaw) {p : Program} {e : Env} {s : State} {m : MethodId} {below : List Frame} {meth : Method} {c : Code} (l : Launch) {b L : Nat} {xs : Nat → Int32} (hL : L ≤ 260) (C0 : lw_At p s m meth c b L xs) : W p l e room_1 s m #[Value.ref b] below meth c s.heap [] 0 0 (lw_Z below #[Value.ref b] s) (entryFrame m ([Value.ref b] : List Value).toArray 17) := by
  obtain ⟨hx, hb, hr, hml, hown, hts0, hX, hbl, hlocks, hgv⟩ := id C0
  have hts := hts_X hts0
  have hs := flat_of_before _ hgv
  -- the classes
  have hK1 : ∀ ci, ci < 13 → ∃ (c : ClassId) (iS : Nat → Nat), u_Kn s (rcl ci) (TT ci) (nF ci) c iS := fun ci hci => by
    obtain ⟨q1, q2, q3, q4⟩ := clsP ci hci
    exact u_known (ws := tblG) (fun w hw => hts w (List.mem_filter.mp hw).1) q2 (hts _ (mem_X (inst_ok ci hci)))
  have hK2 : ∀ ci, ∃ q : ClassId × (Nat → Nat), ci < 13 → u_Kn s (rcl ci) (TT ci) (nF ci) q.1 q.2 := fun ci => by
    by_cases hci : ci < 13
    · obtain ⟨c1, i1, h1⟩ := hK1 ci hci
      exact ⟨(c1, i1), fun _ => h1⟩
    · exact ⟨(0, fun _ => 0), fun z => absurd z hci⟩
  -- the arrays
  have ga : ∀ {ty}, (Jvm.Cond.arrayClass ty) ∈ tblG → (Cond.arrayClass ty).before #[Value.ref b] s = true := fun h => hts _ (List.mem_filter.mp h).1
  obtain ⟨a0, a0h⟩ := arr_K (fun C z => by cases z) (ga in_int)
  obtain ⟨a1, a1h⟩ := arr_K (fun C z => by cases z) (ga in_long)
  obtain ⟨a2, a2h⟩ := arr_K (fun C z => by cases z) (ga in_int)
  obtain ⟨a3, a3h⟩ := arr_K (fun C z => by cases z) (ga in_int)
  have hAO := hts0 _ (List.mem_of_getElem? arrO_ok)
  obtain ⟨a4, a4h⟩ := arr_KO hAO
  generalize hcA : (fun t : Nat => if t = 0 then a0 else if t = 1 then a1 else if t = 2 then a2 else if t = 3 then a3 else a4) = cA
  have c0 : cA 0 = a0 := by rw [← hcA]; rfl
  have c1 : cA 1 = a1 := by rw [← hcA]; rfl
  have c2 : cA 2 = a2 := by rw [← hcA]; rfl
  have c3 : cA 3 = a3 := by rw [← hcA]; rfl
  have c4 : cA 4 = a4 := by rw [← hcA]; rfl
  generalize hD : ((fun ci => (Classical.choose (hK2 ci)).1, fun ci => (Classical.choose (hK2 ci)).2) : va_G) = D
  have hK : va_K D clsL (tyl cA) s := by
    refine ⟨fun k q hq => ?_, fun k q hq => ?_⟩
    · have hk : k < 13 := (List.getElem?_eq_some_iff.mp hq).1
      have e1 := (clsP k hk).1.symm.trans hq
      have e2 := Option.some.inj e1
      subst e2
      rw [← hD]
      exact Classical.choose_spec (hK2 k) hk
    · match k, hq with
      | 0, hq => cases hq; rw [c0]; exact a0h
      | 1, hq => cases hq; rw [c1]; exact a1h
      | 2, hq => cases hq; rw [c2]; exact a2h
      | 3, hq => cases hq; rw [c3]; exact a3h
      | 4, hq => cases hq; rw [c4]; exact a4h
      | k + 5, hq => simp [tyl] at hq
  generalize hg : ((s.heap.size, b, b) : Nat × Nat × Nat) = g
  have g1 : g.1 = s.heap.size := by rw [← hg]
  have g2 : g.2.1 = b := by rw [← hg]
  have g3 : g.2.2 = b := by rw [← hg]
  have hAw : Aw g = fun q => s.heap.size ≤ q := by
    unfold Aw
    rw [g1]
  have hW : WF g L xs D cA s := by
    refine ⟨hK, fun q hq => va_Nw.of rfl (hts _ (nest_in q hq)), fun q hq => va_Nw.of rfl (hts _ (castY_in q hq)), fun q hq => va_Nc.of (hs _ (castN_in q hq)), va_AO.of hAO, trivial, by rw [g2]; exact hX, by rw [g3]; exact hX, by rw [g1, g2]; exact hbl, by rw [g1, g3]; exact hbl, by rw [g1]; exact Nat.le_refl _⟩
  have C : Cx p s m #[Value.ref b] meth c 204 g L xs D cA := ⟨hx, hb, hml, hown, fun w hw => hts w (List.mem_filter.mp hw).1, fun z => absurd z (by decide +kernel), hr, hlocks, hW⟩
  have hR : Rel g L xs D cA s.heap (h00 L xs) s.heap [] := by
    refine ⟨Nat.le_refl _, fun k q hq => by simp [wsO, AN, h00] at hq, va_S.rf, by rw [g1]; rfl, fun i hi => ?_, rfl, rfl, fun _ _ => rfl, fun _ _ => rfl⟩
    have hi2 : 2 ≤ i := by
      have hi3 : 2 ≤ sgi i := hi
      unfold sgi at hi3
      split at hi3
      · omega
      · split at hi3 <;> omega
    show (if i = 0 then (20, L) else if i = 1 then (20, L) else ((99, 0) : Nat × Nat)).1 = 99
    rw [if_neg (by omega), if_neg (by omega)]
  obtain ⟨n, h', he, hn1, hn2⟩ := habs L xs hL
  have hl := lv_entry ([.ref b]) (n := 17) (Nat.le_of_ble_eq_true rfl)
  rw [lg_entry_eq]
  generalize (lg_sl ([.ref b]) ++ List.replicate (17 - (lg_sl ([.ref b])).length) Slot.unset).toArray = ls at hl ⊢
  have hl2 : lv_has ls 17 (lv_args 0 (([.ref 0] : List Value).map (rv g))) := by
    have e1 : ([.ref 0] : List Value).map (rv g) = [.ref b] := by
      show [Value.ref (adr g 0)] = [.ref b]
      unfold adr
      rw [if_pos rfl, g2]
    rw [e1]
    exact hl
  have hLH := LH.entry g [.ref 0] (n := 17) (by decide) hl2
  have eN : AN (h00 L xs) = 2 := rfl
  have eT : AT (h00 L xs) = 0 := rfl
  refine simW n 1000 204 0 _ [] (h00 L xs) _ h' he (by decide) p l e room_1 s m #[Value.ref b] below meth c s.heap [] 0 0 _ _ g L xs D cA C hR hLH (by decide) (by decide) (by rw [eN]; show 0 + (AN h' - 2) ≤ 600000; omega) (by rw [eT]; show 0 + (AT h' - 0) ≤ 7302249; omega) ?_
  intro pc1 op1 L1 S1 ls1 H1 locs1 ho ha hR1
  refine va_forget (fun q hq => by have := hR1.2.2.1.2.2 q hq; rw [hAw] at this; exact this) ?_
  refine W.widen (k := 600000) (n := 7302249) (by rw [eN]; omega) (by rw [eT]; omega) ?_
  obtain ⟨hd, hck⟩ := op_ok (by decide) ho
  obtain ⟨len, ins, vi, vl, b1, c2', lst⟩ := op1
  have hin : ins = .ireturn ∧ S1 = [.int 1] := by
    unfold act at ha
    cases ins
    case ireturn =>
      dsimp only at ha
      unfold retI at ha
      split at ha
      · split at ha
        · cases ha; exact ⟨rfl, rfl⟩
        · split at ha
          · cases ha; exact ⟨rfl, rfl⟩
          · cases ha
        · cases ha
      · cases ha
    case lreturn =>
      exfalso
      dsimp only at ha
      split at ha
      · split at ha <;> cases ha
      · cases ha
    case areturn =>
      exfalso
      dsimp only at ha
      split at ha
      · split at ha
        · rename_i v hA
          cases ha
          cases hA
        · cases ha
      · cases ha
    case return_ =>
      exfalso
      dsimp only at ha
      split at ha <;> cases ha
    case invokestatic n =>
      exfalso
      dsimp only at ha
      cases hb9 : Nat.beq b1 9001 <;> cases hb8 : Nat.beq b1 9002 <;> simp only [hb9, hb8, cond_true, cond_false] at ha <;> (repeat' (first | (cases ha; done) | unfold mmx at ha | unfold nx at ha | unfold cal at ha | split at ha))
    case invokespecial n =>
      exfalso
      dsimp only at ha
      cases hb9 : Nat.beq b1 9999 <;> simp only [hb9, cond_true, cond_false] at ha <;> (repeat' (first | (cases ha; done) | unfold nx at ha | unfold cal at ha | split at ha))
    case ifCond cn off => cases cn <;> (exfalso; dsimp only at ha; unfold brI at ha; split at ha <;> first | (cases ha; done) | (unfold nx at ha; cases ha))
    case if_icmp cn off => cases cn <;> (exfalso; dsimp only at ha; unfold brII at ha; split at ha <;> first | (cases ha; done) | (unfold nx at ha; cases ha))
    all_goals first
      | (cases ha; done)
      | (exfalso
         dsimp only at ha
         first | unfold loI at ha | unfold loL at ha | unfold loA at ha | unfold soI at ha | unfold soL at ha | unfold soA at ha | unfold bin at ha | unfold binL at ha | unfold shL at ha | unfold un1 at ha | unfold brI at ha | unfold brII at ha | unfold ald at ha | unfold ast at ha | unfold newA at ha | skip
         repeat' (first | (cases ha; done) | unfold nx at ha | unfold cal at ha | split at ha | dsimp only at ha))
  obtain ⟨rfl, rfl⟩ := hin
  have hlen : len = 1 := by
    unfold chk at hck
    exact beqE hck
  subst hlen
  exact lw_ret hx hb hr hlocks hd
