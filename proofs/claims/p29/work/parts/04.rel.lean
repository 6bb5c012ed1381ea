/-! THE ABSTRACT HEAP IN THE MACHINE'S: object i is at adr g i; g: where the made objects begin, where the script is, where the static row is -/
def adr (g : Nat × Nat × Nat) (i : Nat) : Nat := if i = 0 then g.2.1 else if i = 1 then g.2.2 else g.1 + (sgi i - 2)
def rv (g : Nat × Nat × Nat) (v : Value) : Value := match v with
  | .ref i => .ref (adr g i)
  | w => w
def fac (j : Nat) : Int32 := ([1, 1, 2, 6, 24, 120, 720, 5040, 40320, 362880, 3628800] : List Int32).getD j 0
def ce (g : Nat × Nat × Nat) (cA : Nat → ClassId) (h : AH) (i : Nat) : va_E :=
  if (AK h i).1 < 13 then .inr ((AK h i).1, (List.range (nF (AK h i).1)).map (fun j => rv g (rdf (ftg (AK h i).1 j) h i j)))
  else if (AK h i).1 = 21 then .inl (cA 1, (AK h i).2, .inr (.inl (AL h i)))
  else if (AK h i).1 = 24 then .inl (cA 4, (AK h i).2, .inr (.inr (.inr (.inr (fun j => (AR h i j).map (adr g))))))
  else .inl (cA ((AK h i).1 - 20), (AK h i).2, .inl (AI h i))
def tyl (cA : Nat → ClassId) : List (ClassId × FieldType) := [(cA 0, .int), (cA 1, .long), (cA 2, .int), (cA 3, .int), (cA 4, .object "CutsOrFast$Player")]
def wsO (g : Nat × Nat × Nat) (cA : Nat → ClassId) (h : AH) : va_W := (List.range (AN h - 2)).map (fun q => (g.1 + q, ce g cA h (sgm (q + 2))))
def Aw (g : Nat × Nat × Nat) : Nat → Prop := fun q => g.1 ≤ q
theorem adr_big (g : Nat × Nat × Nat) {i : Nat} (h : 2 ≤ i) : adr g i = g.1 + (sgi i - 2) := by
  unfold adr
  rw [if_neg (by omega), if_neg (by omega)]
theorem adr_inj (g : Nat × Nat × Nat) {i j : Nat} (h : 2 ≤ i) (h2 : 2 ≤ j) (e : adr g i = adr g j) : i = j := by
  rw [adr_big g h, adr_big g h2] at e
  have a := sgi_2 h
  have b := sgi_2 h2
  have c : sgi i = sgi j := by omega
  rw [← sgm_i i, ← sgm_i j, c]
theorem wsO_at (g : Nat × Nat × Nat) (cA : Nat → ClassId) {h : AH} {i : Nat} (h1 : 2 ≤ i) (h2 : sgi i < AN h) : (wsO g cA h)[sgi i - 2]? = some (adr g i, ce g cA h i) := by
  have h3 := sgi_2 h1
  unfold wsO
  rw [List.getElem?_map, List.getElem?_range (by omega), adr_big g h1]
  simp only [Option.map_some, Nat.sub_add_cancel h3, sgm_i]
theorem wsO_get {g : Nat × Nat × Nat} {cA : Nat → ClassId} {h : AH} {k : Nat} {q : Nat × va_E} (hk : (wsO g cA h)[k]? = some q) : k + 2 < AN h ∧ q = (g.1 + k, ce g cA h (sgm (k + 2))) := by
  unfold wsO at hk
  rw [List.getElem?_map] at hk
  have hl : k < AN h - 2 := by
    rcases Nat.lt_or_ge k (AN h - 2) with z | z
    · exact z
    · rw [List.getElem?_eq_none (by rw [List.length_range]; exact z)] at hk
      cases hk
  rw [List.getElem?_range hl] at hk
  exact ⟨by omega, (Option.some.inj hk).symm⟩
theorem wsO_D (g : Nat × Nat × Nat) (cA : Nat → ClassId) (h : AH) : va_D (Aw g) (wsO g cA h) := by
  refine ⟨fun i j p q hp hq e => ?_, fun k q hk => ?_⟩
  · obtain ⟨-, rfl⟩ := wsO_get hp
    obtain ⟨-, rfl⟩ := wsO_get hq
    exact Nat.add_left_cancel e
  · obtain ⟨-, rfl⟩ := wsO_get hk
    exact Nat.le_add_right _ _
theorem ce_same {g : Nat × Nat × Nat} {cA : Nat → ClassId} {h h' : AH} {a : Nat} (eK : AK h' a = AK h a) (eI : AI h' a = AI h a) (eL : AL h' a = AL h a) (eR : AR h' a = AR h a) : ce g cA h' a = ce g cA h a := by
  have er : ∀ t j, rdf t h' a j = rdf t h a j := by
    intro t j
    unfold rdf
    rw [eI, eL, eR]
  unfold ce
  simp only [eK, eI, eL, eR, er]
def Rel (g : Nat × Nat × Nat) (Ls : Nat) (xs : Nat → Int32) (D : va_G) (cA : Nat → ClassId) (H0 : Heap) (h : AH) (H : Heap) (locs : List Loc) : Prop :=
  2 ≤ AN h ∧ va_P D clsL (wsO g cA h) H ∧ va_S (Aw g) H0 H locs ∧ H.size = g.1 + (AN h - 2) ∧ (∀ i, AN h ≤ sgi i → (AK h i).1 = 99) ∧ AK h 0 = (20, Ls) ∧ AK h 1 = (20, Ls) ∧ (∀ j, j < Ls → AI h 0 j = xs j) ∧ ∀ j, j < Ls → AI h 1 j = xs j
section RELS
variable {g : Nat × Nat × Nat} {Ls : Nat} {xs : Nat → Int32} {D : va_G} {cA : Nat → ClassId} {H0 H H1 : Heap} {h h' : AH} {locs : List Loc}
theorem Rel.at {i : Nat} (hR : Rel g Ls xs D cA H0 h H locs) (h1 : 2 ≤ i) (h2 : (AK h i).1 ≠ 99) : (wsO g cA h)[sgi i - 2]? = some (adr g i, ce g cA h i) := by
  refine wsO_at g cA h1 (Nat.lt_of_not_le fun q => h2 (hR.2.2.2.2.1 i q))
theorem adr_m (g : Nat × Nat × Nat) (q : Nat) : adr g (sgm (q + 2)) = g.1 + q := by
  rw [adr_big g (sgm_2 (by omega)), sgi_m, Nat.add_sub_cancel]
theorem Rel.put {i k : Nat} (hR : Rel g Ls xs D cA H0 h H locs) (hi : 2 ≤ i) (eN : AN h' = AN h) (eK : AK h' = AK h) (eI : ∀ a, a ≠ i → AI h' a = AI h a) (eL : ∀ a, a ≠ i → AL h' a = AL h a) (eR : ∀ a, a ≠ i → AR h' a = AR h a)
    (hat : va_at D clsL (adr g i, ce g cA h' i) H1) (z : H1.size = H.size) (oq : ∀ q : Nat, q ≠ adr g i → H1[q]? = H[q]?) : Rel g Ls xs D cA H0 h' H1 (locs ++ [⟨adr g i, k⟩]) := by
  obtain ⟨r1, r2, r3, r4, r5, r6, r7, r8, r9⟩ := hR
  refine ⟨by rw [eN]; exact r1, fun q x hx => ?_, r3.put z oq (by rw [adr_big g hi]; exact Nat.le_add_right _ _), by rw [z, eN]; exact r4, by rw [eN, eK]; exact r5, by rw [eK]; exact r6, by rw [eK]; exact r7, fun j hj => by rw [eI 0 (by omega)]; exact r8 j hj, fun j hj => by rw [eI 1 (by omega)]; exact r9 j hj⟩
  obtain ⟨hq, rfl⟩ := wsO_get hx
  rw [eN] at hq
  have ha : adr g (sgm (q + 2)) = g.1 + q := adr_m g q
  by_cases hqi : sgm (q + 2) = i
  · subst hqi
    rw [← ha]
    exact hat
  · have h2 := r2 (sgi (sgm (q + 2)) - 2) _ (wsO_at g cA (h := h) (i := sgm (q + 2)) (sgm_2 (by omega)) (by rw [sgi_m]; exact hq))
    rw [ha] at h2
    rw [ce_same (congrFun eK _) (eI _ hqi) (eL _ hqi) (eR _ hqi)]
    exact h2.kept (oq _ (by rw [← ha]; exact fun z => hqi (adr_inj g (sgm_2 (by omega)) hi z)))
theorem Rel.push {kd len : Nat} (hR : Rel g Ls xs D cA H0 h H locs) (hH0 : g.1 ≤ H0.size) (hat : va_at D clsL (H.size, ce g cA (newO h kd len) (NX h)) H1) (z : H1.size = H.size + 1) (oq : ∀ q : Nat, q < H.size → H1[q]? = H[q]?) : Rel g Ls xs D cA H0 (newO h kd len) H1 locs := by
  obtain ⟨r1, r2, r3, r4, r5, r6, r7, r8, r9⟩ := hR
  have eN : AN (newO h kd len) = AN h + 1 := rfl
  have n2 : 2 ≤ NX h := sgm_2 r1
  have nx : sgi (NX h) = AN h := sgi_m _
  have eK : ∀ a, a ≠ NX h → AK (newO h kd len) a = AK h a := fun a ha => if_neg ha
  have eI : ∀ a, a ≠ NX h → AI (newO h kd len) a = AI h a := fun a ha => if_neg ha
  have eL : ∀ a, a ≠ NX h → AL (newO h kd len) a = AL h a := fun a ha => if_neg ha
  have eR : ∀ a, a ≠ NX h → AR (newO h kd len) a = AR h a := fun a ha => if_neg ha
  refine ⟨by omega, fun q x hx => ?_, ⟨Nat.le_trans r3.1 (by omega), fun q h1 h2 => (oq q (Nat.lt_of_lt_of_le h1 r3.1)).trans (r3.2.1 q h1 h2), r3.2.2⟩, by rw [z, r4, eN]; omega, fun i hi => by rw [eK i (fun y => by rw [y, nx] at hi; omega)]; exact r5 i (by omega), by rw [eK 0 (by omega)]; exact r6, by rw [eK 1 (by omega)]; exact r7, fun j hj => by rw [eI 0 (by omega)]; exact r8 j hj, fun j hj => by rw [eI 1 (by omega)]; exact r9 j hj⟩
  obtain ⟨hq, rfl⟩ := wsO_get hx
  rw [eN] at hq
  have ha : adr g (sgm (q + 2)) = g.1 + q := adr_m g q
  by_cases hqi : q + 2 = AN h
  · rw [show sgm (q + 2) = NX h from congrArg sgm hqi, show g.1 + q = H.size by omega]
    exact hat
  · have hne : sgm (q + 2) ≠ NX h := fun y => by
      rw [← y, sgi_m] at nx
      exact hqi nx
    have h2 := r2 (sgi (sgm (q + 2)) - 2) _ (wsO_at g cA (h := h) (i := sgm (q + 2)) (sgm_2 (by omega)) (by rw [sgi_m]; omega))
    rw [ha] at h2
    rw [ce_same (eK _ hne) (eI _ hne) (eL _ hne) (eR _ hne)]
    exact h2.kept (oq _ (by omega))
theorem Rel.next {H2 : Heap} {locs' : List Loc} (hR : Rel g Ls xs D cA H0 h H locs) (hN : Rel g Ls xs D cA H h' H2 []) (hL : ∀ q ∈ locs', Aw g q.base) : Rel g Ls xs D cA H0 h' H2 (locs ++ locs') := by
  obtain ⟨r1, r2, r3, r4, r5, r6, r7, r8, r9⟩ := hN
  obtain ⟨s1, s2, s3, -⟩ := hR
  refine ⟨r1, r2, ⟨Nat.le_trans s3.1 r3.1, fun q h1 h2 => (r3.2.1 q (Nat.lt_of_lt_of_le h1 s3.1) h2).trans (s3.2.1 q h1 h2), fun q hq => ?_⟩, r4, r5, r6, r7, r8, r9⟩
  rcases List.mem_append.mp hq with z | z
  · exact s3.2.2 q z
  · exact hL q z
theorem Rel.self (hR : Rel g Ls xs D cA H0 h H locs) : Rel g Ls xs D cA H h H [] := by
  obtain ⟨r1, r2, r3, r4, r5, r6, r7, r8, r9⟩ := hR
  exact ⟨r1, r2, va_S.rf, r4, r5, r6, r7, r8, r9⟩
end RELS
/-- what holds of a frame's start, whatever its heap's objects are -/
def WF (g : Nat × Nat × Nat) (Ls : Nat) (xs : Nat → Int32) (D : va_G) (cA : Nat → ClassId) (s : State) : Prop :=
  va_K D clsL (tyl cA) s ∧ (∀ e ∈ snT ++ cnT, va_Nw (.methodLinkNest (rcl e.2.2.1) e.2.2.2.1 (mName e.2.2.2.2) "CutsOrFast") s) ∧ (∀ q ∈ castY, va_Nw (.castable (rcl q.1) (rcl q.2)) s) ∧ (∀ q ∈ castN, va_Nc (rcl q.1) (rcl q.2) s) ∧ va_AO "CutsOrFast$Player" s ∧
  True ∧ va_X g.2.1 Ls xs s s.heap ∧ va_X g.2.2 Ls xs s s.heap ∧ g.2.1 < g.1 ∧ g.2.2 < g.1 ∧ g.1 ≤ s.heap.size
theorem WF.warm {g : Nat × Nat × Nat} {Ls : Nat} {xs : Nat → Int32} {D : va_G} {cA : Nat → ClassId} {s U : State} (h : WF g Ls xs D cA s) (hW : s.WarmedH U.vm) (hz : s.heap.size ≤ U.heap.size) (hq : ∀ q : Nat, q < s.heap.size → ¬ Aw g q → U.heap[q]? = s.heap[q]?) : WF g Ls xs D cA U := by
  obtain ⟨h1, h2, h3, h4, h5, h6, h7, h8, h9, h10, h11⟩ := h
  have hA := hW.alike
  refine ⟨va_K.moved hA h1, fun e he => (h2 e he).warmM hW, fun q hq' => (h3 q hq').warmC hW, fun q hq' => (h4 q hq').moved hA, h5.moved hA, trivial, (h7.moved hA).kept (hq _ (by omega) (Nat.not_le.mpr h9)), (h8.moved hA).kept (hq _ (by omega) (Nat.not_le.mpr h10)), h9, h10, by omega⟩
theorem WF.calling {g : Nat × Nat × Nat} {Ls : Nat} {xs : Nat → Int32} {D : va_G} {cA : Nat → ClassId} {U : State} (h : WF g Ls xs D cA U) (gg : JFrame) (mk : MethodId) (a : Array Value) : WF g Ls xs D cA (U.calling gg mk a) := by
  obtain ⟨h1, h2, h3, h4, h5, h6, h7, h8, h9, h10, h11⟩ := h
  have hA : U.vm.Alike (U.calling gg mk a).vm := Vm.Alike.refl U.vm
  exact ⟨va_K.moved hA h1, fun e he => (h2 e he).same rfl rfl, fun q hq' => (h3 q hq').same rfl rfl, fun q hq' => (h4 q hq').moved hA, h5.moved hA, trivial, h7.moved hA, h8.moved hA, h9, h10, h11⟩
/-- a method's frame: its code, its class, its words -/
def Cx (p : Program) (s : State) (m : MethodId) (args : Array Value) (meth : Method) (c : Code) (k : Nat) (g : Nat × Nat × Nat) (Ls : Nat) (xs : Nat → Int32) (D : va_G) (cA : Nat → ClassId) : Prop :=
  p.tables.exec = Jvm.exec ∧ c.code = mCode k ∧ c.maxLocals = mMax k ∧ s.vm.findClass (rcl (mOwn k)) = some m.cls ∧ (∀ w ∈ tblG, w.before args s = true) ∧ ((mName k).name = "<init>" → meth.name = "<init>") ∧ meth.sig.returnType = mRet k ∧ meth.locks = false ∧ WF g Ls xs D cA s
/-- the locals -/
def LH (g : Nat × Nat × Nat) (ls : Array Slot) (n : Nat) (L : List Value) : Prop := ls.size = n ∧ lv_wf ls ∧ L.length = n ∧ ∀ (i : Nat) (v : Value), L[i]? = some v → (∀ q, v ≠ .retAddr q) → ls[i]? = some (.val (rv g v))
theorem rv_cat (g : Nat × Nat × Nat) (v : Value) : (rv g v).category = v.category := by
  cases v <;> rfl
theorem rv_map_cat (g : Nat × Nat × Nat) (l : List Value) : ((l.map (rv g)).map fun v => v.category) = l.map fun v => v.category := by
  rw [List.map_map]
  exact List.map_congr_left fun v _ => rv_cat g v
def kpv (g : Nat × Nat × Nat) (i : Nat) (o : Option Value) : Option (Nat × Value) := match o with
  | some (.retAddr _) => none
  | some v => some (i, rv g v)
  | none => none
def asc (g : Nat × Nat × Nat) (L : List Value) : List (Nat × Value) := (List.range L.length).filterMap (fun i => kpv g i L[i]?)
theorem asc_in {g : Nat × Nat × Nat} {L : List Value} {i : Nat} {v : Value} (h : L[i]? = some v) (hv : ∀ q, v ≠ .retAddr q) : (i, rv g v) ∈ asc g L := by
  refine List.mem_filterMap.mpr ⟨i, List.mem_range.mpr (List.getElem?_eq_some_iff.mp h).1, ?_⟩
  rw [h]
  cases v with
  | retAddr q => exact absurd rfl (hv q)
  | _ => rfl
theorem asc_out {g : Nat × Nat × Nat} {L : List Value} {q : Nat × Value} (h : q ∈ asc g L) : ∃ v, L[q.1]? = some v ∧ (∀ z, v ≠ .retAddr z) ∧ q.2 = rv g v := by
  obtain ⟨i, hi, h2⟩ := List.mem_filterMap.mp h
  cases hv : L[i]? with
  | none => rw [hv] at h2; cases h2
  | some v =>
    rw [hv] at h2
    cases v <;> first | cases h2; done | (cases h2; exact ⟨_, hv, fun z e => (by cases e), rfl⟩)
theorem LH.has {g : Nat × Nat × Nat} {ls : Array Slot} {n : Nat} {L : List Value} (h : LH g ls n L) : lv_has ls n (asc g L) := by
  refine ⟨h.1, h.2.1, fun q hq => ?_⟩
  obtain ⟨v, h1, h2, h3⟩ := asc_out hq
  rw [h3]
  exact h.2.2.2 q.1 v h1 h2
theorem cln_len (L : List Value) (i : Nat) : (cln L i).length = L.length := by
  unfold cln
  cases i with
  | zero => rfl
  | succ j =>
    dsimp only
    cases isLong L[j]? <;> simp
theorem cln_at {L : List Value} {i j : Nat} {v : Value} (h : (cln L i)[j]? = some v) (hv : ∀ q, v ≠ .retAddr q) : L[j]? = some v ∧ ¬ (j + 1 = i ∧ v.category = 2) := by
  unfold cln at h
  cases i with
  | zero => exact ⟨h, fun z => by omega⟩
  | succ k =>
    dsimp only at h
    cases hL : isLong L[k]? with
    | true =>
      rw [hL, cond_true, List.getElem?_set] at h
      by_cases hkj : k = j
      · subst hkj
        rw [if_pos rfl] at h
        split at h
        · cases h; exact absurd rfl (hv 0)
        · cases h
      · rw [if_neg hkj] at h
        exact ⟨h, fun z => by omega⟩
    | false =>
      rw [hL, cond_false] at h
      refine ⟨h, fun z => ?_⟩
      have hkj : j = k := by omega
      subst hkj
      rw [h] at hL
      simp [isLong, z.2] at hL
theorem LH.put1 {g : Nat × Nat × Nat} {ls ls' : Array Slot} {n : Nat} {L : List Value} {i : Nat} {v : Value} (h : LH g ls n L) (hh : lv_has ls' n ((i, rv g v) :: (asc g L).filter (fun q => !(q.1 == i) && !(q.1 + 1 == i && q.2.category == 2)))) : LH g ls' n (sto1 L i v) := by
  refine ⟨hh.1, hh.2.1, by unfold sto1; rw [List.length_set, cln_len]; exact h.2.2.1, fun j w hj hw => ?_⟩
  unfold sto1 at hj
  rw [List.getElem?_set] at hj
  by_cases hij : i = j
  · subst hij
    rw [if_pos rfl] at hj
    split at hj
    · cases hj
      exact hh.2.2 _ List.mem_cons_self
    · cases hj
  · rw [if_neg hij] at hj
    obtain ⟨h1, h2⟩ := cln_at hj hw
    refine hh.2.2 (j, rv g w) (List.mem_cons_of_mem _ (List.mem_filter.mpr ⟨asc_in h1 hw, ?_⟩))
    have e1 : (j == i) = false := beq_eq_false_iff_ne.mpr fun z => hij z.symm
    have e2 : (j + 1 == i && (rv g w).category == 2) = false := by
      rw [rv_cat]
      by_cases z : j + 1 = i
      · have : ¬ w.category = 2 := fun y => h2 ⟨z, y⟩
        simp [this]
      · simp [z]
    rw [e1, e2]
    rfl
theorem LH.put2 {g : Nat × Nat × Nat} {ls ls' : Array Slot} {n : Nat} {L : List Value} {i : Nat} {v : Value} (h : LH g ls n L) (hh : lv_has ls' n ((i, rv g v) :: (asc g L).filter (fun q => !(q.1 == i) && (!(q.1 == i + 1) && !(q.1 + 1 == i && q.2.category == 2))))) : LH g ls' n (sto2 L i v) := by
  refine ⟨hh.1, hh.2.1, by unfold sto2; rw [List.length_set, List.length_set, cln_len]; exact h.2.2.1, fun j w hj hw => ?_⟩
  unfold sto2 at hj
  rw [List.getElem?_set] at hj
  by_cases hij2 : i + 1 = j
  · subst hij2
    rw [if_pos rfl] at hj
    split at hj
    · cases hj; exact absurd rfl (hw 0)
    · cases hj
  rw [if_neg hij2, List.getElem?_set] at hj
  by_cases hij : i = j
  · subst hij
    rw [if_pos rfl] at hj
    split at hj
    · cases hj
      exact hh.2.2 _ List.mem_cons_self
    · cases hj
  · rw [if_neg hij] at hj
    obtain ⟨h1, h2⟩ := cln_at hj hw
    refine hh.2.2 (j, rv g w) (List.mem_cons_of_mem _ (List.mem_filter.mpr ⟨asc_in h1 hw, ?_⟩))
    have e1 : (j == i) = false := beq_eq_false_iff_ne.mpr fun z => hij z.symm
    have e3 : (j == i + 1) = false := beq_eq_false_iff_ne.mpr fun z => hij2 z.symm
    have e2 : (j + 1 == i && (rv g w).category == 2) = false := by
      rw [rv_cat]
      by_cases z : j + 1 = i
      · have : ¬ w.category = 2 := fun y => h2 ⟨z, y⟩
        simp [this]
      · simp [z]
    rw [e1, e2, e3]
    rfl
theorem LH.at {g : Nat × Nat × Nat} {ls : Array Slot} {n : Nat} {L : List Value} (h : LH g ls n L) {i : Nat} {v : Value} (hv : L[i]? = some v) (hr : ∀ q, v ≠ .retAddr q) : ls[i]? = some (.val (rv g v)) := h.2.2.2 i v hv hr
theorem exL_len (g : Nat × Nat × Nat) : ∀ l : List Value, (lg_sl (l.map (rv g))).length = (exL l).length
  | [] => rfl
  | v :: r => by
    have ih := exL_len g r
    show ((if (rv g v).category = 2 then [Slot.val (rv g v), .second] else [Slot.val (rv g v)]) ++ lg_sl (r.map (rv g))).length = (bif isLong (some v) then v :: mk0 :: exL r else v :: exL r).length
    rw [List.length_append, ih]
    rcases lv_cat v with z | z
    · have e : isLong (some v) = false := by simp [isLong, z]; rfl
      rw [if_neg (by rw [rv_cat, z]; decide), e, cond_false]
      simp only [List.length_cons, List.length_nil]
      omega
    · have e : isLong (some v) = true := by simp [isLong, z]
      rw [if_pos (by rw [rv_cat, z]), e, cond_true]
      simp only [List.length_cons, List.length_nil]
      omega
theorem exL_at (g : Nat × Nat × Nat) : ∀ (l : List Value) (o i : Nat) (v : Value), (exL l)[i]? = some v → (∀ q, v ≠ .retAddr q) → (o + i, rv g v) ∈ lv_args o (l.map (rv g))
  | [], _, _, _, h, _ => by simp [exL] at h
  | a :: r, o, i, v, h, hv => by
    unfold exL at h
    rw [List.map_cons]
    unfold lv_args
    cases hc : isLong (some a) with
    | true =>
      rw [hc, cond_true] at h
      have hcat : (rv g a).category = 2 := by
        rw [rv_cat]
        simpa [isLong] using hc
      match i, h with
      | 0, h =>
        simp at h
        subst h
        exact List.mem_cons_self
      | 1, h =>
        simp at h
        exact absurd h.symm (hv 0)
      | i + 2, h =>
        have := exL_at g r (o + 2) i v (by simpa using h) hv
        rw [show o + (i + 2) = o + 2 + i by omega, if_pos hcat]
        exact List.mem_cons_of_mem _ this
    | false =>
      rw [hc, cond_false] at h
      have hcat : (rv g a).category = 1 := by
        rw [rv_cat]
        rcases lv_cat a with z | z
        · exact z
        · simp [isLong, z] at hc
      match i, h with
      | 0, h =>
        simp at h
        subst h
        exact List.mem_cons_self
      | i + 1, h =>
        have := exL_at g r (o + 1) i v (by simpa using h) hv
        rw [show o + (i + 1) = o + 1 + i by omega, if_neg (by rw [hcat]; decide)]
        exact List.mem_cons_of_mem _ this
theorem LH.entry (g : Nat × Nat × Nat) (l : List Value) {n : Nat} (h : (exL l).length ≤ n) {ls : Array Slot} (hh : lv_has ls n (lv_args 0 (l.map (rv g)))) : LH g ls n (ini n l) := by
  refine ⟨hh.1, hh.2.1, by unfold ini; rw [List.length_append, List.length_replicate]; omega, fun i v hi hv => ?_⟩
  unfold ini at hi
  by_cases hl : i < (exL l).length
  · rw [List.getElem?_append_left hl] at hi
    have := hh.2.2 _ (exL_at g l 0 i v hi hv)
    rwa [Nat.zero_add] at this
  · rw [List.getElem?_append_right (by omega), List.getElem?_replicate] at hi
    split at hi
    · cases hi; exact absurd rfl (hv 0)
    · cases hi
