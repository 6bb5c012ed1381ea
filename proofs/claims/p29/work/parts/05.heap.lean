/-! heap instructions over the abstract heap -/
def okTy (t : FieldType) : Bool := match t with
  | .int => true
  | .long => true
  | .boolean => true
  | .array _ => true
  | .object _ => true
  | _ => false
theorem okTy_all : ∀ c, c < 13 → ∀ b, b < nF c → okTy (tyT c b) = true := by decide +kernel
def ClsP (ci : Nat) : Prop := clsL[ci]? = some (rcl ci, TT ci, nF ci) ∧ (∀ w ∈ u_ws (rcl ci) (TT ci) (nF ci), w ∈ tblG) ∧ (∀ k, k < nF ci → parseFieldDescriptor (TT ci k).2.2.1 = some (tyT ci k)) ∧ ∀ a, a < nF ci → ∀ b, b < nF ci → a ≠ b → (TT ci a).2.1 ≠ (TT ci b).2.1
theorem clsP_0 : ClsP 0 := ⟨rfl, inX_5, tyX5_ok, nmX5⟩
theorem clsP_1 : ClsP 1 := ⟨rfl, inX_5, tyX5_ok, nmX5⟩
theorem clsP_2 : ClsP 2 := ⟨rfl, inX_5, tyX5_ok, nmX5⟩
theorem clsP_3 : ClsP 3 := ⟨rfl, inX_3, tyX3_ok, nmX3⟩
theorem clsP_4 : ClsP 4 := ⟨rfl, inX_5, tyX5_ok, nmX5⟩
theorem clsP_5 : ClsP 5 := ⟨rfl, inX_5, tyX5_ok, nmX5⟩
theorem clsP_6 : ClsP 6 := ⟨rfl, inX_6, tyX6_ok, nmX6⟩
theorem clsP_7 : ClsP 7 := ⟨rfl, inX_5, tyX5_ok, nmX5⟩
theorem clsP_8 : ClsP 8 := ⟨rfl, inX_8, tyX8_ok, nmX8⟩
theorem clsP_9 : ClsP 9 := ⟨rfl, inX_9, tyX9_ok, nmX9⟩
theorem clsP_10 : ClsP 10 := ⟨rfl, inX_10, tyX10_ok, nmX10⟩
theorem clsP_11 : ClsP 11 := ⟨rfl, inX_11, tyX11_ok, nmX11⟩
theorem clsP_12 : ClsP 12 := ⟨rfl, inX_5, tyX5_ok, nmX5⟩
theorem clsP : ∀ ci, ci < 13 → ClsP ci := lt_s (lt_s (lt_s (lt_s (lt_s (lt_s (lt_s (lt_s (lt_s (lt_s (lt_s (lt_s (lt_s (lt_0 (p := ClsP)) clsP_0) clsP_1) clsP_2) clsP_3) clsP_4) clsP_5) clsP_6) clsP_7) clsP_8) clsP_9) clsP_10) clsP_11) clsP_12
theorem beqE {a b : Nat} (h : Nat.beq a b = true) : a = b := Nat.eq_of_beq_eq_true h
theorem chkF_spec {k own idx c b : Nat} (h : chkF k own idx c b = true) : (Jvm.Cond.fieldLink (rcl own) idx (TT c b).1 (TT c b).2.1 (TT c b).2.2.1) ∈ tblG ∧ b < nF c ∧ c < 13 := by
  unfold chkF at h
  obtain ⟨e, he, h⟩ := List.any_eq_true.mp h
  simp only [Bool.and_eq_true] at h
  obtain ⟨⟨⟨h1, h2⟩, h3⟩, h4⟩ := h
  have e1 := beqE h1
  have e2 := beqE h2
  have e3 := beqE h3
  have e4 := beqE h4
  subst e1 e2 e3 e4
  have hf := List.all_eq_true.mp flT_ok e he
  simp only [flChk, Bool.and_eq_true, decide_eq_true_eq] at hf
  exact ⟨tAt_in hf.1.1, hf.1.2, hf.2⟩
theorem okC_spec {c kd b : Nat} (h : okC c kd = true) (hc : c < 13) (hb : b < nF c) : kd < 13 ∧ b < nF kd ∧ TT kd b = TT c b ∧ ftg kd b = ftg c b ∧ tyT kd b = tyT c b := by
  have := beqE h
  subst this
  exact ⟨hc, hb, rfl, rfl, rfl⟩
def fvs (g : Nat × Nat × Nat) (h : AH) (i : Nat) : List Value := (List.range (nF (AK h i).1)).map (fun j => rv g (rdf (ftg (AK h i).1 j) h i j))
theorem ce_obj {g : Nat × Nat × Nat} {cA : Nat → ClassId} {h : AH} {i : Nat} (hk : (AK h i).1 < 13) : ce g cA h i = .inr ((AK h i).1, fvs g h i) := by
  unfold ce
  rw [if_pos hk]
  rfl
theorem fvs_at {g : Nat × Nat × Nat} {h : AH} {i b : Nat} (hb : b < nF (AK h i).1) : (fvs g h i)[b]? = some (rv g (rdf (ftg (AK h i).1 b) h i b)) := by
  unfold fvs
  rw [List.getElem?_map, List.getElem?_range hb]
  rfl
theorem fvs_len (g : Nat × Nat × Nat) (h : AH) (i : Nat) : (fvs g h i).length = nF (AK h i).1 := by
  unfold fvs
  rw [List.length_map, List.length_range]
theorem wrf_spec {t : Nat} {h h' : AH} {i j : Nat} {v : Value} (hw : wrf t h i j v = some h') : AN h' = AN h ∧ AT h' = AT h ∧ AK h' = AK h ∧ (∀ a, a ≠ i → AI h' a = AI h a) ∧ (∀ a, a ≠ i → AL h' a = AL h a) ∧ (∀ a, a ≠ i → AR h' a = AR h a) ∧ rdf t h' i j = v ∧ ∀ t' j', j' ≠ j → rdf t' h' i j' = rdf t' h i j' := by
  have up : ∀ {α : Type} (f : Nat → Nat → α) (x : α) (a : Nat), a ≠ i → up2 f i j x a = f a := fun f x a ha => by
    funext b
    exact if_neg fun z => ha z.1
  have us : ∀ {α : Type} (f : Nat → Nat → α) (x : α), up2 f i j x i j = x := fun f x => if_pos ⟨rfl, rfl⟩
  have un : ∀ {α : Type} (f : Nat → Nat → α) (x : α) (b : Nat), b ≠ j → up2 f i j x i b = f i b := fun f x b hb => if_neg fun z => hb z.2
  have kI : ∀ x, AN (stI h i j x) = AN h ∧ AT (stI h i j x) = AT h ∧ AK (stI h i j x) = AK h ∧ (∀ a, a ≠ i → AI (stI h i j x) a = AI h a) ∧ (∀ a, a ≠ i → AL (stI h i j x) a = AL h a) ∧ (∀ a, a ≠ i → AR (stI h i j x) a = AR h a) ∧ (AI (stI h i j x) i j = x) ∧ ∀ t' j', j' ≠ j → rdf t' (stI h i j x) i j' = rdf t' h i j' := fun x => by
    refine ⟨rfl, rfl, rfl, fun a ha => up _ _ a ha, fun _ _ => rfl, fun _ _ => rfl, us _ _, fun t' j' hj => ?_⟩
    have e : AI (stI h i j x) i j' = AI h i j' := un _ _ j' hj
    have e2 : AL (stI h i j x) = AL h := rfl
    have e3 : AR (stI h i j x) = AR h := rfl
    unfold rdf
    rw [e, e2, e3]
  have kL : ∀ x, AN (stL h i j x) = AN h ∧ AT (stL h i j x) = AT h ∧ AK (stL h i j x) = AK h ∧ (∀ a, a ≠ i → AI (stL h i j x) a = AI h a) ∧ (∀ a, a ≠ i → AL (stL h i j x) a = AL h a) ∧ (∀ a, a ≠ i → AR (stL h i j x) a = AR h a) ∧ (AL (stL h i j x) i j = x) ∧ ∀ t' j', j' ≠ j → rdf t' (stL h i j x) i j' = rdf t' h i j' := fun x => by
    refine ⟨rfl, rfl, rfl, fun _ _ => rfl, fun a ha => up _ _ a ha, fun _ _ => rfl, us _ _, fun t' j' hj => ?_⟩
    have e : AL (stL h i j x) i j' = AL h i j' := un _ _ j' hj
    have e2 : AI (stL h i j x) = AI h := rfl
    have e3 : AR (stL h i j x) = AR h := rfl
    unfold rdf
    rw [e, e2, e3]
  have kR : ∀ x, AN (stR h i j x) = AN h ∧ AT (stR h i j x) = AT h ∧ AK (stR h i j x) = AK h ∧ (∀ a, a ≠ i → AI (stR h i j x) a = AI h a) ∧ (∀ a, a ≠ i → AL (stR h i j x) a = AL h a) ∧ (∀ a, a ≠ i → AR (stR h i j x) a = AR h a) ∧ (AR (stR h i j x) i j = x) ∧ ∀ t' j', j' ≠ j → rdf t' (stR h i j x) i j' = rdf t' h i j' := fun x => by
    refine ⟨rfl, rfl, rfl, fun _ _ => rfl, fun _ _ => rfl, fun a ha => up _ _ a ha, us _ _, fun t' j' hj => ?_⟩
    have e : AR (stR h i j x) i j' = AR h i j' := un _ _ j' hj
    have e2 : AI (stR h i j x) = AI h := rfl
    have e3 : AL (stR h i j x) = AL h := rfl
    unfold rdf
    rw [e, e2, e3]
  unfold wrf at hw
  cases v with
  | int x =>
    dsimp only at hw
    obtain ⟨a1, a2, a3, a4, a5, a6, a7, a8⟩ := kI x
    split at hw
    · cases hw
      exact ⟨a1, a2, a3, a4, a5, a6, congrArg Value.int a7, a8⟩
    · split at hw
      · cases hw
        exact ⟨a1, a2, a3, a4, a5, a6, congrArg Value.int a7, a8⟩
      · cases hw
    · cases hw
  | long x =>
    dsimp only at hw
    obtain ⟨a1, a2, a3, a4, a5, a6, a7, a8⟩ := kL x
    split at hw
    · cases hw
      exact ⟨a1, a2, a3, a4, a5, a6, congrArg Value.long a7, a8⟩
    · cases hw
  | ref x =>
    dsimp only at hw
    obtain ⟨a1, a2, a3, a4, a5, a6, a7, a8⟩ := kR (some x)
    split at hw
    · cases hw
      exact ⟨a1, a2, a3, a4, a5, a6, congrArg va_rf a7, a8⟩
    · cases hw
  | null =>
    dsimp only at hw
    obtain ⟨a1, a2, a3, a4, a5, a6, a7, a8⟩ := kR none
    split at hw
    · cases hw
      exact ⟨a1, a2, a3, a4, a5, a6, congrArg va_rf a7, a8⟩
    · cases hw
  | _ => cases hw
theorem isB_nar {x : Int32} (h : isB x = true) : narrow .boolean (.int x) = .int x ∧ fits .boolean (.int x) = true := by
  unfold isB at h
  rw [Bool.or_eq_true, decide_eq_true_eq, decide_eq_true_eq] at h
  rcases h with rfl | rfl <;> decide
theorem wrf_fits {c b : Nat} {h h' : AH} {i : Nat} {v : Value} {g : Nat × Nat × Nat} (hc : c < 13) (hb : b < nF c) (hw : wrf (ftg c b) h i b v = some h') : narrow (tyT c b) (rv g v) = rv g v ∧ fits (tyT c b) (rv g v) = true := by
  have hok := okTy_all c hc b hb
  unfold ftg at hw
  unfold wrf at hw
  cases ht : tyT c b <;> rw [ht] at hw hok <;> first | (cases hok; done) | skip
  all_goals (cases v <;> dsimp only at hw <;> first | (cases hw; done) | exact ⟨rfl, rfl⟩ | skip)
  rename_i x
  have hw2 : (if isB x = true then some (stI h i b x) else none) = some h' := hw
  split at hw2
  · exact isB_nar ‹_›
  · cases hw2
section HEAPS
variable {p : Program} {l : Launch} {e : Env} {R : Room} {s : State} {m : MethodId} {args : Array Value} {below : List Frame} {meth : Method} {c : Code} {H : Heap} {locs : List Loc} {cells slots : Nat} {Q : State → Prop} {pc : Nat} {ls : Array Slot} {rest : List Value}
variable {g : Nat × Nat × Nat} {Ls : Nat} {xs : Nat → Int32} {D : va_G} {cA : Nat → ClassId} {h h' : AH} {k i : Nat} {H0 : Heap}
theorem Rel.big (hR : Rel g Ls xs D cA H0 h H locs) (hk : (AK h i).1 ≠ 20) : 2 ≤ i := by
  obtain ⟨-, -, -, -, -, r6, r7, -, -⟩ := hR
  match i, hk with
  | 0, hk => exact absurd (by rw [r6]) hk
  | 1, hk => exact absurd (by rw [r7]) hk
  | i + 2, _ => exact Nat.le_add_left _ _
theorem getW {idx cc b : Nat} (C : Cx p s m args meth c k g Ls xs D cA) (hR : Rel g Ls xs D cA s.heap h H locs) (hF : chkF k (mOwn k) idx cc b = true) (hok : okC cc (AK h i).1 = true) (hdg : decode (mCode k) pc = .ok (.getfield idx, 3))
    (kk : W p l e R s m args below meth c H locs cells slots Q (F0 m (pc + 3) ls (rv g (rdf (ftg cc b) h i b) :: rest))) : W p l e R s m args below meth c H locs cells slots Q (F0 m pc ls (.ref (adr g i) :: rest)) := by
  obtain ⟨hx, hb, hml, hown, hts, hnm, hret, hlk, hW⟩ := C
  obtain ⟨hlink, hbn, hc⟩ := chkF_spec hF
  obtain ⟨o1, o2, o3, o4, o5⟩ := okC_spec hok hc hbn
  obtain ⟨q1, q2, q3, q4⟩ := clsP _ o1
  have h2 : 2 ≤ i := hR.big (by omega)
  have he := hR.at h2 (by omega)
  rw [ce_obj o1] at he
  refine va_get (D := D) (C := rcl (AK h i).1) (T := TT (AK h i).1) (N := nF (AK h i).1) hx hb hts q2 hown hW.1 hR.2.1 (sgi i - 2) he q1 b o2 (ref := (TT cc b).1) (by rw [o3]; exact hts _ hlink) (by rw [o3]; exact fun _ z => z) (fvs_at o2) hdg ?_
  rw [o4]
  exact kk
theorem putW {idx cc b : Nat} {v : Value} (C : Cx p s m args meth c k g Ls xs D cA) (hR : Rel g Ls xs D cA s.heap h H locs) (hF : chkF k (mOwn k) idx cc b = true) (hPf : chkP k (mOwn k) cc b = true) (h2 : 2 ≤ i) (hok : okC cc (AK h i).1 = true) (hw : wrf (ftg cc b) h i b v = some h') (hdg : decode (mCode k) pc = .ok (.putfield idx, 3))
    (kk : ∀ (H1 : Heap) (locs1 : List Loc), Rel g Ls xs D cA s.heap h' H1 locs1 → W p l e R s m args below meth c H1 locs1 cells slots Q (F0 m (pc + 3) ls rest)) : W p l e R s m args below meth c H locs cells slots Q (F0 m pc ls (rv g v :: .ref (adr g i) :: rest)) := by
  obtain ⟨hx, hb, hml, hown, hts, hnm, hret, hlk, hW⟩ := C
  obtain ⟨hlink, hbn, hc⟩ := chkF_spec hF
  obtain ⟨o1, o2, o3, o4, o5⟩ := okC_spec hok hc hbn
  obtain ⟨q1, q2, q3, q4⟩ := clsP _ o1
  have he := hR.at h2 (by omega)
  rw [ce_obj o1] at he
  obtain ⟨a1, a2, a3, a4, a5, a6, a7, a8⟩ := wrf_spec hw
  obtain ⟨f1, f2⟩ := wrf_fits (g := g) hc hbn hw
  have hap := va_apart (own := rcl (mOwn k)) hts q2 _ q3 q4 hW.1 q1
  obtain ⟨r, z1, cell, c1, c2, c3, c4⟩ := hR.2.1 (sgi i - 2) _ he
  have hr : r = (rcl (AK h i).1, TT (AK h i).1, nF (AK h i).1) := Option.some.inj (z1.symm.trans q1)
  subst hr
  obtain ⟨hS, hfc, kC, hkC, hkind⟩ := hW.1.1 _ _ q1
  obtain ⟨cf, kf, fi, f, hi, hsl⟩ := hS b o2
  have hlay := hts _ (q2 _ (u_in_lay o2))
  have hst := (u_facts hfc hkC (u_lays hts q2 o2) hi).1
  have fin : ∀ (H1 : Heap) (l1 : List Loc), H1[adr g i]? = some (cell.setSlot (D.2 (AK h i).1 b) (rv g v)) → H1.size = H.size → (∀ q : Nat, q ≠ adr g i → H1[q]? = H[q]?) → Rel g Ls xs D cA s.heap h' H1 (locs ++ [⟨adr g i, D.2 (AK h i).1 b⟩]) := by
    intro H1 l1 e1 e2 e3
    refine hR.put h2 a1 a3 a4 a5 a6 ?_ e2 e3
    rw [ce_obj (by rw [a3]; exact o1)]
    refine ⟨_, by rw [a3]; exact q1, ?_⟩
    rw [a3]
    refine t_OB.to (V := updV (vp_V (fvs g h i)) b (rv g v)) ⟨_, e1, c2, c3, t_set c4 hap o2 (rv g v)⟩ (fun j hj => ?_)
    have e4 : vp_V (fvs g h' i) j = rv g (rdf (ftg (AK h i).1 j) h' i j) := by
      unfold vp_V
      rw [List.getD_eq_getElem?_getD, fvs_at (by rw [a3]; exact hj), a3]
      rfl
    rw [e4]
    unfold updV
    by_cases hjb : j = b
    · subst hjb
      rw [if_pos rfl, o4, a7]
    · rw [if_neg hjb, a8 _ _ hjb]
      unfold vp_V
      rw [List.getD_eq_getElem?_getD, fvs_at hj]
      rfl
  have hd : parseFieldDescriptor (TT (AK h i).1 b).2.2.1 = some (tyT cc b) := by rw [q3 b o2, o5]
  unfold u_lay at hlay
  cases hfin : (TT (AK h i).1 b).2.2.2 with
  | false =>
    rw [if_neg (by rw [hfin]; decide)] at hlay
    have h6 := u_store hfc hkC hkind hlay hi hd f1 f2
    refine W.putK hx hb (f := f) ⟨hown, hts _ hlink, ⟨_, _, _, by rw [← o3]; exact hi⟩, hst⟩ (by rw [c2]; exact h6) c1 c3 (by rw [hsl]; exact k2_hasslot (c4 b o2)) rfl rfl hdg fun H' e1 e2 e3 => ?_
    rw [hsl] at e1 ⊢
    exact kk H' _ (fin H' [] e1 e2 e3)
  | true =>
    rw [if_pos hfin] at hlay
    have hP2 : (mName k).name = "<init>" ∧ (TT cc b).1 = rcl (mOwn k) := by
      unfold chkP at hPf
      rw [← o3, hfin, o3] at hPf
      simpa using hPf
    have hcf : m.cls = cf := by
      obtain ⟨_, _, c', _, _, _, -, -, hf', -, -, -, hown2, -⟩ := Cond.laysFinal_spec hlay
      have e1 : c' = cf := by have := hi.symm.trans hf'; simp at this; exact this.1.symm
      rw [o3, hP2.2] at hown2
      rw [← e1]; exact Option.some.inj (hown.symm.trans hown2)
    have h6 := u_fits hfc hkC hkind (Or.inr hlay) hi hd f1 f2
    refine W.putFinK hx hb hown (hts _ hlink) (by rw [← o3]; exact hi) hst hcf (hnm hP2.1) (by rw [c2]; exact h6) c1 c3 (by rw [hsl]; exact k2_hasslot (c4 b o2)) rfl rfl hdg fun H' e1 e2 e3 => ?_
    rw [hsl] at e1 ⊢
    exact kk H' _ (fin H' [] e1 e2 e3)
theorem ce_arr {kd t : Nat} (hk : (AK h i).1 = kd) (h1 : kd = 20 ∧ t = 0 ∨ kd = 22 ∧ t = 2 ∨ kd = 23 ∧ t = 3) : ce g cA h i = .inl (cA t, (AK h i).2, .inl (AI h i)) := by
  unfold ce
  rw [hk, if_neg (by omega), if_neg (by omega), if_neg (by omega), show kd - 20 = t by omega]
theorem ce_long (hk : (AK h i).1 = 21) : ce g cA h i = .inl (cA 1, (AK h i).2, .inr (.inl (AL h i))) := by
  unfold ce
  rw [hk, if_neg (by omega), if_pos rfl]
theorem ce_ref (hk : (AK h i).1 = 24) : ce g cA h i = .inl (cA 4, (AK h i).2, .inr (.inr (.inr (.inr (fun j => (AR h i j).map (adr g)))))) := by
  unfold ce
  rw [hk, if_neg (by omega), if_neg (by omega), if_pos rfl]
theorem inR_in {x : Int32} (hi : inR h i x = true) : vp_in x (AK h i).2 := by
  unfold inR at hi
  rw [Bool.and_eq_true, decide_eq_true_eq, decide_eq_true_eq] at hi
  exact fun z => z.elim hi.1 (Nat.not_le.mpr hi.2)
theorem ialdW {x : Int32} (C : Cx p s m args meth c k g Ls xs D cA) (hR : Rel g Ls xs D cA s.heap h H locs) (hk : (AK h i).1 = 20) (hi : inR h i x = true) (hdg : decode (mCode k) pc = .ok (.iaload, 1))
    (kk : W p l e R s m args below meth c H locs cells slots Q (F0 m (pc + 1) ls (.int (AI h i x.toNatClampNeg) :: rest))) : W p l e R s m args below meth c H locs cells slots Q (F0 m pc ls (.int x :: .ref (adr g i) :: rest)) := by
  obtain ⟨hx, hb, hml, hown, hts, hnm, hret, hlk, hW⟩ := C
  have hin := inR_in hi
  by_cases h2 : 2 ≤ i
  · have he := hR.at h2 (by omega)
    rw [ce_arr (t := 0) hk (Or.inl ⟨rfl, rfl⟩)] at he
    exact va_iald hx hb hW.1 hR.2.1 (sgi i - 2) 0 he rfl hin hdg kk
  · obtain ⟨-, -, r3, -, -, r6, r7, r8, r9⟩ := hR
    obtain ⟨-, -, -, -, -, w6, w7, w8, w9, w10, w11⟩ := hW
    have hlt : x.toNatClampNeg < (AK h i).2 := Nat.not_le.mp fun q => hin (Or.inr q)
    match i, h2 with
    | 0, _ =>
      rw [r6] at hin hlt
      rw [r8 _ hlt] at kk
      exact va_sld hx hb w7 (by omega) (Nat.not_le.mpr w9) r3 hin hdg kk
    | 1, _ =>
      rw [r7] at hin hlt
      rw [r9 _ hlt] at kk
      exact va_sld hx hb w8 (by omega) (Nat.not_le.mpr w10) r3 hin hdg kk
    | i + 2, h2 => exact absurd (Nat.le_add_left _ _) h2
theorem laldW {x : Int32} (C : Cx p s m args meth c k g Ls xs D cA) (hR : Rel g Ls xs D cA s.heap h H locs) (hk : (AK h i).1 = 21) (hi : inR h i x = true) (hdg : decode (mCode k) pc = .ok (.laload, 1))
    (kk : W p l e R s m args below meth c H locs cells slots Q (F0 m (pc + 1) ls (.long (AL h i x.toNatClampNeg) :: rest))) : W p l e R s m args below meth c H locs cells slots Q (F0 m pc ls (.int x :: .ref (adr g i) :: rest)) := by
  obtain ⟨hx, hb, hml, hown, hts, hnm, hret, hlk, hW⟩ := C
  have h2 : 2 ≤ i := hR.big (by omega)
  have he := hR.at h2 (by omega)
  rw [ce_long hk] at he
  exact va_lald hx hb hW.1 hR.2.1 (sgi i - 2) 1 he rfl (inR_in hi) hdg kk
theorem rv_rf (g : Nat × Nat × Nat) (o : Option Nat) : rv g (va_rf o) = va_rf (o.map (adr g)) := by
  cases o <;> rfl
theorem aaldW {x : Int32} (C : Cx p s m args meth c k g Ls xs D cA) (hR : Rel g Ls xs D cA s.heap h H locs) (hk : (AK h i).1 = 24) (hi : inR h i x = true) (hdg : decode (mCode k) pc = .ok (.aaload, 1))
    (kk : W p l e R s m args below meth c H locs cells slots Q (F0 m (pc + 1) ls (rv g (va_rf (AR h i x.toNatClampNeg)) :: rest))) : W p l e R s m args below meth c H locs cells slots Q (F0 m pc ls (.int x :: .ref (adr g i) :: rest)) := by
  obtain ⟨hx, hb, hml, hown, hts, hnm, hret, hlk, hW⟩ := C
  have h2 : 2 ≤ i := hR.big (by omega)
  have he := hR.at h2 (by omega)
  rw [ce_ref hk] at he
  rw [rv_rf] at kk
  exact va_aldq hx hb hW.1 hR.2.1 (sgi i - 2) 4 he rfl (inR_in hi) hdg kk
theorem alenW (C : Cx p s m args meth c k g Ls xs D cA) (hR : Rel g Ls xs D cA s.heap h H locs) (hk : (AK h i).1 = 20 ∨ (AK h i).1 = 21 ∨ (AK h i).1 = 24) (hdg : decode (mCode k) pc = .ok (.arraylength, 1))
    (kk : W p l e R s m args below meth c H locs cells slots Q (F0 m (pc + 1) ls (.int (Int32.ofNat (AK h i).2) :: rest))) : W p l e R s m args below meth c H locs cells slots Q (F0 m pc ls (.ref (adr g i) :: rest)) := by
  obtain ⟨hx, hb, hml, hown, hts, hnm, hret, hlk, hW⟩ := C
  by_cases h2 : 2 ≤ i
  · have he := hR.at h2 (by omega)
    rcases hk with hk | hk | hk
    · rw [ce_arr (t := 0) hk (Or.inl ⟨rfl, rfl⟩)] at he
      exact va_alen hx hb hW.1 hR.2.1 (sgi i - 2) 0 he rfl rfl hdg kk
    · rw [ce_long hk] at he
      exact va_alen hx hb hW.1 hR.2.1 (sgi i - 2) 1 he rfl rfl hdg kk
    · rw [ce_ref hk] at he
      exact va_alen hx hb hW.1 hR.2.1 (sgi i - 2) 4 he rfl rfl hdg kk
  · obtain ⟨-, -, r3, -, -, r6, r7, r8, r9⟩ := hR
    obtain ⟨-, -, -, -, -, w6, w7, w8, w9, w10, w11⟩ := hW
    match i, h2 with
    | 0, _ =>
      rw [r6] at kk
      exact va_slen (b := g.2.1) hx hb w7 (by omega) (Nat.not_le.mpr w9) r3 hdg kk
    | 1, _ =>
      rw [r7] at kk
      exact va_slen (b := g.2.2) hx hb w8 (by omega) (Nat.not_le.mpr w10) r3 hdg kk
    | i + 2, h2 => exact absurd (Nat.le_add_left _ _) h2
theorem stI_row (h : AH) (i j : Nat) (x : Int32) : AI (stI h i j x) i = upd (AI h i) j x := by
  funext b
  show (if i = i ∧ b = j then x else AI h i b) = if b = j then x else AI h i b
  by_cases hb : b = j
  · rw [if_pos ⟨rfl, hb⟩, if_pos hb]
  · rw [if_neg (fun z => hb z.2), if_neg hb]
theorem stL_row (h : AH) (i j : Nat) (x : Int64) : AL (stL h i j x) i = vp_updL (AL h i) j x := by
  funext b
  show (if i = i ∧ b = j then x else AL h i b) = if b = j then x else AL h i b
  by_cases hb : b = j
  · rw [if_pos ⟨rfl, hb⟩, if_pos hb]
  · rw [if_neg (fun z => hb z.2), if_neg hb]
theorem stR_row (h : AH) (i j : Nat) (x : Option Nat) : AR (stR h i j x) i = va_up (AR h i) j x := by
  funext b
  show (if i = i ∧ b = j then x else AR h i b) = va_up (AR h i) j x b
  unfold va_up
  by_cases hb : b = j
  · rw [if_pos ⟨rfl, hb⟩, if_pos hb]
  · rw [if_neg (fun z => hb z.2), if_neg hb]
theorem up2_off {α : Type} (f : Nat → Nat → α) (i j : Nat) (x : α) (a : Nat) (ha : a ≠ i) : up2 f i j x a = f a := by
  funext b
  exact if_neg fun z => ha z.1
theorem iastW {x y : Int32} (C : Cx p s m args meth c k g Ls xs D cA) (hR : Rel g Ls xs D cA s.heap h H locs) (h2 : 2 ≤ i) (hk : (AK h i).1 = 20) (hi : inR h i x = true) (hdg : decode (mCode k) pc = .ok (.iastore, 1))
    (kk : ∀ (H1 : Heap) (locs1 : List Loc), Rel g Ls xs D cA s.heap (stI h i x.toNatClampNeg y) H1 locs1 → W p l e R s m args below meth c H1 locs1 cells slots Q (F0 m (pc + 1) ls rest)) : W p l e R s m args below meth c H locs cells slots Q (F0 m pc ls (.int y :: .int x :: .ref (adr g i) :: rest)) := by
  obtain ⟨hx, hb, hml, hown, hts, hnm, hret, hlk, hW⟩ := C
  have hin := inR_in hi
  have he := hR.at h2 (by omega)
  rw [ce_arr (t := 0) hk (Or.inl ⟨rfl, rfl⟩)] at he
  refine W.iast hx hb (hR.2.1 _ _ he) ((hW.1.2 0 _ rfl).1 (AK h i).2 (fun j => .int (AI h i j))) (fun q => by cases q) (by show ¬ (x < 0 ∨ (arrV _ _ _).slots.size ≤ _); rw [arrV_size]; exact hin) rfl rfl hdg fun H1 e1 z oq => ?_
  refine kk H1 _ (hR.put h2 rfl rfl (fun a ha => up2_off _ _ _ _ a ha) (fun _ _ => rfl) (fun _ _ => rfl) ?_ z oq)
  rw [ce_arr (h := stI h i x.toNatClampNeg y) (t := 0) hk (Or.inl ⟨rfl, rfl⟩), stI_row]
  show H1[adr g i]? = some (vp_cell _ _)
  rw [e1, vp_cell_i, vp_cell_i, arrV_store]
  congr 2
  funext q
  by_cases hq : q = x.toNatClampNeg
  · subst hq
    simp [updV, upd]
  · simp [updV, upd, hq]
theorem lastW {x : Int32} {y : Int64} (C : Cx p s m args meth c k g Ls xs D cA) (hR : Rel g Ls xs D cA s.heap h H locs) (h2 : 2 ≤ i) (hk : (AK h i).1 = 21) (hi : inR h i x = true) (hdg : decode (mCode k) pc = .ok (.lastore, 1))
    (kk : ∀ (H1 : Heap) (locs1 : List Loc), Rel g Ls xs D cA s.heap (stL h i x.toNatClampNeg y) H1 locs1 → W p l e R s m args below meth c H1 locs1 cells slots Q (F0 m (pc + 1) ls rest)) : W p l e R s m args below meth c H locs cells slots Q (F0 m pc ls (.long y :: .int x :: .ref (adr g i) :: rest)) := by
  obtain ⟨hx, hb, hml, hown, hts, hnm, hret, hlk, hW⟩ := C
  have hin := inR_in hi
  have he := hR.at h2 (by omega)
  rw [ce_long hk] at he
  refine W.last hx hb (hR.2.1 _ _ he) ((hW.1.2 1 _ rfl).1 (AK h i).2 (fun j => .long (AL h i j))) (fun q => by cases q) (by show ¬ (x < 0 ∨ (arrV _ _ _).slots.size ≤ _); rw [arrV_size]; exact hin) rfl rfl hdg fun H1 e1 z oq => ?_
  refine kk H1 _ (hR.put h2 rfl rfl (fun _ _ => rfl) (fun a ha => up2_off _ _ _ _ a ha) (fun _ _ => rfl) ?_ z oq)
  rw [ce_long (h := stL h i x.toNatClampNeg y) hk, stL_row]
  show H1[adr g i]? = some (vp_cell _ _)
  rw [e1, vp_cell_l, vp_cell_l, arrV_store]
  congr 2
  funext q
  by_cases hq : q = x.toNatClampNeg
  · subst hq
    simp [updV, vp_updL]
  · simp [updV, vp_updL, hq]
end HEAPS
