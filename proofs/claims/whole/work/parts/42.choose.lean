/-! the class's players -/
def chP (i _j : Nat) : Prop := i = 19 ∨ i = 21 ∨ 47 ≤ i
def clsK (kd : Nat) : Nat := if kd = 1 then 0 else if kd = 2 then 4 else if kd = 3 then 2 else if kd = 4 then 1 else 7
def PlK (h : AH) (id kd : Nat) : Prop := 47 ≤ id ∧ (AK h id).1 = clsK kd ∧ (kd = 2 ∨ kd = 3 → ∃ i j, AR h id 0 = some i ∧ AR h id 1 = some j ∧ Row6 h i ∧ Row6 h j ∧ i ≠ j)
theorem PlK.fr {P : Nat → Nat → Prop} {h h' : AH} {id kd : Nat} (p : PlK h id kd) (hf : Fr P h h') : PlK h' id kd := by
  obtain ⟨a, b, c⟩ := p
  refine ⟨a, by rw [hf.2.2.1]; exact b, fun hk => ?_⟩
  obtain ⟨i, j, e1, e2, e3, e4, e5⟩ := c hk
  exact ⟨i, j, by rw [hf.2.2.2.1]; exact e1, by rw [hf.2.2.2.1]; exact e2, e3.fr hf, e4.fr hf, e5⟩
theorem ds_le (g : G) (F C : Nat) (p : Nat) : dsE g F C 1000 5 p ≤ 1000 ∧ dsF g F C 1000 5 p ≤ 1000 := ⟨Nat.le_trans (ruD_le g F C _ p 5) (d0_le _ _ _), Nat.le_trans (ruD_le g F C _ p 5) (d0_le _ _ _)⟩
theorem c17 {d : Nat} {h : AH} (HS : Sh h) {g : G} (hn : NetC h g) (ho : GOK g) {F C id i j l : Nat} (hk : okC 4 (AK h id).1 = true) (e1 : AR h id 0 = some i) (e2 : AR h id 1 = some j) (r1 : Row6 h i) (r2 : Row6 h j) (d1 : DiC h i (dsE g F C 1000 5)) (d2 : DiC h j (dsF g F C 1000 5)) (hl : l < g.n) {Q : Option Value → AH → Prop} (K : Q (some (.int (nI (min (dsE g F C 1000 5 (g.a l) + 1 + dsF g F C 1000 5 (g.b l)) (dsE g F C 1000 5 (g.b l) + 1 + dsF g F C 1000 5 (g.a l)))))) h) : Cl (d + 2) 17 [.ref id, .ref 5, .int (nI l)] h Q := by
  have hnn := ho.1
  obtain ⟨la, lb⟩ := ho.ab l hl
  have nb := hn.2.2.2 l hl
  have b1 := ds_le g F C (g.a l)
  have b2 := ds_le g F C (g.b l)
  refine Cl.enter rfl (g17_0 d _ _ h HS Q ⟨hk, i, e1, by rw [r1.2], by rw [r1.2]; decide, j, e2, by rw [r2.2], by rw [r2.2]; decide, i, e1, by rw [r1.2], by rw [r1.2]; decide, j, e2, by rw [r2.2], by rw [r2.2]; decide, ?_⟩)
  rw [atS HS 6 rfl (n := 10) (c := 20) (by omega), nb.1, atS HS 7 rfl (n := 10) (c := 20) (by omega), nb.2.1, at6 r1 la, at6 r1 lb, at6 r2 la, at6 r2 lb, d1 _ la, d1 _ lb, d2 _ la, d2 _ lb, nI_1, nI_1, nI_add, nI_add, minI (by omega) (by omega)]
  exact K
theorem w15 {d : Nat} {g : G} (ho : GOK g) {v id i j : Nat} (hv : St3 v) {t : ST} (hs : VS g.n t.F t.C) {dear : Bool} (hu : jn g (unc g.n t.C) = true) (hj : jn g t.F = false) {h : AH} (HS : Sh h) (hn : NetC h g) (sv : StC h v t) (hkd : (AK h id).1 = if dear = true then 2 else 4) (e1 : AR h id 0 = some i) (e2 : AR h id 1 = some j) (r1 : Row6 h i) (r2 : Row6 h j) (d1 : DiC h i (dsE g t.F t.C 1000 5)) (d2 : DiC h j (dsF g t.F t.C 1000 5)) {Q : Option Value → AH → Prop} (K : Q (some (.int (oI (nrC g t.F t.C dear)))) h) : ∀ m k, k + m = g.n → Wp (d + 3) 15 52 [.ref id, .ref v, mk0, mk0, .ref 5, .int (nI (dsE g t.F t.C 1000 5 g.f)), .int (oI (lsD (nrp g t.F t.C) g.c dear k)), .int (nI k)] [] h Q
  | 0, k, hk => by
    have hnn := ho.1
    have e : k = g.n := by omega
    subst e
    refine g15_52 (d + 2) _ _ _ _ _ _ h HS hv Q ⟨kS HS 5 rfl, okS HS 5 rfl rfl, fun z => ?_, fun _ => ⟨fun z => ?_, fun _ => K⟩⟩
    · rw [hn.1, nI_ltI (by omega) (by omega)] at z
      omega
    · exfalso
      obtain ⟨k, a, b⟩ := near_ex ho hs hj hu
      have := lsD_some (c := g.c) (dear := dear) a b
      cases hl : lsD (nrp g t.F t.C) g.c dear g.n with
      | none => exact this hl
      | some b' =>
        rw [hl] at z
        exact nI_m1 (by have := (lsD_in hl).1; omega) z
  | m + 1, k, hk => by
    have hnn := ho.1
    have hlt : k < g.n := by omega
    have hst := sta_lt t.F t.C k
    have b3 := ds_le g t.F t.C g.f
    have b1 := ds_le g t.F t.C (g.a k)
    have b2 := ds_le g t.F t.C (g.b k)
    have ih := w15 (d := d) ho hv hs hu hj HS hn sv hkd e1 e2 r1 r2 d1 d2 K m (k + 1) (by omega)
    have hok : okC 4 (AK h id).1 = true := by rw [hkd]; cases dear <;> rfl
    have same : nrp g t.F t.C k = false → Wp (d + 3) 15 52 [.ref id, .ref v, mk0, mk0, .ref 5, .int (nI (dsE g t.F t.C 1000 5 g.f)), .int (oI (lsD (nrp g t.F t.C) g.c dear k)), .int (nI (k + 1))] [] h Q := fun hp => by
      have e : lsD (nrp g t.F t.C) g.c dear (k + 1) = lsD (nrp g t.F t.C) g.c dear k := if_neg (by rw [hp]; decide)
      rwa [e] at ih
    refine g15_52 (d + 2) _ _ _ _ _ _ h HS hv Q ⟨kS HS 5 rfl, okS HS 5 rfl rfl, fun _ => ?_, fun z => absurd (by rw [hn.1, nI_ltI (by omega) (by omega)]; exact hlt) z⟩
    refine c78 HS hv sv (by omega) ⟨_, rfl, HS, ?_⟩
    rw [nI_eq0 (by omega), sta0, nI_1]
    refine ⟨fun z => ⟨17, by rw [hkd]; cases dear <;> rfl, Nat.le_of_ble_eq_true rfl, ?_⟩, fun z => same (by unfold nrp nrX; rw [ts_nt z]; rfl)⟩
    refine c17 (d := d) HS hn ho hok e1 e2 r1 r2 d1 d2 hlt ⟨_, rfl, HS, ?_⟩
    have hnm := near_min ho hlt z
    rw [nI_eq (by omega) (by omega)]
    refine ⟨fun z2 => ?_, fun z2 => same (by rw [hnm, decide_eq_false z2])⟩
    rw [decide_eq_true z2] at hnm
    cases hl : lsD (nrp g t.F t.C) g.c dear k with
    | none =>
      have e : lsD (nrp g t.F t.C) g.c dear (k + 1) = some k := by
        show (if nrp g t.F t.C k = true then _ else _) = _
        rw [if_pos hnm, hl]
      rw [e] at ih
      exact ⟨fun _ => ih, fun q => absurd rfl q⟩
    | some b =>
      have hb := (lsD_in hl).1
      have nm := nI_m1 (p := b) (by omega)
      have e : lsD (nrp g t.F t.C) g.c dear (k + 1) = if dear = true ∧ g.c b < g.c k then some k else some b := by
        show (if nrp g t.F t.C k = true then _ else _) = _
        rw [if_pos hnm, hl]
      rw [e] at ih
      have nbk := (hn.2.2.2 k hlt).2.2.1
      have nbb := (hn.2.2.2 b (by omega)).2.2.1
      have lk := (ho.2.2.2 k hlt).2.2
      have lb := (ho.2.2.2 b (by omega)).2.2
      refine ⟨fun q => absurd q nm, fun _ => ?_⟩
      cases dear with
      | false =>
        refine ⟨16, by rw [hkd]; rfl, Nat.le_of_ble_eq_true rfl, ?_⟩
        refine Cl.enter rfl (g16_0 (d + 2) _ _ _ h HS _ ⟨_, rfl, HS, fun _ => ?_, fun q => absurd rfl q⟩)
        rw [if_neg (fun z => by cases z.1)] at ih
        exact ih
      | true =>
        refine ⟨8, by rw [hkd]; rfl, Nat.le_of_ble_eq_true rfl, ?_⟩
        refine Cl.enter rfl (g8_0 d _ _ _ h HS _ ?_)
        rw [show oI (some b) = nI b from rfl, atS HS 8 rfl (n := 10) (c := 20) (by omega), atS HS 8 rfl (n := 10) (c := 20) (by omega), nbk, nbb, nI_ltI (by omega) (by omega)]
        refine ⟨fun q => ⟨_, rfl, HS, fun q2 => absurd q2 (by decide), fun _ => ?_⟩, fun q => ⟨_, rfl, HS, fun _ => ?_, fun q2 => absurd rfl q2⟩⟩
        · rw [if_pos ⟨rfl, q⟩] at ih
          exact ih
        · rw [if_neg (fun z => q z.2)] at ih
          exact ih
theorem c15 {d : Nat} {g : G} (ho : GOK g) {v id : Nat} (hv : St3 v) {t : ST} (hs : VS g.n t.F t.C) {dear : Bool} (hu : jn g (unc g.n t.C) = true) (hj : jn g t.F = false) {h : AH} (HS : Sh h) (hn : NetC h g) (sv : StC h v t) (pk : PlK h id (if dear = true then 3 else 2)) {Q : Option Value → AH → Prop} (K : ∀ h', Fr (fun i _ => 47 ≤ i) h h' → Q (some (.int (oI (nrC g t.F t.C dear)))) h') : Cl (d + 4) 15 [.ref id, .ref v, .ref 17, .ref 21] h Q := by
  have hv46 : v < 17 ∧ 11 ≤ v := by rcases hv with rfl | rfl | rfl <;> decide
  obtain ⟨p1, p2, p3⟩ := pk
  obtain ⟨i, j, e1, e2, r1, r2, hne⟩ := p3 (by cases dear <;> simp)
  have hkd : (AK h id).1 = if dear = true then 2 else 4 := by rw [p2]; cases dear <;> rfl
  have hok : okC 4 (AK h id).1 = true := by rw [hkd]; cases dear <;> rfl
  have i46 := r1.1
  have j46 := r2.1
  refine Cl.enter rfl (g15_0 (d + 3) _ _ h HS hv Q ⟨hok, i, e1, ?_⟩)
  rw [hn.2.1]
  refine c18 ho hv hs ho.2.1 HS hn sv r1 (fun h1 f1 d1 => ⟨rfl, f1.Sh HS, by rw [f1.2.2.1]; exact hok, j, by rw [f1.2.2.2.1]; exact e2, ?_⟩)
  have n1 := hn.fr f1 (fun a b c e z => by omega)
  have s1 := sv.fr f1 (fun q => ⟨by omega, by omega⟩)
  rw [n1.2.2.1]
  refine c18 ho hv hs ho.2.2.1 (f1.Sh HS) n1 s1 (r2.fr f1) (fun h2 f2 d2 => ⟨rfl, f2.Sh (f1.Sh HS), by rw [f2.2.2.1, f1.2.2.1]; exact hok, i, by rw [f2.2.2.2.1, f1.2.2.2.1]; exact e1, ?_⟩)
  have n2 := n1.fr f2 (fun a b c e z => by omega)
  have s2 := s1.fr f2 (fun q => ⟨by omega, by omega⟩)
  have q1 : Row6 h2 i := (r1.fr f1).fr f2
  have q2 : Row6 h2 j := (r2.fr f1).fr f2
  have dd1 : DiC h2 i (dsE g t.F t.C 1000 5) := fun p hp => by
    rw [f2.I (fun z => hne z)]
    exact d1 p hp
  refine ⟨by rw [q1.2], by rw [q1.2]; decide, ?_⟩
  rw [n2.2.2.1, at6 q1 ho.2.2.1, dd1 _ ho.2.2.1]
  refine w15 (d := d + 1) ho hv hs hu hj (f2.Sh (f1.Sh HS)) n2 s2 (by rw [f2.2.2.1, f1.2.2.1]; exact hkd) (by rw [f2.2.2.2.1, f1.2.2.2.1]; exact e1) (by rw [f2.2.2.2.1, f1.2.2.2.1]; exact e2) q1 q2 dd1 d2 (K h2 ?_) g.n 0 (Nat.zero_add _)
  exact (f1.weak (fun a b z => by omega)).trans (f2.weak (fun a b z => by omega))
/-- a number drawn -/
def drw (s : Int64) : Int64 := ((1103515245 : Int64) * s + (12345 : Int64)) &&& (2147483647 : Int64)
def drN (s : Int64) : Nat := ((1103515245 : Int64) * s + (12345 : Int64)).toBitVec.toNat % 2147483648
theorem drw_N (s : Int64) : drw s = lN (drN s) := by
  obtain ⟨n, hn, e⟩ := wb_of ((1103515245 : Int64) * s + (12345 : Int64))
  unfold drw drN
  rw [e, wb_tn hn]
  show lN n &&& lN (2 ^ 31 - 1) = lN (n % 2 ^ 31)
  exact wb_mask hn (by decide)
theorem drN_lt (s : Int64) : drN s < 2147483648 := Nat.mod_lt _ (by decide)
def drV (s : Int64) (many : Nat) : Nat := drN s / 65536 % many
theorem drV_eq (s : Int64) {many : Nat} (h0 : 0 < many) (hm : many < 1000) : (drw s / (65536 : Int64) - drw s / (65536 : Int64) / (nI many).toInt64 * (nI many).toInt64).toInt32 = nI (drV s many) := by
  have h1 := drN_lt s
  rw [drw_N, nI_l (by omega), show (65536 : Int64) = lN 65536 from rfl, pk_lDiv (by omega) (by decide) (by decide), pk_lRem (by omega) h0 (by omega), lN_i]
  rfl
/-- what a player takes -/
def tkA (g : G) (F C w kd : Nat) (s : Int64) : Int32 := if kd = 1 then (if lsg g F C w = -1 then nth g.n F C 0 else lsg g F C w) else if kd = 2 then oI (nrC g F C false) else if kd = 3 then oI (nrC g F C true) else if kd = 4 then nth g.n F C (drV s (oc g.n F C)) else nth g.n F C 0
def sdA (kd : Nat) (s : Int64) : Int64 := if kd = 4 then drw s else s
theorem outc0 {g : G} {F C : Nat} (h : outc g F C = 0) : jn g F = false ∧ jn g (unc g.n C) = true := by
  unfold outc at h
  cases a : jn g F with
  | true => rw [a, if_pos rfl] at h; cases h
  | false =>
    cases b : jn g (unc g.n C) with
    | true => exact ⟨rfl, rfl⟩
    | false => rw [a, b, if_neg (by decide), if_neg (by decide)] at h; cases h
theorem oc_pos {g : G} {F C : Nat} (hs : VS g.n F C) (h : outc g F C = 0) : 0 < oc g.n F C := by
  obtain ⟨a, b⟩ := outc0 h
  rcases Nat.eq_zero_or_pos (oc g.n F C) with z | z
  · rw [unc_none hs z, a] at b
    cases b
  · exact z
theorem nth_ok {n F C a : Nat} (h : a < oc n F C) : ∃ l, l < n ∧ opb F C l = true ∧ nth n F C a = nI l := by
  obtain ⟨k, x, y, z⟩ := rk_ex (n := n) h
  refine ⟨k, x, y, fsI_at x (fun k' hk' => ?_) (by
    have e : fa_cnt (opb F C) k = a := z
    rw [y, decide_eq_true e]
    rfl)⟩
  cases ho : opb F C k' with
  | false => rfl
  | true =>
    have := rk_lt hk' ho
    have e : fa_cnt (opb F C) k = a := z
    have e2 : rk F C k' = fa_cnt (opb F C) k' := rfl
    have e3 : rk F C k = fa_cnt (opb F C) k := rfl
    rw [decide_eq_false (by omega)]
    rfl
theorem tkA_ok {g : G} (ho : GOK g) {F C w kd : Nat} {s : Int64} (hs : VS g.n F C) (h : outc g F C = 0) : ∃ l, l < g.n ∧ opb F C l = true ∧ tkA g F C w kd s = nI l := by
  have hn := ho.1
  have hoc := oc_pos hs h
  obtain ⟨hj, hu⟩ := outc0 h
  have n0 := nth_ok (n := g.n) (F := F) (C := C) hoc
  have near : ∀ dear, ∃ l, l < g.n ∧ opb F C l = true ∧ oI (nrC g F C dear) = nI l := fun dear => by
    obtain ⟨k, a, b⟩ := near_ex ho hs hj hu
    have hsome := lsD_some (c := g.c) (dear := dear) a b
    unfold nrC
    cases hl : lsD (nrp g F C) g.c dear g.n with
    | none => exact absurd hl hsome
    | some b' =>
      obtain ⟨x, y⟩ := lsD_in hl
      refine ⟨b', x, ?_, rfl⟩
      unfold nrp nrX at y
      rw [Bool.and_eq_true] at y
      exact y.1
  unfold tkA
  split
  · split
    · exact n0
    · rename_i hne
      unfold lsg at hne ⊢
      rw [if_pos h] at hne ⊢
      by_cases hf : fa_first (goo g F C w) g.n < g.n
      · rw [if_pos hf]
        have hg := fa_first_yes _ _ hf
        unfold goo at hg
        rw [Bool.and_eq_true] at hg
        exact ⟨_, hf, hg.1, rfl⟩
      · rw [if_neg hf] at hne
        exact absurd rfl hne
  · split
    · exact near false
    · split
      · exact near true
      · split
        · exact nth_ok (Nat.mod_lt _ hoc)
        · exact n0
theorem cCh {d : Nat} {h : AH} {g : G} (S : SI h g) (ho : GOK g) (hn9 : g.n ≤ 9) {t : ST} (ht : TOK g t) {v : Nat} (hv : St3 v) (sv : StC h v t) (hst : outc g t.F t.C = 0) {kd id : Nat} (hk : kd < 5) (pk : PlK h id kd) {Q : Option Value → AH → Prop} (K : ∀ h', Fr chP h h' → SI h' g → AL h' 21 0 = sdA kd (AL h 21 0) → Q (some (.int (tkA g t.F t.C t.w kd (AL h 21 0)))) h') : ∃ j, ([(7, 53), (0, 2), (1, 5), (2, 15), (4, 15)] : List (Nat × Nat)).lookup (AK h id).1 = some j ∧ (exL [.ref id, .ref v, .ref 17, .ref 21]).length ≤ mMax j ∧ Cl (d + 26) j [.ref id, .ref v, .ref 17, .ref 21] h Q := by
  have hv46 : v < 17 ∧ 11 ≤ v := by rcases hv with rfl | rfl | rfl <;> decide
  have hoc := oc_pos ht.1 hst
  have hoc9 := oc_10 t.F t.C ho.1
  obtain ⟨hj, hu⟩ := outc0 hst
  have hc := pk.2.1
  have nearK : ∀ dear, kd = (if dear = true then 3 else 2) → Cl (d + 26) 15 [.ref id, .ref v, .ref 17, .ref 21] h Q := fun dear e => by
    rw [e] at pk
    refine c15 (d := d + 22) ho hv ht.1 hu hj S.1 S.2.1 sv pk (fun h1 f1 => ?_)
    have kk := K h1 (f1.weak (fun a b z => Or.inr (Or.inr z))) (S.fr f1 (fun a b q z => by omega)) (by
      rw [f1.L (by omega), e]
      cases dear <;> rfl)
    rw [e] at kk
    cases dear
    · exact kk
    · exact kk
  obtain rfl | rfl | rfl | rfl | rfl : kd = 0 ∨ kd = 1 ∨ kd = 2 ∨ kd = 3 ∨ kd = 4 := by omega
  · refine ⟨53, by rw [hc]; rfl, Nat.le_of_ble_eq_true rfl, ?_⟩
    refine Cl.enter rfl (g53_0 (d + 25) _ _ h S.1 hv Q ?_)
    exact c87 S.1 S.2.1 ho.1 hv sv (a := 0) (by decide) ⟨_, rfl, S.1, K h Fr.rfl S rfl⟩
  · refine ⟨2, by rw [hc]; rfl, Nat.le_of_ble_eq_true rfl, ?_⟩
    refine Cl.enter rfl (g2_0 (d + 25) _ _ h S.1 hv Q ?_)
    rw [sv.2.1, sv.2.2.1, sv.2.2.2.1]
    refine c59 ho ht.2.1 ht.1 S (fun h1 S1 R1 => ⟨_, rfl, S1.1, ?_⟩)
    have f1 : Fr chP h h1 := Fr.weak R1 (fun a b z => Or.inl z)
    have kk := K h1 f1 S1 (Fr.L R1 (by decide))
    have kk2 : Q (some (.int (if lsg g t.F t.C t.w = -1 then nth g.n t.F t.C 0 else lsg g t.F t.C t.w))) h1 := kk
    refine ⟨fun z => ?_, fun z => ?_⟩
    · rw [if_pos z] at kk2
      exact c87 S1.1 S1.2.1 ho.1 hv (sv.fr R1 (fun q => ⟨by omega, by omega⟩)) (a := 0) (by decide) ⟨_, rfl, S1.1, kk2⟩
    · rwa [if_neg z] at kk2
  · exact ⟨15, by rw [hc]; rfl, Nat.le_of_ble_eq_true rfl, nearK false rfl⟩
  · exact ⟨15, by rw [hc]; rfl, Nat.le_of_ble_eq_true rfl, nearK true rfl⟩
  · refine ⟨5, by rw [hc]; rfl, Nat.le_of_ble_eq_true rfl, ?_⟩
    refine Cl.enter rfl (g5_0 (d + 24) _ _ h S.1 hv Q ?_)
    rw [sv.2.1, sv.2.2.1, opnC S.2.1 ho]
    refine c199 S.1 (p2_10 (opn_lt _ _ _) ho.1) ⟨_, rfl, S.1, ?_⟩
    rw [pop_opn ho.1]
    refine Cl.enter rfl (g11_0 (d + 25) _ h S.1 _ ⟨fun _ => ⟨?_, ?_⟩, fun z => absurd ((ltC (x := 0) (a := 0) rfl rfl (by omega) (by omega)).mpr hoc) z⟩)
    · rw [nI_l (by omega), show (0 : Int64) = lN 0 from rfl, pk_lEQ (by omega) (by omega)]
      omega
    · have f1 : Fr (fun a _ => a = 21) h (stL h 21 0 (drw (AL h 21 0))) := Fr.stL rfl
      have S1 := S.fr f1 (fun a b q z => by omega)
      have es : AL (stL h 21 0 (drw (AL h 21 0))) 21 0 = drw (AL h 21 0) := by rw [AL_stL, if_pos ⟨rfl, rfl⟩]
      have kk := K _ (f1.weak (fun a b z => Or.inr (Or.inl z))) S1 es
      have hdv := drV_eq (AL h 21 0) hoc (by omega)
      have hlt : drV (AL h 21 0) (oc g.n t.F t.C) < oc g.n t.F t.C := Nat.mod_lt _ hoc
      have e0 : ((AL (stL h 21 0 (((1103515245 : Int64) * AL h 21 0 + (12345 : Int64)) &&& (2147483647 : Int64))) 21 0 / (65536 : Int64)) - (AL (stL h 21 0 (((1103515245 : Int64) * AL h 21 0 + (12345 : Int64)) &&& (2147483647 : Int64))) 21 0 / (65536 : Int64)) / (nI (oc g.n t.F t.C)).toInt64 * (nI (oc g.n t.F t.C)).toInt64).toInt32 = nI (drV (AL h 21 0) (oc g.n t.F t.C)) := by
        have e1 : AL (stL h 21 0 (((1103515245 : Int64) * AL h 21 0 + (12345 : Int64)) &&& (2147483647 : Int64))) 21 0 = drw (AL h 21 0) := es
        rw [e1]
        exact hdv
      refine ⟨_, rfl, S1.1, ?_⟩
      rw [e0]
      refine c87 S1.1 S1.2.1 ho.1 hv (sv.fr f1 (fun q => ⟨by omega, by omega⟩)) (a := drV (AL h 21 0) (oc g.n t.F t.C)) (by omega) ⟨_, rfl, S1.1, kk⟩
