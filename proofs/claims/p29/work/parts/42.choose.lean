/-! the class's players -/
def chP (i _j : Nat) : Prop := i = 19 ∨ i = 21 ∨ 47 ≤ i
def clsK (kd : Nat) : Nat := if kd = 1 then 0 else if kd = 2 then 4 else if kd = 3 then 2 else if kd = 4 then 1 else 7
def PlK (h : AH) (id kd : Nat) : Prop := 47 ≤ id ∧ (AK h id).1 = clsK kd ∧ (kd = 2 ∨ kd = 3 → ∃ i j, AR h id 0 = some i ∧ AR h id 1 = some j ∧ Row6 h i ∧ Row6 h j ∧ i ≠ j)
theorem PlK.fr {P : Nat → Nat → Prop} {h h' : AH} {id kd : Nat} (p : PlK h id kd) (hf : Fr P h h') : PlK h' id kd := by
  obtain ⟨a, b, c⟩ := p
  refine ⟨a, by rw [hf.2.2.1]; exact b, fun hk => ?_⟩
  obtain ⟨i, j, e1, e2, e3, e4, e5⟩ := c hk
  exact ⟨i, j, by rw [hf.2.2.2.1]; exact e1, by rw [hf.2.2.2.1]; exact e2, e3.fr hf, e4.fr hf, e5⟩
theorem ds_le (g : G) (F C : Nat) (p : Nat) : dsE g F C 1000 5 p ≤ 1000 ∧ dsF g F C 1000 5 p ≤ 1000 := ⟨Nat.le_trans (ruD_le g F C _ p 5) (d0_le _ _ _), Nat.le_trans (ruD_le g F C _ p 5) (d0_le _ _ _)⟩
/-- a number drawn -/
def drw (s : Int64) : Int64 := ((1103515245 : Int64) * s + (12345 : Int64)) &&& (2147483647 : Int64)
def drN (s : Int64) : Nat := ((1103515245 : Int64) * s + (12345 : Int64)).toBitVec.toNat % 2147483648
theorem drw_N (s : Int64) : drw s = lN (drN s) := by
  obtain ⟨n, hn, e⟩ := wb_of ((1103515245 : Int64) * s + (12345 : Int64))
  unfold drw drN
  rw [e, wb_tn hn]
  show lN n &&& lN (2 ^ 31 - 1) = lN (n % 2 ^ 31)
  exact wb_mask hn (by decide)
theorem drN_lt (s : Int64) : drN s < 2147483648 := Nat.mod_lt _ (by decide)
def drV (s : Int64) (many : Nat) : Nat := drN s / 65536 % many
theorem drV_eq (s : Int64) {many : Nat} (h0 : 0 < many) (hm : many < 1000) : (drw s / (65536 : Int64) - drw s / (65536 : Int64) / (nI many).toInt64 * (nI many).toInt64).toInt32 = nI (drV s many) := by
  have h1 := drN_lt s
  rw [drw_N, nI_l (by omega), show (65536 : Int64) = lN 65536 from rfl, pk_lDiv (by omega) (by decide) (by decide), pk_lRem (by omega) h0 (by omega), lN_i]
  rfl
/-- what a player takes -/
def tkA (g : G) (F C w kd : Nat) (s : Int64) : Int32 := if kd = 1 then (if lsg g F C w = -1 then nth g.n F C 0 else lsg g F C w) else if kd = 2 then oI (nrC g F C false) else if kd = 3 then oI (nrC g F C true) else if kd = 4 then nth g.n F C (drV s (oc g.n F C)) else nth g.n F C 0
def sdA (kd : Nat) (s : Int64) : Int64 := if kd = 4 then drw s else s
theorem outc0 {g : G} {F C : Nat} (h : outc g F C = 0) : jn g F = false ∧ jn g (unc g.n C) = true := by
  unfold outc at h
  cases a : jn g F with
  | true => rw [a, if_pos rfl] at h; cases h
  | false =>
    cases b : jn g (unc g.n C) with
    | true => exact ⟨rfl, rfl⟩
    | false => rw [a, b, if_neg (by decide), if_neg (by decide)] at h; cases h
theorem oc_pos {g : G} {F C : Nat} (hs : VS g.n F C) (h : outc g F C = 0) : 0 < oc g.n F C := by
  obtain ⟨a, b⟩ := outc0 h
  rcases Nat.eq_zero_or_pos (oc g.n F C) with z | z
  · rw [unc_none hs z, a] at b
    cases b
  · exact z
theorem nth_ok {n F C a : Nat} (h : a < oc n F C) : ∃ l, l < n ∧ opb F C l = true ∧ nth n F C a = nI l := by
  obtain ⟨k, x, y, z⟩ := rk_ex (n := n) h
  refine ⟨k, x, y, fsI_at x (fun k' hk' => ?_) (by
    have e : fa_cnt (opb F C) k = a := z
    rw [y, decide_eq_true e]
    rfl)⟩
  cases ho : opb F C k' with
  | false => rfl
  | true =>
    have := rk_lt hk' ho
    have e : fa_cnt (opb F C) k = a := z
    have e2 : rk F C k' = fa_cnt (opb F C) k' := rfl
    have e3 : rk F C k = fa_cnt (opb F C) k := rfl
    rw [decide_eq_false (by omega)]
    rfl
theorem tkA_ok {g : G} (ho : GOK g) {F C w kd : Nat} {s : Int64} (hs : VS g.n F C) (h : outc g F C = 0) : ∃ l, l < g.n ∧ opb F C l = true ∧ tkA g F C w kd s = nI l := by
  have hn := ho.1
  have hoc := oc_pos hs h
  obtain ⟨hj, hu⟩ := outc0 h
  have n0 := nth_ok (n := g.n) (F := F) (C := C) hoc
  have near : ∀ dear, ∃ l, l < g.n ∧ opb F C l = true ∧ oI (nrC g F C dear) = nI l := fun dear => by
    obtain ⟨k, a, b⟩ := near_ex ho hs hj hu
    have hsome := lsD_some (c := g.c) (dear := dear) a b
    unfold nrC
    cases hl : lsD (nrp g F C) g.c dear g.n with
    | none => exact absurd hl hsome
    | some b' =>
      obtain ⟨x, y⟩ := lsD_in hl
      refine ⟨b', x, ?_, rfl⟩
      unfold nrp nrX at y
      rw [Bool.and_eq_true] at y
      exact y.1
  unfold tkA
  split
  · split
    · exact n0
    · rename_i hne
      unfold lsg at hne ⊢
      rw [if_pos h] at hne ⊢
      by_cases hf : fa_first (goo g F C w) g.n < g.n
      · rw [if_pos hf]
        have hg := fa_first_yes _ _ hf
        unfold goo at hg
        rw [Bool.and_eq_true] at hg
        exact ⟨_, hf, hg.1, rfl⟩
      · rw [if_neg hf] at hne
        exact absurd rfl hne
  · split
    · exact near false
    · split
      · exact near true
      · split
        · exact nth_ok (Nat.mod_lt _ hoc)
        · exact n0
