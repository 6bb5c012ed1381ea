/-! from the fresh heap to the loop -/
theorem fia_z (xs : Nat → Int32) : ∀ i j : Nat, 6 ≤ i → i ≤ 10 → fIa xs i j = 0 ∧ fLa i j = 0 := fun i j h1 h2 => by
  unfold fIa fLa
  rw [if_neg (by omega), if_neg (by omega)]
  exact ⟨rfl, rfl⟩
def LC : List (Nat × Nat × Nat) := [(2, 8, 22), (2, 7, 21), (2, 6, 20), (20, 1, 17), (20, 0, 5), (2, 5, 17), (17, 0, 5), (17, 3, 46), (17, 2, 19), (17, 1, 18), (2, 4, 15), (15, 0, 5), (15, 1, 16), (2, 3, 13), (13, 0, 5), (13, 1, 14), (2, 2, 11), (11, 0, 5), (11, 1, 12), (2, 1, 5), (5, 4, 10), (5, 3, 9), (5, 2, 8), (5, 1, 7), (5, 0, 6), (2, 0, 3), (3, 0, 4)]
theorem c88 {d Ls : Nat} {xs : Nat → Int32} {h : AH} {Q : Option Value → AH → Prop} (B : Bt Ls (fIa xs) fLa h 3 13 []) (K : ∀ h' tt l, tt ≤ 300000 → l = LC → Bt Ls (fIb xs) fLa h' 24 tt l → Q none h') : Cl (d + 2) 88 [.ref 2] h Q := by
  refine Cl.enter rfl (g88_0 (d + 1) 2 h _ (fun n e h2 e2 => ?_))
  obtain ⟨rfl, B⟩ := B.nw rfl (by decide) (fun j => ⟨rfl, rfl⟩) e e2
  refine c38 B (fun j => ⟨rfl, rfl⟩) rfl (fun h B => ⟨rfl, B.ok (by decide) (by decide) rfl rfl, by decide, fun n e h2 e2 => ?_⟩)
  replace B := B.lk (i := 2) (b := 0) (v := 3) (by decide) rfl
  obtain ⟨rfl, B⟩ := B.nw rfl (by decide) (fun j => ⟨rfl, rfl⟩) e e2
  refine c20 B (fia_z xs) rfl (fun h B => ⟨rfl, B.ok (by decide) (by decide) rfl rfl, fun n e h2 e2 => ?_⟩)
  replace B := B.lk (i := 2) (b := 1) (v := 5) (by decide) rfl
  obtain ⟨rfl, B⟩ := B.nw rfl (by decide) (fun j => ⟨rfl, rfl⟩) e e2
  refine ⟨B.ok (by decide) (by decide) rfl rfl, 5, B.at (by decide), ?_⟩
  refine c71 (v := 11) ⟨by decide, rfl, rfl, by decide, by decide, by decide⟩ B (fun j => ⟨rfl, rfl⟩) rfl rfl (fun h B => ⟨rfl, B.ok (by decide) (by decide) rfl rfl, fun n e h2 e2 => ?_⟩)
  replace B := B.lk (i := 2) (b := 2) (v := 11) (by decide) rfl
  obtain ⟨rfl, B⟩ := B.nw rfl (by decide) (fun j => ⟨rfl, rfl⟩) e e2
  refine ⟨B.ok (by decide) (by decide) rfl rfl, 5, B.at (by decide), ?_⟩
  refine c71 (v := 13) ⟨by decide, rfl, rfl, by decide, by decide, by decide⟩ B (fun j => ⟨rfl, rfl⟩) rfl rfl (fun h B => ⟨rfl, B.ok (by decide) (by decide) rfl rfl, fun n e h2 e2 => ?_⟩)
  replace B := B.lk (i := 2) (b := 3) (v := 13) (by decide) rfl
  obtain ⟨rfl, B⟩ := B.nw rfl (by decide) (fun j => ⟨rfl, rfl⟩) e e2
  refine ⟨B.ok (by decide) (by decide) rfl rfl, 5, B.at (by decide), ?_⟩
  refine c71 (v := 15) ⟨by decide, rfl, rfl, by decide, by decide, by decide⟩ B (fun j => ⟨rfl, rfl⟩) rfl rfl (fun h B => ⟨rfl, B.ok (by decide) (by decide) rfl rfl, fun n e h2 e2 => ?_⟩)
  replace B := B.lk (i := 2) (b := 4) (v := 15) (by decide) rfl
  obtain ⟨rfl, B⟩ := B.nw rfl (by decide) (fun j => ⟨rfl, rfl⟩) e e2
  refine ⟨B.ok (by decide) (by decide) rfl rfl, 5, B.at (by decide), ?_⟩
  refine c54 B rfl (fun h B => ⟨rfl, B.ok (by decide) (by decide) rfl rfl, fun n e h2 e2 => ?_⟩)
  replace B := B.lk (i := 2) (b := 5) (v := 17) (by decide) rfl
  obtain ⟨rfl, B⟩ := B.nwd rfl (by decide) (fun j => ⟨rfl, rfl⟩) e e2
  refine ⟨B.ok (by decide) (by decide) rfl rfl, 5, B.at (by decide), 17, B.at (by decide), ?_⟩
  refine Cl.enter rfl (g65_0 (d + 1) _ _ _ _ _ ⟨B.ok (by decide) (by decide) rfl rfl, by decide, ?_⟩)
  replace B := B.lk (i := 20) (b := 0) (v := 5) (by decide) rfl
  replace B := B.lk (i := 20) (b := 1) (v := 17) (by decide) rfl
  refine ⟨rfl, B.ok (by decide) (by decide) rfl rfl, fun n e h2 e2 => ?_⟩
  replace B := B.lk (i := 2) (b := 6) (v := 20) (by decide) rfl
  obtain ⟨rfl, B⟩ := B.nwd rfl (by decide) (fun j => ⟨rfl, rfl⟩) e e2
  refine Cl.enter rfl (g9_0 (d + 1) _ _ _ ⟨rfl, B.ok (by decide) (by decide) rfl rfl, fun n e h2 e2 => ?_⟩)
  replace B := B.lk (i := 2) (b := 7) (v := 21) (by decide) rfl
  obtain ⟨rfl, B⟩ := B.nwd rfl (by decide) (fun j => ⟨rfl, rfl⟩) e e2
  refine ⟨B.ok (by decide) (by decide) rfl rfl, ?_⟩
  replace B := B.lk (i := 2) (b := 8) (v := 22) (by decide) rfl
  exact K _ _ _ (by decide) rfl B
def LD : List (Nat × Nat × Nat) := [(23, 45, 45), (23, 44, 44), (23, 43, 43), (23, 41, 42), (23, 40, 41), (23, 36, 40), (23, 34, 39), (23, 33, 38), (23, 31, 37), (23, 30, 36), (23, 29, 35), (23, 28, 34), (23, 27, 33), (23, 21, 32), (23, 20, 31), (23, 15, 30), (23, 12, 29), (23, 10, 28), (23, 7, 27), (23, 6, 26), (23, 5, 25), (23, 4, 24), (2, 8, 22), (2, 7, 21), (2, 6, 20), (20, 1, 17), (20, 0, 5), (2, 5, 17), (17, 0, 5), (17, 3, 46), (17, 2, 19), (17, 1, 18), (2, 4, 15), (15, 0, 5), (15, 1, 16), (2, 3, 13), (13, 0, 5), (13, 1, 14), (2, 2, 11), (11, 0, 5), (11, 1, 12), (2, 1, 5), (5, 4, 10), (5, 3, 9), (5, 2, 8), (5, 1, 7), (5, 0, 6), (2, 0, 3), (3, 0, 4)]
theorem c128 {d Ls tt : Nat} {xs : Nat → Int32} {h : AH} {Q : Option Value → AH → Prop} (htt : tt ≤ 301000) (B : Bt Ls (fIb xs) fLa h 25 tt LC) (K : ∀ h' tt l, tt ≤ 500000 → l = LD → Bt Ls (fIb xs) fLa h' 47 tt l → Q none h') : Cl d 128 [.ref 23] h Q := by
  refine Cl.enter rfl (g128_0 d 23 h _ (fun n e h2 e2 => ?_))
  obtain ⟨rfl, B⟩ := B.nwd rfl (by decide) (fun j => ⟨rfl, rfl⟩) e e2
  refine ⟨B.ok (by decide) (by decide) rfl rfl, by decide, ?_⟩
  replace B := B.lk (i := 23) (b := 4) (v := 24) (by decide) rfl
  refine fun n e h2 e2 => ?_
  obtain ⟨rfl, B⟩ := B.nwd rfl (by decide) (fun j => ⟨rfl, rfl⟩) e e2
  refine ⟨B.ok (by decide) (by decide) rfl rfl, ?_⟩
  replace B := B.lk (i := 23) (b := 5) (v := 25) (by decide) rfl
  refine fun n e h2 e2 => ?_
  obtain ⟨rfl, B⟩ := B.nwd rfl (by decide) (fun j => ⟨rfl, rfl⟩) e e2
  refine ⟨B.ok (by decide) (by decide) rfl rfl, ?_⟩
  replace B := B.lk (i := 23) (b := 6) (v := 26) (by decide) rfl
  refine fun n e h2 e2 => ?_
  obtain ⟨rfl, B⟩ := B.nwd rfl (by decide) (fun j => ⟨rfl, rfl⟩) e e2
  refine ⟨B.ok (by decide) (by decide) rfl rfl, ?_⟩
  replace B := B.lk (i := 23) (b := 7) (v := 27) (by decide) rfl
  refine fun n e h2 e2 => ?_
  obtain ⟨rfl, B⟩ := B.nwd rfl (by decide) (fun j => ⟨rfl, rfl⟩) e e2
  refine ⟨B.ok (by decide) (by decide) rfl rfl, ?_⟩
  replace B := B.lk (i := 23) (b := 10) (v := 28) (by decide) rfl
  refine fun n e h2 e2 => ?_
  obtain ⟨rfl, B⟩ := B.nwd rfl (by decide) (fun j => ⟨rfl, rfl⟩) e e2
  refine ⟨B.ok (by decide) (by decide) rfl rfl, ?_⟩
  replace B := B.lk (i := 23) (b := 12) (v := 29) (by decide) rfl
  refine fun n e h2 e2 => ?_
  obtain ⟨rfl, B⟩ := B.nwd rfl (by decide) (fun j => ⟨rfl, rfl⟩) e e2
  refine ⟨B.ok (by decide) (by decide) rfl rfl, ?_⟩
  replace B := B.lk (i := 23) (b := 15) (v := 30) (by decide) rfl
  refine fun n e h2 e2 => ?_
  obtain ⟨rfl, B⟩ := B.nwd rfl (by decide) (fun j => ⟨rfl, rfl⟩) e e2
  refine ⟨B.ok (by decide) (by decide) rfl rfl, ?_⟩
  replace B := B.lk (i := 23) (b := 20) (v := 31) (by decide) rfl
  refine fun n e h2 e2 => ?_
  obtain ⟨rfl, B⟩ := B.nwd rfl (by decide) (fun j => ⟨rfl, rfl⟩) e e2
  refine ⟨B.ok (by decide) (by decide) rfl rfl, ?_⟩
  replace B := B.lk (i := 23) (b := 21) (v := 32) (by decide) rfl
  refine fun n e h2 e2 => ?_
  obtain ⟨rfl, B⟩ := B.nwd rfl (by decide) (fun j => ⟨rfl, rfl⟩) e e2
  refine ⟨B.ok (by decide) (by decide) rfl rfl, ?_⟩
  replace B := B.lk (i := 23) (b := 27) (v := 33) (by decide) rfl
  refine fun n e h2 e2 => ?_
  obtain ⟨rfl, B⟩ := B.nwd rfl (by decide) (fun j => ⟨rfl, rfl⟩) e e2
  refine ⟨B.ok (by decide) (by decide) rfl rfl, ?_⟩
  replace B := B.lk (i := 23) (b := 28) (v := 34) (by decide) rfl
  refine fun n e h2 e2 => ?_
  obtain ⟨rfl, B⟩ := B.nwd rfl (by decide) (fun j => ⟨rfl, rfl⟩) e e2
  refine ⟨B.ok (by decide) (by decide) rfl rfl, ?_⟩
  replace B := B.lk (i := 23) (b := 29) (v := 35) (by decide) rfl
  refine fun n e h2 e2 => ?_
  obtain ⟨rfl, B⟩ := B.nwd rfl (by decide) (fun j => ⟨rfl, rfl⟩) e e2
  refine ⟨B.ok (by decide) (by decide) rfl rfl, ?_⟩
  replace B := B.lk (i := 23) (b := 30) (v := 36) (by decide) rfl
  refine fun n e h2 e2 => ?_
  obtain ⟨rfl, B⟩ := B.nwd rfl (by decide) (fun j => ⟨rfl, rfl⟩) e e2
  refine ⟨B.ok (by decide) (by decide) rfl rfl, ?_⟩
  replace B := B.lk (i := 23) (b := 31) (v := 37) (by decide) rfl
  refine fun n e h2 e2 => ?_
  obtain ⟨rfl, B⟩ := B.nwd rfl (by decide) (fun j => ⟨rfl, rfl⟩) e e2
  refine ⟨B.ok (by decide) (by decide) rfl rfl, ?_⟩
  replace B := B.lk (i := 23) (b := 33) (v := 38) (by decide) rfl
  refine fun n e h2 e2 => ?_
  obtain ⟨rfl, B⟩ := B.nwd rfl (by decide) (fun j => ⟨rfl, rfl⟩) e e2
  refine ⟨B.ok (by decide) (by decide) rfl rfl, ?_⟩
  replace B := B.lk (i := 23) (b := 34) (v := 39) (by decide) rfl
  refine fun n e h2 e2 => ?_
  obtain ⟨rfl, B⟩ := B.nwd rfl (by decide) (fun j => ⟨rfl, rfl⟩) e e2
  refine ⟨B.ok (by decide) (by decide) rfl rfl, ?_⟩
  replace B := B.lk (i := 23) (b := 36) (v := 40) (by decide) rfl
  refine fun n e h2 e2 => ?_
  obtain ⟨rfl, B⟩ := B.nwd rfl (by decide) (fun j => ⟨rfl, rfl⟩) e e2
  refine ⟨B.ok (by decide) (by decide) rfl rfl, ?_⟩
  replace B := B.lk (i := 23) (b := 40) (v := 41) (by decide) rfl
  refine fun n e h2 e2 => ?_
  obtain ⟨rfl, B⟩ := B.nwd rfl (by decide) (fun j => ⟨rfl, rfl⟩) e e2
  refine ⟨B.ok (by decide) (by decide) rfl rfl, ?_⟩
  replace B := B.lk (i := 23) (b := 41) (v := 42) (by decide) rfl
  refine fun n e h2 e2 => ?_
  obtain ⟨rfl, B⟩ := B.nwd rfl (by decide) (fun j => ⟨rfl, rfl⟩) e e2
  refine ⟨B.ok (by decide) (by decide) rfl rfl, ?_⟩
  replace B := B.lk (i := 23) (b := 43) (v := 43) (by decide) rfl
  refine fun n e h2 e2 => ?_
  obtain ⟨rfl, B⟩ := B.nwd rfl (by decide) (fun j => ⟨rfl, rfl⟩) e e2
  refine ⟨B.ok (by decide) (by decide) rfl rfl, ?_⟩
  replace B := B.lk (i := 23) (b := 44) (v := 44) (by decide) rfl
  refine fun n e h2 e2 => ?_
  obtain ⟨rfl, B⟩ := B.nwd rfl (by decide) (fun j => ⟨rfl, rfl⟩) e e2
  refine ⟨B.ok (by decide) (by decide) rfl rfl, ?_⟩
  replace B := B.lk (i := 23) (b := 45) (v := 45) (by decide) rfl
  exact K _ _ _ (by omega) rfl B
theorem LD_ok : chkR LD = true := by decide +kernel
theorem LD_22 : ∀ e, e ∈ LD → ¬ e.1 = 22 := by decide +kernel
def zN : Nat → Nat := fun _ => 0
def g00 : G := mkG 0 zN zN zN 0 0
def t00 : ST := mkT 0 0 0 0 zN
def w00 : WD := mkW 0 zN g00 t00 false t00 0 zN 0 0
theorem w00_ok : WdOK w00 := by
  refine ⟨⟨by decide, fun i hi => absurd hi (Nat.not_lt_zero i)⟩, ⟨by decide, by decide, by decide, fun i hi => absurd hi (Nat.not_lt_zero i)⟩, by decide, ⟨⟨by decide, by decide, fun i hi => ?_⟩, by decide, by decide, fun i hi => absurd hi (Nat.not_lt_zero i), fun i j hi => absurd hi (Nat.not_lt_zero i)⟩, fun z => (by cases z), by decide, fun p hp => absurd hp (Nat.not_lt_zero p), by decide⟩
  have h1 := hi.1
  rw [show w00.t.F = 0 from rfl, Nat.zero_testBit] at h1
  cases h1
theorem fac_fct : ∀ j, j < 11 → fac j = nI (fct j) := by decide +kernel
theorem start {Ls tt : Nat} {xs : Nat → Int32} {h : AH} (htt : tt ≤ 500000) (B : Bt Ls (fIb xs) fLa h 47 tt LD) : LI Ls 0 h w00 := by
  have HS := B.Sh LD_ok
  obtain ⟨b1, b2, b3, b4, ⟨b5, b6⟩, b7, b8, b9⟩ := B
  have z : ∀ i j, 2 ≤ i → i < 46 → i ≠ 18 ∧ i ≠ 17 → AI h i j = 0 := fun i j h1 h2 ⟨h3, h4⟩ => by
    rw [(b9 i j (by have := sgi_47 (i := i) (Nat.le_refl 47); omega)).1]
    unfold fIb fIa
    rw [if_neg h3, if_neg (fun q => h4 q.1), if_neg (by omega), if_neg (by omega)]
  have z0 : ∀ i j, 2 ≤ i → i < 46 → i ≠ 18 ∧ i ≠ 17 → AI h i j = nI 0 := z
  have sb : SB h := by
    refine ⟨HS, fun s hs => ?_, ⟨b6, fun j hj => ?_⟩⟩
    · rw [(b9 18 s (by decide)).1]
      unfold fIb
      rw [if_pos rfl, if_pos hs]
    · rw [(b9 1 j (by decide)).1]
      exact fac_fct j hj
  refine ⟨w00_ok, ⟨⟨⟨z0 _ _ (by decide) (by decide) (by decide), fun i hi => absurd hi (Nat.not_lt_zero i)⟩, fun y => (by cases y), ⟨z0 _ _ (by decide) (by decide) (by decide), z0 _ _ (by decide) (by decide) (by decide), z0 _ _ (by decide) (by decide) (by decide), z _ _ (by decide) (by decide) (by decide)⟩, ⟨fun p hp => absurd hp (Nat.not_lt_zero p), fun p _ _ => ?_, fun i hi => b4 i ((sgi_47 (Nat.le_refl 47)).mpr (by omega))⟩, by rw [b1]; decide, by rw [b2]; exact htt⟩, ⟨z0 _ _ (by decide) (by decide) (by decide), z0 _ _ (by decide) (by decide) (by decide), z0 _ _ (by decide) (by decide) (by decide), z0 _ _ (by decide) (by decide) (by decide), fun i hi => absurd hi (Nat.not_lt_zero i)⟩, ⟨z0 _ _ (by decide) (by decide) (by decide), z0 _ _ (by decide) (by decide) (by decide), z0 _ _ (by decide) (by decide) (by decide), fun i hi => absurd hi (Nat.not_lt_zero i)⟩, sb, fun y => absurd y (by decide)⟩, ⟨⟨⟨z0 _ _ (by decide) (by decide) (by decide), fun i hi => absurd hi (Nat.not_lt_zero i)⟩, z0 _ _ (by decide) (by decide) (by decide), fun p hp => absurd hp (Nat.not_lt_zero p), z0 _ _ (by decide) (by decide) (by decide), z0 _ _ (by decide) (by decide) (by decide), fun y => (by cases y), fun _ => Or.inl (z _ _ (by decide) (by decide) (by decide))⟩, ⟨⟨z0 _ _ (by decide) (by decide) (by decide), z0 _ _ (by decide) (by decide) (by decide), fun i hi => absurd hi (Nat.not_lt_zero i)⟩, z0 _ _ (by decide) (by decide) (by decide), fun i hi => absurd hi (Nat.not_lt_zero i)⟩, fun i hi => absurd hi (Nat.not_lt_zero i), z0 _ _ (by decide) (by decide) (by decide), z0 _ _ (by decide) (by decide) (by decide), fun i hi => absurd hi (Nat.not_lt_zero i)⟩, b5, Nat.le_refl _⟩
  rcases b8 22 p with q | ⟨e, e1, e2, -⟩
  · exact q
  · exact absurd e2 (LD_22 e e1)
theorem absLaw : AbsLaw := by
  intro Ls xs hL
  have H : Wp 1000 204 0 [.ref 0, mk0, mk0, mk0] [] (h00 Ls xs) LQ := by
    refine g204_0 999 0 (h00 Ls xs) LQ (fun n1 e1 h2 e2 => ?_)
    have B0 : Bt Ls (fIa xs) fLa (h00 Ls xs) 2 0 [] := by
      refine ⟨rfl, rfl, fun i h1 h2 => by have := sgi_2 h1; omega, fun i hi => ?_, ⟨rfl, rfl⟩, fun e he => (by cases he), fun i b => Or.inl rfl, fun i j hi => ?_⟩
      · show (if i = 0 then (20, Ls) else if i = 1 then (20, 11) else ((99, 0) : Nat × Nat)).1 = 99
        have hi2 : 2 ≤ i := by
          unfold sgi at hi
          split at hi
          · omega
          · split at hi <;> omega
        rw [if_neg (by omega), if_neg (by omega)]
      · refine ⟨?_, rfl⟩
        show (if i = 0 then xs j else if i = 1 then fac j else 0) = fIa xs i j
        rfl
    obtain ⟨rfl, B⟩ := B0.nw (kd := 11) (len := 13) rfl (by decide) (fun j => ⟨rfl, rfl⟩) e1 e2
    refine c88 (d := 997) B (fun h5 tt l htt hl B => ⟨rfl, fun n7 e7 h8 e8 => ?_⟩)
    subst hl
    obtain ⟨rfl, B⟩ := B.nwd (kd := 12) (len := 47) rfl (by decide) (fun j => ⟨rfl, rfl⟩) e7 e8
    refine c128 (by omega) B (fun h11 tt2 l2 htt2 hl2 B => ⟨rfl, ?_⟩)
    subst hl2
    exact w204 hL 513 0 h11 w00 (by omega) (by decide) (start htt2 B)
  obtain ⟨n, r, h', he, hr, h1, h2⟩ := H
  subst hr
  exact ⟨n, h', he, h1, h2⟩
