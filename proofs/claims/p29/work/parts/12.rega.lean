/-- CutsOrFast$Draws.<init> at 0 ()V -/
theorem g9_0 (d : Nat) (v0 : Nat) (h : AH)  (Q : Option Value → AH → Prop) (K : Q none h) : Wp d 9 0 [.ref v0] [] h Q := by
  refine Wp.blk (by decide) ol_9 0 2 (pc' := 4) (L' := [.ref v0]) (S' := []) (h' := h) rfl ?_
  exact Wp.ret (op_ix (by decide) ol_9 2 rfl) rfl K
/-- CutsOrFast$Net.<init> at 0 ()V -/
theorem g20_0 (d : Nat) (v0 : Nat) (h : AH)  (Q : Option Value → AH → Prop) (K : (∀ n1, n1 = (NX h) → ∀ h2, h2 = (newO h 20 10) → (okC 5 (AK h2 v0).1 = true ∧ 2 ≤ v0 ∧ (∀ n7, n7 = (NX ((stR h2 v0 0 (some n1)))) → ∀ h8, h8 = (newO ((stR h2 v0 0 (some n1))) 20 10) → (okC 5 (AK h8 v0).1 = true ∧ (∀ n12, n12 = (NX ((stR h8 v0 1 (some n7)))) → ∀ h13, h13 = (newO ((stR h8 v0 1 (some n7))) 20 10) → (okC 5 (AK h13 v0).1 = true ∧ (∀ n17, n17 = (NX ((stR h13 v0 2 (some n12)))) → ∀ h18, h18 = (newO ((stR h13 v0 2 (some n12))) 20 10) → (okC 5 (AK h18 v0).1 = true ∧ (∀ n22, n22 = (NX ((stR h18 v0 3 (some n17)))) → ∀ h23, h23 = (newO ((stR h18 v0 3 (some n17))) 20 1024) → (okC 5 (AK h23 v0).1 = true ∧ Q none (stR h23 v0 4 (some n22))))))))))))) : Wp d 20 0 [.ref v0] [] h Q := by
  refine Wp.blk (by decide) ol_20 0 4 (pc' := 7) (L' := [.ref v0]) (S' := [.int (10 : Int32), .ref v0]) (h' := h) rfl ?_
  refine Wp.blk (by decide) ol_20 4 1 (pc' := 9) (L' := [.ref v0]) (S' := [.ref (NX h), .ref v0]) (h' := (newO h 20 10)) rfl ?_
  obtain ⟨n1, e3⟩ : ∃ x, x = (NX h) := ⟨_, rfl⟩
  obtain ⟨h2, e4⟩ : ∃ x, x = (newO h 20 10) := ⟨_, rfl⟩
  rw [← e4, ← e3]
  replace K := K n1 e3 h2 e4
  obtain ⟨k5, K⟩ := K
  obtain ⟨b6, K⟩ := K
  refine Wp.putf (op_ix (by decide) ol_20 5 rfl) b6 k5 (h' := (stR h2 v0 0 (some n1))) rfl rfl ?_
  refine Wp.blk (by decide) ol_20 6 2 (pc' := 15) (L' := [.ref v0]) (S' := [.int (10 : Int32), .ref v0]) (h' := (stR h2 v0 0 (some n1))) rfl ?_
  refine Wp.blk (by decide) ol_20 8 1 (pc' := 17) (L' := [.ref v0]) (S' := [.ref (NX ((stR h2 v0 0 (some n1)))), .ref v0]) (h' := (newO ((stR h2 v0 0 (some n1))) 20 10)) rfl ?_
  obtain ⟨n7, e9⟩ : ∃ x, x = (NX ((stR h2 v0 0 (some n1)))) := ⟨_, rfl⟩
  obtain ⟨h8, e10⟩ : ∃ x, x = (newO ((stR h2 v0 0 (some n1))) 20 10) := ⟨_, rfl⟩
  rw [← e10, ← e9]
  replace K := K n7 e9 h8 e10
  obtain ⟨k11, K⟩ := K
  refine Wp.putf (op_ix (by decide) ol_20 9 rfl) b6 k11 (h' := (stR h8 v0 1 (some n7))) rfl rfl ?_
  refine Wp.blk (by decide) ol_20 10 2 (pc' := 23) (L' := [.ref v0]) (S' := [.int (10 : Int32), .ref v0]) (h' := (stR h8 v0 1 (some n7))) rfl ?_
  refine Wp.blk (by decide) ol_20 12 1 (pc' := 25) (L' := [.ref v0]) (S' := [.ref (NX ((stR h8 v0 1 (some n7)))), .ref v0]) (h' := (newO ((stR h8 v0 1 (some n7))) 20 10)) rfl ?_
  obtain ⟨n12, e14⟩ : ∃ x, x = (NX ((stR h8 v0 1 (some n7)))) := ⟨_, rfl⟩
  obtain ⟨h13, e15⟩ : ∃ x, x = (newO ((stR h8 v0 1 (some n7))) 20 10) := ⟨_, rfl⟩
  rw [← e15, ← e14]
  replace K := K n12 e14 h13 e15
  obtain ⟨k16, K⟩ := K
  refine Wp.putf (op_ix (by decide) ol_20 13 rfl) b6 k16 (h' := (stR h13 v0 2 (some n12))) rfl rfl ?_
  refine Wp.blk (by decide) ol_20 14 2 (pc' := 31) (L' := [.ref v0]) (S' := [.int (10 : Int32), .ref v0]) (h' := (stR h13 v0 2 (some n12))) rfl ?_
  refine Wp.blk (by decide) ol_20 16 1 (pc' := 33) (L' := [.ref v0]) (S' := [.ref (NX ((stR h13 v0 2 (some n12)))), .ref v0]) (h' := (newO ((stR h13 v0 2 (some n12))) 20 10)) rfl ?_
  obtain ⟨n17, e19⟩ : ∃ x, x = (NX ((stR h13 v0 2 (some n12)))) := ⟨_, rfl⟩
  obtain ⟨h18, e20⟩ : ∃ x, x = (newO ((stR h13 v0 2 (some n12))) 20 10) := ⟨_, rfl⟩
  rw [← e20, ← e19]
  replace K := K n17 e19 h18 e20
  obtain ⟨k21, K⟩ := K
  refine Wp.putf (op_ix (by decide) ol_20 17 rfl) b6 k21 (h' := (stR h18 v0 3 (some n17))) rfl rfl ?_
  refine Wp.blk (by decide) ol_20 18 2 (pc' := 40) (L' := [.ref v0]) (S' := [.int (1024 : Int32), .ref v0]) (h' := (stR h18 v0 3 (some n17))) rfl ?_
  refine Wp.blk (by decide) ol_20 20 1 (pc' := 42) (L' := [.ref v0]) (S' := [.ref (NX ((stR h18 v0 3 (some n17)))), .ref v0]) (h' := (newO ((stR h18 v0 3 (some n17))) 20 1024)) rfl ?_
  obtain ⟨n22, e24⟩ : ∃ x, x = (NX ((stR h18 v0 3 (some n17)))) := ⟨_, rfl⟩
  obtain ⟨h23, e25⟩ : ∃ x, x = (newO ((stR h18 v0 3 (some n17))) 20 1024) := ⟨_, rfl⟩
  rw [← e25, ← e24]
  replace K := K n22 e24 h23 e25
  obtain ⟨k26, K⟩ := K
  refine Wp.putf (op_ix (by decide) ol_20 21 rfl) b6 k26 (h' := (stR h23 v0 4 (some n22))) rfl rfl ?_
  exact Wp.ret (op_ix (by decide) ol_20 22 rfl) rfl K
/-- CutsOrFast$Net.start at 0 (II)V -/
theorem g21_0 (d : Nat) (v1 : Int32) (v2 : Int32) (h : AH) (HS : Sh h)  (Q : Option Value → AH → Prop) (K : (∀ h1, h1 = (putv ((stI ((stI ((stI h 5 6 v1)) 5 7 v2)) 5 5 ((0 : Int32)))) 10 ((0 : Int32)) ((((1 : Int32)) <<< (v1 &&& 31)))) → Q none h1)) : Wp (d + 1) 21 0 [.ref 5, .int v1, .int v2] [] h Q := by
  refine Wp.blk (by decide) ol_21 0 2 (pc' := 2) (L' := [.ref 5, .int v1, .int v2]) (S' := [.int v1, .ref 5]) (h' := h) rfl ?_
  refine Wp.putf (op_ix (by decide) ol_21 2 rfl) (by decide) (okS HS 5 rfl rfl) (h' := (stI h 5 6 v1)) rfl rfl ?_
  refine Wp.blk (by decide) ol_21 3 2 (pc' := 7) (L' := [.ref 5, .int v1, .int v2]) (S' := [.int v2, .ref 5]) (h' := (stI h 5 6 v1)) rfl ?_
  refine Wp.putf (op_ix (by decide) ol_21 5 rfl) (by decide) (okS HS 5 rfl rfl) (h' := (stI ((stI h 5 6 v1)) 5 7 v2)) rfl rfl ?_
  refine Wp.blk (by decide) ol_21 6 2 (pc' := 12) (L' := [.ref 5, .int v1, .int v2]) (S' := [.int (0 : Int32), .ref 5]) (h' := (stI ((stI h 5 6 v1)) 5 7 v2)) rfl ?_
  refine Wp.putf (op_ix (by decide) ol_21 8 rfl) (by decide) (okS HS 5 rfl rfl) (h' := (stI ((stI ((stI h 5 6 v1)) 5 7 v2)) 5 5 ((0 : Int32)))) rfl rfl ?_
  refine Wp.blk (by decide) ol_21 9 1 (pc' := 16) (L' := [.ref 5, .int v1, .int v2]) (S' := [.ref 5]) (h' := (stI ((stI ((stI h 5 6 v1)) 5 7 v2)) 5 5 ((0 : Int32)))) rfl ?_
  refine Wp.getf (op_ix (by decide) ol_21 10 rfl) (okS HS 5 rfl rfl) (v := .ref 10) (congrArg va_rf (rS HS 5 4 rfl)) rfl ?_
  refine Wp.blk (by decide) ol_21 11 4 (pc' := 23) (L' := [.ref 5, .int v1, .int v2]) (S' := [.int (((1 : Int32)) <<< (v1 &&& 31)), .int (0 : Int32), .ref 10]) (h' := (stI ((stI ((stI h 5 6 v1)) 5 7 v2)) 5 5 ((0 : Int32)))) rfl ?_
  refine Wp.callV (op_ix (by decide) ol_21 15 rfl) rfl rfl (sp_put (kS HS 10 rfl) (nS HS 10 rfl) (by decide) ?_)
  refine ⟨rfl, ?_⟩
  obtain ⟨h1, e2⟩ : ∃ y, y = (putv ((stI ((stI ((stI h 5 6 v1)) 5 7 v2)) 5 5 ((0 : Int32)))) 10 ((0 : Int32)) ((((1 : Int32)) <<< (v1 &&& 31)))) := ⟨_, rfl⟩
  rw [← e2]
  replace K := K h1 e2
  have hs3 : Sh h1 := by rw [e2]; exact Sh.putv (HS.of rfl rfl rfl : Sh ((stI ((stI ((stI h 5 6 v1)) 5 7 v2)) 5 5 ((0 : Int32))))) _ _ _
  exact Wp.ret (op_ix (by decide) ol_21 16 rfl) rfl K
/-- CutsOrFast$Net.add at 0 (III)V -/
theorem g22_0 (d : Nat) (v1 : Int32) (v2 : Int32) (v3 : Int32) (h : AH) (HS : Sh h)  (Q : Option Value → AH → Prop) (K : (∀ h1, h1 = (putv h 6 ((AI h 5 5)) v1) → (∀ h4, h4 = (putv h1 7 ((AI h1 5 5)) v2) → (∀ h7, h7 = (putv h4 8 ((AI h4 5 5)) v3) → (∀ h10, h10 = (putv h7 9 ((AI h7 5 5)) ((((((1 : Int32)) <<< (v1 &&& 31))) ||| ((((1 : Int32)) <<< (v2 &&& 31)))))) → Wp (d + 1) 22 75 [.ref 5, mk0, mk0, mk0, .int (((1 : Int32)) <<< (((AI h10 5 5)) &&& 31)), .int (0 : Int32)] [] (stI h10 5 5 ((((AI h10 5 5)) + ((1 : Int32))))) Q))))) : Wp (d + 1) 22 0 [.ref 5, .int v1, .int v2, .int v3, mk0, mk0] [] h Q := by
  refine Wp.blk (by decide) ol_22 0 1 (pc' := 1) (L' := [.ref 5, .int v1, .int v2, .int v3, mk0, mk0]) (S' := [.ref 5]) (h' := h) rfl ?_
  refine Wp.getf (op_ix (by decide) ol_22 1 rfl) (okS HS 5 rfl rfl) (v := .ref 6) (congrArg va_rf (rS HS 5 0 rfl)) rfl ?_
  refine Wp.blk (by decide) ol_22 2 1 (pc' := 5) (L' := [.ref 5, .int v1, .int v2, .int v3, mk0, mk0]) (S' := [.ref 5, .ref 6]) (h' := h) rfl ?_
  refine Wp.getf (op_ix (by decide) ol_22 3 rfl) (okS HS 5 rfl rfl) (v := .int (AI h 5 5)) rfl rfl ?_
  refine Wp.blk (by decide) ol_22 4 1 (pc' := 9) (L' := [.ref 5, .int v1, .int v2, .int v3, mk0, mk0]) (S' := [.int v1, .int (AI h 5 5), .ref 6]) (h' := h) rfl ?_
  refine Wp.callV (op_ix (by decide) ol_22 5 rfl) rfl rfl (sp_put (kS HS 6 rfl) (nS HS 6 rfl) (by decide) ?_)
  refine ⟨rfl, ?_⟩
  obtain ⟨h1, e2⟩ : ∃ y, y = (putv h 6 ((AI h 5 5)) v1) := ⟨_, rfl⟩
  rw [← e2]
  replace K := K h1 e2
  have hs3 : Sh h1 := by rw [e2]; exact Sh.putv HS _ _ _
  refine Wp.blk (by decide) ol_22 6 1 (pc' := 13) (L' := [.ref 5, .int v1, .int v2, .int v3, mk0, mk0]) (S' := [.ref 5]) (h' := h1) rfl ?_
  refine Wp.getf (op_ix (by decide) ol_22 7 rfl) (okS hs3 5 rfl rfl) (v := .ref 7) (congrArg va_rf (rS hs3 5 1 rfl)) rfl ?_
  refine Wp.blk (by decide) ol_22 8 1 (pc' := 17) (L' := [.ref 5, .int v1, .int v2, .int v3, mk0, mk0]) (S' := [.ref 5, .ref 7]) (h' := h1) rfl ?_
  refine Wp.getf (op_ix (by decide) ol_22 9 rfl) (okS hs3 5 rfl rfl) (v := .int (AI h1 5 5)) rfl rfl ?_
  refine Wp.blk (by decide) ol_22 10 1 (pc' := 21) (L' := [.ref 5, .int v1, .int v2, .int v3, mk0, mk0]) (S' := [.int v2, .int (AI h1 5 5), .ref 7]) (h' := h1) rfl ?_
  refine Wp.callV (op_ix (by decide) ol_22 11 rfl) rfl rfl (sp_put (kS hs3 7 rfl) (nS hs3 7 rfl) (by decide) ?_)
  refine ⟨rfl, ?_⟩
  obtain ⟨h4, e5⟩ : ∃ y, y = (putv h1 7 ((AI h1 5 5)) v2) := ⟨_, rfl⟩
  rw [← e5]
  replace K := K h4 e5
  have hs6 : Sh h4 := by rw [e5]; exact Sh.putv hs3 _ _ _
  refine Wp.blk (by decide) ol_22 12 1 (pc' := 25) (L' := [.ref 5, .int v1, .int v2, .int v3, mk0, mk0]) (S' := [.ref 5]) (h' := h4) rfl ?_
  refine Wp.getf (op_ix (by decide) ol_22 13 rfl) (okS hs6 5 rfl rfl) (v := .ref 8) (congrArg va_rf (rS hs6 5 2 rfl)) rfl ?_
  refine Wp.blk (by decide) ol_22 14 1 (pc' := 29) (L' := [.ref 5, .int v1, .int v2, .int v3, mk0, mk0]) (S' := [.ref 5, .ref 8]) (h' := h4) rfl ?_
  refine Wp.getf (op_ix (by decide) ol_22 15 rfl) (okS hs6 5 rfl rfl) (v := .int (AI h4 5 5)) rfl rfl ?_
  refine Wp.blk (by decide) ol_22 16 1 (pc' := 33) (L' := [.ref 5, .int v1, .int v2, .int v3, mk0, mk0]) (S' := [.int v3, .int (AI h4 5 5), .ref 8]) (h' := h4) rfl ?_
  refine Wp.callV (op_ix (by decide) ol_22 17 rfl) rfl rfl (sp_put (kS hs6 8 rfl) (nS hs6 8 rfl) (by decide) ?_)
  refine ⟨rfl, ?_⟩
  obtain ⟨h7, e8⟩ : ∃ y, y = (putv h4 8 ((AI h4 5 5)) v3) := ⟨_, rfl⟩
  rw [← e8]
  replace K := K h7 e8
  have hs9 : Sh h7 := by rw [e8]; exact Sh.putv hs6 _ _ _
  refine Wp.blk (by decide) ol_22 18 1 (pc' := 37) (L' := [.ref 5, .int v1, .int v2, .int v3, mk0, mk0]) (S' := [.ref 5]) (h' := h7) rfl ?_
  refine Wp.getf (op_ix (by decide) ol_22 19 rfl) (okS hs9 5 rfl rfl) (v := .ref 9) (congrArg va_rf (rS hs9 5 3 rfl)) rfl ?_
  refine Wp.blk (by decide) ol_22 20 1 (pc' := 41) (L' := [.ref 5, .int v1, .int v2, .int v3, mk0, mk0]) (S' := [.ref 5, .ref 9]) (h' := h7) rfl ?_
  refine Wp.getf (op_ix (by decide) ol_22 21 rfl) (okS hs9 5 rfl rfl) (v := .int (AI h7 5 5)) rfl rfl ?_
  refine Wp.blk (by decide) ol_22 22 7 (pc' := 51) (L' := [.ref 5, .int v1, .int v2, .int v3, mk0, mk0]) (S' := [.int (((((1 : Int32)) <<< (v1 &&& 31))) ||| ((((1 : Int32)) <<< (v2 &&& 31)))), .int (AI h7 5 5), .ref 9]) (h' := h7) rfl ?_
  refine Wp.callV (op_ix (by decide) ol_22 29 rfl) rfl rfl (sp_put (kS hs9 9 rfl) (nS hs9 9 rfl) (by decide) ?_)
  refine ⟨rfl, ?_⟩
  obtain ⟨h10, e11⟩ : ∃ y, y = (putv h7 9 ((AI h7 5 5)) ((((((1 : Int32)) <<< (v1 &&& 31))) ||| ((((1 : Int32)) <<< (v2 &&& 31)))))) := ⟨_, rfl⟩
  rw [← e11]
  replace K := K h10 e11
  have hs12 : Sh h10 := by rw [e11]; exact Sh.putv hs9 _ _ _
  refine Wp.blk (by decide) ol_22 30 2 (pc' := 56) (L' := [.ref 5, .int v1, .int v2, .int v3, mk0, mk0]) (S' := [.ref 5, .int (1 : Int32)]) (h' := h10) rfl ?_
  refine Wp.getf (op_ix (by decide) ol_22 32 rfl) (okS hs12 5 rfl rfl) (v := .int (AI h10 5 5)) rfl rfl ?_
  refine Wp.blk (by decide) ol_22 33 4 (pc' := 64) (L' := [.ref 5, .int v1, .int v2, .int v3, .int (((1 : Int32)) <<< (((AI h10 5 5)) &&& 31)), mk0]) (S' := [.ref 5, .ref 5]) (h' := h10) rfl ?_
  refine Wp.getf (op_ix (by decide) ol_22 37 rfl) (okS hs12 5 rfl rfl) (v := .int (AI h10 5 5)) rfl rfl ?_
  refine Wp.blk (by decide) ol_22 38 2 (pc' := 69) (L' := [.ref 5, .int v1, .int v2, .int v3, .int (((1 : Int32)) <<< (((AI h10 5 5)) &&& 31)), mk0]) (S' := [.int (((AI h10 5 5)) + ((1 : Int32))), .ref 5]) (h' := h10) rfl ?_
  refine Wp.putf (op_ix (by decide) ol_22 40 rfl) (by decide) (okS hs12 5 rfl rfl) (h' := (stI h10 5 5 ((((AI h10 5 5)) + ((1 : Int32)))))) rfl rfl ?_
  refine Wp.blk (by decide) ol_22 41 2 (pc' := 75) (L' := [.ref 5, .int v1, .int v2, .int v3, .int (((1 : Int32)) <<< (((AI h10 5 5)) &&& 31)), .int (0 : Int32)]) (S' := []) (h' := (stI h10 5 5 ((((AI h10 5 5)) + ((1 : Int32)))))) rfl ?_
  refine Wp.forget (L := [.ref 5, mk0, mk0, mk0, .int (((1 : Int32)) <<< (((AI h10 5 5)) &&& 31)), .int (0 : Int32)]) (⟨Or.inr rfl, ⟨Or.inl rfl, ⟨Or.inl rfl, ⟨Or.inl rfl, ⟨Or.inr rfl, ⟨Or.inr rfl, trivial⟩⟩⟩⟩⟩⟩) ?_
  exact K
/-- CutsOrFast$Net.add at 75 -/
theorem g22_75 (d : Nat) (v4 : Int32) (v5 : Int32) (h : AH) (HS : Sh h)  (Q : Option Value → AH → Prop) (K : ((v5 < v4 → (Cl d 24 [.ref 5, .int (atv h 10 v5), .int (v5 ||| v4)] h (fun r h2 => ∃ x4 : Int32, r = some (.int x4) ∧ Sh h2 ∧ (∀ h5, h5 = (putv h2 10 ((v5 ||| v4)) x4) → Wp (d + 1) 22 75 [.ref 5, mk0, mk0, mk0, .int v4, .int (v5 + (1 : Int32))] [] h5 Q)))) ∧ (¬ v5 < v4 → Q none h))) : Wp (d + 1) 22 75 [.ref 5, mk0, mk0, mk0, .int v4, .int v5] [] h Q := by
  refine Wp.blk (by decide) ol_22 43 3 (pc' := (if v5 < v4 then 82 else 118)) (L' := [.ref 5, mk0, mk0, mk0, .int v4, .int v5]) (S' := []) (h' := h) rfl ?_
  refine Wp.br (fun c1 => ?_) (fun c1 => ?_)
  · replace K := K.1 c1
    refine Wp.blk (by decide) ol_22 46 1 (pc' := 83) (L' := [.ref 5, mk0, mk0, mk0, .int v4, .int v5]) (S' := [.ref 5]) (h' := h) rfl ?_
    refine Wp.getf (op_ix (by decide) ol_22 47 rfl) (okS HS 5 rfl rfl) (v := .ref 10) (congrArg va_rf (rS HS 5 4 rfl)) rfl ?_
    refine Wp.blk (by decide) ol_22 48 5 (pc' := 93) (L' := [.ref 5, mk0, mk0, mk0, .int v4, .int v5]) (S' := [.ref 5, .ref 5, .int (v5 ||| v4), .ref 10]) (h' := h) rfl ?_
    refine Wp.getf (op_ix (by decide) ol_22 53 rfl) (okS HS 5 rfl rfl) (v := .ref 10) (congrArg va_rf (rS HS 5 4 rfl)) rfl ?_
    refine Wp.blk (by decide) ol_22 54 1 (pc' := 98) (L' := [.ref 5, mk0, mk0, mk0, .int v4, .int v5]) (S' := [.int v5, .ref 10, .ref 5, .int (v5 ||| v4), .ref 10]) (h' := h) rfl ?_
    refine Wp.callI (op_ix (by decide) ol_22 55 rfl) rfl rfl (sp_at (kS HS 10 rfl) (nS HS 10 rfl) ?_)
    refine ⟨_, rfl, ?_⟩
    refine Wp.blk (by decide) ol_22 56 3 (pc' := 106) (L' := [.ref 5, mk0, mk0, mk0, .int v4, .int v5]) (S' := [.int (v5 ||| v4), .int (atv h 10 v5), .ref 5, .int (v5 ||| v4), .ref 10]) (h' := h) rfl ?_
    refine Wp.callI (op_ix (by decide) ol_22 59 rfl) (act_virt (c2 := 2) rfl (lk1 (kS HS 5 rfl)) rfl) rfl (K.mono ?_)
    rintro _ h2 ⟨x4, rfl, hs3, K⟩
    refine ⟨x4, rfl, ?_⟩
    refine Wp.callV (op_ix (by decide) ol_22 60 rfl) rfl rfl (sp_put (kS hs3 10 rfl) (nS hs3 10 rfl) (by decide) ?_)
    refine ⟨rfl, ?_⟩
    obtain ⟨h5, e6⟩ : ∃ y, y = (putv h2 10 ((v5 ||| v4)) x4) := ⟨_, rfl⟩
    rw [← e6]
    replace K := K h5 e6
    have hs7 : Sh h5 := by rw [e6]; exact Sh.putv hs3 _ _ _
    refine Wp.blk (by decide) ol_22 61 2 (pc' := 75) (L' := [.ref 5, mk0, mk0, mk0, .int v4, .int (v5 + (1 : Int32))]) (S' := []) (h' := h5) rfl ?_
    exact K
  · replace K := K.2 c1
    exact Wp.ret (op_ix (by decide) ol_22 63 rfl) rfl K
/-- CutsOrFast$Net.spread at 0 (II)I -/
theorem g24_0 (d : Nat) (v1 : Int32) (v2 : Int32) (h : AH) (HS : Sh h)  (Q : Option Value → AH → Prop) (K : Wp d 24 5 [.ref 5, mk0, .int v2, .int v1, .int (1 : Int32), mk0] [] h Q) : Wp d 24 0 [.ref 5, .int v1, .int v2, mk0, mk0, mk0] [] h Q := by
  refine Wp.blk (by decide) ol_24 0 4 (pc' := 5) (L' := [.ref 5, .int v1, .int v2, .int v1, .int (1 : Int32), mk0]) (S' := []) (h' := h) rfl ?_
  refine Wp.forget (L := [.ref 5, mk0, .int v2, .int v1, .int (1 : Int32), mk0]) (⟨Or.inr rfl, ⟨Or.inl rfl, ⟨Or.inr rfl, ⟨Or.inr rfl, ⟨Or.inr rfl, ⟨Or.inr rfl, trivial⟩⟩⟩⟩⟩⟩) ?_
  exact K
/-- CutsOrFast$Net.spread at 5 -/
theorem g24_5 (d : Nat) (v2 : Int32) (v3 : Int32) (v4 : Int32) (h : AH) (HS : Sh h)  (Q : Option Value → AH → Prop) (K : ((v4 < (6 : Int32) → (Cl d 25 [.ref 5, .int v3, .int v2] h (fun r h2 => ∃ x4 : Int32, r = some (.int x4) ∧ Sh h2 ∧ ((x4 = v3 → Q (some (.int v3)) h2) ∧ (¬ x4 = v3 → Wp (d + 1) 24 5 [.ref 5, mk0, .int v2, .int x4, .int (v4 + (1 : Int32)), mk0] [] h2 Q))))) ∧ (¬ v4 < (6 : Int32) → Q (some (.int v3)) h))) : Wp (d + 1) 24 5 [.ref 5, mk0, .int v2, .int v3, .int v4, mk0] [] h Q := by
  refine Wp.blk (by decide) ol_24 4 3 (pc' := (if v4 < (6 : Int32) then 12 else 37)) (L' := [.ref 5, mk0, .int v2, .int v3, .int v4, mk0]) (S' := []) (h' := h) rfl ?_
  refine Wp.br (fun c1 => ?_) (fun c1 => ?_)
  · replace K := K.1 c1
    refine Wp.blk (by decide) ol_24 7 3 (pc' := 15) (L' := [.ref 5, mk0, .int v2, .int v3, .int v4, mk0]) (S' := [.int v2, .int v3, .ref 5]) (h' := h) rfl ?_
    refine Wp.callI (op_ix (by decide) ol_24 10 rfl) (act_virt (c2 := 2) rfl (lk1 (kS HS 5 rfl)) rfl) rfl (K.mono ?_)
    rintro _ h2 ⟨x4, rfl, hs3, K⟩
    refine ⟨x4, rfl, ?_⟩
    refine Wp.blk (by decide) ol_24 11 4 (pc' := (if x4 = v3 then 26 else 28)) (L' := [.ref 5, mk0, .int v2, .int v3, .int v4, .int x4]) (S' := []) (h' := h2) rfl ?_
    refine Wp.br (fun c5 => ?_) (fun c5 => ?_)
    · replace K := K.1 c5
      refine Wp.blk (by decide) ol_24 15 1 (pc' := 27) (L' := [.ref 5, mk0, .int v2, .int v3, .int v4, .int x4]) (S' := [.int v3]) (h' := h2) rfl ?_
      exact Wp.ret (op_ix (by decide) ol_24 16 rfl) rfl K
    · replace K := K.2 c5
      refine Wp.blk (by decide) ol_24 17 4 (pc' := 5) (L' := [.ref 5, mk0, .int v2, .int x4, .int (v4 + (1 : Int32)), .int x4]) (S' := []) (h' := h2) rfl ?_
      refine Wp.forget (L := [.ref 5, mk0, .int v2, .int x4, .int (v4 + (1 : Int32)), mk0]) (⟨Or.inr rfl, ⟨Or.inr rfl, ⟨Or.inr rfl, ⟨Or.inr rfl, ⟨Or.inr rfl, ⟨Or.inl rfl, trivial⟩⟩⟩⟩⟩⟩) ?_
      exact K
  · replace K := K.2 c1
    refine Wp.blk (by decide) ol_24 21 1 (pc' := 38) (L' := [.ref 5, mk0, .int v2, .int v3, .int v4, mk0]) (S' := [.int v3]) (h' := h) rfl ?_
    exact Wp.ret (op_ix (by decide) ol_24 22 rfl) rfl K
/-- CutsOrFast$Net.spreadOnce at 0 (II)I -/
theorem g25_0 (d : Nat) (v1 : Int32) (v2 : Int32) (h : AH) (HS : Sh h)  (Q : Option Value → AH → Prop) (K : Wp d 25 5 [.ref 5, mk0, .int v2, .int v1, .int (0 : Int32), mk0] [] h Q) : Wp d 25 0 [.ref 5, .int v1, .int v2, mk0, mk0, mk0] [] h Q := by
  refine Wp.blk (by decide) ol_25 0 4 (pc' := 5) (L' := [.ref 5, .int v1, .int v2, .int v1, .int (0 : Int32), mk0]) (S' := []) (h' := h) rfl ?_
  refine Wp.forget (L := [.ref 5, mk0, .int v2, .int v1, .int (0 : Int32), mk0]) (⟨Or.inr rfl, ⟨Or.inl rfl, ⟨Or.inr rfl, ⟨Or.inr rfl, ⟨Or.inr rfl, ⟨Or.inr rfl, trivial⟩⟩⟩⟩⟩⟩) ?_
  exact K
/-- CutsOrFast$Net.spreadOnce at 5 -/
theorem g25_5 (d : Nat) (v2 : Int32) (v3 : Int32) (v4 : Int32) (h : AH) (HS : Sh h)  (Q : Option Value → AH → Prop) (K : ((v4 < (AI h 5 5) → (((v2 &&& ((((1 : Int32)) <<< (v4 &&& 31)))) = (0 : Int32) → Wp (d + 1) 25 5 [.ref 5, mk0, .int v2, .int v3, .int (v4 + (1 : Int32)), mk0] [] h Q) ∧ (¬ (v2 &&& ((((1 : Int32)) <<< (v4 &&& 31)))) = (0 : Int32) → (((v3 &&& ((atv h 9 v4))) = (0 : Int32) → Wp (d + 1) 25 5 [.ref 5, mk0, .int v2, .int v3, .int (v4 + (1 : Int32)), mk0] [] h Q) ∧ (¬ (v3 &&& ((atv h 9 v4))) = (0 : Int32) → Wp (d + 1) 25 5 [.ref 5, mk0, .int v2, .int (v3 ||| ((atv h 9 v4))), .int (v4 + (1 : Int32)), mk0] [] h Q))))) ∧ (¬ v4 < (AI h 5 5) → Q (some (.int v3)) h))) : Wp (d + 1) 25 5 [.ref 5, mk0, .int v2, .int v3, .int v4, mk0] [] h Q := by
  refine Wp.blk (by decide) ol_25 4 2 (pc' := 8) (L' := [.ref 5, mk0, .int v2, .int v3, .int v4, mk0]) (S' := [.ref 5, .int v4]) (h' := h) rfl ?_
  refine Wp.getf (op_ix (by decide) ol_25 6 rfl) (okS HS 5 rfl rfl) (v := .int (AI h 5 5)) rfl rfl ?_
  refine Wp.blk (by decide) ol_25 7 1 (pc' := (if v4 < (AI h 5 5) then 14 else 52)) (L' := [.ref 5, mk0, .int v2, .int v3, .int v4, mk0]) (S' := []) (h' := h) rfl ?_
  refine Wp.br (fun c1 => ?_) (fun c1 => ?_)
  · replace K := K.1 c1
    refine Wp.blk (by decide) ol_25 8 1 (pc' := 15) (L' := [.ref 5, mk0, .int v2, .int v3, .int v4, mk0]) (S' := [.ref 5]) (h' := h) rfl ?_
    refine Wp.getf (op_ix (by decide) ol_25 9 rfl) (okS HS 5 rfl rfl) (v := .ref 9) (congrArg va_rf (rS HS 5 3 rfl)) rfl ?_
    refine Wp.blk (by decide) ol_25 10 1 (pc' := 20) (L' := [.ref 5, mk0, .int v2, .int v3, .int v4, mk0]) (S' := [.int v4, .ref 9]) (h' := h) rfl ?_
    refine Wp.callI (op_ix (by decide) ol_25 11 rfl) rfl rfl (sp_at (kS HS 9 rfl) (nS HS 9 rfl) ?_)
    refine ⟨_, rfl, ?_⟩
    refine Wp.blk (by decide) ol_25 12 7 (pc' := (if (v2 &&& ((((1 : Int32)) <<< (v4 &&& 31)))) = (0 : Int32) then 46 else 34)) (L' := [.ref 5, mk0, .int v2, .int v3, .int v4, .int (atv h 9 v4)]) (S' := []) (h' := h) rfl ?_
    refine Wp.br (fun c2 => ?_) (fun c2 => ?_)
    · replace K := K.1 c2
      refine Wp.blk (by decide) ol_25 27 2 (pc' := 5) (L' := [.ref 5, mk0, .int v2, .int v3, .int (v4 + (1 : Int32)), .int (atv h 9 v4)]) (S' := []) (h' := h) rfl ?_
      refine Wp.forget (L := [.ref 5, mk0, .int v2, .int v3, .int (v4 + (1 : Int32)), mk0]) (⟨Or.inr rfl, ⟨Or.inr rfl, ⟨Or.inr rfl, ⟨Or.inr rfl, ⟨Or.inr rfl, ⟨Or.inl rfl, trivial⟩⟩⟩⟩⟩⟩) ?_
      exact K
    · replace K := K.2 c2
      refine Wp.blk (by decide) ol_25 19 4 (pc' := (if (v3 &&& ((atv h 9 v4))) = (0 : Int32) then 46 else 41)) (L' := [.ref 5, mk0, .int v2, .int v3, .int v4, .int (atv h 9 v4)]) (S' := []) (h' := h) rfl ?_
      refine Wp.br (fun c3 => ?_) (fun c3 => ?_)
      · replace K := K.1 c3
        refine Wp.blk (by decide) ol_25 27 2 (pc' := 5) (L' := [.ref 5, mk0, .int v2, .int v3, .int (v4 + (1 : Int32)), .int (atv h 9 v4)]) (S' := []) (h' := h) rfl ?_
        refine Wp.forget (L := [.ref 5, mk0, .int v2, .int v3, .int (v4 + (1 : Int32)), mk0]) (⟨Or.inr rfl, ⟨Or.inr rfl, ⟨Or.inr rfl, ⟨Or.inr rfl, ⟨Or.inr rfl, ⟨Or.inl rfl, trivial⟩⟩⟩⟩⟩⟩) ?_
        exact K
      · replace K := K.2 c3
        refine Wp.blk (by decide) ol_25 23 6 (pc' := 5) (L' := [.ref 5, mk0, .int v2, .int (v3 ||| ((atv h 9 v4))), .int (v4 + (1 : Int32)), .int (atv h 9 v4)]) (S' := []) (h' := h) rfl ?_
        refine Wp.forget (L := [.ref 5, mk0, .int v2, .int (v3 ||| ((atv h 9 v4))), .int (v4 + (1 : Int32)), mk0]) (⟨Or.inr rfl, ⟨Or.inr rfl, ⟨Or.inr rfl, ⟨Or.inr rfl, ⟨Or.inr rfl, ⟨Or.inl rfl, trivial⟩⟩⟩⟩⟩⟩) ?_
        exact K
  · replace K := K.2 c1
    refine Wp.blk (by decide) ol_25 29 1 (pc' := 53) (L' := [.ref 5, mk0, .int v2, .int v3, .int v4, mk0]) (S' := [.int v3]) (h' := h) rfl ?_
    exact Wp.ret (op_ix (by decide) ol_25 30 rfl) rfl K
/-- CutsOrFast$Net.size at 0 ()I -/
theorem g26_0 (d : Nat)  (h : AH) (HS : Sh h)  (Q : Option Value → AH → Prop) (K : Q (some (.int (AI h 5 5))) h) : Wp d 26 0 [.ref 5] [] h Q := by
  refine Wp.blk (by decide) ol_26 0 1 (pc' := 1) (L' := [.ref 5]) (S' := [.ref 5]) (h' := h) rfl ?_
  refine Wp.getf (op_ix (by decide) ol_26 1 rfl) (okS HS 5 rfl rfl) (v := .int (AI h 5 5)) rfl rfl ?_
  exact Wp.ret (op_ix (by decide) ol_26 2 rfl) rfl K
/-- CutsOrFast$Net.all at 0 ()I -/
theorem g27_0 (d : Nat)  (h : AH) (HS : Sh h)  (Q : Option Value → AH → Prop) (K : Q (some (.int (((((1 : Int32)) <<< (((AI h 5 5)) &&& 31))) - ((1 : Int32))))) h) : Wp d 27 0 [.ref 5] [] h Q := by
  refine Wp.blk (by decide) ol_27 0 2 (pc' := 2) (L' := [.ref 5]) (S' := [.ref 5, .int (1 : Int32)]) (h' := h) rfl ?_
  refine Wp.getf (op_ix (by decide) ol_27 2 rfl) (okS HS 5 rfl rfl) (v := .int (AI h 5 5)) rfl rfl ?_
  refine Wp.blk (by decide) ol_27 3 3 (pc' := 8) (L' := [.ref 5]) (S' := [.int (((((1 : Int32)) <<< (((AI h 5 5)) &&& 31))) - ((1 : Int32)))]) (h' := h) rfl ?_
  exact Wp.ret (op_ix (by decide) ol_27 6 rfl) rfl K
/-- CutsOrFast$Net.firstPlace at 0 (I)I -/
theorem g30_0 (d : Nat) (v1 : Int32) (h : AH) (HS : Sh h)  (Q : Option Value → AH → Prop) (K : Q (some (.int (atv h 6 v1))) h) : Wp (d + 1) 30 0 [.ref 5, .int v1] [] h Q := by
  refine Wp.blk (by decide) ol_30 0 1 (pc' := 1) (L' := [.ref 5, .int v1]) (S' := [.ref 5]) (h' := h) rfl ?_
  refine Wp.getf (op_ix (by decide) ol_30 1 rfl) (okS HS 5 rfl rfl) (v := .ref 6) (congrArg va_rf (rS HS 5 0 rfl)) rfl ?_
  refine Wp.blk (by decide) ol_30 2 1 (pc' := 5) (L' := [.ref 5, .int v1]) (S' := [.int v1, .ref 6]) (h' := h) rfl ?_
  refine Wp.callI (op_ix (by decide) ol_30 3 rfl) rfl rfl (sp_at (kS HS 6 rfl) (nS HS 6 rfl) ?_)
  refine ⟨_, rfl, ?_⟩
  exact Wp.ret (op_ix (by decide) ol_30 4 rfl) rfl K
/-- CutsOrFast$Net.secondPlace at 0 (I)I -/
theorem g31_0 (d : Nat) (v1 : Int32) (h : AH) (HS : Sh h)  (Q : Option Value → AH → Prop) (K : Q (some (.int (atv h 7 v1))) h) : Wp (d + 1) 31 0 [.ref 5, .int v1] [] h Q := by
  refine Wp.blk (by decide) ol_31 0 1 (pc' := 1) (L' := [.ref 5, .int v1]) (S' := [.ref 5]) (h' := h) rfl ?_
  refine Wp.getf (op_ix (by decide) ol_31 1 rfl) (okS HS 5 rfl rfl) (v := .ref 7) (congrArg va_rf (rS HS 5 1 rfl)) rfl ?_
  refine Wp.blk (by decide) ol_31 2 1 (pc' := 5) (L' := [.ref 5, .int v1]) (S' := [.int v1, .ref 7]) (h' := h) rfl ?_
  refine Wp.callI (op_ix (by decide) ol_31 3 rfl) rfl rfl (sp_at (kS HS 7 rfl) (nS HS 7 rfl) ?_)
  refine ⟨_, rfl, ?_⟩
  exact Wp.ret (op_ix (by decide) ol_31 4 rfl) rfl K
/-- CutsOrFast$Net.costOf at 0 (I)I -/
theorem g32_0 (d : Nat) (v1 : Int32) (h : AH) (HS : Sh h)  (Q : Option Value → AH → Prop) (K : Q (some (.int (atv h 8 v1))) h) : Wp (d + 1) 32 0 [.ref 5, .int v1] [] h Q := by
  refine Wp.blk (by decide) ol_32 0 1 (pc' := 1) (L' := [.ref 5, .int v1]) (S' := [.ref 5]) (h' := h) rfl ?_
  refine Wp.getf (op_ix (by decide) ol_32 1 rfl) (okS HS 5 rfl rfl) (v := .ref 8) (congrArg va_rf (rS HS 5 2 rfl)) rfl ?_
  refine Wp.blk (by decide) ol_32 2 1 (pc' := 5) (L' := [.ref 5, .int v1]) (S' := [.int v1, .ref 8]) (h' := h) rfl ?_
  refine Wp.callI (op_ix (by decide) ol_32 3 rfl) rfl rfl (sp_at (kS HS 8 rfl) (nS HS 8 rfl) ?_)
  refine ⟨_, rfl, ?_⟩
  exact Wp.ret (op_ix (by decide) ol_32 4 rfl) rfl K
/-- CutsOrFast$Net.joins at 0 (I)Z -/
theorem g34_0 (d : Nat) (v1 : Int32) (h : AH) (HS : Sh h)  (Q : Option Value → AH → Prop) (K : (((((atv h 10 v1)) &&& ((((1 : Int32)) <<< (((AI h 5 7)) &&& 31)))) = (0 : Int32) → Q (some (.int (0 : Int32))) h) ∧ (¬ (((atv h 10 v1)) &&& ((((1 : Int32)) <<< (((AI h 5 7)) &&& 31)))) = (0 : Int32) → Q (some (.int (1 : Int32))) h))) : Wp (d + 1) 34 0 [.ref 5, .int v1] [] h Q := by
  refine Wp.blk (by decide) ol_34 0 1 (pc' := 1) (L' := [.ref 5, .int v1]) (S' := [.ref 5]) (h' := h) rfl ?_
  refine Wp.getf (op_ix (by decide) ol_34 1 rfl) (okS HS 5 rfl rfl) (v := .ref 10) (congrArg va_rf (rS HS 5 4 rfl)) rfl ?_
  refine Wp.blk (by decide) ol_34 2 1 (pc' := 5) (L' := [.ref 5, .int v1]) (S' := [.int v1, .ref 10]) (h' := h) rfl ?_
  refine Wp.callI (op_ix (by decide) ol_34 3 rfl) rfl rfl (sp_at (kS HS 10 rfl) (nS HS 10 rfl) ?_)
  refine ⟨_, rfl, ?_⟩
  refine Wp.blk (by decide) ol_34 4 2 (pc' := 10) (L' := [.ref 5, .int v1]) (S' := [.ref 5, .int (1 : Int32), .int (atv h 10 v1)]) (h' := h) rfl ?_
  refine Wp.getf (op_ix (by decide) ol_34 6 rfl) (okS HS 5 rfl rfl) (v := .int (AI h 5 7)) rfl rfl ?_
  refine Wp.blk (by decide) ol_34 7 3 (pc' := (if (((atv h 10 v1)) &&& ((((1 : Int32)) <<< (((AI h 5 7)) &&& 31)))) = (0 : Int32) then 22 else 18)) (L' := [.ref 5, .int v1]) (S' := []) (h' := h) rfl ?_
  refine Wp.br (fun c1 => ?_) (fun c1 => ?_)
  · replace K := K.1 c1
    refine Wp.blk (by decide) ol_34 12 1 (pc' := 23) (L' := [.ref 5, .int v1]) (S' := [.int (0 : Int32)]) (h' := h) rfl ?_
    exact Wp.ret (op_ix (by decide) ol_34 13 rfl) rfl K
  · replace K := K.2 c1
    refine Wp.blk (by decide) ol_34 10 2 (pc' := 23) (L' := [.ref 5, .int v1]) (S' := [.int (1 : Int32)]) (h' := h) rfl ?_
    exact Wp.ret (op_ix (by decide) ol_34 13 rfl) rfl K
/-- CutsOrFast$Net.outcome at 0 (II)I -/
theorem g37_0 (d : Nat) (v1 : Int32) (v2 : Int32) (h : AH) (HS : Sh h)  (Q : Option Value → AH → Prop) (K : (((((atv h 10 v1)) &&& ((((1 : Int32)) <<< (((AI h 5 7)) &&& 31)))) = (0 : Int32) → (((((atv h 10 ((((((((1 : Int32)) <<< (((AI h 5 5)) &&& 31))) - ((1 : Int32)))) &&& ((v2 ^^^ ((-1 : Int32)))))))) &&& ((((1 : Int32)) <<< (((AI h 5 7)) &&& 31)))) = (0 : Int32) → Q (some (.int (2 : Int32))) h) ∧ (¬ (((atv h 10 ((((((((1 : Int32)) <<< (((AI h 5 5)) &&& 31))) - ((1 : Int32)))) &&& ((v2 ^^^ ((-1 : Int32)))))))) &&& ((((1 : Int32)) <<< (((AI h 5 7)) &&& 31)))) = (0 : Int32) → Q (some (.int (0 : Int32))) h))) ∧ (¬ (((atv h 10 v1)) &&& ((((1 : Int32)) <<< (((AI h 5 7)) &&& 31)))) = (0 : Int32) → Q (some (.int (1 : Int32))) h))) : Wp (d + 2) 37 0 [.ref 5, .int v1, .int v2] [] h Q := by
  refine Wp.blk (by decide) ol_37 0 2 (pc' := 2) (L' := [.ref 5, .int v1, .int v2]) (S' := [.int v1, .ref 5]) (h' := h) rfl ?_
  refine Wp.callI (op_ix (by decide) ol_37 2 rfl) (act_virt (c2 := 1) rfl (lk1 (kS HS 5 rfl)) rfl) rfl (Cl.enter (L := [.ref 5, .int v1]) rfl ?_)
  refine Wp.blk (by decide) ol_34 0 1 (pc' := 1) (L' := [.ref 5, .int v1]) (S' := [.ref 5]) (h' := h) rfl ?_
  refine Wp.getf (op_ix (by decide) ol_34 1 rfl) (okS HS 5 rfl rfl) (v := .ref 10) (congrArg va_rf (rS HS 5 4 rfl)) rfl ?_
  refine Wp.blk (by decide) ol_34 2 1 (pc' := 5) (L' := [.ref 5, .int v1]) (S' := [.int v1, .ref 10]) (h' := h) rfl ?_
  refine Wp.callI (op_ix (by decide) ol_34 3 rfl) rfl rfl (sp_at (kS HS 10 rfl) (nS HS 10 rfl) ?_)
  refine ⟨_, rfl, ?_⟩
  refine Wp.blk (by decide) ol_34 4 2 (pc' := 10) (L' := [.ref 5, .int v1]) (S' := [.ref 5, .int (1 : Int32), .int (atv h 10 v1)]) (h' := h) rfl ?_
  refine Wp.getf (op_ix (by decide) ol_34 6 rfl) (okS HS 5 rfl rfl) (v := .int (AI h 5 7)) rfl rfl ?_
  refine Wp.blk (by decide) ol_34 7 3 (pc' := (if (((atv h 10 v1)) &&& ((((1 : Int32)) <<< (((AI h 5 7)) &&& 31)))) = (0 : Int32) then 22 else 18)) (L' := [.ref 5, .int v1]) (S' := []) (h' := h) rfl ?_
  refine Wp.br (fun c1 => ?_) (fun c1 => ?_)
  · replace K := K.1 c1
    refine Wp.blk (by decide) ol_34 12 1 (pc' := 23) (L' := [.ref 5, .int v1]) (S' := [.int (0 : Int32)]) (h' := h) rfl ?_
    refine Wp.ret (op_ix (by decide) ol_34 13 rfl) rfl ⟨_, rfl, ?_⟩
    refine Wp.blk (by decide) ol_37 3 1 (pc' := (if (0 : Int32) = (0 : Int32) then 10 else 8)) (L' := [.ref 5, .int v1, .int v2]) (S' := []) (h' := h) rfl ?_
    refine Wp.br (fun _ => ?_) (fun hc => absurd (by decide) hc)
    refine Wp.blk (by decide) ol_37 6 2 (pc' := 12) (L' := [.ref 5, .int v1, .int v2]) (S' := [.ref 5, .ref 5]) (h' := h) rfl ?_
    refine Wp.callI (op_ix (by decide) ol_37 8 rfl) (act_virt (c2 := 0) rfl (lk1 (kS HS 5 rfl)) rfl) rfl (Cl.enter (L := [.ref 5]) rfl ?_)
    refine Wp.blk (by decide) ol_27 0 2 (pc' := 2) (L' := [.ref 5]) (S' := [.ref 5, .int (1 : Int32)]) (h' := h) rfl ?_
    refine Wp.getf (op_ix (by decide) ol_27 2 rfl) (okS HS 5 rfl rfl) (v := .int (AI h 5 5)) rfl rfl ?_
    refine Wp.blk (by decide) ol_27 3 3 (pc' := 8) (L' := [.ref 5]) (S' := [.int (((((1 : Int32)) <<< (((AI h 5 5)) &&& 31))) - ((1 : Int32)))]) (h' := h) rfl ?_
    refine Wp.ret (op_ix (by decide) ol_27 6 rfl) rfl ⟨_, rfl, ?_⟩
    refine Wp.blk (by decide) ol_37 9 4 (pc' := 19) (L' := [.ref 5, .int v1, .int v2]) (S' := [.int (((((((1 : Int32)) <<< (((AI h 5 5)) &&& 31))) - ((1 : Int32)))) &&& ((v2 ^^^ ((-1 : Int32))))), .ref 5]) (h' := h) rfl ?_
    refine Wp.callI (op_ix (by decide) ol_37 13 rfl) (act_virt (c2 := 1) rfl (lk1 (kS HS 5 rfl)) rfl) rfl (Cl.enter (L := [.ref 5, .int (((((((1 : Int32)) <<< (((AI h 5 5)) &&& 31))) - ((1 : Int32)))) &&& ((v2 ^^^ ((-1 : Int32)))))]) rfl ?_)
    refine Wp.blk (by decide) ol_34 0 1 (pc' := 1) (L' := [.ref 5, .int (((((((1 : Int32)) <<< (((AI h 5 5)) &&& 31))) - ((1 : Int32)))) &&& ((v2 ^^^ ((-1 : Int32)))))]) (S' := [.ref 5]) (h' := h) rfl ?_
    refine Wp.getf (op_ix (by decide) ol_34 1 rfl) (okS HS 5 rfl rfl) (v := .ref 10) (congrArg va_rf (rS HS 5 4 rfl)) rfl ?_
    refine Wp.blk (by decide) ol_34 2 1 (pc' := 5) (L' := [.ref 5, .int (((((((1 : Int32)) <<< (((AI h 5 5)) &&& 31))) - ((1 : Int32)))) &&& ((v2 ^^^ ((-1 : Int32)))))]) (S' := [.int (((((((1 : Int32)) <<< (((AI h 5 5)) &&& 31))) - ((1 : Int32)))) &&& ((v2 ^^^ ((-1 : Int32))))), .ref 10]) (h' := h) rfl ?_
    refine Wp.callI (op_ix (by decide) ol_34 3 rfl) rfl rfl (sp_at (kS HS 10 rfl) (nS HS 10 rfl) ?_)
    refine ⟨_, rfl, ?_⟩
    refine Wp.blk (by decide) ol_34 4 2 (pc' := 10) (L' := [.ref 5, .int (((((((1 : Int32)) <<< (((AI h 5 5)) &&& 31))) - ((1 : Int32)))) &&& ((v2 ^^^ ((-1 : Int32)))))]) (S' := [.ref 5, .int (1 : Int32), .int (atv h 10 ((((((((1 : Int32)) <<< (((AI h 5 5)) &&& 31))) - ((1 : Int32)))) &&& ((v2 ^^^ ((-1 : Int32)))))))]) (h' := h) rfl ?_
    refine Wp.getf (op_ix (by decide) ol_34 6 rfl) (okS HS 5 rfl rfl) (v := .int (AI h 5 7)) rfl rfl ?_
    refine Wp.blk (by decide) ol_34 7 3 (pc' := (if (((atv h 10 ((((((((1 : Int32)) <<< (((AI h 5 5)) &&& 31))) - ((1 : Int32)))) &&& ((v2 ^^^ ((-1 : Int32)))))))) &&& ((((1 : Int32)) <<< (((AI h 5 7)) &&& 31)))) = (0 : Int32) then 22 else 18)) (L' := [.ref 5, .int (((((((1 : Int32)) <<< (((AI h 5 5)) &&& 31))) - ((1 : Int32)))) &&& ((v2 ^^^ ((-1 : Int32)))))]) (S' := []) (h' := h) rfl ?_
    refine Wp.br (fun c2 => ?_) (fun c2 => ?_)
    · replace K := K.1 c2
      refine Wp.blk (by decide) ol_34 12 1 (pc' := 23) (L' := [.ref 5, .int (((((((1 : Int32)) <<< (((AI h 5 5)) &&& 31))) - ((1 : Int32)))) &&& ((v2 ^^^ ((-1 : Int32)))))]) (S' := [.int (0 : Int32)]) (h' := h) rfl ?_
      refine Wp.ret (op_ix (by decide) ol_34 13 rfl) rfl ⟨_, rfl, ?_⟩
      refine Wp.blk (by decide) ol_37 14 1 (pc' := (if (0 : Int32) = (0 : Int32) then 29 else 25)) (L' := [.ref 5, .int v1, .int v2]) (S' := []) (h' := h) rfl ?_
      refine Wp.br (fun _ => ?_) (fun hc => absurd (by decide) hc)
      refine Wp.blk (by decide) ol_37 17 1 (pc' := 30) (L' := [.ref 5, .int v1, .int v2]) (S' := [.int (2 : Int32)]) (h' := h) rfl ?_
      exact Wp.ret (op_ix (by decide) ol_37 18 rfl) rfl K
    · replace K := K.2 c2
      refine Wp.blk (by decide) ol_34 10 2 (pc' := 23) (L' := [.ref 5, .int (((((((1 : Int32)) <<< (((AI h 5 5)) &&& 31))) - ((1 : Int32)))) &&& ((v2 ^^^ ((-1 : Int32)))))]) (S' := [.int (1 : Int32)]) (h' := h) rfl ?_
      refine Wp.ret (op_ix (by decide) ol_34 13 rfl) rfl ⟨_, rfl, ?_⟩
      refine Wp.blk (by decide) ol_37 14 1 (pc' := (if (1 : Int32) = (0 : Int32) then 29 else 25)) (L' := [.ref 5, .int v1, .int v2]) (S' := []) (h' := h) rfl ?_
      refine Wp.br (fun hc => absurd hc (by decide)) (fun _ => ?_)
      refine Wp.blk (by decide) ol_37 15 2 (pc' := 30) (L' := [.ref 5, .int v1, .int v2]) (S' := [.int (0 : Int32)]) (h' := h) rfl ?_
      exact Wp.ret (op_ix (by decide) ol_37 18 rfl) rfl K
  · replace K := K.2 c1
    refine Wp.blk (by decide) ol_34 10 2 (pc' := 23) (L' := [.ref 5, .int v1]) (S' := [.int (1 : Int32)]) (h' := h) rfl ?_
    refine Wp.ret (op_ix (by decide) ol_34 13 rfl) rfl ⟨_, rfl, ?_⟩
    refine Wp.blk (by decide) ol_37 3 1 (pc' := (if (1 : Int32) = (0 : Int32) then 10 else 8)) (L' := [.ref 5, .int v1, .int v2]) (S' := []) (h' := h) rfl ?_
    refine Wp.br (fun hc => absurd hc (by decide)) (fun _ => ?_)
    refine Wp.blk (by decide) ol_37 4 1 (pc' := 9) (L' := [.ref 5, .int v1, .int v2]) (S' := [.int (1 : Int32)]) (h' := h) rfl ?_
    exact Wp.ret (op_ix (by decide) ol_37 5 rfl) rfl K
/-- CutsOrFast$Page.<init> at 0 ()V -/
theorem g38_0 (d : Nat) (v0 : Nat) (h : AH)  (Q : Option Value → AH → Prop) (K : (∀ n1, n1 = (NX h) → ∀ h2, h2 = (newO h 20 50) → (okC 6 (AK h2 v0).1 = true ∧ 2 ≤ v0 ∧ Q none (stR h2 v0 0 (some n1))))) : Wp d 38 0 [.ref v0] [] h Q := by
  refine Wp.blk (by decide) ol_38 0 4 (pc' := 7) (L' := [.ref v0]) (S' := [.int (50 : Int32), .ref v0]) (h' := h) rfl ?_
  refine Wp.blk (by decide) ol_38 4 1 (pc' := 9) (L' := [.ref v0]) (S' := [.ref (NX h), .ref v0]) (h' := (newO h 20 50)) rfl ?_
  obtain ⟨n1, e3⟩ : ∃ x, x = (NX h) := ⟨_, rfl⟩
  obtain ⟨h2, e4⟩ : ∃ x, x = (newO h 20 50) := ⟨_, rfl⟩
  rw [← e4, ← e3]
  replace K := K n1 e3 h2 e4
  obtain ⟨k5, K⟩ := K
  obtain ⟨b6, K⟩ := K
  refine Wp.putf (op_ix (by decide) ol_38 5 rfl) b6 k5 (h' := (stR h2 v0 0 (some n1))) rfl rfl ?_
  exact Wp.ret (op_ix (by decide) ol_38 6 rfl) rfl K
/-- CutsOrFast$Page.size at 0 ()I -/
theorem g39_0 (d : Nat)  (h : AH) (HS : Sh h)  (Q : Option Value → AH → Prop) (K : Q (some (.int (AI h 3 1))) h) : Wp d 39 0 [.ref 3] [] h Q := by
  refine Wp.blk (by decide) ol_39 0 1 (pc' := 1) (L' := [.ref 3]) (S' := [.ref 3]) (h' := h) rfl ?_
  refine Wp.getf (op_ix (by decide) ol_39 1 rfl) (okS HS 3 rfl rfl) (v := .int (AI h 3 1)) rfl rfl ?_
  exact Wp.ret (op_ix (by decide) ol_39 2 rfl) rfl K
/-- CutsOrFast$Page.clear at 0 ()V -/
theorem g40_0 (d : Nat)  (h : AH) (HS : Sh h)  (Q : Option Value → AH → Prop) (K : Q none (stI h 3 1 ((0 : Int32)))) : Wp d 40 0 [.ref 3] [] h Q := by
  refine Wp.blk (by decide) ol_40 0 2 (pc' := 2) (L' := [.ref 3]) (S' := [.int (0 : Int32), .ref 3]) (h' := h) rfl ?_
  refine Wp.putf (op_ix (by decide) ol_40 2 rfl) (by decide) (okS HS 3 rfl rfl) (h' := (stI h 3 1 ((0 : Int32)))) rfl rfl ?_
  exact Wp.ret (op_ix (by decide) ol_40 3 rfl) rfl K
/-- CutsOrFast$Page.codeAt at 0 (I)I -/
theorem g41_0 (d : Nat) (v1 : Int32) (h : AH) (HS : Sh h)  (Q : Option Value → AH → Prop) (K : ((v1 < (AI h 3 1) → Q (some (.int (atv h 4 v1))) h) ∧ (¬ v1 < (AI h 3 1) → Q (some (.int (0 : Int32))) h))) : Wp (d + 1) 41 0 [.ref 3, .int v1] [] h Q := by
  refine Wp.blk (by decide) ol_41 0 2 (pc' := 2) (L' := [.ref 3, .int v1]) (S' := [.ref 3, .int v1]) (h' := h) rfl ?_
  refine Wp.getf (op_ix (by decide) ol_41 2 rfl) (okS HS 3 rfl rfl) (v := .int (AI h 3 1)) rfl rfl ?_
  refine Wp.blk (by decide) ol_41 3 1 (pc' := (if v1 < (AI h 3 1) then 8 else 19)) (L' := [.ref 3, .int v1]) (S' := []) (h' := h) rfl ?_
  refine Wp.br (fun c1 => ?_) (fun c1 => ?_)
  · replace K := K.1 c1
    refine Wp.blk (by decide) ol_41 4 1 (pc' := 9) (L' := [.ref 3, .int v1]) (S' := [.ref 3]) (h' := h) rfl ?_
    refine Wp.getf (op_ix (by decide) ol_41 5 rfl) (okS HS 3 rfl rfl) (v := .ref 4) (congrArg va_rf (rS HS 3 0 rfl)) rfl ?_
    refine Wp.blk (by decide) ol_41 6 1 (pc' := 13) (L' := [.ref 3, .int v1]) (S' := [.int v1, .ref 4]) (h' := h) rfl ?_
    refine Wp.callI (op_ix (by decide) ol_41 7 rfl) rfl rfl (sp_at (kS HS 4 rfl) (nS HS 4 rfl) ?_)
    refine ⟨_, rfl, ?_⟩
    refine Wp.blk (by decide) ol_41 8 1 (pc' := 20) (L' := [.ref 3, .int v1]) (S' := [.int (atv h 4 v1)]) (h' := h) rfl ?_
    exact Wp.ret (op_ix (by decide) ol_41 10 rfl) rfl K
  · replace K := K.2 c1
    refine Wp.blk (by decide) ol_41 9 1 (pc' := 20) (L' := [.ref 3, .int v1]) (S' := [.int (0 : Int32)]) (h' := h) rfl ?_
    exact Wp.ret (op_ix (by decide) ol_41 10 rfl) rfl K
/-- CutsOrFast$Page.append at 0 (J)I -/
theorem g42_0 (d : Nat) (v1 : Int64) (h : AH) (HS : Sh h)  (Q : Option Value → AH → Prop) (K : Wp d 42 8 [.ref 3, .long v1, mk0, .int (0 : Int32), .int (0 : Int32), .int (0 : Int32), mk0] [] h Q) : Wp d 42 0 [.ref 3, .long v1, mk0, mk0, mk0, mk0, mk0] [] h Q := by
  refine Wp.blk (by decide) ol_42 0 6 (pc' := 8) (L' := [.ref 3, .long v1, mk0, .int (0 : Int32), .int (0 : Int32), .int (0 : Int32), mk0]) (S' := []) (h' := h) rfl ?_
  exact K
/-- CutsOrFast$Page.append at 8 -/
theorem g42_8 (d : Nat) (v1 : Int64) (v3 : Int32) (v4 : Int32) (v5 : Int32) (h : AH) (HS : Sh h)  (Q : Option Value → AH → Prop) (K : ((v5 < (8 : Int32) → (((126 : Int32) < ((((v1.toUInt64 >>> (((((8 : Int32)) * v5)).toInt64.toUInt64 &&& Int64.toUInt64 63)).toInt64) &&& ((255 : Int64)))).toInt32 → Q (some (.int (-102 : Int32))) h) ∧ (¬ (126 : Int32) < ((((v1.toUInt64 >>> (((((8 : Int32)) * v5)).toInt64.toUInt64 &&& Int64.toUInt64 63)).toInt64) &&& ((255 : Int64)))).toInt32 → ((v4 = (0 : Int32) → ((((((v1.toUInt64 >>> (((((8 : Int32)) * v5)).toInt64.toUInt64 &&& Int64.toUInt64 63)).toInt64) &&& ((255 : Int64)))).toInt32 = (0 : Int32) → Wp (d + 1) 42 8 [.ref 3, .long v1, mk0, .int v3, .int (1 : Int32), .int (v5 + (1 : Int32)), mk0] [] h Q) ∧ (¬ ((((v1.toUInt64 >>> (((((8 : Int32)) * v5)).toInt64.toUInt64 &&& Int64.toUInt64 63)).toInt64) &&& ((255 : Int64)))).toInt32 = (0 : Int32) → Wp (d + 1) 42 8 [.ref 3, .long v1, mk0, .int (v3 + (1 : Int32)), .int v4, .int (v5 + (1 : Int32)), mk0] [] h Q))) ∧ (¬ v4 = (0 : Int32) → ((((((v1.toUInt64 >>> (((((8 : Int32)) * v5)).toInt64.toUInt64 &&& Int64.toUInt64 63)).toInt64) &&& ((255 : Int64)))).toInt32 = (0 : Int32) → Wp (d + 1) 42 8 [.ref 3, .long v1, mk0, .int v3, .int (1 : Int32), .int (v5 + (1 : Int32)), mk0] [] h Q) ∧ (¬ ((((v1.toUInt64 >>> (((((8 : Int32)) * v5)).toInt64.toUInt64 &&& Int64.toUInt64 63)).toInt64) &&& ((255 : Int64)))).toInt32 = (0 : Int32) → Q (some (.int (-102 : Int32))) h))))))) ∧ (¬ v5 < (8 : Int32) → (((50 : Int32) < (((AI h 3 1)) + v3) → Q (some (.int (-104 : Int32))) h) ∧ (¬ (50 : Int32) < (((AI h 3 1)) + v3) → Wp (d + 1) 42 80 [.ref 3, .long v1, mk0, .int v3, mk0, .int (0 : Int32), mk0] [] h Q))))) : Wp (d + 1) 42 8 [.ref 3, .long v1, mk0, .int v3, .int v4, .int v5, mk0] [] h Q := by
  refine Wp.blk (by decide) ol_42 6 3 (pc' := (if v5 < (8 : Int32) then 15 else 63)) (L' := [.ref 3, .long v1, mk0, .int v3, .int v4, .int v5, mk0]) (S' := []) (h' := h) rfl ?_
  refine Wp.br (fun c1 => ?_) (fun c1 => ?_)
  · replace K := K.1 c1
    refine Wp.blk (by decide) ol_42 9 2 (pc' := 18) (L' := [.ref 3, .long v1, mk0, .int v3, .int v4, .int v5, mk0]) (S' := [.int v5, .long v1]) (h' := h) rfl ?_
    refine Wp.callI (op_ix (by decide) ol_42 11 rfl) rfl rfl (Cl.enter (L := [.long v1, mk0, .int v5]) rfl ?_)
    refine Wp.blk (by decide) ol_43 0 8 (pc' := 11) (L' := [.long v1, mk0, .int v5]) (S' := [.int ((((v1.toUInt64 >>> (((((8 : Int32)) * v5)).toInt64.toUInt64 &&& Int64.toUInt64 63)).toInt64) &&& ((255 : Int64)))).toInt32]) (h' := h) rfl ?_
    refine Wp.ret (op_ix (by decide) ol_43 8 rfl) rfl ⟨_, rfl, ?_⟩
    refine Wp.blk (by decide) ol_42 12 4 (pc' := (if (126 : Int32) < ((((v1.toUInt64 >>> (((((8 : Int32)) * v5)).toInt64.toUInt64 &&& Int64.toUInt64 63)).toInt64) &&& ((255 : Int64)))).toInt32 then 40 else 30)) (L' := [.ref 3, .long v1, mk0, .int v3, .int v4, .int v5, .int ((((v1.toUInt64 >>> (((((8 : Int32)) * v5)).toInt64.toUInt64 &&& Int64.toUInt64 63)).toInt64) &&& ((255 : Int64)))).toInt32]) (S' := []) (h' := h) rfl ?_
    refine Wp.br (fun c2 => ?_) (fun c2 => ?_)
    · replace K := K.1 c2
      refine Wp.blk (by decide) ol_42 20 1 (pc' := 42) (L' := [.ref 3, .long v1, mk0, .int v3, .int v4, .int v5, .int ((((v1.toUInt64 >>> (((((8 : Int32)) * v5)).toInt64.toUInt64 &&& Int64.toUInt64 63)).toInt64) &&& ((255 : Int64)))).toInt32]) (S' := [.int (-102 : Int32)]) (h' := h) rfl ?_
      exact Wp.ret (op_ix (by decide) ol_42 21 rfl) rfl K
    · replace K := K.2 c2
      refine Wp.blk (by decide) ol_42 16 2 (pc' := (if v4 = (0 : Int32) then 43 else 35)) (L' := [.ref 3, .long v1, mk0, .int v3, .int v4, .int v5, .int ((((v1.toUInt64 >>> (((((8 : Int32)) * v5)).toInt64.toUInt64 &&& Int64.toUInt64 63)).toInt64) &&& ((255 : Int64)))).toInt32]) (S' := []) (h' := h) rfl ?_
      refine Wp.br (fun c3 => ?_) (fun c3 => ?_)
      · replace K := K.1 c3
        refine Wp.blk (by decide) ol_42 22 2 (pc' := (if ((((v1.toUInt64 >>> (((((8 : Int32)) * v5)).toInt64.toUInt64 &&& Int64.toUInt64 63)).toInt64) &&& ((255 : Int64)))).toInt32 = (0 : Int32) then 48 else 54)) (L' := [.ref 3, .long v1, mk0, .int v3, .int v4, .int v5, .int ((((v1.toUInt64 >>> (((((8 : Int32)) * v5)).toInt64.toUInt64 &&& Int64.toUInt64 63)).toInt64) &&& ((255 : Int64)))).toInt32]) (S' := []) (h' := h) rfl ?_
        refine Wp.br (fun c4 => ?_) (fun c4 => ?_)
        · replace K := K.1 c4
          refine Wp.blk (by decide) ol_42 24 3 (pc' := 57) (L' := [.ref 3, .long v1, mk0, .int v3, .int (1 : Int32), .int v5, .int ((((v1.toUInt64 >>> (((((8 : Int32)) * v5)).toInt64.toUInt64 &&& Int64.toUInt64 63)).toInt64) &&& ((255 : Int64)))).toInt32]) (S' := []) (h' := h) rfl ?_
          refine Wp.blk (by decide) ol_42 28 2 (pc' := 8) (L' := [.ref 3, .long v1, mk0, .int v3, .int (1 : Int32), .int (v5 + (1 : Int32)), .int ((((v1.toUInt64 >>> (((((8 : Int32)) * v5)).toInt64.toUInt64 &&& Int64.toUInt64 63)).toInt64) &&& ((255 : Int64)))).toInt32]) (S' := []) (h' := h) rfl ?_
          refine Wp.forget (L := [.ref 3, .long v1, mk0, .int v3, .int (1 : Int32), .int (v5 + (1 : Int32)), mk0]) (⟨Or.inr rfl, ⟨Or.inr rfl, ⟨Or.inr rfl, ⟨Or.inr rfl, ⟨Or.inr rfl, ⟨Or.inr rfl, ⟨Or.inl rfl, trivial⟩⟩⟩⟩⟩⟩⟩) ?_
          exact K
        · replace K := K.2 c4
          refine Wp.blk (by decide) ol_42 27 3 (pc' := 8) (L' := [.ref 3, .long v1, mk0, .int (v3 + (1 : Int32)), .int v4, .int (v5 + (1 : Int32)), .int ((((v1.toUInt64 >>> (((((8 : Int32)) * v5)).toInt64.toUInt64 &&& Int64.toUInt64 63)).toInt64) &&& ((255 : Int64)))).toInt32]) (S' := []) (h' := h) rfl ?_
          refine Wp.forget (L := [.ref 3, .long v1, mk0, .int (v3 + (1 : Int32)), .int v4, .int (v5 + (1 : Int32)), mk0]) (⟨Or.inr rfl, ⟨Or.inr rfl, ⟨Or.inr rfl, ⟨Or.inr rfl, ⟨Or.inr rfl, ⟨Or.inr rfl, ⟨Or.inl rfl, trivial⟩⟩⟩⟩⟩⟩⟩) ?_
          exact K
      · replace K := K.2 c3
        refine Wp.blk (by decide) ol_42 18 2 (pc' := (if ((((v1.toUInt64 >>> (((((8 : Int32)) * v5)).toInt64.toUInt64 &&& Int64.toUInt64 63)).toInt64) &&& ((255 : Int64)))).toInt32 = (0 : Int32) then 43 else 40)) (L' := [.ref 3, .long v1, mk0, .int v3, .int v4, .int v5, .int ((((v1.toUInt64 >>> (((((8 : Int32)) * v5)).toInt64.toUInt64 &&& Int64.toUInt64 63)).toInt64) &&& ((255 : Int64)))).toInt32]) (S' := []) (h' := h) rfl ?_
        refine Wp.br (fun c5 => ?_) (fun c5 => ?_)
        · replace K := K.1 c5
          refine Wp.blk (by decide) ol_42 22 2 (pc' := (if ((((v1.toUInt64 >>> (((((8 : Int32)) * v5)).toInt64.toUInt64 &&& Int64.toUInt64 63)).toInt64) &&& ((255 : Int64)))).toInt32 = (0 : Int32) then 48 else 54)) (L' := [.ref 3, .long v1, mk0, .int v3, .int v4, .int v5, .int ((((v1.toUInt64 >>> (((((8 : Int32)) * v5)).toInt64.toUInt64 &&& Int64.toUInt64 63)).toInt64) &&& ((255 : Int64)))).toInt32]) (S' := []) (h' := h) rfl ?_
          refine Wp.br (fun _ => ?_) (fun hc => absurd c5 hc)
          refine Wp.blk (by decide) ol_42 24 3 (pc' := 57) (L' := [.ref 3, .long v1, mk0, .int v3, .int (1 : Int32), .int v5, .int ((((v1.toUInt64 >>> (((((8 : Int32)) * v5)).toInt64.toUInt64 &&& Int64.toUInt64 63)).toInt64) &&& ((255 : Int64)))).toInt32]) (S' := []) (h' := h) rfl ?_
          refine Wp.blk (by decide) ol_42 28 2 (pc' := 8) (L' := [.ref 3, .long v1, mk0, .int v3, .int (1 : Int32), .int (v5 + (1 : Int32)), .int ((((v1.toUInt64 >>> (((((8 : Int32)) * v5)).toInt64.toUInt64 &&& Int64.toUInt64 63)).toInt64) &&& ((255 : Int64)))).toInt32]) (S' := []) (h' := h) rfl ?_
          refine Wp.forget (L := [.ref 3, .long v1, mk0, .int v3, .int (1 : Int32), .int (v5 + (1 : Int32)), mk0]) (⟨Or.inr rfl, ⟨Or.inr rfl, ⟨Or.inr rfl, ⟨Or.inr rfl, ⟨Or.inr rfl, ⟨Or.inr rfl, ⟨Or.inl rfl, trivial⟩⟩⟩⟩⟩⟩⟩) ?_
          exact K
        · replace K := K.2 c5
          refine Wp.blk (by decide) ol_42 20 1 (pc' := 42) (L' := [.ref 3, .long v1, mk0, .int v3, .int v4, .int v5, .int ((((v1.toUInt64 >>> (((((8 : Int32)) * v5)).toInt64.toUInt64 &&& Int64.toUInt64 63)).toInt64) &&& ((255 : Int64)))).toInt32]) (S' := [.int (-102 : Int32)]) (h' := h) rfl ?_
          exact Wp.ret (op_ix (by decide) ol_42 21 rfl) rfl K
  · replace K := K.2 c1
    refine Wp.blk (by decide) ol_42 30 1 (pc' := 64) (L' := [.ref 3, .long v1, mk0, .int v3, .int v4, .int v5, mk0]) (S' := [.ref 3]) (h' := h) rfl ?_
    refine Wp.getf (op_ix (by decide) ol_42 31 rfl) (okS HS 3 rfl rfl) (v := .int (AI h 3 1)) rfl rfl ?_
    refine Wp.blk (by decide) ol_42 32 4 (pc' := (if (50 : Int32) < (((AI h 3 1)) + v3) then 74 else 77)) (L' := [.ref 3, .long v1, mk0, .int v3, .int v4, .int v5, mk0]) (S' := []) (h' := h) rfl ?_
    refine Wp.br (fun c6 => ?_) (fun c6 => ?_)
    · replace K := K.1 c6
      refine Wp.blk (by decide) ol_42 36 1 (pc' := 76) (L' := [.ref 3, .long v1, mk0, .int v3, .int v4, .int v5, mk0]) (S' := [.int (-104 : Int32)]) (h' := h) rfl ?_
      exact Wp.ret (op_ix (by decide) ol_42 37 rfl) rfl K
    · replace K := K.2 c6
      refine Wp.blk (by decide) ol_42 38 2 (pc' := 80) (L' := [.ref 3, .long v1, mk0, .int v3, .int v4, .int (0 : Int32), mk0]) (S' := []) (h' := h) rfl ?_
      refine Wp.forget (L := [.ref 3, .long v1, mk0, .int v3, mk0, .int (0 : Int32), mk0]) (⟨Or.inr rfl, ⟨Or.inr rfl, ⟨Or.inr rfl, ⟨Or.inr rfl, ⟨Or.inl rfl, ⟨Or.inr rfl, ⟨Or.inr rfl, trivial⟩⟩⟩⟩⟩⟩⟩) ?_
      exact K
/-- CutsOrFast$Page.append at 80 -/
theorem g42_80 (d : Nat) (v1 : Int64) (v3 : Int32) (v5 : Int32) (h : AH) (HS : Sh h)  (Q : Option Value → AH → Prop) (K : ((v5 < v3 → (∀ h2, h2 = (putv h 4 ((((AI h 3 1)) + v5)) (((((v1.toUInt64 >>> (((((8 : Int32)) * v5)).toInt64.toUInt64 &&& Int64.toUInt64 63)).toInt64) &&& ((255 : Int64)))).toInt32)) → Wp (d + 1) 42 80 [.ref 3, .long v1, mk0, .int v3, mk0, .int (v5 + (1 : Int32)), mk0] [] h2 Q)) ∧ (¬ v5 < v3 → Q (some (.int (AI ((stI h 3 1 ((((AI h 3 1)) + v3)))) 3 1))) (stI h 3 1 ((((AI h 3 1)) + v3)))))) : Wp (d + 1) 42 80 [.ref 3, .long v1, mk0, .int v3, mk0, .int v5, mk0] [] h Q := by
  refine Wp.blk (by decide) ol_42 40 3 (pc' := (if v5 < v3 then 86 else 112)) (L' := [.ref 3, .long v1, mk0, .int v3, mk0, .int v5, mk0]) (S' := []) (h' := h) rfl ?_
  refine Wp.br (fun c1 => ?_) (fun c1 => ?_)
  · replace K := K.1 c1
    refine Wp.blk (by decide) ol_42 43 1 (pc' := 87) (L' := [.ref 3, .long v1, mk0, .int v3, mk0, .int v5, mk0]) (S' := [.ref 3]) (h' := h) rfl ?_
    refine Wp.getf (op_ix (by decide) ol_42 44 rfl) (okS HS 3 rfl rfl) (v := .ref 4) (congrArg va_rf (rS HS 3 0 rfl)) rfl ?_
    refine Wp.blk (by decide) ol_42 45 1 (pc' := 91) (L' := [.ref 3, .long v1, mk0, .int v3, mk0, .int v5, mk0]) (S' := [.ref 3, .ref 4]) (h' := h) rfl ?_
    refine Wp.getf (op_ix (by decide) ol_42 46 rfl) (okS HS 3 rfl rfl) (v := .int (AI h 3 1)) rfl rfl ?_
    refine Wp.blk (by decide) ol_42 47 4 (pc' := 100) (L' := [.ref 3, .long v1, mk0, .int v3, mk0, .int v5, mk0]) (S' := [.int v5, .long v1, .int (((AI h 3 1)) + v5), .ref 4]) (h' := h) rfl ?_
    refine Wp.callI (op_ix (by decide) ol_42 51 rfl) rfl rfl (Cl.enter (L := [.long v1, mk0, .int v5]) rfl ?_)
    refine Wp.blk (by decide) ol_43 0 8 (pc' := 11) (L' := [.long v1, mk0, .int v5]) (S' := [.int ((((v1.toUInt64 >>> (((((8 : Int32)) * v5)).toInt64.toUInt64 &&& Int64.toUInt64 63)).toInt64) &&& ((255 : Int64)))).toInt32]) (h' := h) rfl ?_
    refine Wp.ret (op_ix (by decide) ol_43 8 rfl) rfl ⟨_, rfl, ?_⟩
    refine Wp.callV (op_ix (by decide) ol_42 52 rfl) rfl rfl (sp_put (kS HS 4 rfl) (nS HS 4 rfl) (by decide) ?_)
    refine ⟨rfl, ?_⟩
    obtain ⟨h2, e3⟩ : ∃ y, y = (putv h 4 ((((AI h 3 1)) + v5)) (((((v1.toUInt64 >>> (((((8 : Int32)) * v5)).toInt64.toUInt64 &&& Int64.toUInt64 63)).toInt64) &&& ((255 : Int64)))).toInt32)) := ⟨_, rfl⟩
    rw [← e3]
    replace K := K h2 e3
    have hs4 : Sh h2 := by rw [e3]; exact Sh.putv HS _ _ _
    refine Wp.blk (by decide) ol_42 53 2 (pc' := 80) (L' := [.ref 3, .long v1, mk0, .int v3, mk0, .int (v5 + (1 : Int32)), mk0]) (S' := []) (h' := h2) rfl ?_
    exact K
  · replace K := K.2 c1
    refine Wp.blk (by decide) ol_42 55 2 (pc' := 114) (L' := [.ref 3, .long v1, mk0, .int v3, mk0, .int v5, mk0]) (S' := [.ref 3, .ref 3]) (h' := h) rfl ?_
    refine Wp.getf (op_ix (by decide) ol_42 57 rfl) (okS HS 3 rfl rfl) (v := .int (AI h 3 1)) rfl rfl ?_
    refine Wp.blk (by decide) ol_42 58 2 (pc' := 119) (L' := [.ref 3, .long v1, mk0, .int v3, mk0, .int v5, mk0]) (S' := [.int (((AI h 3 1)) + v3), .ref 3]) (h' := h) rfl ?_
    refine Wp.putf (op_ix (by decide) ol_42 60 rfl) (by decide) (okS HS 3 rfl rfl) (h' := (stI h 3 1 ((((AI h 3 1)) + v3)))) rfl rfl ?_
    refine Wp.blk (by decide) ol_42 61 1 (pc' := 123) (L' := [.ref 3, .long v1, mk0, .int v3, mk0, .int v5, mk0]) (S' := [.ref 3]) (h' := (stI h 3 1 ((((AI h 3 1)) + v3)))) rfl ?_
    refine Wp.getf (op_ix (by decide) ol_42 62 rfl) (okS HS 3 rfl rfl) (v := .int (AI ((stI h 3 1 ((((AI h 3 1)) + v3)))) 3 1)) rfl rfl ?_
    exact Wp.ret (op_ix (by decide) ol_42 63 rfl) rfl K
/-- CutsOrFast$Page.byteOf at 0 (JI)I -/
theorem g43_0 (d : Nat) (v0 : Int64) (v2 : Int32) (h : AH) (HS : Sh h)  (Q : Option Value → AH → Prop) (K : Q (some (.int ((((v0.toUInt64 >>> (((((8 : Int32)) * v2)).toInt64.toUInt64 &&& Int64.toUInt64 63)).toInt64) &&& ((255 : Int64)))).toInt32)) h) : Wp d 43 0 [.long v0, mk0, .int v2] [] h Q := by
  refine Wp.blk (by decide) ol_43 0 8 (pc' := 11) (L' := [.long v0, mk0, .int v2]) (S' := [.int ((((v0.toUInt64 >>> (((((8 : Int32)) * v2)).toInt64.toUInt64 &&& Int64.toUInt64 63)).toInt64) &&& ((255 : Int64)))).toInt32]) (h' := h) rfl ?_
  exact Wp.ret (op_ix (by decide) ol_43 8 rfl) rfl K
/-- CutsOrFast$Page.isNet at 0 ()Z -/
theorem g44_0 (d : Nat)  (h : AH) (HS : Sh h)  (Q : Option Value → AH → Prop) (K : (Cl d 45 [.ref 3] h (fun r h1 => ∃ x3 : Int32, r = some (.int x3) ∧ Sh h1 ∧ ((x3 = (AI h1 3 1) → (((AI h1 3 2) < (5 : Int32) → Q (some (.int (0 : Int32))) h1) ∧ (¬ (AI h1 3 2) < (5 : Int32) → Q (some (.int (1 : Int32))) h1))) ∧ (¬ x3 = (AI h1 3 1) → Q (some (.int (0 : Int32))) h1))))) : Wp (d + 1) 44 0 [.ref 3] [] h Q := by
  refine Wp.blk (by decide) ol_44 0 1 (pc' := 1) (L' := [.ref 3]) (S' := [.ref 3]) (h' := h) rfl ?_
  refine Wp.callI (op_ix (by decide) ol_44 1 rfl) (act_virt (c2 := 0) rfl (lk1 (kS HS 3 rfl)) rfl) rfl (K.mono ?_)
  rintro _ h1 ⟨x3, rfl, hs2, K⟩
  refine ⟨x3, rfl, ?_⟩
  refine Wp.blk (by decide) ol_44 2 1 (pc' := 5) (L' := [.ref 3]) (S' := [.ref 3, .int x3]) (h' := h1) rfl ?_
  refine Wp.getf (op_ix (by decide) ol_44 3 rfl) (okS hs2 3 rfl rfl) (v := .int (AI h1 3 1)) rfl rfl ?_
  refine Wp.blk (by decide) ol_44 4 1 (pc' := (if x3 = (AI h1 3 1) then 11 else 23)) (L' := [.ref 3]) (S' := []) (h' := h1) rfl ?_
  refine Wp.br (fun c4 => ?_) (fun c4 => ?_)
  · replace K := K.1 c4
    refine Wp.blk (by decide) ol_44 5 1 (pc' := 12) (L' := [.ref 3]) (S' := [.ref 3]) (h' := h1) rfl ?_
    refine Wp.getf (op_ix (by decide) ol_44 6 rfl) (okS hs2 3 rfl rfl) (v := .int (AI h1 3 2)) rfl rfl ?_
    refine Wp.blk (by decide) ol_44 7 2 (pc' := (if (AI h1 3 2) < (5 : Int32) then 23 else 19)) (L' := [.ref 3]) (S' := []) (h' := h1) rfl ?_
    refine Wp.br (fun c5 => ?_) (fun c5 => ?_)
    · replace K := K.1 c5
      refine Wp.blk (by decide) ol_44 11 1 (pc' := 24) (L' := [.ref 3]) (S' := [.int (0 : Int32)]) (h' := h1) rfl ?_
      exact Wp.ret (op_ix (by decide) ol_44 12 rfl) rfl K
    · replace K := K.2 c5
      refine Wp.blk (by decide) ol_44 9 2 (pc' := 24) (L' := [.ref 3]) (S' := [.int (1 : Int32)]) (h' := h1) rfl ?_
      exact Wp.ret (op_ix (by decide) ol_44 12 rfl) rfl K
  · replace K := K.2 c4
    refine Wp.blk (by decide) ol_44 11 1 (pc' := 24) (L' := [.ref 3]) (S' := [.int (0 : Int32)]) (h' := h1) rfl ?_
    exact Wp.ret (op_ix (by decide) ol_44 12 rfl) rfl K
/-- CutsOrFast$Page.soundLetters at 0 ()I -/
theorem g45_0 (d : Nat)  (h : AH) (HS : Sh h)  (Q : Option Value → AH → Prop) (K : Wp d 45 11 [.ref 3, .int (0 : Int32), .int (0 : Int32), .int (0 : Int32), mk0] [] (stI h 3 2 ((0 : Int32))) Q) : Wp d 45 0 [.ref 3, mk0, mk0, mk0, mk0] [] h Q := by
  refine Wp.blk (by decide) ol_45 0 6 (pc' := 6) (L' := [.ref 3, .int (0 : Int32), .int (0 : Int32), mk0, mk0]) (S' := [.int (0 : Int32), .ref 3]) (h' := h) rfl ?_
  refine Wp.putf (op_ix (by decide) ol_45 6 rfl) (by decide) (okS HS 3 rfl rfl) (h' := (stI h 3 2 ((0 : Int32)))) rfl rfl ?_
  refine Wp.blk (by decide) ol_45 7 2 (pc' := 11) (L' := [.ref 3, .int (0 : Int32), .int (0 : Int32), .int (0 : Int32), mk0]) (S' := []) (h' := (stI h 3 2 ((0 : Int32)))) rfl ?_
  exact K
/-- CutsOrFast$Page.soundLetters at 11 -/
theorem g45_11 (d : Nat) (v1 : Int32) (v2 : Int32) (v3 : Int32) (h : AH) (HS : Sh h)  (Q : Option Value → AH → Prop) (K : ((v3 < (AI h 3 1) → (Cl (d + 1) 46 [.int (AI h 3 2), .int (atv h 4 v3), .int v2, .int v1] h (fun r h2 => ∃ x4 : Int32, r = some (.int x4) ∧ Sh h2 ∧ (((AI ((stI h2 3 2 x4)) 3 2) = (-1 : Int32) → Q (some (.int v3)) (stI h2 3 2 x4)) ∧ (¬ (AI ((stI h2 3 2 x4)) 3 2) = (-1 : Int32) → (((AI ((stI h2 3 2 x4)) 3 2) = (5 : Int32) → Wp (d + 2) 45 11 [.ref 3, .int (v1 + (1 : Int32)), .int (atv h 4 v3), .int (v3 + (1 : Int32)), mk0] [] (stI h2 3 2 x4) Q) ∧ (¬ (AI ((stI h2 3 2 x4)) 3 2) = (5 : Int32) → Wp (d + 2) 45 11 [.ref 3, .int v1, .int (atv h 4 v3), .int (v3 + (1 : Int32)), mk0] [] (stI h2 3 2 x4) Q))))))) ∧ (¬ v3 < (AI h 3 1) → Q (some (.int (AI h 3 1))) h))) : Wp (d + 2) 45 11 [.ref 3, .int v1, .int v2, .int v3, mk0] [] h Q := by
  refine Wp.blk (by decide) ol_45 9 2 (pc' := 13) (L' := [.ref 3, .int v1, .int v2, .int v3, mk0]) (S' := [.ref 3, .int v3]) (h' := h) rfl ?_
  refine Wp.getf (op_ix (by decide) ol_45 11 rfl) (okS HS 3 rfl rfl) (v := .int (AI h 3 1)) rfl rfl ?_
  refine Wp.blk (by decide) ol_45 12 1 (pc' := (if v3 < (AI h 3 1) then 19 else 71)) (L' := [.ref 3, .int v1, .int v2, .int v3, mk0]) (S' := []) (h' := h) rfl ?_
  refine Wp.br (fun c1 => ?_) (fun c1 => ?_)
  · replace K := K.1 c1
    refine Wp.blk (by decide) ol_45 13 2 (pc' := 21) (L' := [.ref 3, .int v1, .int v2, .int v3, mk0]) (S' := [.int v3, .ref 3]) (h' := h) rfl ?_
    refine Wp.callI (op_ix (by decide) ol_45 15 rfl) (act_virt (c2 := 1) rfl (lk1 (kS HS 3 rfl)) rfl) rfl (Cl.enter (L := [.ref 3, .int v3]) rfl ?_)
    refine Wp.blk (by decide) ol_41 0 2 (pc' := 2) (L' := [.ref 3, .int v3]) (S' := [.ref 3, .int v3]) (h' := h) rfl ?_
    refine Wp.getf (op_ix (by decide) ol_41 2 rfl) (okS HS 3 rfl rfl) (v := .int (AI h 3 1)) rfl rfl ?_
    refine Wp.blk (by decide) ol_41 3 1 (pc' := (if v3 < (AI h 3 1) then 8 else 19)) (L' := [.ref 3, .int v3]) (S' := []) (h' := h) rfl ?_
    refine Wp.br (fun _ => ?_) (fun hc => absurd c1 hc)
    refine Wp.blk (by decide) ol_41 4 1 (pc' := 9) (L' := [.ref 3, .int v3]) (S' := [.ref 3]) (h' := h) rfl ?_
    refine Wp.getf (op_ix (by decide) ol_41 5 rfl) (okS HS 3 rfl rfl) (v := .ref 4) (congrArg va_rf (rS HS 3 0 rfl)) rfl ?_
    refine Wp.blk (by decide) ol_41 6 1 (pc' := 13) (L' := [.ref 3, .int v3]) (S' := [.int v3, .ref 4]) (h' := h) rfl ?_
    refine Wp.callI (op_ix (by decide) ol_41 7 rfl) rfl rfl (sp_at (kS HS 4 rfl) (nS HS 4 rfl) ?_)
    refine ⟨_, rfl, ?_⟩
    refine Wp.blk (by decide) ol_41 8 1 (pc' := 20) (L' := [.ref 3, .int v3]) (S' := [.int (atv h 4 v3)]) (h' := h) rfl ?_
    refine Wp.ret (op_ix (by decide) ol_41 10 rfl) rfl ⟨_, rfl, ?_⟩
    refine Wp.blk (by decide) ol_45 16 3 (pc' := 28) (L' := [.ref 3, .int v1, .int v2, .int v3, .int (atv h 4 v3)]) (S' := [.ref 3, .ref 3]) (h' := h) rfl ?_
    refine Wp.getf (op_ix (by decide) ol_45 19 rfl) (okS HS 3 rfl rfl) (v := .int (AI h 3 2)) rfl rfl ?_
    refine Wp.blk (by decide) ol_45 20 3 (pc' := 35) (L' := [.ref 3, .int v1, .int v2, .int v3, .int (atv h 4 v3)]) (S' := [.int v1, .int v2, .int (atv h 4 v3), .int (AI h 3 2), .ref 3]) (h' := h) rfl ?_
    refine Wp.callI (op_ix (by decide) ol_45 23 rfl) rfl rfl (K.mono ?_)
    rintro _ h2 ⟨x4, rfl, hs3, K⟩
    refine ⟨x4, rfl, ?_⟩
    refine Wp.putf (op_ix (by decide) ol_45 24 rfl) (by decide) (okS hs3 3 rfl rfl) (h' := (stI h2 3 2 x4)) rfl rfl ?_
    refine Wp.blk (by decide) ol_45 25 1 (pc' := 42) (L' := [.ref 3, .int v1, .int v2, .int v3, .int (atv h 4 v3)]) (S' := [.ref 3]) (h' := (stI h2 3 2 x4)) rfl ?_
    refine Wp.getf (op_ix (by decide) ol_45 26 rfl) (okS hs3 3 rfl rfl) (v := .int (AI ((stI h2 3 2 x4)) 3 2)) rfl rfl ?_
    refine Wp.blk (by decide) ol_45 27 2 (pc' := (if (AI ((stI h2 3 2 x4)) 3 2) = (-1 : Int32) then 49 else 51)) (L' := [.ref 3, .int v1, .int v2, .int v3, .int (atv h 4 v3)]) (S' := []) (h' := (stI h2 3 2 x4)) rfl ?_
    refine Wp.br (fun c5 => ?_) (fun c5 => ?_)
    · replace K := K.1 c5
      refine Wp.blk (by decide) ol_45 29 1 (pc' := 50) (L' := [.ref 3, .int v1, .int v2, .int v3, .int (atv h 4 v3)]) (S' := [.int v3]) (h' := (stI h2 3 2 x4)) rfl ?_
      exact Wp.ret (op_ix (by decide) ol_45 30 rfl) rfl K
    · replace K := K.2 c5
      refine Wp.blk (by decide) ol_45 31 1 (pc' := 52) (L' := [.ref 3, .int v1, .int v2, .int v3, .int (atv h 4 v3)]) (S' := [.ref 3]) (h' := (stI h2 3 2 x4)) rfl ?_
      refine Wp.getf (op_ix (by decide) ol_45 32 rfl) (okS hs3 3 rfl rfl) (v := .int (AI ((stI h2 3 2 x4)) 3 2)) rfl rfl ?_
      refine Wp.blk (by decide) ol_45 33 2 (pc' := (if (AI ((stI h2 3 2 x4)) 3 2) = (5 : Int32) then 59 else 62)) (L' := [.ref 3, .int v1, .int v2, .int v3, .int (atv h 4 v3)]) (S' := []) (h' := (stI h2 3 2 x4)) rfl ?_
      refine Wp.br (fun c6 => ?_) (fun c6 => ?_)
      · replace K := K.1 c6
        refine Wp.blk (by decide) ol_45 35 5 (pc' := 11) (L' := [.ref 3, .int (v1 + (1 : Int32)), .int (atv h 4 v3), .int (v3 + (1 : Int32)), .int (atv h 4 v3)]) (S' := []) (h' := (stI h2 3 2 x4)) rfl ?_
        refine Wp.forget (L := [.ref 3, .int (v1 + (1 : Int32)), .int (atv h 4 v3), .int (v3 + (1 : Int32)), mk0]) (⟨Or.inr rfl, ⟨Or.inr rfl, ⟨Or.inr rfl, ⟨Or.inr rfl, ⟨Or.inl rfl, trivial⟩⟩⟩⟩⟩) ?_
        exact K
      · replace K := K.2 c6
        refine Wp.blk (by decide) ol_45 36 4 (pc' := 11) (L' := [.ref 3, .int v1, .int (atv h 4 v3), .int (v3 + (1 : Int32)), .int (atv h 4 v3)]) (S' := []) (h' := (stI h2 3 2 x4)) rfl ?_
        refine Wp.forget (L := [.ref 3, .int v1, .int (atv h 4 v3), .int (v3 + (1 : Int32)), mk0]) (⟨Or.inr rfl, ⟨Or.inr rfl, ⟨Or.inr rfl, ⟨Or.inr rfl, ⟨Or.inl rfl, trivial⟩⟩⟩⟩⟩) ?_
        exact K
  · replace K := K.2 c1
    refine Wp.blk (by decide) ol_45 40 1 (pc' := 72) (L' := [.ref 3, .int v1, .int v2, .int v3, mk0]) (S' := [.ref 3]) (h' := h) rfl ?_
    refine Wp.getf (op_ix (by decide) ol_45 41 rfl) (okS HS 3 rfl rfl) (v := .int (AI h 3 1)) rfl rfl ?_
    exact Wp.ret (op_ix (by decide) ol_45 42 rfl) rfl K
/-- CutsOrFast$Page.step at 0 (IIII)I -/
theorem g46_0 (d : Nat) (v0 : Int32) (v1 : Int32) (v2 : Int32) (v3 : Int32) (h : AH) (HS : Sh h)  (Q : Option Value → AH → Prop) (K : ((v0 = Int32.ofNat 0 → ((v1 < (97 : Int32) → Q (some (.int (-1 : Int32))) h) ∧ (¬ v1 < (97 : Int32) → (((102 : Int32) < v1 → Q (some (.int (-1 : Int32))) h) ∧ (¬ (102 : Int32) < v1 → Q (some (.int (1 : Int32))) h))))) ∧ (¬ v0 = Int32.ofNat 0 → ((v0 = Int32.ofNat 1 → ((v1 < (97 : Int32) → Q (some (.int (-1 : Int32))) h) ∧ (¬ v1 < (97 : Int32) → (((102 : Int32) < v1 → Q (some (.int (-1 : Int32))) h) ∧ (¬ (102 : Int32) < v1 → ((v1 = v2 → Q (some (.int (-1 : Int32))) h) ∧ (¬ v1 = v2 → Q (some (.int (2 : Int32))) h))))))) ∧ (¬ v0 = Int32.ofNat 1 → ((v0 = Int32.ofNat 2 → ((v1 = (58 : Int32) → Q (some (.int (3 : Int32))) h) ∧ (¬ v1 = (58 : Int32) → Q (some (.int (-1 : Int32))) h))) ∧ (¬ v0 = Int32.ofNat 2 → ((v0 = Int32.ofNat 3 → ((v1 < (97 : Int32) → Q (some (.int (-1 : Int32))) h) ∧ (¬ v1 < (97 : Int32) → (((102 : Int32) < v1 → Q (some (.int (-1 : Int32))) h) ∧ (¬ (102 : Int32) < v1 → Q (some (.int (4 : Int32))) h))))) ∧ (¬ v0 = Int32.ofNat 3 → ((v0 = Int32.ofNat 4 → ((v1 < (97 : Int32) → Q (some (.int (-1 : Int32))) h) ∧ (¬ v1 < (97 : Int32) → (((102 : Int32) < v1 → Q (some (.int (-1 : Int32))) h) ∧ (¬ (102 : Int32) < v1 → ((v1 = v2 → Q (some (.int (-1 : Int32))) h) ∧ (¬ v1 = v2 → Q (some (.int (5 : Int32))) h))))))) ∧ (¬ v0 = Int32.ofNat 4 → (Cl d 47 [.int v0, .int v1, .int v3] h (fun r h17 => ∃ x19 : Int32, r = some (.int x19) ∧ Sh h17 ∧ Q (some (.int x19)) h17))))))))))))) : Wp (d + 1) 46 0 [.int v0, .int v1, .int v2, .int v3] [] h Q := by
  refine Wp.blk (by decide) ol_46 0 2 (pc' := (tsw v0 [(0, 36), (1, 49), (2, 67), (3, 79), (4, 92)] 110)) (L' := [.int v0, .int v1, .int v2, .int v3]) (S' := []) (h' := h) rfl ?_
  refine Wp.tsw (fun c1 => ?_) (fun c1 => ?_)
  · replace K := K.1 c1
    refine Wp.blk (by decide) ol_46 2 1 (pc' := 37) (L' := [.int v0, .int v1, .int v2, .int v3]) (S' := [.int v1]) (h' := h) rfl ?_
    refine Wp.callI (op_ix (by decide) ol_46 3 rfl) rfl rfl (Cl.enter (L := [.int v1]) rfl ?_)
    refine Wp.blk (by decide) ol_48 0 3 (pc' := (if v1 < (97 : Int32) then 16 else 6)) (L' := [.int v1]) (S' := []) (h' := h) rfl ?_
    refine Wp.br (fun c2 => ?_) (fun c2 => ?_)
    · replace K := K.1 c2
      refine Wp.blk (by decide) ol_48 8 1 (pc' := 17) (L' := [.int v1]) (S' := [.int (0 : Int32)]) (h' := h) rfl ?_
      refine Wp.ret (op_ix (by decide) ol_48 9 rfl) rfl ⟨_, rfl, ?_⟩
      refine Wp.blk (by decide) ol_46 4 1 (pc' := (if (0 : Int32) = (0 : Int32) then 47 else 43)) (L' := [.int v0, .int v1, .int v2, .int v3]) (S' := []) (h' := h) rfl ?_
      refine Wp.br (fun _ => ?_) (fun hc => absurd (by decide) hc)
      refine Wp.blk (by decide) ol_46 7 1 (pc' := 48) (L' := [.int v0, .int v1, .int v2, .int v3]) (S' := [.int (-1 : Int32)]) (h' := h) rfl ?_
      exact Wp.ret (op_ix (by decide) ol_46 8 rfl) rfl K
    · replace K := K.2 c2
      refine Wp.blk (by decide) ol_48 3 3 (pc' := (if (102 : Int32) < v1 then 16 else 12)) (L' := [.int v1]) (S' := []) (h' := h) rfl ?_
      refine Wp.br (fun c3 => ?_) (fun c3 => ?_)
      · replace K := K.1 c3
        refine Wp.blk (by decide) ol_48 8 1 (pc' := 17) (L' := [.int v1]) (S' := [.int (0 : Int32)]) (h' := h) rfl ?_
        refine Wp.ret (op_ix (by decide) ol_48 9 rfl) rfl ⟨_, rfl, ?_⟩
        refine Wp.blk (by decide) ol_46 4 1 (pc' := (if (0 : Int32) = (0 : Int32) then 47 else 43)) (L' := [.int v0, .int v1, .int v2, .int v3]) (S' := []) (h' := h) rfl ?_
        refine Wp.br (fun _ => ?_) (fun hc => absurd (by decide) hc)
        refine Wp.blk (by decide) ol_46 7 1 (pc' := 48) (L' := [.int v0, .int v1, .int v2, .int v3]) (S' := [.int (-1 : Int32)]) (h' := h) rfl ?_
        exact Wp.ret (op_ix (by decide) ol_46 8 rfl) rfl K
      · replace K := K.2 c3
        refine Wp.blk (by decide) ol_48 6 2 (pc' := 17) (L' := [.int v1]) (S' := [.int (1 : Int32)]) (h' := h) rfl ?_
        refine Wp.ret (op_ix (by decide) ol_48 9 rfl) rfl ⟨_, rfl, ?_⟩
        refine Wp.blk (by decide) ol_46 4 1 (pc' := (if (1 : Int32) = (0 : Int32) then 47 else 43)) (L' := [.int v0, .int v1, .int v2, .int v3]) (S' := []) (h' := h) rfl ?_
        refine Wp.br (fun hc => absurd hc (by decide)) (fun _ => ?_)
        refine Wp.blk (by decide) ol_46 5 2 (pc' := 48) (L' := [.int v0, .int v1, .int v2, .int v3]) (S' := [.int (1 : Int32)]) (h' := h) rfl ?_
        exact Wp.ret (op_ix (by decide) ol_46 8 rfl) rfl K
  replace K := K.2 c1
  refine Wp.tsw (fun c4 => ?_) (fun c4 => ?_)
  · replace K := K.1 c4
    refine Wp.blk (by decide) ol_46 9 1 (pc' := 50) (L' := [.int v0, .int v1, .int v2, .int v3]) (S' := [.int v1]) (h' := h) rfl ?_
    refine Wp.callI (op_ix (by decide) ol_46 10 rfl) rfl rfl (Cl.enter (L := [.int v1]) rfl ?_)
    refine Wp.blk (by decide) ol_48 0 3 (pc' := (if v1 < (97 : Int32) then 16 else 6)) (L' := [.int v1]) (S' := []) (h' := h) rfl ?_
    refine Wp.br (fun c5 => ?_) (fun c5 => ?_)
    · replace K := K.1 c5
      refine Wp.blk (by decide) ol_48 8 1 (pc' := 17) (L' := [.int v1]) (S' := [.int (0 : Int32)]) (h' := h) rfl ?_
      refine Wp.ret (op_ix (by decide) ol_48 9 rfl) rfl ⟨_, rfl, ?_⟩
      refine Wp.blk (by decide) ol_46 11 1 (pc' := (if (0 : Int32) = (0 : Int32) then 65 else 56)) (L' := [.int v0, .int v1, .int v2, .int v3]) (S' := []) (h' := h) rfl ?_
      refine Wp.br (fun _ => ?_) (fun hc => absurd (by decide) hc)
      refine Wp.blk (by decide) ol_46 17 1 (pc' := 66) (L' := [.int v0, .int v1, .int v2, .int v3]) (S' := [.int (-1 : Int32)]) (h' := h) rfl ?_
      exact Wp.ret (op_ix (by decide) ol_46 18 rfl) rfl K
    · replace K := K.2 c5
      refine Wp.blk (by decide) ol_48 3 3 (pc' := (if (102 : Int32) < v1 then 16 else 12)) (L' := [.int v1]) (S' := []) (h' := h) rfl ?_
      refine Wp.br (fun c6 => ?_) (fun c6 => ?_)
      · replace K := K.1 c6
        refine Wp.blk (by decide) ol_48 8 1 (pc' := 17) (L' := [.int v1]) (S' := [.int (0 : Int32)]) (h' := h) rfl ?_
        refine Wp.ret (op_ix (by decide) ol_48 9 rfl) rfl ⟨_, rfl, ?_⟩
        refine Wp.blk (by decide) ol_46 11 1 (pc' := (if (0 : Int32) = (0 : Int32) then 65 else 56)) (L' := [.int v0, .int v1, .int v2, .int v3]) (S' := []) (h' := h) rfl ?_
        refine Wp.br (fun _ => ?_) (fun hc => absurd (by decide) hc)
        refine Wp.blk (by decide) ol_46 17 1 (pc' := 66) (L' := [.int v0, .int v1, .int v2, .int v3]) (S' := [.int (-1 : Int32)]) (h' := h) rfl ?_
        exact Wp.ret (op_ix (by decide) ol_46 18 rfl) rfl K
      · replace K := K.2 c6
        refine Wp.blk (by decide) ol_48 6 2 (pc' := 17) (L' := [.int v1]) (S' := [.int (1 : Int32)]) (h' := h) rfl ?_
        refine Wp.ret (op_ix (by decide) ol_48 9 rfl) rfl ⟨_, rfl, ?_⟩
        refine Wp.blk (by decide) ol_46 11 1 (pc' := (if (1 : Int32) = (0 : Int32) then 65 else 56)) (L' := [.int v0, .int v1, .int v2, .int v3]) (S' := []) (h' := h) rfl ?_
        refine Wp.br (fun hc => absurd hc (by decide)) (fun _ => ?_)
        refine Wp.blk (by decide) ol_46 12 3 (pc' := (if v1 = v2 then 65 else 61)) (L' := [.int v0, .int v1, .int v2, .int v3]) (S' := []) (h' := h) rfl ?_
        refine Wp.br (fun c7 => ?_) (fun c7 => ?_)
        · replace K := K.1 c7
          refine Wp.blk (by decide) ol_46 17 1 (pc' := 66) (L' := [.int v0, .int v1, .int v2, .int v3]) (S' := [.int (-1 : Int32)]) (h' := h) rfl ?_
          exact Wp.ret (op_ix (by decide) ol_46 18 rfl) rfl K
        · replace K := K.2 c7
          refine Wp.blk (by decide) ol_46 15 2 (pc' := 66) (L' := [.int v0, .int v1, .int v2, .int v3]) (S' := [.int (2 : Int32)]) (h' := h) rfl ?_
          exact Wp.ret (op_ix (by decide) ol_46 18 rfl) rfl K
  replace K := K.2 c4
  refine Wp.tsw (fun c8 => ?_) (fun c8 => ?_)
  · replace K := K.1 c8
    refine Wp.blk (by decide) ol_46 19 3 (pc' := (if v1 = (58 : Int32) then 73 else 77)) (L' := [.int v0, .int v1, .int v2, .int v3]) (S' := []) (h' := h) rfl ?_
    refine Wp.br (fun c9 => ?_) (fun c9 => ?_)
    · replace K := K.1 c9
      refine Wp.blk (by decide) ol_46 22 2 (pc' := 78) (L' := [.int v0, .int v1, .int v2, .int v3]) (S' := [.int (3 : Int32)]) (h' := h) rfl ?_
      exact Wp.ret (op_ix (by decide) ol_46 25 rfl) rfl K
    · replace K := K.2 c9
      refine Wp.blk (by decide) ol_46 24 1 (pc' := 78) (L' := [.int v0, .int v1, .int v2, .int v3]) (S' := [.int (-1 : Int32)]) (h' := h) rfl ?_
      exact Wp.ret (op_ix (by decide) ol_46 25 rfl) rfl K
  replace K := K.2 c8
  refine Wp.tsw (fun c10 => ?_) (fun c10 => ?_)
  · replace K := K.1 c10
    refine Wp.blk (by decide) ol_46 26 1 (pc' := 80) (L' := [.int v0, .int v1, .int v2, .int v3]) (S' := [.int v1]) (h' := h) rfl ?_
    refine Wp.callI (op_ix (by decide) ol_46 27 rfl) rfl rfl (Cl.enter (L := [.int v1]) rfl ?_)
    refine Wp.blk (by decide) ol_48 0 3 (pc' := (if v1 < (97 : Int32) then 16 else 6)) (L' := [.int v1]) (S' := []) (h' := h) rfl ?_
    refine Wp.br (fun c11 => ?_) (fun c11 => ?_)
    · replace K := K.1 c11
      refine Wp.blk (by decide) ol_48 8 1 (pc' := 17) (L' := [.int v1]) (S' := [.int (0 : Int32)]) (h' := h) rfl ?_
      refine Wp.ret (op_ix (by decide) ol_48 9 rfl) rfl ⟨_, rfl, ?_⟩
      refine Wp.blk (by decide) ol_46 28 1 (pc' := (if (0 : Int32) = (0 : Int32) then 90 else 86)) (L' := [.int v0, .int v1, .int v2, .int v3]) (S' := []) (h' := h) rfl ?_
      refine Wp.br (fun _ => ?_) (fun hc => absurd (by decide) hc)
      refine Wp.blk (by decide) ol_46 31 1 (pc' := 91) (L' := [.int v0, .int v1, .int v2, .int v3]) (S' := [.int (-1 : Int32)]) (h' := h) rfl ?_
      exact Wp.ret (op_ix (by decide) ol_46 32 rfl) rfl K
    · replace K := K.2 c11
      refine Wp.blk (by decide) ol_48 3 3 (pc' := (if (102 : Int32) < v1 then 16 else 12)) (L' := [.int v1]) (S' := []) (h' := h) rfl ?_
      refine Wp.br (fun c12 => ?_) (fun c12 => ?_)
      · replace K := K.1 c12
        refine Wp.blk (by decide) ol_48 8 1 (pc' := 17) (L' := [.int v1]) (S' := [.int (0 : Int32)]) (h' := h) rfl ?_
        refine Wp.ret (op_ix (by decide) ol_48 9 rfl) rfl ⟨_, rfl, ?_⟩
        refine Wp.blk (by decide) ol_46 28 1 (pc' := (if (0 : Int32) = (0 : Int32) then 90 else 86)) (L' := [.int v0, .int v1, .int v2, .int v3]) (S' := []) (h' := h) rfl ?_
        refine Wp.br (fun _ => ?_) (fun hc => absurd (by decide) hc)
        refine Wp.blk (by decide) ol_46 31 1 (pc' := 91) (L' := [.int v0, .int v1, .int v2, .int v3]) (S' := [.int (-1 : Int32)]) (h' := h) rfl ?_
        exact Wp.ret (op_ix (by decide) ol_46 32 rfl) rfl K
      · replace K := K.2 c12
        refine Wp.blk (by decide) ol_48 6 2 (pc' := 17) (L' := [.int v1]) (S' := [.int (1 : Int32)]) (h' := h) rfl ?_
        refine Wp.ret (op_ix (by decide) ol_48 9 rfl) rfl ⟨_, rfl, ?_⟩
        refine Wp.blk (by decide) ol_46 28 1 (pc' := (if (1 : Int32) = (0 : Int32) then 90 else 86)) (L' := [.int v0, .int v1, .int v2, .int v3]) (S' := []) (h' := h) rfl ?_
        refine Wp.br (fun hc => absurd hc (by decide)) (fun _ => ?_)
        refine Wp.blk (by decide) ol_46 29 2 (pc' := 91) (L' := [.int v0, .int v1, .int v2, .int v3]) (S' := [.int (4 : Int32)]) (h' := h) rfl ?_
        exact Wp.ret (op_ix (by decide) ol_46 32 rfl) rfl K
  replace K := K.2 c10
  refine Wp.tsw (fun c13 => ?_) (fun c13 => ?_)
  · replace K := K.1 c13
    refine Wp.blk (by decide) ol_46 33 1 (pc' := 93) (L' := [.int v0, .int v1, .int v2, .int v3]) (S' := [.int v1]) (h' := h) rfl ?_
    refine Wp.callI (op_ix (by decide) ol_46 34 rfl) rfl rfl (Cl.enter (L := [.int v1]) rfl ?_)
    refine Wp.blk (by decide) ol_48 0 3 (pc' := (if v1 < (97 : Int32) then 16 else 6)) (L' := [.int v1]) (S' := []) (h' := h) rfl ?_
    refine Wp.br (fun c14 => ?_) (fun c14 => ?_)
    · replace K := K.1 c14
      refine Wp.blk (by decide) ol_48 8 1 (pc' := 17) (L' := [.int v1]) (S' := [.int (0 : Int32)]) (h' := h) rfl ?_
      refine Wp.ret (op_ix (by decide) ol_48 9 rfl) rfl ⟨_, rfl, ?_⟩
      refine Wp.blk (by decide) ol_46 35 1 (pc' := (if (0 : Int32) = (0 : Int32) then 108 else 99)) (L' := [.int v0, .int v1, .int v2, .int v3]) (S' := []) (h' := h) rfl ?_
      refine Wp.br (fun _ => ?_) (fun hc => absurd (by decide) hc)
      refine Wp.blk (by decide) ol_46 41 1 (pc' := 109) (L' := [.int v0, .int v1, .int v2, .int v3]) (S' := [.int (-1 : Int32)]) (h' := h) rfl ?_
      exact Wp.ret (op_ix (by decide) ol_46 42 rfl) rfl K
    · replace K := K.2 c14
      refine Wp.blk (by decide) ol_48 3 3 (pc' := (if (102 : Int32) < v1 then 16 else 12)) (L' := [.int v1]) (S' := []) (h' := h) rfl ?_
      refine Wp.br (fun c15 => ?_) (fun c15 => ?_)
      · replace K := K.1 c15
        refine Wp.blk (by decide) ol_48 8 1 (pc' := 17) (L' := [.int v1]) (S' := [.int (0 : Int32)]) (h' := h) rfl ?_
        refine Wp.ret (op_ix (by decide) ol_48 9 rfl) rfl ⟨_, rfl, ?_⟩
        refine Wp.blk (by decide) ol_46 35 1 (pc' := (if (0 : Int32) = (0 : Int32) then 108 else 99)) (L' := [.int v0, .int v1, .int v2, .int v3]) (S' := []) (h' := h) rfl ?_
        refine Wp.br (fun _ => ?_) (fun hc => absurd (by decide) hc)
        refine Wp.blk (by decide) ol_46 41 1 (pc' := 109) (L' := [.int v0, .int v1, .int v2, .int v3]) (S' := [.int (-1 : Int32)]) (h' := h) rfl ?_
        exact Wp.ret (op_ix (by decide) ol_46 42 rfl) rfl K
      · replace K := K.2 c15
        refine Wp.blk (by decide) ol_48 6 2 (pc' := 17) (L' := [.int v1]) (S' := [.int (1 : Int32)]) (h' := h) rfl ?_
        refine Wp.ret (op_ix (by decide) ol_48 9 rfl) rfl ⟨_, rfl, ?_⟩
        refine Wp.blk (by decide) ol_46 35 1 (pc' := (if (1 : Int32) = (0 : Int32) then 108 else 99)) (L' := [.int v0, .int v1, .int v2, .int v3]) (S' := []) (h' := h) rfl ?_
        refine Wp.br (fun hc => absurd hc (by decide)) (fun _ => ?_)
        refine Wp.blk (by decide) ol_46 36 3 (pc' := (if v1 = v2 then 108 else 104)) (L' := [.int v0, .int v1, .int v2, .int v3]) (S' := []) (h' := h) rfl ?_
        refine Wp.br (fun c16 => ?_) (fun c16 => ?_)
        · replace K := K.1 c16
          refine Wp.blk (by decide) ol_46 41 1 (pc' := 109) (L' := [.int v0, .int v1, .int v2, .int v3]) (S' := [.int (-1 : Int32)]) (h' := h) rfl ?_
          exact Wp.ret (op_ix (by decide) ol_46 42 rfl) rfl K
        · replace K := K.2 c16
          refine Wp.blk (by decide) ol_46 39 2 (pc' := 109) (L' := [.int v0, .int v1, .int v2, .int v3]) (S' := [.int (5 : Int32)]) (h' := h) rfl ?_
          exact Wp.ret (op_ix (by decide) ol_46 42 rfl) rfl K
  replace K := K.2 c13
  unfold tsw
  refine Wp.blk (by decide) ol_46 43 3 (pc' := 113) (L' := [.int v0, .int v1, .int v2, .int v3]) (S' := [.int v3, .int v1, .int v0]) (h' := h) rfl ?_
  refine Wp.callI (op_ix (by decide) ol_46 46 rfl) rfl rfl (K.mono ?_)
  rintro _ h17 ⟨x19, rfl, hs18, K⟩
  refine ⟨x19, rfl, ?_⟩
  exact Wp.ret (op_ix (by decide) ol_46 47 rfl) rfl K
/-- CutsOrFast$Page.stepBehindPair at 0 (III)I -/
theorem g47_0 (d : Nat) (v0 : Int32) (v1 : Int32) (v2 : Int32) (h : AH) (HS : Sh h)  (Q : Option Value → AH → Prop) (K : ((v1 = (44 : Int32) → ((v2 < (9 : Int32) → Q (some (.int (3 : Int32))) h) ∧ (¬ v2 < (9 : Int32) → Q (some (.int (-1 : Int32))) h))) ∧ (¬ v1 = (44 : Int32) → ((v0 < (7 : Int32) → ((v1 < (49 : Int32) → Wp (d + 1) 47 34 [.int v0, .int v1, mk0] [] h Q) ∧ (¬ v1 < (49 : Int32) → (((57 : Int32) < v1 → Wp (d + 1) 47 34 [.int v0, .int v1, mk0] [] h Q) ∧ (¬ (57 : Int32) < v1 → Q (some (.int (7 : Int32))) h))))) ∧ (¬ v0 < (7 : Int32) → Wp (d + 1) 47 34 [.int v0, .int v1, mk0] [] h Q))))) : Wp (d + 1) 47 0 [.int v0, .int v1, .int v2] [] h Q := by
  refine Wp.blk (by decide) ol_47 0 3 (pc' := (if v1 = (44 : Int32) then 6 else 18)) (L' := [.int v0, .int v1, .int v2]) (S' := []) (h' := h) rfl ?_
  refine Wp.br (fun c1 => ?_) (fun c1 => ?_)
  · replace K := K.1 c1
    refine Wp.blk (by decide) ol_47 3 3 (pc' := (if v2 < (9 : Int32) then 12 else 16)) (L' := [.int v0, .int v1, .int v2]) (S' := []) (h' := h) rfl ?_
    refine Wp.br (fun c2 => ?_) (fun c2 => ?_)
    · replace K := K.1 c2
      refine Wp.blk (by decide) ol_47 6 2 (pc' := 17) (L' := [.int v0, .int v1, .int v2]) (S' := [.int (3 : Int32)]) (h' := h) rfl ?_
      exact Wp.ret (op_ix (by decide) ol_47 9 rfl) rfl K
    · replace K := K.2 c2
      refine Wp.blk (by decide) ol_47 8 1 (pc' := 17) (L' := [.int v0, .int v1, .int v2]) (S' := [.int (-1 : Int32)]) (h' := h) rfl ?_
      exact Wp.ret (op_ix (by decide) ol_47 9 rfl) rfl K
  · replace K := K.2 c1
    refine Wp.blk (by decide) ol_47 10 3 (pc' := (if v0 < (7 : Int32) then 24 else 34)) (L' := [.int v0, .int v1, .int v2]) (S' := []) (h' := h) rfl ?_
    refine Wp.br (fun c3 => ?_) (fun c3 => ?_)
    · replace K := K.1 c3
      refine Wp.blk (by decide) ol_47 13 1 (pc' := 25) (L' := [.int v0, .int v1, .int v2]) (S' := [.int v1]) (h' := h) rfl ?_
      refine Wp.callI (op_ix (by decide) ol_47 14 rfl) rfl rfl (Cl.enter (L := [.int v1]) rfl ?_)
      refine Wp.blk (by decide) ol_49 0 3 (pc' := (if v1 < (49 : Int32) then 16 else 6)) (L' := [.int v1]) (S' := []) (h' := h) rfl ?_
      refine Wp.br (fun c4 => ?_) (fun c4 => ?_)
      · replace K := K.1 c4
        refine Wp.blk (by decide) ol_49 8 1 (pc' := 17) (L' := [.int v1]) (S' := [.int (0 : Int32)]) (h' := h) rfl ?_
        refine Wp.ret (op_ix (by decide) ol_49 9 rfl) rfl ⟨_, rfl, ?_⟩
        refine Wp.blk (by decide) ol_47 15 1 (pc' := (if (0 : Int32) = (0 : Int32) then 34 else 31)) (L' := [.int v0, .int v1, .int v2]) (S' := []) (h' := h) rfl ?_
        refine Wp.br (fun _ => ?_) (fun hc => absurd (by decide) hc)
        refine Wp.forget (L := [.int v0, .int v1, mk0]) (⟨Or.inr rfl, ⟨Or.inr rfl, ⟨Or.inl rfl, trivial⟩⟩⟩) ?_
        exact K
      · replace K := K.2 c4
        refine Wp.blk (by decide) ol_49 3 3 (pc' := (if (57 : Int32) < v1 then 16 else 12)) (L' := [.int v1]) (S' := []) (h' := h) rfl ?_
        refine Wp.br (fun c5 => ?_) (fun c5 => ?_)
        · replace K := K.1 c5
          refine Wp.blk (by decide) ol_49 8 1 (pc' := 17) (L' := [.int v1]) (S' := [.int (0 : Int32)]) (h' := h) rfl ?_
          refine Wp.ret (op_ix (by decide) ol_49 9 rfl) rfl ⟨_, rfl, ?_⟩
          refine Wp.blk (by decide) ol_47 15 1 (pc' := (if (0 : Int32) = (0 : Int32) then 34 else 31)) (L' := [.int v0, .int v1, .int v2]) (S' := []) (h' := h) rfl ?_
          refine Wp.br (fun _ => ?_) (fun hc => absurd (by decide) hc)
          refine Wp.forget (L := [.int v0, .int v1, mk0]) (⟨Or.inr rfl, ⟨Or.inr rfl, ⟨Or.inl rfl, trivial⟩⟩⟩) ?_
          exact K
        · replace K := K.2 c5
          refine Wp.blk (by decide) ol_49 6 2 (pc' := 17) (L' := [.int v1]) (S' := [.int (1 : Int32)]) (h' := h) rfl ?_
          refine Wp.ret (op_ix (by decide) ol_49 9 rfl) rfl ⟨_, rfl, ?_⟩
          refine Wp.blk (by decide) ol_47 15 1 (pc' := (if (1 : Int32) = (0 : Int32) then 34 else 31)) (L' := [.int v0, .int v1, .int v2]) (S' := []) (h' := h) rfl ?_
          refine Wp.br (fun hc => absurd hc (by decide)) (fun _ => ?_)
          refine Wp.blk (by decide) ol_47 16 1 (pc' := 33) (L' := [.int v0, .int v1, .int v2]) (S' := [.int (7 : Int32)]) (h' := h) rfl ?_
          exact Wp.ret (op_ix (by decide) ol_47 17 rfl) rfl K
    · replace K := K.2 c3
      refine Wp.forget (L := [.int v0, .int v1, mk0]) (⟨Or.inr rfl, ⟨Or.inr rfl, ⟨Or.inl rfl, trivial⟩⟩⟩) ?_
      exact K
/-- CutsOrFast$Page.stepBehindPair at 34 -/
theorem g47_34 (d : Nat) (v0 : Int32) (v1 : Int32) (h : AH) (HS : Sh h)  (Q : Option Value → AH → Prop) (K : ((v0 = (5 : Int32) → ((v1 = (43 : Int32) → Q (some (.int (6 : Int32))) h) ∧ (¬ v1 = (43 : Int32) → ((v1 = (45 : Int32) → Q (some (.int (6 : Int32))) h) ∧ (¬ v1 = (45 : Int32) → Q (some (.int (-1 : Int32))) h))))) ∧ (¬ v0 = (5 : Int32) → Q (some (.int (-1 : Int32))) h))) : Wp d 47 34 [.int v0, .int v1, mk0] [] h Q := by
  refine Wp.blk (by decide) ol_47 18 3 (pc' := (if v0 = (5 : Int32) then 39 else 56)) (L' := [.int v0, .int v1, mk0]) (S' := []) (h' := h) rfl ?_
  refine Wp.br (fun c1 => ?_) (fun c1 => ?_)
  · replace K := K.1 c1
    refine Wp.blk (by decide) ol_47 21 3 (pc' := (if v1 = (43 : Int32) then 51 else 45)) (L' := [.int v0, .int v1, mk0]) (S' := []) (h' := h) rfl ?_
    refine Wp.br (fun c2 => ?_) (fun c2 => ?_)
    · replace K := K.1 c2
      refine Wp.blk (by decide) ol_47 27 2 (pc' := 57) (L' := [.int v0, .int v1, mk0]) (S' := [.int (6 : Int32)]) (h' := h) rfl ?_
      exact Wp.ret (op_ix (by decide) ol_47 30 rfl) rfl K
    · replace K := K.2 c2
      refine Wp.blk (by decide) ol_47 24 3 (pc' := (if v1 = (45 : Int32) then 51 else 56)) (L' := [.int v0, .int v1, mk0]) (S' := []) (h' := h) rfl ?_
      refine Wp.br (fun c3 => ?_) (fun c3 => ?_)
      · replace K := K.1 c3
        refine Wp.blk (by decide) ol_47 27 2 (pc' := 57) (L' := [.int v0, .int v1, mk0]) (S' := [.int (6 : Int32)]) (h' := h) rfl ?_
        exact Wp.ret (op_ix (by decide) ol_47 30 rfl) rfl K
      · replace K := K.2 c3
        refine Wp.blk (by decide) ol_47 29 1 (pc' := 57) (L' := [.int v0, .int v1, mk0]) (S' := [.int (-1 : Int32)]) (h' := h) rfl ?_
        exact Wp.ret (op_ix (by decide) ol_47 30 rfl) rfl K
  · replace K := K.2 c1
    refine Wp.blk (by decide) ol_47 29 1 (pc' := 57) (L' := [.int v0, .int v1, mk0]) (S' := [.int (-1 : Int32)]) (h' := h) rfl ?_
    exact Wp.ret (op_ix (by decide) ol_47 30 rfl) rfl K
/-- CutsOrFast$Page.isPlace at 0 (I)Z -/
theorem g48_0 (d : Nat) (v0 : Int32) (h : AH) (HS : Sh h)  (Q : Option Value → AH → Prop) (K : ((v0 < (97 : Int32) → Q (some (.int (0 : Int32))) h) ∧ (¬ v0 < (97 : Int32) → (((102 : Int32) < v0 → Q (some (.int (0 : Int32))) h) ∧ (¬ (102 : Int32) < v0 → Q (some (.int (1 : Int32))) h))))) : Wp d 48 0 [.int v0] [] h Q := by
  refine Wp.blk (by decide) ol_48 0 3 (pc' := (if v0 < (97 : Int32) then 16 else 6)) (L' := [.int v0]) (S' := []) (h' := h) rfl ?_
  refine Wp.br (fun c1 => ?_) (fun c1 => ?_)
  · replace K := K.1 c1
    refine Wp.blk (by decide) ol_48 8 1 (pc' := 17) (L' := [.int v0]) (S' := [.int (0 : Int32)]) (h' := h) rfl ?_
    exact Wp.ret (op_ix (by decide) ol_48 9 rfl) rfl K
  · replace K := K.2 c1
    refine Wp.blk (by decide) ol_48 3 3 (pc' := (if (102 : Int32) < v0 then 16 else 12)) (L' := [.int v0]) (S' := []) (h' := h) rfl ?_
    refine Wp.br (fun c2 => ?_) (fun c2 => ?_)
    · replace K := K.1 c2
      refine Wp.blk (by decide) ol_48 8 1 (pc' := 17) (L' := [.int v0]) (S' := [.int (0 : Int32)]) (h' := h) rfl ?_
      exact Wp.ret (op_ix (by decide) ol_48 9 rfl) rfl K
    · replace K := K.2 c2
      refine Wp.blk (by decide) ol_48 6 2 (pc' := 17) (L' := [.int v0]) (S' := [.int (1 : Int32)]) (h' := h) rfl ?_
      exact Wp.ret (op_ix (by decide) ol_48 9 rfl) rfl K
/-- CutsOrFast$Page.isCost at 0 (I)Z -/
theorem g49_0 (d : Nat) (v0 : Int32) (h : AH) (HS : Sh h)  (Q : Option Value → AH → Prop) (K : ((v0 < (49 : Int32) → Q (some (.int (0 : Int32))) h) ∧ (¬ v0 < (49 : Int32) → (((57 : Int32) < v0 → Q (some (.int (0 : Int32))) h) ∧ (¬ (57 : Int32) < v0 → Q (some (.int (1 : Int32))) h))))) : Wp d 49 0 [.int v0] [] h Q := by
  refine Wp.blk (by decide) ol_49 0 3 (pc' := (if v0 < (49 : Int32) then 16 else 6)) (L' := [.int v0]) (S' := []) (h' := h) rfl ?_
  refine Wp.br (fun c1 => ?_) (fun c1 => ?_)
  · replace K := K.1 c1
    refine Wp.blk (by decide) ol_49 8 1 (pc' := 17) (L' := [.int v0]) (S' := [.int (0 : Int32)]) (h' := h) rfl ?_
    exact Wp.ret (op_ix (by decide) ol_49 9 rfl) rfl K
  · replace K := K.2 c1
    refine Wp.blk (by decide) ol_49 3 3 (pc' := (if (57 : Int32) < v0 then 16 else 12)) (L' := [.int v0]) (S' := []) (h' := h) rfl ?_
    refine Wp.br (fun c2 => ?_) (fun c2 => ?_)
    · replace K := K.1 c2
      refine Wp.blk (by decide) ol_49 8 1 (pc' := 17) (L' := [.int v0]) (S' := [.int (0 : Int32)]) (h' := h) rfl ?_
      exact Wp.ret (op_ix (by decide) ol_49 9 rfl) rfl K
    · replace K := K.2 c2
      refine Wp.blk (by decide) ol_49 6 2 (pc' := 17) (L' := [.int v0]) (S' := [.int (1 : Int32)]) (h' := h) rfl ?_
      exact Wp.ret (op_ix (by decide) ol_49 9 rfl) rfl K
/-- CutsOrFast$Page.readInto at 0 (LCutsOrFast$Net;LCutsOrFast$Stand;)V -/
theorem g50_0 (d : Nat) (v2 : Nat) (h : AH) (HS : Sh h) (t2 : St3 v2) (Q : Option Value → AH → Prop) (K : (((0 : Int32) < (AI h 3 1) → (((1 : Int32) < (AI h 3 1) → (Cl (d + 1) 21 [.ref 5, .int (((atv h 4 ((0 : Int32)))) - ((97 : Int32))), .int (((atv h 4 ((1 : Int32)))) - ((97 : Int32)))] h (fun r h3 => r = none ∧ Sh h3 ∧ Wp (d + 2) 50 28 [.ref 3, .ref 5, .ref v2, .int (0 : Int32), .int (0 : Int32), .int (3 : Int32), mk0, mk0, mk0, mk0] [] h3 Q))) ∧ (¬ (1 : Int32) < (AI h 3 1) → (Cl (d + 1) 21 [.ref 5, .int (((atv h 4 ((0 : Int32)))) - ((97 : Int32))), .int (((0 : Int32)) - ((97 : Int32)))] h (fun r h5 => r = none ∧ Sh h5 ∧ Wp (d + 2) 50 28 [.ref 3, .ref 5, .ref v2, .int (0 : Int32), .int (0 : Int32), .int (3 : Int32), mk0, mk0, mk0, mk0] [] h5 Q))))) ∧ (¬ (0 : Int32) < (AI h 3 1) → (((1 : Int32) < (AI h 3 1) → (Cl (d + 1) 21 [.ref 5, .int (((0 : Int32)) - ((97 : Int32))), .int (((atv h 4 ((1 : Int32)))) - ((97 : Int32)))] h (fun r h8 => r = none ∧ Sh h8 ∧ Wp (d + 2) 50 28 [.ref 3, .ref 5, .ref v2, .int (0 : Int32), .int (0 : Int32), .int (3 : Int32), mk0, mk0, mk0, mk0] [] h8 Q))) ∧ (¬ (1 : Int32) < (AI h 3 1) → (Cl (d + 1) 21 [.ref 5, .int (((0 : Int32)) - ((97 : Int32))), .int (((0 : Int32)) - ((97 : Int32)))] h (fun r h10 => r = none ∧ Sh h10 ∧ Wp (d + 2) 50 28 [.ref 3, .ref 5, .ref v2, .int (0 : Int32), .int (0 : Int32), .int (3 : Int32), mk0, mk0, mk0, mk0] [] h10 Q))))))) : Wp (d + 2) 50 0 [.ref 3, .ref 5, .ref v2, mk0, mk0, mk0, mk0, mk0, mk0, mk0] [] h Q := by
  refine Wp.blk (by decide) ol_50 0 9 (pc' := 11) (L' := [.ref 3, .ref 5, .ref v2, .int (0 : Int32), .int (0 : Int32), .int (3 : Int32), mk0, mk0, mk0, mk0]) (S' := [.int (0 : Int32), .ref 3, .ref 5]) (h' := h) rfl ?_
  refine Wp.callI (op_ix (by decide) ol_50 9 rfl) (act_virt (c2 := 1) rfl (lk1 (kS HS 3 rfl)) rfl) rfl (Cl.enter (L := [.ref 3, .int (0 : Int32)]) rfl ?_)
  refine Wp.blk (by decide) ol_41 0 2 (pc' := 2) (L' := [.ref 3, .int (0 : Int32)]) (S' := [.ref 3, .int (0 : Int32)]) (h' := h) rfl ?_
  refine Wp.getf (op_ix (by decide) ol_41 2 rfl) (okS HS 3 rfl rfl) (v := .int (AI h 3 1)) rfl rfl ?_
  refine Wp.blk (by decide) ol_41 3 1 (pc' := (if (0 : Int32) < (AI h 3 1) then 8 else 19)) (L' := [.ref 3, .int (0 : Int32)]) (S' := []) (h' := h) rfl ?_
  refine Wp.br (fun c1 => ?_) (fun c1 => ?_)
  · replace K := K.1 c1
    refine Wp.blk (by decide) ol_41 4 1 (pc' := 9) (L' := [.ref 3, .int (0 : Int32)]) (S' := [.ref 3]) (h' := h) rfl ?_
    refine Wp.getf (op_ix (by decide) ol_41 5 rfl) (okS HS 3 rfl rfl) (v := .ref 4) (congrArg va_rf (rS HS 3 0 rfl)) rfl ?_
    refine Wp.blk (by decide) ol_41 6 1 (pc' := 13) (L' := [.ref 3, .int (0 : Int32)]) (S' := [.int (0 : Int32), .ref 4]) (h' := h) rfl ?_
    refine Wp.callI (op_ix (by decide) ol_41 7 rfl) rfl rfl (sp_at (kS HS 4 rfl) (nS HS 4 rfl) ?_)
    refine ⟨_, rfl, ?_⟩
    refine Wp.blk (by decide) ol_41 8 1 (pc' := 20) (L' := [.ref 3, .int (0 : Int32)]) (S' := [.int (atv h 4 ((0 : Int32)))]) (h' := h) rfl ?_
    refine Wp.ret (op_ix (by decide) ol_41 10 rfl) rfl ⟨_, rfl, ?_⟩
    refine Wp.blk (by decide) ol_50 10 4 (pc' := 19) (L' := [.ref 3, .ref 5, .ref v2, .int (0 : Int32), .int (0 : Int32), .int (3 : Int32), mk0, mk0, mk0, mk0]) (S' := [.int (1 : Int32), .ref 3, .int (((atv h 4 ((0 : Int32)))) - ((97 : Int32))), .ref 5]) (h' := h) rfl ?_
    refine Wp.callI (op_ix (by decide) ol_50 14 rfl) (act_virt (c2 := 1) rfl (lk1 (kS HS 3 rfl)) rfl) rfl (Cl.enter (L := [.ref 3, .int (1 : Int32)]) rfl ?_)
    refine Wp.blk (by decide) ol_41 0 2 (pc' := 2) (L' := [.ref 3, .int (1 : Int32)]) (S' := [.ref 3, .int (1 : Int32)]) (h' := h) rfl ?_
    refine Wp.getf (op_ix (by decide) ol_41 2 rfl) (okS HS 3 rfl rfl) (v := .int (AI h 3 1)) rfl rfl ?_
    refine Wp.blk (by decide) ol_41 3 1 (pc' := (if (1 : Int32) < (AI h 3 1) then 8 else 19)) (L' := [.ref 3, .int (1 : Int32)]) (S' := []) (h' := h) rfl ?_
    refine Wp.br (fun c2 => ?_) (fun c2 => ?_)
    · replace K := K.1 c2
      refine Wp.blk (by decide) ol_41 4 1 (pc' := 9) (L' := [.ref 3, .int (1 : Int32)]) (S' := [.ref 3]) (h' := h) rfl ?_
      refine Wp.getf (op_ix (by decide) ol_41 5 rfl) (okS HS 3 rfl rfl) (v := .ref 4) (congrArg va_rf (rS HS 3 0 rfl)) rfl ?_
      refine Wp.blk (by decide) ol_41 6 1 (pc' := 13) (L' := [.ref 3, .int (1 : Int32)]) (S' := [.int (1 : Int32), .ref 4]) (h' := h) rfl ?_
      refine Wp.callI (op_ix (by decide) ol_41 7 rfl) rfl rfl (sp_at (kS HS 4 rfl) (nS HS 4 rfl) ?_)
      refine ⟨_, rfl, ?_⟩
      refine Wp.blk (by decide) ol_41 8 1 (pc' := 20) (L' := [.ref 3, .int (1 : Int32)]) (S' := [.int (atv h 4 ((1 : Int32)))]) (h' := h) rfl ?_
      refine Wp.ret (op_ix (by decide) ol_41 10 rfl) rfl ⟨_, rfl, ?_⟩
      refine Wp.blk (by decide) ol_50 15 2 (pc' := 25) (L' := [.ref 3, .ref 5, .ref v2, .int (0 : Int32), .int (0 : Int32), .int (3 : Int32), mk0, mk0, mk0, mk0]) (S' := [.int (((atv h 4 ((1 : Int32)))) - ((97 : Int32))), .int (((atv h 4 ((0 : Int32)))) - ((97 : Int32))), .ref 5]) (h' := h) rfl ?_
      refine Wp.callV (op_ix (by decide) ol_50 17 rfl) (act_virt (c2 := 2) rfl (lk1 (kS HS 5 rfl)) rfl) rfl (K.mono ?_)
      rintro _ h3 ⟨rfl, hs4, K⟩
      refine ⟨rfl, ?_⟩
      exact K
    · replace K := K.2 c2
      refine Wp.blk (by decide) ol_41 9 1 (pc' := 20) (L' := [.ref 3, .int (1 : Int32)]) (S' := [.int (0 : Int32)]) (h' := h) rfl ?_
      refine Wp.ret (op_ix (by decide) ol_41 10 rfl) rfl ⟨_, rfl, ?_⟩
      refine Wp.blk (by decide) ol_50 15 2 (pc' := 25) (L' := [.ref 3, .ref 5, .ref v2, .int (0 : Int32), .int (0 : Int32), .int (3 : Int32), mk0, mk0, mk0, mk0]) (S' := [.int (((0 : Int32)) - ((97 : Int32))), .int (((atv h 4 ((0 : Int32)))) - ((97 : Int32))), .ref 5]) (h' := h) rfl ?_
      refine Wp.callV (op_ix (by decide) ol_50 17 rfl) (act_virt (c2 := 2) rfl (lk1 (kS HS 5 rfl)) rfl) rfl (K.mono ?_)
      rintro _ h5 ⟨rfl, hs6, K⟩
      refine ⟨rfl, ?_⟩
      exact K
  · replace K := K.2 c1
    refine Wp.blk (by decide) ol_41 9 1 (pc' := 20) (L' := [.ref 3, .int (0 : Int32)]) (S' := [.int (0 : Int32)]) (h' := h) rfl ?_
    refine Wp.ret (op_ix (by decide) ol_41 10 rfl) rfl ⟨_, rfl, ?_⟩
    refine Wp.blk (by decide) ol_50 10 4 (pc' := 19) (L' := [.ref 3, .ref 5, .ref v2, .int (0 : Int32), .int (0 : Int32), .int (3 : Int32), mk0, mk0, mk0, mk0]) (S' := [.int (1 : Int32), .ref 3, .int (((0 : Int32)) - ((97 : Int32))), .ref 5]) (h' := h) rfl ?_
    refine Wp.callI (op_ix (by decide) ol_50 14 rfl) (act_virt (c2 := 1) rfl (lk1 (kS HS 3 rfl)) rfl) rfl (Cl.enter (L := [.ref 3, .int (1 : Int32)]) rfl ?_)
    refine Wp.blk (by decide) ol_41 0 2 (pc' := 2) (L' := [.ref 3, .int (1 : Int32)]) (S' := [.ref 3, .int (1 : Int32)]) (h' := h) rfl ?_
    refine Wp.getf (op_ix (by decide) ol_41 2 rfl) (okS HS 3 rfl rfl) (v := .int (AI h 3 1)) rfl rfl ?_
    refine Wp.blk (by decide) ol_41 3 1 (pc' := (if (1 : Int32) < (AI h 3 1) then 8 else 19)) (L' := [.ref 3, .int (1 : Int32)]) (S' := []) (h' := h) rfl ?_
    refine Wp.br (fun c7 => ?_) (fun c7 => ?_)
    · replace K := K.1 c7
      refine Wp.blk (by decide) ol_41 4 1 (pc' := 9) (L' := [.ref 3, .int (1 : Int32)]) (S' := [.ref 3]) (h' := h) rfl ?_
      refine Wp.getf (op_ix (by decide) ol_41 5 rfl) (okS HS 3 rfl rfl) (v := .ref 4) (congrArg va_rf (rS HS 3 0 rfl)) rfl ?_
      refine Wp.blk (by decide) ol_41 6 1 (pc' := 13) (L' := [.ref 3, .int (1 : Int32)]) (S' := [.int (1 : Int32), .ref 4]) (h' := h) rfl ?_
      refine Wp.callI (op_ix (by decide) ol_41 7 rfl) rfl rfl (sp_at (kS HS 4 rfl) (nS HS 4 rfl) ?_)
      refine ⟨_, rfl, ?_⟩
      refine Wp.blk (by decide) ol_41 8 1 (pc' := 20) (L' := [.ref 3, .int (1 : Int32)]) (S' := [.int (atv h 4 ((1 : Int32)))]) (h' := h) rfl ?_
      refine Wp.ret (op_ix (by decide) ol_41 10 rfl) rfl ⟨_, rfl, ?_⟩
      refine Wp.blk (by decide) ol_50 15 2 (pc' := 25) (L' := [.ref 3, .ref 5, .ref v2, .int (0 : Int32), .int (0 : Int32), .int (3 : Int32), mk0, mk0, mk0, mk0]) (S' := [.int (((atv h 4 ((1 : Int32)))) - ((97 : Int32))), .int (((0 : Int32)) - ((97 : Int32))), .ref 5]) (h' := h) rfl ?_
      refine Wp.callV (op_ix (by decide) ol_50 17 rfl) (act_virt (c2 := 2) rfl (lk1 (kS HS 5 rfl)) rfl) rfl (K.mono ?_)
      rintro _ h8 ⟨rfl, hs9, K⟩
      refine ⟨rfl, ?_⟩
      exact K
    · replace K := K.2 c7
      refine Wp.blk (by decide) ol_41 9 1 (pc' := 20) (L' := [.ref 3, .int (1 : Int32)]) (S' := [.int (0 : Int32)]) (h' := h) rfl ?_
      refine Wp.ret (op_ix (by decide) ol_41 10 rfl) rfl ⟨_, rfl, ?_⟩
      refine Wp.blk (by decide) ol_50 15 2 (pc' := 25) (L' := [.ref 3, .ref 5, .ref v2, .int (0 : Int32), .int (0 : Int32), .int (3 : Int32), mk0, mk0, mk0, mk0]) (S' := [.int (((0 : Int32)) - ((97 : Int32))), .int (((0 : Int32)) - ((97 : Int32))), .ref 5]) (h' := h) rfl ?_
      refine Wp.callV (op_ix (by decide) ol_50 17 rfl) (act_virt (c2 := 2) rfl (lk1 (kS HS 5 rfl)) rfl) rfl (K.mono ?_)
      rintro _ h10 ⟨rfl, hs11, K⟩
      refine ⟨rfl, ?_⟩
      exact K
/-- CutsOrFast$Page.readInto at 28 -/
theorem g50_28 (d : Nat) (v2 : Nat) (v3 : Int32) (v4 : Int32) (v5 : Int32) (h : AH) (HS : Sh h) (t2 : St3 v2) (Q : Option Value → AH → Prop) (K : ((v5 < (AI h 3 1) → (((AI h 5 5) < (9 : Int32) → (((v5 + ((1 : Int32))) < (AI h 3 1) → (((v5 + (2 : Int32)) < (AI h 3 1) → (((atv h 4 ((v5 + (2 : Int32)))) = (43 : Int32) → Wp (d + 2) 50 127 [.ref 3, .ref 5, .ref v2, .int (v3 ||| ((((1 : Int32)) <<< (((AI h 5 5)) &&& 31)))), .int v4, .int ((v5 + (2 : Int32)) + (1 : Int32)), mk0, .int (((atv h 4 v5)) - ((97 : Int32))), .int (((atv h 4 ((v5 + ((1 : Int32)))))) - ((97 : Int32))), .int (1 : Int32)] [] h Q) ∧ (¬ (atv h 4 ((v5 + (2 : Int32)))) = (43 : Int32) → (((atv h 4 ((v5 + (2 : Int32)))) = (45 : Int32) → Wp (d + 2) 50 127 [.ref 3, .ref 5, .ref v2, .int v3, .int (v4 ||| ((((1 : Int32)) <<< (((AI h 5 5)) &&& 31)))), .int ((v5 + (2 : Int32)) + (1 : Int32)), mk0, .int (((atv h 4 v5)) - ((97 : Int32))), .int (((atv h 4 ((v5 + ((1 : Int32)))))) - ((97 : Int32))), .int (1 : Int32)] [] h Q) ∧ (¬ (atv h 4 ((v5 + (2 : Int32)))) = (45 : Int32) → Wp (d + 2) 50 127 [.ref 3, .ref 5, .ref v2, .int v3, .int v4, .int (v5 + (2 : Int32)), mk0, .int (((atv h 4 v5)) - ((97 : Int32))), .int (((atv h 4 ((v5 + ((1 : Int32)))))) - ((97 : Int32))), .int (1 : Int32)] [] h Q))))) ∧ (¬ (v5 + (2 : Int32)) < (AI h 3 1) → Wp (d + 2) 50 127 [.ref 3, .ref 5, .ref v2, .int v3, .int v4, .int (v5 + (2 : Int32)), mk0, .int (((atv h 4 v5)) - ((97 : Int32))), .int (((atv h 4 ((v5 + ((1 : Int32)))))) - ((97 : Int32))), .int (1 : Int32)] [] h Q))) ∧ (¬ (v5 + ((1 : Int32))) < (AI h 3 1) → (((v5 + (2 : Int32)) < (AI h 3 1) → (((atv h 4 ((v5 + (2 : Int32)))) = (43 : Int32) → Wp (d + 2) 50 127 [.ref 3, .ref 5, .ref v2, .int (v3 ||| ((((1 : Int32)) <<< (((AI h 5 5)) &&& 31)))), .int v4, .int ((v5 + (2 : Int32)) + (1 : Int32)), mk0, .int (((atv h 4 v5)) - ((97 : Int32))), .int (((0 : Int32)) - ((97 : Int32))), .int (1 : Int32)] [] h Q) ∧ (¬ (atv h 4 ((v5 + (2 : Int32)))) = (43 : Int32) → (((atv h 4 ((v5 + (2 : Int32)))) = (45 : Int32) → Wp (d + 2) 50 127 [.ref 3, .ref 5, .ref v2, .int v3, .int (v4 ||| ((((1 : Int32)) <<< (((AI h 5 5)) &&& 31)))), .int ((v5 + (2 : Int32)) + (1 : Int32)), mk0, .int (((atv h 4 v5)) - ((97 : Int32))), .int (((0 : Int32)) - ((97 : Int32))), .int (1 : Int32)] [] h Q) ∧ (¬ (atv h 4 ((v5 + (2 : Int32)))) = (45 : Int32) → Wp (d + 2) 50 127 [.ref 3, .ref 5, .ref v2, .int v3, .int v4, .int (v5 + (2 : Int32)), mk0, .int (((atv h 4 v5)) - ((97 : Int32))), .int (((0 : Int32)) - ((97 : Int32))), .int (1 : Int32)] [] h Q))))) ∧ (¬ (v5 + (2 : Int32)) < (AI h 3 1) → Wp (d + 2) 50 127 [.ref 3, .ref 5, .ref v2, .int v3, .int v4, .int (v5 + (2 : Int32)), mk0, .int (((atv h 4 v5)) - ((97 : Int32))), .int (((0 : Int32)) - ((97 : Int32))), .int (1 : Int32)] [] h Q))))) ∧ (¬ (AI h 5 5) < (9 : Int32) → Q none (stI ((stI ((stI ((stI h v2 3 v3)) v2 4 v4)) v2 5 ((0 : Int32)))) v2 2 ((0 : Int32)))))) ∧ (¬ v5 < (AI h 3 1) → Q none (stI ((stI ((stI ((stI h v2 3 v3)) v2 4 v4)) v2 5 ((0 : Int32)))) v2 2 ((0 : Int32)))))) : Wp (d + 2) 50 28 [.ref 3, .ref 5, .ref v2, .int v3, .int v4, .int v5, mk0, mk0, mk0, mk0] [] h Q := by
  refine Wp.blk (by decide) ol_50 18 2 (pc' := 31) (L' := [.ref 3, .ref 5, .ref v2, .int v3, .int v4, .int v5, mk0, mk0, mk0, mk0]) (S' := [.ref 3, .int v5]) (h' := h) rfl ?_
  refine Wp.getf (op_ix (by decide) ol_50 20 rfl) (okS HS 3 rfl rfl) (v := .int (AI h 3 1)) rfl rfl ?_
  refine Wp.blk (by decide) ol_50 21 1 (pc' := (if v5 < (AI h 3 1) then 37 else 169)) (L' := [.ref 3, .ref 5, .ref v2, .int v3, .int v4, .int v5, mk0, mk0, mk0, mk0]) (S' := []) (h' := h) rfl ?_
  refine Wp.br (fun c1 => ?_) (fun c1 => ?_)
  · replace K := K.1 c1
    refine Wp.blk (by decide) ol_50 22 1 (pc' := 38) (L' := [.ref 3, .ref 5, .ref v2, .int v3, .int v4, .int v5, mk0, mk0, mk0, mk0]) (S' := [.ref 5]) (h' := h) rfl ?_
    refine Wp.callI (op_ix (by decide) ol_50 23 rfl) (act_virt (c2 := 0) rfl (lk1 (kS HS 5 rfl)) rfl) rfl (Cl.enter (L := [.ref 5]) rfl ?_)
    refine Wp.blk (by decide) ol_26 0 1 (pc' := 1) (L' := [.ref 5]) (S' := [.ref 5]) (h' := h) rfl ?_
    refine Wp.getf (op_ix (by decide) ol_26 1 rfl) (okS HS 5 rfl rfl) (v := .int (AI h 5 5)) rfl rfl ?_
    refine Wp.ret (op_ix (by decide) ol_26 2 rfl) rfl ⟨_, rfl, ?_⟩
    refine Wp.blk (by decide) ol_50 24 2 (pc' := (if (AI h 5 5) < (9 : Int32) then 46 else 169)) (L' := [.ref 3, .ref 5, .ref v2, .int v3, .int v4, .int v5, mk0, mk0, mk0, mk0]) (S' := []) (h' := h) rfl ?_
    refine Wp.br (fun c2 => ?_) (fun c2 => ?_)
    · replace K := K.1 c2
      refine Wp.blk (by decide) ol_50 26 2 (pc' := 48) (L' := [.ref 3, .ref 5, .ref v2, .int v3, .int v4, .int v5, mk0, mk0, mk0, mk0]) (S' := [.ref 5, .int (1 : Int32)]) (h' := h) rfl ?_
      refine Wp.callI (op_ix (by decide) ol_50 28 rfl) (act_virt (c2 := 0) rfl (lk1 (kS HS 5 rfl)) rfl) rfl (Cl.enter (L := [.ref 5]) rfl ?_)
      refine Wp.blk (by decide) ol_26 0 1 (pc' := 1) (L' := [.ref 5]) (S' := [.ref 5]) (h' := h) rfl ?_
      refine Wp.getf (op_ix (by decide) ol_26 1 rfl) (okS HS 5 rfl rfl) (v := .int (AI h 5 5)) rfl rfl ?_
      refine Wp.ret (op_ix (by decide) ol_26 2 rfl) rfl ⟨_, rfl, ?_⟩
      refine Wp.blk (by decide) ol_50 29 4 (pc' := 57) (L' := [.ref 3, .ref 5, .ref v2, .int v3, .int v4, .int v5, .int (((1 : Int32)) <<< (((AI h 5 5)) &&& 31)), mk0, mk0, mk0]) (S' := [.int v5, .ref 3]) (h' := h) rfl ?_
      refine Wp.callI (op_ix (by decide) ol_50 33 rfl) (act_virt (c2 := 1) rfl (lk1 (kS HS 3 rfl)) rfl) rfl (Cl.enter (L := [.ref 3, .int v5]) rfl ?_)
      refine Wp.blk (by decide) ol_41 0 2 (pc' := 2) (L' := [.ref 3, .int v5]) (S' := [.ref 3, .int v5]) (h' := h) rfl ?_
      refine Wp.getf (op_ix (by decide) ol_41 2 rfl) (okS HS 3 rfl rfl) (v := .int (AI h 3 1)) rfl rfl ?_
      refine Wp.blk (by decide) ol_41 3 1 (pc' := (if v5 < (AI h 3 1) then 8 else 19)) (L' := [.ref 3, .int v5]) (S' := []) (h' := h) rfl ?_
      refine Wp.br (fun _ => ?_) (fun hc => absurd c1 hc)
      refine Wp.blk (by decide) ol_41 4 1 (pc' := 9) (L' := [.ref 3, .int v5]) (S' := [.ref 3]) (h' := h) rfl ?_
      refine Wp.getf (op_ix (by decide) ol_41 5 rfl) (okS HS 3 rfl rfl) (v := .ref 4) (congrArg va_rf (rS HS 3 0 rfl)) rfl ?_
      refine Wp.blk (by decide) ol_41 6 1 (pc' := 13) (L' := [.ref 3, .int v5]) (S' := [.int v5, .ref 4]) (h' := h) rfl ?_
      refine Wp.callI (op_ix (by decide) ol_41 7 rfl) rfl rfl (sp_at (kS HS 4 rfl) (nS HS 4 rfl) ?_)
      refine ⟨_, rfl, ?_⟩
      refine Wp.blk (by decide) ol_41 8 1 (pc' := 20) (L' := [.ref 3, .int v5]) (S' := [.int (atv h 4 v5)]) (h' := h) rfl ?_
      refine Wp.ret (op_ix (by decide) ol_41 10 rfl) rfl ⟨_, rfl, ?_⟩
      refine Wp.blk (by decide) ol_50 34 7 (pc' := 70) (L' := [.ref 3, .ref 5, .ref v2, .int v3, .int v4, .int v5, .int (((1 : Int32)) <<< (((AI h 5 5)) &&& 31)), .int (((atv h 4 v5)) - ((97 : Int32))), mk0, mk0]) (S' := [.int (v5 + ((1 : Int32))), .ref 3]) (h' := h) rfl ?_
      refine Wp.callI (op_ix (by decide) ol_50 41 rfl) (act_virt (c2 := 1) rfl (lk1 (kS HS 3 rfl)) rfl) rfl (Cl.enter (L := [.ref 3, .int (v5 + ((1 : Int32)))]) rfl ?_)
      refine Wp.blk (by decide) ol_41 0 2 (pc' := 2) (L' := [.ref 3, .int (v5 + ((1 : Int32)))]) (S' := [.ref 3, .int (v5 + ((1 : Int32)))]) (h' := h) rfl ?_
      refine Wp.getf (op_ix (by decide) ol_41 2 rfl) (okS HS 3 rfl rfl) (v := .int (AI h 3 1)) rfl rfl ?_
      refine Wp.blk (by decide) ol_41 3 1 (pc' := (if (v5 + ((1 : Int32))) < (AI h 3 1) then 8 else 19)) (L' := [.ref 3, .int (v5 + ((1 : Int32)))]) (S' := []) (h' := h) rfl ?_
      refine Wp.br (fun c3 => ?_) (fun c3 => ?_)
      · replace K := K.1 c3
        refine Wp.blk (by decide) ol_41 4 1 (pc' := 9) (L' := [.ref 3, .int (v5 + ((1 : Int32)))]) (S' := [.ref 3]) (h' := h) rfl ?_
        refine Wp.getf (op_ix (by decide) ol_41 5 rfl) (okS HS 3 rfl rfl) (v := .ref 4) (congrArg va_rf (rS HS 3 0 rfl)) rfl ?_
        refine Wp.blk (by decide) ol_41 6 1 (pc' := 13) (L' := [.ref 3, .int (v5 + ((1 : Int32)))]) (S' := [.int (v5 + ((1 : Int32))), .ref 4]) (h' := h) rfl ?_
        refine Wp.callI (op_ix (by decide) ol_41 7 rfl) rfl rfl (sp_at (kS HS 4 rfl) (nS HS 4 rfl) ?_)
        refine ⟨_, rfl, ?_⟩
        refine Wp.blk (by decide) ol_41 8 1 (pc' := 20) (L' := [.ref 3, .int (v5 + ((1 : Int32)))]) (S' := [.int (atv h 4 ((v5 + ((1 : Int32)))))]) (h' := h) rfl ?_
        refine Wp.ret (op_ix (by decide) ol_41 10 rfl) rfl ⟨_, rfl, ?_⟩
        refine Wp.blk (by decide) ol_50 42 8 (pc' := 87) (L' := [.ref 3, .ref 5, .ref v2, .int v3, .int v4, .int (v5 + (2 : Int32)), .int (((1 : Int32)) <<< (((AI h 5 5)) &&& 31)), .int (((atv h 4 v5)) - ((97 : Int32))), .int (((atv h 4 ((v5 + ((1 : Int32)))))) - ((97 : Int32))), .int (1 : Int32)]) (S' := [.int (v5 + (2 : Int32)), .ref 3]) (h' := h) rfl ?_
        refine Wp.callI (op_ix (by decide) ol_50 50 rfl) (act_virt (c2 := 1) rfl (lk1 (kS HS 3 rfl)) rfl) rfl (Cl.enter (L := [.ref 3, .int (v5 + (2 : Int32))]) rfl ?_)
        refine Wp.blk (by decide) ol_41 0 2 (pc' := 2) (L' := [.ref 3, .int (v5 + (2 : Int32))]) (S' := [.ref 3, .int (v5 + (2 : Int32))]) (h' := h) rfl ?_
        refine Wp.getf (op_ix (by decide) ol_41 2 rfl) (okS HS 3 rfl rfl) (v := .int (AI h 3 1)) rfl rfl ?_
        refine Wp.blk (by decide) ol_41 3 1 (pc' := (if (v5 + (2 : Int32)) < (AI h 3 1) then 8 else 19)) (L' := [.ref 3, .int (v5 + (2 : Int32))]) (S' := []) (h' := h) rfl ?_
        refine Wp.br (fun c4 => ?_) (fun c4 => ?_)
        · replace K := K.1 c4
          refine Wp.blk (by decide) ol_41 4 1 (pc' := 9) (L' := [.ref 3, .int (v5 + (2 : Int32))]) (S' := [.ref 3]) (h' := h) rfl ?_
          refine Wp.getf (op_ix (by decide) ol_41 5 rfl) (okS HS 3 rfl rfl) (v := .ref 4) (congrArg va_rf (rS HS 3 0 rfl)) rfl ?_
          refine Wp.blk (by decide) ol_41 6 1 (pc' := 13) (L' := [.ref 3, .int (v5 + (2 : Int32))]) (S' := [.int (v5 + (2 : Int32)), .ref 4]) (h' := h) rfl ?_
          refine Wp.callI (op_ix (by decide) ol_41 7 rfl) rfl rfl (sp_at (kS HS 4 rfl) (nS HS 4 rfl) ?_)
          refine ⟨_, rfl, ?_⟩
          refine Wp.blk (by decide) ol_41 8 1 (pc' := 20) (L' := [.ref 3, .int (v5 + (2 : Int32))]) (S' := [.int (atv h 4 ((v5 + (2 : Int32))))]) (h' := h) rfl ?_
          refine Wp.ret (op_ix (by decide) ol_41 10 rfl) rfl ⟨_, rfl, ?_⟩
          refine Wp.blk (by decide) ol_50 51 2 (pc' := (if (atv h 4 ((v5 + (2 : Int32)))) = (43 : Int32) then 95 else 106)) (L' := [.ref 3, .ref 5, .ref v2, .int v3, .int v4, .int (v5 + (2 : Int32)), .int (((1 : Int32)) <<< (((AI h 5 5)) &&& 31)), .int (((atv h 4 v5)) - ((97 : Int32))), .int (((atv h 4 ((v5 + ((1 : Int32)))))) - ((97 : Int32))), .int (1 : Int32)]) (S' := []) (h' := h) rfl ?_
          refine Wp.br (fun c5 => ?_) (fun c5 => ?_)
          · replace K := K.1 c5
            refine Wp.blk (by decide) ol_50 53 6 (pc' := 127) (L' := [.ref 3, .ref 5, .ref v2, .int (v3 ||| ((((1 : Int32)) <<< (((AI h 5 5)) &&& 31)))), .int v4, .int ((v5 + (2 : Int32)) + (1 : Int32)), .int (((1 : Int32)) <<< (((AI h 5 5)) &&& 31)), .int (((atv h 4 v5)) - ((97 : Int32))), .int (((atv h 4 ((v5 + ((1 : Int32)))))) - ((97 : Int32))), .int (1 : Int32)]) (S' := []) (h' := h) rfl ?_
            refine Wp.forget (L := [.ref 3, .ref 5, .ref v2, .int (v3 ||| ((((1 : Int32)) <<< (((AI h 5 5)) &&& 31)))), .int v4, .int ((v5 + (2 : Int32)) + (1 : Int32)), mk0, .int (((atv h 4 v5)) - ((97 : Int32))), .int (((atv h 4 ((v5 + ((1 : Int32)))))) - ((97 : Int32))), .int (1 : Int32)]) (⟨Or.inr rfl, ⟨Or.inr rfl, ⟨Or.inr rfl, ⟨Or.inr rfl, ⟨Or.inr rfl, ⟨Or.inr rfl, ⟨Or.inl rfl, ⟨Or.inr rfl, ⟨Or.inr rfl, ⟨Or.inr rfl, trivial⟩⟩⟩⟩⟩⟩⟩⟩⟩⟩) ?_
            exact K
          · replace K := K.2 c5
            refine Wp.blk (by decide) ol_50 59 2 (pc' := 109) (L' := [.ref 3, .ref 5, .ref v2, .int v3, .int v4, .int (v5 + (2 : Int32)), .int (((1 : Int32)) <<< (((AI h 5 5)) &&& 31)), .int (((atv h 4 v5)) - ((97 : Int32))), .int (((atv h 4 ((v5 + ((1 : Int32)))))) - ((97 : Int32))), .int (1 : Int32)]) (S' := [.int (v5 + (2 : Int32)), .ref 3]) (h' := h) rfl ?_
            refine Wp.callI (op_ix (by decide) ol_50 61 rfl) (act_virt (c2 := 1) rfl (lk1 (kS HS 3 rfl)) rfl) rfl (Cl.enter (L := [.ref 3, .int (v5 + (2 : Int32))]) rfl ?_)
            refine Wp.blk (by decide) ol_41 0 2 (pc' := 2) (L' := [.ref 3, .int (v5 + (2 : Int32))]) (S' := [.ref 3, .int (v5 + (2 : Int32))]) (h' := h) rfl ?_
            refine Wp.getf (op_ix (by decide) ol_41 2 rfl) (okS HS 3 rfl rfl) (v := .int (AI h 3 1)) rfl rfl ?_
            refine Wp.blk (by decide) ol_41 3 1 (pc' := (if (v5 + (2 : Int32)) < (AI h 3 1) then 8 else 19)) (L' := [.ref 3, .int (v5 + (2 : Int32))]) (S' := []) (h' := h) rfl ?_
            refine Wp.br (fun _ => ?_) (fun hc => absurd c4 hc)
            refine Wp.blk (by decide) ol_41 4 1 (pc' := 9) (L' := [.ref 3, .int (v5 + (2 : Int32))]) (S' := [.ref 3]) (h' := h) rfl ?_
            refine Wp.getf (op_ix (by decide) ol_41 5 rfl) (okS HS 3 rfl rfl) (v := .ref 4) (congrArg va_rf (rS HS 3 0 rfl)) rfl ?_
            refine Wp.blk (by decide) ol_41 6 1 (pc' := 13) (L' := [.ref 3, .int (v5 + (2 : Int32))]) (S' := [.int (v5 + (2 : Int32)), .ref 4]) (h' := h) rfl ?_
            refine Wp.callI (op_ix (by decide) ol_41 7 rfl) rfl rfl (sp_at (kS HS 4 rfl) (nS HS 4 rfl) ?_)
            refine ⟨_, rfl, ?_⟩
            refine Wp.blk (by decide) ol_41 8 1 (pc' := 20) (L' := [.ref 3, .int (v5 + (2 : Int32))]) (S' := [.int (atv h 4 ((v5 + (2 : Int32))))]) (h' := h) rfl ?_
            refine Wp.ret (op_ix (by decide) ol_41 10 rfl) rfl ⟨_, rfl, ?_⟩
            refine Wp.blk (by decide) ol_50 62 2 (pc' := (if (atv h 4 ((v5 + (2 : Int32)))) = (45 : Int32) then 117 else 127)) (L' := [.ref 3, .ref 5, .ref v2, .int v3, .int v4, .int (v5 + (2 : Int32)), .int (((1 : Int32)) <<< (((AI h 5 5)) &&& 31)), .int (((atv h 4 v5)) - ((97 : Int32))), .int (((atv h 4 ((v5 + ((1 : Int32)))))) - ((97 : Int32))), .int (1 : Int32)]) (S' := []) (h' := h) rfl ?_
            refine Wp.br (fun c6 => ?_) (fun c6 => ?_)
            · replace K := K.1 c6
              refine Wp.blk (by decide) ol_50 64 5 (pc' := 127) (L' := [.ref 3, .ref 5, .ref v2, .int v3, .int (v4 ||| ((((1 : Int32)) <<< (((AI h 5 5)) &&& 31)))), .int ((v5 + (2 : Int32)) + (1 : Int32)), .int (((1 : Int32)) <<< (((AI h 5 5)) &&& 31)), .int (((atv h 4 v5)) - ((97 : Int32))), .int (((atv h 4 ((v5 + ((1 : Int32)))))) - ((97 : Int32))), .int (1 : Int32)]) (S' := []) (h' := h) rfl ?_
              refine Wp.forget (L := [.ref 3, .ref 5, .ref v2, .int v3, .int (v4 ||| ((((1 : Int32)) <<< (((AI h 5 5)) &&& 31)))), .int ((v5 + (2 : Int32)) + (1 : Int32)), mk0, .int (((atv h 4 v5)) - ((97 : Int32))), .int (((atv h 4 ((v5 + ((1 : Int32)))))) - ((97 : Int32))), .int (1 : Int32)]) (⟨Or.inr rfl, ⟨Or.inr rfl, ⟨Or.inr rfl, ⟨Or.inr rfl, ⟨Or.inr rfl, ⟨Or.inr rfl, ⟨Or.inl rfl, ⟨Or.inr rfl, ⟨Or.inr rfl, ⟨Or.inr rfl, trivial⟩⟩⟩⟩⟩⟩⟩⟩⟩⟩) ?_
              exact K
            · replace K := K.2 c6
              refine Wp.forget (L := [.ref 3, .ref 5, .ref v2, .int v3, .int v4, .int (v5 + (2 : Int32)), mk0, .int (((atv h 4 v5)) - ((97 : Int32))), .int (((atv h 4 ((v5 + ((1 : Int32)))))) - ((97 : Int32))), .int (1 : Int32)]) (⟨Or.inr rfl, ⟨Or.inr rfl, ⟨Or.inr rfl, ⟨Or.inr rfl, ⟨Or.inr rfl, ⟨Or.inr rfl, ⟨Or.inl rfl, ⟨Or.inr rfl, ⟨Or.inr rfl, ⟨Or.inr rfl, trivial⟩⟩⟩⟩⟩⟩⟩⟩⟩⟩) ?_
              exact K
        · replace K := K.2 c4
          refine Wp.blk (by decide) ol_41 9 1 (pc' := 20) (L' := [.ref 3, .int (v5 + (2 : Int32))]) (S' := [.int (0 : Int32)]) (h' := h) rfl ?_
          refine Wp.ret (op_ix (by decide) ol_41 10 rfl) rfl ⟨_, rfl, ?_⟩
          refine Wp.blk (by decide) ol_50 51 2 (pc' := (if (0 : Int32) = (43 : Int32) then 95 else 106)) (L' := [.ref 3, .ref 5, .ref v2, .int v3, .int v4, .int (v5 + (2 : Int32)), .int (((1 : Int32)) <<< (((AI h 5 5)) &&& 31)), .int (((atv h 4 v5)) - ((97 : Int32))), .int (((atv h 4 ((v5 + ((1 : Int32)))))) - ((97 : Int32))), .int (1 : Int32)]) (S' := []) (h' := h) rfl ?_
          refine Wp.br (fun hc => absurd hc (by decide)) (fun _ => ?_)
          refine Wp.blk (by decide) ol_50 59 2 (pc' := 109) (L' := [.ref 3, .ref 5, .ref v2, .int v3, .int v4, .int (v5 + (2 : Int32)), .int (((1 : Int32)) <<< (((AI h 5 5)) &&& 31)), .int (((atv h 4 v5)) - ((97 : Int32))), .int (((atv h 4 ((v5 + ((1 : Int32)))))) - ((97 : Int32))), .int (1 : Int32)]) (S' := [.int (v5 + (2 : Int32)), .ref 3]) (h' := h) rfl ?_
          refine Wp.callI (op_ix (by decide) ol_50 61 rfl) (act_virt (c2 := 1) rfl (lk1 (kS HS 3 rfl)) rfl) rfl (Cl.enter (L := [.ref 3, .int (v5 + (2 : Int32))]) rfl ?_)
          refine Wp.blk (by decide) ol_41 0 2 (pc' := 2) (L' := [.ref 3, .int (v5 + (2 : Int32))]) (S' := [.ref 3, .int (v5 + (2 : Int32))]) (h' := h) rfl ?_
          refine Wp.getf (op_ix (by decide) ol_41 2 rfl) (okS HS 3 rfl rfl) (v := .int (AI h 3 1)) rfl rfl ?_
          refine Wp.blk (by decide) ol_41 3 1 (pc' := (if (v5 + (2 : Int32)) < (AI h 3 1) then 8 else 19)) (L' := [.ref 3, .int (v5 + (2 : Int32))]) (S' := []) (h' := h) rfl ?_
          refine Wp.br (fun hc => absurd hc c4) (fun _ => ?_)
          refine Wp.blk (by decide) ol_41 9 1 (pc' := 20) (L' := [.ref 3, .int (v5 + (2 : Int32))]) (S' := [.int (0 : Int32)]) (h' := h) rfl ?_
          refine Wp.ret (op_ix (by decide) ol_41 10 rfl) rfl ⟨_, rfl, ?_⟩
          refine Wp.blk (by decide) ol_50 62 2 (pc' := (if (0 : Int32) = (45 : Int32) then 117 else 127)) (L' := [.ref 3, .ref 5, .ref v2, .int v3, .int v4, .int (v5 + (2 : Int32)), .int (((1 : Int32)) <<< (((AI h 5 5)) &&& 31)), .int (((atv h 4 v5)) - ((97 : Int32))), .int (((atv h 4 ((v5 + ((1 : Int32)))))) - ((97 : Int32))), .int (1 : Int32)]) (S' := []) (h' := h) rfl ?_
          refine Wp.br (fun hc => absurd hc (by decide)) (fun _ => ?_)
          refine Wp.forget (L := [.ref 3, .ref 5, .ref v2, .int v3, .int v4, .int (v5 + (2 : Int32)), mk0, .int (((atv h 4 v5)) - ((97 : Int32))), .int (((atv h 4 ((v5 + ((1 : Int32)))))) - ((97 : Int32))), .int (1 : Int32)]) (⟨Or.inr rfl, ⟨Or.inr rfl, ⟨Or.inr rfl, ⟨Or.inr rfl, ⟨Or.inr rfl, ⟨Or.inr rfl, ⟨Or.inl rfl, ⟨Or.inr rfl, ⟨Or.inr rfl, ⟨Or.inr rfl, trivial⟩⟩⟩⟩⟩⟩⟩⟩⟩⟩) ?_
          exact K
      · replace K := K.2 c3
        refine Wp.blk (by decide) ol_41 9 1 (pc' := 20) (L' := [.ref 3, .int (v5 + ((1 : Int32)))]) (S' := [.int (0 : Int32)]) (h' := h) rfl ?_
        refine Wp.ret (op_ix (by decide) ol_41 10 rfl) rfl ⟨_, rfl, ?_⟩
        refine Wp.blk (by decide) ol_50 42 8 (pc' := 87) (L' := [.ref 3, .ref 5, .ref v2, .int v3, .int v4, .int (v5 + (2 : Int32)), .int (((1 : Int32)) <<< (((AI h 5 5)) &&& 31)), .int (((atv h 4 v5)) - ((97 : Int32))), .int (((0 : Int32)) - ((97 : Int32))), .int (1 : Int32)]) (S' := [.int (v5 + (2 : Int32)), .ref 3]) (h' := h) rfl ?_
        refine Wp.callI (op_ix (by decide) ol_50 50 rfl) (act_virt (c2 := 1) rfl (lk1 (kS HS 3 rfl)) rfl) rfl (Cl.enter (L := [.ref 3, .int (v5 + (2 : Int32))]) rfl ?_)
        refine Wp.blk (by decide) ol_41 0 2 (pc' := 2) (L' := [.ref 3, .int (v5 + (2 : Int32))]) (S' := [.ref 3, .int (v5 + (2 : Int32))]) (h' := h) rfl ?_
        refine Wp.getf (op_ix (by decide) ol_41 2 rfl) (okS HS 3 rfl rfl) (v := .int (AI h 3 1)) rfl rfl ?_
        refine Wp.blk (by decide) ol_41 3 1 (pc' := (if (v5 + (2 : Int32)) < (AI h 3 1) then 8 else 19)) (L' := [.ref 3, .int (v5 + (2 : Int32))]) (S' := []) (h' := h) rfl ?_
        refine Wp.br (fun c7 => ?_) (fun c7 => ?_)
        · replace K := K.1 c7
          refine Wp.blk (by decide) ol_41 4 1 (pc' := 9) (L' := [.ref 3, .int (v5 + (2 : Int32))]) (S' := [.ref 3]) (h' := h) rfl ?_
          refine Wp.getf (op_ix (by decide) ol_41 5 rfl) (okS HS 3 rfl rfl) (v := .ref 4) (congrArg va_rf (rS HS 3 0 rfl)) rfl ?_
          refine Wp.blk (by decide) ol_41 6 1 (pc' := 13) (L' := [.ref 3, .int (v5 + (2 : Int32))]) (S' := [.int (v5 + (2 : Int32)), .ref 4]) (h' := h) rfl ?_
          refine Wp.callI (op_ix (by decide) ol_41 7 rfl) rfl rfl (sp_at (kS HS 4 rfl) (nS HS 4 rfl) ?_)
          refine ⟨_, rfl, ?_⟩
          refine Wp.blk (by decide) ol_41 8 1 (pc' := 20) (L' := [.ref 3, .int (v5 + (2 : Int32))]) (S' := [.int (atv h 4 ((v5 + (2 : Int32))))]) (h' := h) rfl ?_
          refine Wp.ret (op_ix (by decide) ol_41 10 rfl) rfl ⟨_, rfl, ?_⟩
          refine Wp.blk (by decide) ol_50 51 2 (pc' := (if (atv h 4 ((v5 + (2 : Int32)))) = (43 : Int32) then 95 else 106)) (L' := [.ref 3, .ref 5, .ref v2, .int v3, .int v4, .int (v5 + (2 : Int32)), .int (((1 : Int32)) <<< (((AI h 5 5)) &&& 31)), .int (((atv h 4 v5)) - ((97 : Int32))), .int (((0 : Int32)) - ((97 : Int32))), .int (1 : Int32)]) (S' := []) (h' := h) rfl ?_
          refine Wp.br (fun c8 => ?_) (fun c8 => ?_)
          · replace K := K.1 c8
            refine Wp.blk (by decide) ol_50 53 6 (pc' := 127) (L' := [.ref 3, .ref 5, .ref v2, .int (v3 ||| ((((1 : Int32)) <<< (((AI h 5 5)) &&& 31)))), .int v4, .int ((v5 + (2 : Int32)) + (1 : Int32)), .int (((1 : Int32)) <<< (((AI h 5 5)) &&& 31)), .int (((atv h 4 v5)) - ((97 : Int32))), .int (((0 : Int32)) - ((97 : Int32))), .int (1 : Int32)]) (S' := []) (h' := h) rfl ?_
            refine Wp.forget (L := [.ref 3, .ref 5, .ref v2, .int (v3 ||| ((((1 : Int32)) <<< (((AI h 5 5)) &&& 31)))), .int v4, .int ((v5 + (2 : Int32)) + (1 : Int32)), mk0, .int (((atv h 4 v5)) - ((97 : Int32))), .int (((0 : Int32)) - ((97 : Int32))), .int (1 : Int32)]) (⟨Or.inr rfl, ⟨Or.inr rfl, ⟨Or.inr rfl, ⟨Or.inr rfl, ⟨Or.inr rfl, ⟨Or.inr rfl, ⟨Or.inl rfl, ⟨Or.inr rfl, ⟨Or.inr rfl, ⟨Or.inr rfl, trivial⟩⟩⟩⟩⟩⟩⟩⟩⟩⟩) ?_
            exact K
          · replace K := K.2 c8
            refine Wp.blk (by decide) ol_50 59 2 (pc' := 109) (L' := [.ref 3, .ref 5, .ref v2, .int v3, .int v4, .int (v5 + (2 : Int32)), .int (((1 : Int32)) <<< (((AI h 5 5)) &&& 31)), .int (((atv h 4 v5)) - ((97 : Int32))), .int (((0 : Int32)) - ((97 : Int32))), .int (1 : Int32)]) (S' := [.int (v5 + (2 : Int32)), .ref 3]) (h' := h) rfl ?_
            refine Wp.callI (op_ix (by decide) ol_50 61 rfl) (act_virt (c2 := 1) rfl (lk1 (kS HS 3 rfl)) rfl) rfl (Cl.enter (L := [.ref 3, .int (v5 + (2 : Int32))]) rfl ?_)
            refine Wp.blk (by decide) ol_41 0 2 (pc' := 2) (L' := [.ref 3, .int (v5 + (2 : Int32))]) (S' := [.ref 3, .int (v5 + (2 : Int32))]) (h' := h) rfl ?_
            refine Wp.getf (op_ix (by decide) ol_41 2 rfl) (okS HS 3 rfl rfl) (v := .int (AI h 3 1)) rfl rfl ?_
            refine Wp.blk (by decide) ol_41 3 1 (pc' := (if (v5 + (2 : Int32)) < (AI h 3 1) then 8 else 19)) (L' := [.ref 3, .int (v5 + (2 : Int32))]) (S' := []) (h' := h) rfl ?_
            refine Wp.br (fun _ => ?_) (fun hc => absurd c7 hc)
            refine Wp.blk (by decide) ol_41 4 1 (pc' := 9) (L' := [.ref 3, .int (v5 + (2 : Int32))]) (S' := [.ref 3]) (h' := h) rfl ?_
            refine Wp.getf (op_ix (by decide) ol_41 5 rfl) (okS HS 3 rfl rfl) (v := .ref 4) (congrArg va_rf (rS HS 3 0 rfl)) rfl ?_
            refine Wp.blk (by decide) ol_41 6 1 (pc' := 13) (L' := [.ref 3, .int (v5 + (2 : Int32))]) (S' := [.int (v5 + (2 : Int32)), .ref 4]) (h' := h) rfl ?_
            refine Wp.callI (op_ix (by decide) ol_41 7 rfl) rfl rfl (sp_at (kS HS 4 rfl) (nS HS 4 rfl) ?_)
            refine ⟨_, rfl, ?_⟩
            refine Wp.blk (by decide) ol_41 8 1 (pc' := 20) (L' := [.ref 3, .int (v5 + (2 : Int32))]) (S' := [.int (atv h 4 ((v5 + (2 : Int32))))]) (h' := h) rfl ?_
            refine Wp.ret (op_ix (by decide) ol_41 10 rfl) rfl ⟨_, rfl, ?_⟩
            refine Wp.blk (by decide) ol_50 62 2 (pc' := (if (atv h 4 ((v5 + (2 : Int32)))) = (45 : Int32) then 117 else 127)) (L' := [.ref 3, .ref 5, .ref v2, .int v3, .int v4, .int (v5 + (2 : Int32)), .int (((1 : Int32)) <<< (((AI h 5 5)) &&& 31)), .int (((atv h 4 v5)) - ((97 : Int32))), .int (((0 : Int32)) - ((97 : Int32))), .int (1 : Int32)]) (S' := []) (h' := h) rfl ?_
            refine Wp.br (fun c9 => ?_) (fun c9 => ?_)
            · replace K := K.1 c9
              refine Wp.blk (by decide) ol_50 64 5 (pc' := 127) (L' := [.ref 3, .ref 5, .ref v2, .int v3, .int (v4 ||| ((((1 : Int32)) <<< (((AI h 5 5)) &&& 31)))), .int ((v5 + (2 : Int32)) + (1 : Int32)), .int (((1 : Int32)) <<< (((AI h 5 5)) &&& 31)), .int (((atv h 4 v5)) - ((97 : Int32))), .int (((0 : Int32)) - ((97 : Int32))), .int (1 : Int32)]) (S' := []) (h' := h) rfl ?_
              refine Wp.forget (L := [.ref 3, .ref 5, .ref v2, .int v3, .int (v4 ||| ((((1 : Int32)) <<< (((AI h 5 5)) &&& 31)))), .int ((v5 + (2 : Int32)) + (1 : Int32)), mk0, .int (((atv h 4 v5)) - ((97 : Int32))), .int (((0 : Int32)) - ((97 : Int32))), .int (1 : Int32)]) (⟨Or.inr rfl, ⟨Or.inr rfl, ⟨Or.inr rfl, ⟨Or.inr rfl, ⟨Or.inr rfl, ⟨Or.inr rfl, ⟨Or.inl rfl, ⟨Or.inr rfl, ⟨Or.inr rfl, ⟨Or.inr rfl, trivial⟩⟩⟩⟩⟩⟩⟩⟩⟩⟩) ?_
              exact K
            · replace K := K.2 c9
              refine Wp.forget (L := [.ref 3, .ref 5, .ref v2, .int v3, .int v4, .int (v5 + (2 : Int32)), mk0, .int (((atv h 4 v5)) - ((97 : Int32))), .int (((0 : Int32)) - ((97 : Int32))), .int (1 : Int32)]) (⟨Or.inr rfl, ⟨Or.inr rfl, ⟨Or.inr rfl, ⟨Or.inr rfl, ⟨Or.inr rfl, ⟨Or.inr rfl, ⟨Or.inl rfl, ⟨Or.inr rfl, ⟨Or.inr rfl, ⟨Or.inr rfl, trivial⟩⟩⟩⟩⟩⟩⟩⟩⟩⟩) ?_
              exact K
        · replace K := K.2 c7
          refine Wp.blk (by decide) ol_41 9 1 (pc' := 20) (L' := [.ref 3, .int (v5 + (2 : Int32))]) (S' := [.int (0 : Int32)]) (h' := h) rfl ?_
          refine Wp.ret (op_ix (by decide) ol_41 10 rfl) rfl ⟨_, rfl, ?_⟩
          refine Wp.blk (by decide) ol_50 51 2 (pc' := (if (0 : Int32) = (43 : Int32) then 95 else 106)) (L' := [.ref 3, .ref 5, .ref v2, .int v3, .int v4, .int (v5 + (2 : Int32)), .int (((1 : Int32)) <<< (((AI h 5 5)) &&& 31)), .int (((atv h 4 v5)) - ((97 : Int32))), .int (((0 : Int32)) - ((97 : Int32))), .int (1 : Int32)]) (S' := []) (h' := h) rfl ?_
          refine Wp.br (fun hc => absurd hc (by decide)) (fun _ => ?_)
          refine Wp.blk (by decide) ol_50 59 2 (pc' := 109) (L' := [.ref 3, .ref 5, .ref v2, .int v3, .int v4, .int (v5 + (2 : Int32)), .int (((1 : Int32)) <<< (((AI h 5 5)) &&& 31)), .int (((atv h 4 v5)) - ((97 : Int32))), .int (((0 : Int32)) - ((97 : Int32))), .int (1 : Int32)]) (S' := [.int (v5 + (2 : Int32)), .ref 3]) (h' := h) rfl ?_
          refine Wp.callI (op_ix (by decide) ol_50 61 rfl) (act_virt (c2 := 1) rfl (lk1 (kS HS 3 rfl)) rfl) rfl (Cl.enter (L := [.ref 3, .int (v5 + (2 : Int32))]) rfl ?_)
          refine Wp.blk (by decide) ol_41 0 2 (pc' := 2) (L' := [.ref 3, .int (v5 + (2 : Int32))]) (S' := [.ref 3, .int (v5 + (2 : Int32))]) (h' := h) rfl ?_
          refine Wp.getf (op_ix (by decide) ol_41 2 rfl) (okS HS 3 rfl rfl) (v := .int (AI h 3 1)) rfl rfl ?_
          refine Wp.blk (by decide) ol_41 3 1 (pc' := (if (v5 + (2 : Int32)) < (AI h 3 1) then 8 else 19)) (L' := [.ref 3, .int (v5 + (2 : Int32))]) (S' := []) (h' := h) rfl ?_
          refine Wp.br (fun hc => absurd hc c7) (fun _ => ?_)
          refine Wp.blk (by decide) ol_41 9 1 (pc' := 20) (L' := [.ref 3, .int (v5 + (2 : Int32))]) (S' := [.int (0 : Int32)]) (h' := h) rfl ?_
          refine Wp.ret (op_ix (by decide) ol_41 10 rfl) rfl ⟨_, rfl, ?_⟩
          refine Wp.blk (by decide) ol_50 62 2 (pc' := (if (0 : Int32) = (45 : Int32) then 117 else 127)) (L' := [.ref 3, .ref 5, .ref v2, .int v3, .int v4, .int (v5 + (2 : Int32)), .int (((1 : Int32)) <<< (((AI h 5 5)) &&& 31)), .int (((atv h 4 v5)) - ((97 : Int32))), .int (((0 : Int32)) - ((97 : Int32))), .int (1 : Int32)]) (S' := []) (h' := h) rfl ?_
          refine Wp.br (fun hc => absurd hc (by decide)) (fun _ => ?_)
          refine Wp.forget (L := [.ref 3, .ref 5, .ref v2, .int v3, .int v4, .int (v5 + (2 : Int32)), mk0, .int (((atv h 4 v5)) - ((97 : Int32))), .int (((0 : Int32)) - ((97 : Int32))), .int (1 : Int32)]) (⟨Or.inr rfl, ⟨Or.inr rfl, ⟨Or.inr rfl, ⟨Or.inr rfl, ⟨Or.inr rfl, ⟨Or.inr rfl, ⟨Or.inl rfl, ⟨Or.inr rfl, ⟨Or.inr rfl, ⟨Or.inr rfl, trivial⟩⟩⟩⟩⟩⟩⟩⟩⟩⟩) ?_
          exact K
    · replace K := K.2 c2
      refine Wp.blk (by decide) ol_50 88 3 (pc' := 173) (L' := [.ref 3, .ref 5, .ref v2, .int v3, .int v4, .int v5, mk0, mk0, mk0, mk0]) (S' := [.int v4, .int v3, .ref v2]) (h' := h) rfl ?_
      refine Wp.callV (op_ix (by decide) ol_50 91 rfl) (act_virt (c2 := 2) rfl (lk1 (kT HS t2)) rfl) rfl (Cl.enter (L := [.ref v2, .int v3, .int v4]) rfl ?_)
      refine Wp.blk (by decide) ol_72 0 2 (pc' := 2) (L' := [.ref v2, .int v3, .int v4]) (S' := [.int v3, .ref v2]) (h' := h) rfl ?_
      refine Wp.putf (op_ix (by decide) ol_72 2 rfl) (twoT t2) (okT HS t2) (h' := (stI h v2 3 v3)) rfl rfl ?_
      refine Wp.blk (by decide) ol_72 3 2 (pc' := 7) (L' := [.ref v2, .int v3, .int v4]) (S' := [.int v4, .ref v2]) (h' := (stI h v2 3 v3)) rfl ?_
      refine Wp.putf (op_ix (by decide) ol_72 5 rfl) (twoT t2) (okT HS t2) (h' := (stI ((stI h v2 3 v3)) v2 4 v4)) rfl rfl ?_
      refine Wp.blk (by decide) ol_72 6 2 (pc' := 12) (L' := [.ref v2, .int v3, .int v4]) (S' := [.int (0 : Int32), .ref v2]) (h' := (stI ((stI h v2 3 v3)) v2 4 v4)) rfl ?_
      refine Wp.putf (op_ix (by decide) ol_72 8 rfl) (twoT t2) (okT HS t2) (h' := (stI ((stI ((stI h v2 3 v3)) v2 4 v4)) v2 5 ((0 : Int32)))) rfl rfl ?_
      refine Wp.blk (by decide) ol_72 9 2 (pc' := 17) (L' := [.ref v2, .int v3, .int v4]) (S' := [.int (0 : Int32), .ref v2]) (h' := (stI ((stI ((stI h v2 3 v3)) v2 4 v4)) v2 5 ((0 : Int32)))) rfl ?_
      refine Wp.putf (op_ix (by decide) ol_72 11 rfl) (twoT t2) (okT HS t2) (h' := (stI ((stI ((stI ((stI h v2 3 v3)) v2 4 v4)) v2 5 ((0 : Int32)))) v2 2 ((0 : Int32)))) rfl rfl ?_
      refine Wp.ret (op_ix (by decide) ol_72 12 rfl) rfl ⟨rfl, ?_⟩
      exact Wp.ret (op_ix (by decide) ol_50 92 rfl) rfl K
  · replace K := K.2 c1
    refine Wp.blk (by decide) ol_50 88 3 (pc' := 173) (L' := [.ref 3, .ref 5, .ref v2, .int v3, .int v4, .int v5, mk0, mk0, mk0, mk0]) (S' := [.int v4, .int v3, .ref v2]) (h' := h) rfl ?_
    refine Wp.callV (op_ix (by decide) ol_50 91 rfl) (act_virt (c2 := 2) rfl (lk1 (kT HS t2)) rfl) rfl (Cl.enter (L := [.ref v2, .int v3, .int v4]) rfl ?_)
    refine Wp.blk (by decide) ol_72 0 2 (pc' := 2) (L' := [.ref v2, .int v3, .int v4]) (S' := [.int v3, .ref v2]) (h' := h) rfl ?_
    refine Wp.putf (op_ix (by decide) ol_72 2 rfl) (twoT t2) (okT HS t2) (h' := (stI h v2 3 v3)) rfl rfl ?_
    refine Wp.blk (by decide) ol_72 3 2 (pc' := 7) (L' := [.ref v2, .int v3, .int v4]) (S' := [.int v4, .ref v2]) (h' := (stI h v2 3 v3)) rfl ?_
    refine Wp.putf (op_ix (by decide) ol_72 5 rfl) (twoT t2) (okT HS t2) (h' := (stI ((stI h v2 3 v3)) v2 4 v4)) rfl rfl ?_
    refine Wp.blk (by decide) ol_72 6 2 (pc' := 12) (L' := [.ref v2, .int v3, .int v4]) (S' := [.int (0 : Int32), .ref v2]) (h' := (stI ((stI h v2 3 v3)) v2 4 v4)) rfl ?_
    refine Wp.putf (op_ix (by decide) ol_72 8 rfl) (twoT t2) (okT HS t2) (h' := (stI ((stI ((stI h v2 3 v3)) v2 4 v4)) v2 5 ((0 : Int32)))) rfl rfl ?_
    refine Wp.blk (by decide) ol_72 9 2 (pc' := 17) (L' := [.ref v2, .int v3, .int v4]) (S' := [.int (0 : Int32), .ref v2]) (h' := (stI ((stI ((stI h v2 3 v3)) v2 4 v4)) v2 5 ((0 : Int32)))) rfl ?_
    refine Wp.putf (op_ix (by decide) ol_72 11 rfl) (twoT t2) (okT HS t2) (h' := (stI ((stI ((stI ((stI h v2 3 v3)) v2 4 v4)) v2 5 ((0 : Int32)))) v2 2 ((0 : Int32)))) rfl rfl ?_
    refine Wp.ret (op_ix (by decide) ol_72 12 rfl) rfl ⟨rfl, ?_⟩
    exact Wp.ret (op_ix (by decide) ol_50 92 rfl) rfl K
/-- CutsOrFast$Page.readInto at 127 -/
theorem g50_127 (d : Nat) (v2 : Nat) (v3 : Int32) (v4 : Int32) (v5 : Int32) (v7 : Int32) (v8 : Int32) (v9 : Int32) (h : AH) (HS : Sh h) (t2 : St3 v2) (Q : Option Value → AH → Prop) (K : ((v5 < (AI h 3 1) → (((atv h 4 v5) < (49 : Int32) → (Cl (d + 1) 22 [.ref 5, .int v7, .int v8, .int v9] h (fun r h3 => r = none ∧ Sh h3 ∧ Wp (d + 2) 50 28 [.ref 3, .ref 5, .ref v2, .int v3, .int v4, .int (v5 + (1 : Int32)), mk0, mk0, mk0, mk0] [] h3 Q))) ∧ (¬ (atv h 4 v5) < (49 : Int32) → (((57 : Int32) < (atv h 4 v5) → (Cl (d + 1) 22 [.ref 5, .int v7, .int v8, .int v9] h (fun r h6 => r = none ∧ Sh h6 ∧ Wp (d + 2) 50 28 [.ref 3, .ref 5, .ref v2, .int v3, .int v4, .int (v5 + (1 : Int32)), mk0, mk0, mk0, mk0] [] h6 Q))) ∧ (¬ (57 : Int32) < (atv h 4 v5) → (Cl (d + 1) 22 [.ref 5, .int v7, .int v8, .int (((atv h 4 v5)) - ((48 : Int32)))] h (fun r h8 => r = none ∧ Sh h8 ∧ Wp (d + 2) 50 28 [.ref 3, .ref 5, .ref v2, .int v3, .int v4, .int ((v5 + (1 : Int32)) + (1 : Int32)), mk0, mk0, mk0, mk0] [] h8 Q))))))) ∧ (¬ v5 < (AI h 3 1) → (Cl (d + 1) 22 [.ref 5, .int v7, .int v8, .int v9] h (fun r h10 => r = none ∧ Sh h10 ∧ Wp (d + 2) 50 28 [.ref 3, .ref 5, .ref v2, .int v3, .int v4, .int (v5 + (1 : Int32)), mk0, mk0, mk0, mk0] [] h10 Q))))) : Wp (d + 2) 50 127 [.ref 3, .ref 5, .ref v2, .int v3, .int v4, .int v5, mk0, .int v7, .int v8, .int v9] [] h Q := by
  refine Wp.blk (by decide) ol_50 69 2 (pc' := 130) (L' := [.ref 3, .ref 5, .ref v2, .int v3, .int v4, .int v5, mk0, .int v7, .int v8, .int v9]) (S' := [.int v5, .ref 3]) (h' := h) rfl ?_
  refine Wp.callI (op_ix (by decide) ol_50 71 rfl) (act_virt (c2 := 1) rfl (lk1 (kS HS 3 rfl)) rfl) rfl (Cl.enter (L := [.ref 3, .int v5]) rfl ?_)
  refine Wp.blk (by decide) ol_41 0 2 (pc' := 2) (L' := [.ref 3, .int v5]) (S' := [.ref 3, .int v5]) (h' := h) rfl ?_
  refine Wp.getf (op_ix (by decide) ol_41 2 rfl) (okS HS 3 rfl rfl) (v := .int (AI h 3 1)) rfl rfl ?_
  refine Wp.blk (by decide) ol_41 3 1 (pc' := (if v5 < (AI h 3 1) then 8 else 19)) (L' := [.ref 3, .int v5]) (S' := []) (h' := h) rfl ?_
  refine Wp.br (fun c1 => ?_) (fun c1 => ?_)
  · replace K := K.1 c1
    refine Wp.blk (by decide) ol_41 4 1 (pc' := 9) (L' := [.ref 3, .int v5]) (S' := [.ref 3]) (h' := h) rfl ?_
    refine Wp.getf (op_ix (by decide) ol_41 5 rfl) (okS HS 3 rfl rfl) (v := .ref 4) (congrArg va_rf (rS HS 3 0 rfl)) rfl ?_
    refine Wp.blk (by decide) ol_41 6 1 (pc' := 13) (L' := [.ref 3, .int v5]) (S' := [.int v5, .ref 4]) (h' := h) rfl ?_
    refine Wp.callI (op_ix (by decide) ol_41 7 rfl) rfl rfl (sp_at (kS HS 4 rfl) (nS HS 4 rfl) ?_)
    refine ⟨_, rfl, ?_⟩
    refine Wp.blk (by decide) ol_41 8 1 (pc' := 20) (L' := [.ref 3, .int v5]) (S' := [.int (atv h 4 v5)]) (h' := h) rfl ?_
    refine Wp.ret (op_ix (by decide) ol_41 10 rfl) rfl ⟨_, rfl, ?_⟩
    refine Wp.callI (op_ix (by decide) ol_50 72 rfl) rfl rfl (Cl.enter (L := [.int (atv h 4 v5)]) rfl ?_)
    refine Wp.blk (by decide) ol_49 0 3 (pc' := (if (atv h 4 v5) < (49 : Int32) then 16 else 6)) (L' := [.int (atv h 4 v5)]) (S' := []) (h' := h) rfl ?_
    refine Wp.br (fun c2 => ?_) (fun c2 => ?_)
    · replace K := K.1 c2
      refine Wp.blk (by decide) ol_49 8 1 (pc' := 17) (L' := [.int (atv h 4 v5)]) (S' := [.int (0 : Int32)]) (h' := h) rfl ?_
      refine Wp.ret (op_ix (by decide) ol_49 9 rfl) rfl ⟨_, rfl, ?_⟩
      refine Wp.blk (by decide) ol_50 73 1 (pc' := (if (0 : Int32) = (0 : Int32) then 153 else 139)) (L' := [.ref 3, .ref 5, .ref v2, .int v3, .int v4, .int v5, mk0, .int v7, .int v8, .int v9]) (S' := []) (h' := h) rfl ?_
      refine Wp.br (fun _ => ?_) (fun hc => absurd (by decide) hc)
      refine Wp.blk (by decide) ol_50 81 4 (pc' := 160) (L' := [.ref 3, .ref 5, .ref v2, .int v3, .int v4, .int v5, mk0, .int v7, .int v8, .int v9]) (S' := [.int v9, .int v8, .int v7, .ref 5]) (h' := h) rfl ?_
      refine Wp.callV (op_ix (by decide) ol_50 85 rfl) (act_virt (c2 := 3) rfl (lk1 (kS HS 5 rfl)) rfl) rfl (K.mono ?_)
      rintro _ h3 ⟨rfl, hs4, K⟩
      refine ⟨rfl, ?_⟩
      refine Wp.blk (by decide) ol_50 86 2 (pc' := 28) (L' := [.ref 3, .ref 5, .ref v2, .int v3, .int v4, .int (v5 + (1 : Int32)), mk0, .int v7, .int v8, .int v9]) (S' := []) (h' := h3) rfl ?_
      refine Wp.forget (L := [.ref 3, .ref 5, .ref v2, .int v3, .int v4, .int (v5 + (1 : Int32)), mk0, mk0, mk0, mk0]) (⟨Or.inr rfl, ⟨Or.inr rfl, ⟨Or.inr rfl, ⟨Or.inr rfl, ⟨Or.inr rfl, ⟨Or.inr rfl, ⟨Or.inr rfl, ⟨Or.inl rfl, ⟨Or.inl rfl, ⟨Or.inl rfl, trivial⟩⟩⟩⟩⟩⟩⟩⟩⟩⟩) ?_
      exact K
    · replace K := K.2 c2
      refine Wp.blk (by decide) ol_49 3 3 (pc' := (if (57 : Int32) < (atv h 4 v5) then 16 else 12)) (L' := [.int (atv h 4 v5)]) (S' := []) (h' := h) rfl ?_
      refine Wp.br (fun c5 => ?_) (fun c5 => ?_)
      · replace K := K.1 c5
        refine Wp.blk (by decide) ol_49 8 1 (pc' := 17) (L' := [.int (atv h 4 v5)]) (S' := [.int (0 : Int32)]) (h' := h) rfl ?_
        refine Wp.ret (op_ix (by decide) ol_49 9 rfl) rfl ⟨_, rfl, ?_⟩
        refine Wp.blk (by decide) ol_50 73 1 (pc' := (if (0 : Int32) = (0 : Int32) then 153 else 139)) (L' := [.ref 3, .ref 5, .ref v2, .int v3, .int v4, .int v5, mk0, .int v7, .int v8, .int v9]) (S' := []) (h' := h) rfl ?_
        refine Wp.br (fun _ => ?_) (fun hc => absurd (by decide) hc)
        refine Wp.blk (by decide) ol_50 81 4 (pc' := 160) (L' := [.ref 3, .ref 5, .ref v2, .int v3, .int v4, .int v5, mk0, .int v7, .int v8, .int v9]) (S' := [.int v9, .int v8, .int v7, .ref 5]) (h' := h) rfl ?_
        refine Wp.callV (op_ix (by decide) ol_50 85 rfl) (act_virt (c2 := 3) rfl (lk1 (kS HS 5 rfl)) rfl) rfl (K.mono ?_)
        rintro _ h6 ⟨rfl, hs7, K⟩
        refine ⟨rfl, ?_⟩
        refine Wp.blk (by decide) ol_50 86 2 (pc' := 28) (L' := [.ref 3, .ref 5, .ref v2, .int v3, .int v4, .int (v5 + (1 : Int32)), mk0, .int v7, .int v8, .int v9]) (S' := []) (h' := h6) rfl ?_
        refine Wp.forget (L := [.ref 3, .ref 5, .ref v2, .int v3, .int v4, .int (v5 + (1 : Int32)), mk0, mk0, mk0, mk0]) (⟨Or.inr rfl, ⟨Or.inr rfl, ⟨Or.inr rfl, ⟨Or.inr rfl, ⟨Or.inr rfl, ⟨Or.inr rfl, ⟨Or.inr rfl, ⟨Or.inl rfl, ⟨Or.inl rfl, ⟨Or.inl rfl, trivial⟩⟩⟩⟩⟩⟩⟩⟩⟩⟩) ?_
        exact K
      · replace K := K.2 c5
        refine Wp.blk (by decide) ol_49 6 2 (pc' := 17) (L' := [.int (atv h 4 v5)]) (S' := [.int (1 : Int32)]) (h' := h) rfl ?_
        refine Wp.ret (op_ix (by decide) ol_49 9 rfl) rfl ⟨_, rfl, ?_⟩
        refine Wp.blk (by decide) ol_50 73 1 (pc' := (if (1 : Int32) = (0 : Int32) then 153 else 139)) (L' := [.ref 3, .ref 5, .ref v2, .int v3, .int v4, .int v5, mk0, .int v7, .int v8, .int v9]) (S' := []) (h' := h) rfl ?_
        refine Wp.br (fun hc => absurd hc (by decide)) (fun _ => ?_)
        refine Wp.blk (by decide) ol_50 74 2 (pc' := 142) (L' := [.ref 3, .ref 5, .ref v2, .int v3, .int v4, .int v5, mk0, .int v7, .int v8, .int v9]) (S' := [.int v5, .ref 3]) (h' := h) rfl ?_
        refine Wp.callI (op_ix (by decide) ol_50 76 rfl) (act_virt (c2 := 1) rfl (lk1 (kS HS 3 rfl)) rfl) rfl (Cl.enter (L := [.ref 3, .int v5]) rfl ?_)
        refine Wp.blk (by decide) ol_41 0 2 (pc' := 2) (L' := [.ref 3, .int v5]) (S' := [.ref 3, .int v5]) (h' := h) rfl ?_
        refine Wp.getf (op_ix (by decide) ol_41 2 rfl) (okS HS 3 rfl rfl) (v := .int (AI h 3 1)) rfl rfl ?_
        refine Wp.blk (by decide) ol_41 3 1 (pc' := (if v5 < (AI h 3 1) then 8 else 19)) (L' := [.ref 3, .int v5]) (S' := []) (h' := h) rfl ?_
        refine Wp.br (fun _ => ?_) (fun hc => absurd c1 hc)
        refine Wp.blk (by decide) ol_41 4 1 (pc' := 9) (L' := [.ref 3, .int v5]) (S' := [.ref 3]) (h' := h) rfl ?_
        refine Wp.getf (op_ix (by decide) ol_41 5 rfl) (okS HS 3 rfl rfl) (v := .ref 4) (congrArg va_rf (rS HS 3 0 rfl)) rfl ?_
        refine Wp.blk (by decide) ol_41 6 1 (pc' := 13) (L' := [.ref 3, .int v5]) (S' := [.int v5, .ref 4]) (h' := h) rfl ?_
        refine Wp.callI (op_ix (by decide) ol_41 7 rfl) rfl rfl (sp_at (kS HS 4 rfl) (nS HS 4 rfl) ?_)
        refine ⟨_, rfl, ?_⟩
        refine Wp.blk (by decide) ol_41 8 1 (pc' := 20) (L' := [.ref 3, .int v5]) (S' := [.int (atv h 4 v5)]) (h' := h) rfl ?_
        refine Wp.ret (op_ix (by decide) ol_41 10 rfl) rfl ⟨_, rfl, ?_⟩
        refine Wp.blk (by decide) ol_50 77 8 (pc' := 160) (L' := [.ref 3, .ref 5, .ref v2, .int v3, .int v4, .int (v5 + (1 : Int32)), mk0, .int v7, .int v8, .int (((atv h 4 v5)) - ((48 : Int32)))]) (S' := [.int (((atv h 4 v5)) - ((48 : Int32))), .int v8, .int v7, .ref 5]) (h' := h) rfl ?_
        refine Wp.callV (op_ix (by decide) ol_50 85 rfl) (act_virt (c2 := 3) rfl (lk1 (kS HS 5 rfl)) rfl) rfl (K.mono ?_)
        rintro _ h8 ⟨rfl, hs9, K⟩
        refine ⟨rfl, ?_⟩
        refine Wp.blk (by decide) ol_50 86 2 (pc' := 28) (L' := [.ref 3, .ref 5, .ref v2, .int v3, .int v4, .int ((v5 + (1 : Int32)) + (1 : Int32)), mk0, .int v7, .int v8, .int (((atv h 4 v5)) - ((48 : Int32)))]) (S' := []) (h' := h8) rfl ?_
        refine Wp.forget (L := [.ref 3, .ref 5, .ref v2, .int v3, .int v4, .int ((v5 + (1 : Int32)) + (1 : Int32)), mk0, mk0, mk0, mk0]) (⟨Or.inr rfl, ⟨Or.inr rfl, ⟨Or.inr rfl, ⟨Or.inr rfl, ⟨Or.inr rfl, ⟨Or.inr rfl, ⟨Or.inr rfl, ⟨Or.inl rfl, ⟨Or.inl rfl, ⟨Or.inl rfl, trivial⟩⟩⟩⟩⟩⟩⟩⟩⟩⟩) ?_
        exact K
  · replace K := K.2 c1
    refine Wp.blk (by decide) ol_41 9 1 (pc' := 20) (L' := [.ref 3, .int v5]) (S' := [.int (0 : Int32)]) (h' := h) rfl ?_
    refine Wp.ret (op_ix (by decide) ol_41 10 rfl) rfl ⟨_, rfl, ?_⟩
    refine Wp.callI (op_ix (by decide) ol_50 72 rfl) rfl rfl (Cl.enter (L := [.int (0 : Int32)]) rfl ?_)
    refine Wp.blk (by decide) ol_49 0 3 (pc' := (if (0 : Int32) < (49 : Int32) then 16 else 6)) (L' := [.int (0 : Int32)]) (S' := []) (h' := h) rfl ?_
    refine Wp.br (fun _ => ?_) (fun hc => absurd (by decide) hc)
    refine Wp.blk (by decide) ol_49 8 1 (pc' := 17) (L' := [.int (0 : Int32)]) (S' := [.int (0 : Int32)]) (h' := h) rfl ?_
    refine Wp.ret (op_ix (by decide) ol_49 9 rfl) rfl ⟨_, rfl, ?_⟩
    refine Wp.blk (by decide) ol_50 73 1 (pc' := (if (0 : Int32) = (0 : Int32) then 153 else 139)) (L' := [.ref 3, .ref 5, .ref v2, .int v3, .int v4, .int v5, mk0, .int v7, .int v8, .int v9]) (S' := []) (h' := h) rfl ?_
    refine Wp.br (fun _ => ?_) (fun hc => absurd (by decide) hc)
    refine Wp.blk (by decide) ol_50 81 4 (pc' := 160) (L' := [.ref 3, .ref 5, .ref v2, .int v3, .int v4, .int v5, mk0, .int v7, .int v8, .int v9]) (S' := [.int v9, .int v8, .int v7, .ref 5]) (h' := h) rfl ?_
    refine Wp.callV (op_ix (by decide) ol_50 85 rfl) (act_virt (c2 := 3) rfl (lk1 (kS HS 5 rfl)) rfl) rfl (K.mono ?_)
    rintro _ h10 ⟨rfl, hs11, K⟩
    refine ⟨rfl, ?_⟩
    refine Wp.blk (by decide) ol_50 86 2 (pc' := 28) (L' := [.ref 3, .ref 5, .ref v2, .int v3, .int v4, .int (v5 + (1 : Int32)), mk0, .int v7, .int v8, .int v9]) (S' := []) (h' := h10) rfl ?_
    refine Wp.forget (L := [.ref 3, .ref 5, .ref v2, .int v3, .int v4, .int (v5 + (1 : Int32)), mk0, mk0, mk0, mk0]) (⟨Or.inr rfl, ⟨Or.inr rfl, ⟨Or.inr rfl, ⟨Or.inr rfl, ⟨Or.inr rfl, ⟨Or.inr rfl, ⟨Or.inr rfl, ⟨Or.inl rfl, ⟨Or.inl rfl, ⟨Or.inl rfl, trivial⟩⟩⟩⟩⟩⟩⟩⟩⟩⟩) ?_
    exact K
/-- CutsOrFast$Search.<init> at 0 (LCutsOrFast$Net;)V -/
theorem g54_0 (d : Nat) (v0 : Nat) (v1 : Nat) (h : AH)  (Q : Option Value → AH → Prop) (K : (∀ n1, n1 = (NX h) → ∀ h2, h2 = (newO h 20 1024) → (okC 8 (AK h2 v0).1 = true ∧ 2 ≤ v0 ∧ (∀ n7, n7 = (NX ((stR h2 v0 1 (some n1)))) → ∀ h8, h8 = (newO ((stR h2 v0 1 (some n1))) 21 3691) → (okC 8 (AK h8 v0).1 = true ∧ (∀ n12, n12 = (NX ((stR h8 v0 2 (some n7)))) → ∀ h13, h13 = (newO ((stR h8 v0 2 (some n7))) 21 19683) → (okC 8 (AK h13 v0).1 = true ∧ Wp d 54 45 [.ref v0, mk0, .int (1 : Int32), .int (0 : Int32), mk0, mk0] [] (stR ((stI ((stR h13 v0 3 (some n12))) v0 4 ((-1 : Int32)))) v0 0 (some v1)) Q))))))) : Wp d 54 0 [.ref v0, .ref v1, mk0, mk0, mk0, mk0] [] h Q := by
  refine Wp.blk (by decide) ol_54 0 4 (pc' := 8) (L' := [.ref v0, .ref v1, mk0, mk0, mk0, mk0]) (S' := [.int (1024 : Int32), .ref v0]) (h' := h) rfl ?_
  refine Wp.blk (by decide) ol_54 4 1 (pc' := 10) (L' := [.ref v0, .ref v1, mk0, mk0, mk0, mk0]) (S' := [.ref (NX h), .ref v0]) (h' := (newO h 20 1024)) rfl ?_
  obtain ⟨n1, e3⟩ : ∃ x, x = (NX h) := ⟨_, rfl⟩
  obtain ⟨h2, e4⟩ : ∃ x, x = (newO h 20 1024) := ⟨_, rfl⟩
  rw [← e4, ← e3]
  replace K := K n1 e3 h2 e4
  obtain ⟨k5, K⟩ := K
  obtain ⟨b6, K⟩ := K
  refine Wp.putf (op_ix (by decide) ol_54 5 rfl) b6 k5 (h' := (stR h2 v0 1 (some n1))) rfl rfl ?_
  refine Wp.blk (by decide) ol_54 6 2 (pc' := 17) (L' := [.ref v0, .ref v1, mk0, mk0, mk0, mk0]) (S' := [.int (3691 : Int32), .ref v0]) (h' := (stR h2 v0 1 (some n1))) rfl ?_
  refine Wp.blk (by decide) ol_54 8 1 (pc' := 19) (L' := [.ref v0, .ref v1, mk0, mk0, mk0, mk0]) (S' := [.ref (NX ((stR h2 v0 1 (some n1)))), .ref v0]) (h' := (newO ((stR h2 v0 1 (some n1))) 21 3691)) rfl ?_
  obtain ⟨n7, e9⟩ : ∃ x, x = (NX ((stR h2 v0 1 (some n1)))) := ⟨_, rfl⟩
  obtain ⟨h8, e10⟩ : ∃ x, x = (newO ((stR h2 v0 1 (some n1))) 21 3691) := ⟨_, rfl⟩
  rw [← e10, ← e9]
  replace K := K n7 e9 h8 e10
  obtain ⟨k11, K⟩ := K
  refine Wp.putf (op_ix (by decide) ol_54 9 rfl) b6 k11 (h' := (stR h8 v0 2 (some n7))) rfl rfl ?_
  refine Wp.blk (by decide) ol_54 10 2 (pc' := 26) (L' := [.ref v0, .ref v1, mk0, mk0, mk0, mk0]) (S' := [.int (19683 : Int32), .ref v0]) (h' := (stR h8 v0 2 (some n7))) rfl ?_
  refine Wp.blk (by decide) ol_54 12 1 (pc' := 28) (L' := [.ref v0, .ref v1, mk0, mk0, mk0, mk0]) (S' := [.ref (NX ((stR h8 v0 2 (some n7)))), .ref v0]) (h' := (newO ((stR h8 v0 2 (some n7))) 21 19683)) rfl ?_
  obtain ⟨n12, e14⟩ : ∃ x, x = (NX ((stR h8 v0 2 (some n7)))) := ⟨_, rfl⟩
  obtain ⟨h13, e15⟩ : ∃ x, x = (newO ((stR h8 v0 2 (some n7))) 21 19683) := ⟨_, rfl⟩
  rw [← e15, ← e14]
  replace K := K n12 e14 h13 e15
  obtain ⟨k16, K⟩ := K
  refine Wp.putf (op_ix (by decide) ol_54 13 rfl) b6 k16 (h' := (stR h13 v0 3 (some n12))) rfl rfl ?_
  refine Wp.blk (by decide) ol_54 14 2 (pc' := 33) (L' := [.ref v0, .ref v1, mk0, mk0, mk0, mk0]) (S' := [.int (-1 : Int32), .ref v0]) (h' := (stR h13 v0 3 (some n12))) rfl ?_
  refine Wp.putf (op_ix (by decide) ol_54 16 rfl) b6 k16 (h' := (stI ((stR h13 v0 3 (some n12))) v0 4 ((-1 : Int32)))) rfl rfl ?_
  refine Wp.blk (by decide) ol_54 17 2 (pc' := 38) (L' := [.ref v0, .ref v1, mk0, mk0, mk0, mk0]) (S' := [.ref v1, .ref v0]) (h' := (stI ((stR h13 v0 3 (some n12))) v0 4 ((-1 : Int32)))) rfl ?_
  refine Wp.putf (op_ix (by decide) ol_54 19 rfl) b6 k16 (h' := (stR ((stI ((stR h13 v0 3 (some n12))) v0 4 ((-1 : Int32)))) v0 0 (some v1))) rfl rfl ?_
  refine Wp.blk (by decide) ol_54 20 4 (pc' := 45) (L' := [.ref v0, .ref v1, .int (1 : Int32), .int (0 : Int32), mk0, mk0]) (S' := []) (h' := (stR ((stI ((stR h13 v0 3 (some n12))) v0 4 ((-1 : Int32)))) v0 0 (some v1))) rfl ?_
  refine Wp.forget (L := [.ref v0, mk0, .int (1 : Int32), .int (0 : Int32), mk0, mk0]) (⟨Or.inr rfl, ⟨Or.inl rfl, ⟨Or.inr rfl, ⟨Or.inr rfl, ⟨Or.inr rfl, ⟨Or.inr rfl, trivial⟩⟩⟩⟩⟩⟩) ?_
  exact K
/-- CutsOrFast$Search.<init> at 45 -/
theorem g54_45 (d : Nat) (v0 : Nat) (v2 : Int32) (v3 : Int32) (h : AH)  (Q : Option Value → AH → Prop) (K : (((9 : Int32) < v3 → Q none h) ∧ (¬ (9 : Int32) < v3 → Wp d 54 59 [.ref v0, mk0, .int v2, .int v3, .int (((1 : Int32)) <<< (v3 &&& 31)), .int (0 : Int32)] [] h Q))) : Wp d 54 45 [.ref v0, mk0, .int v2, .int v3, mk0, mk0] [] h Q := by
  refine Wp.blk (by decide) ol_54 24 3 (pc' := (if (9 : Int32) < v3 then 105 else 51)) (L' := [.ref v0, mk0, .int v2, .int v3, mk0, mk0]) (S' := []) (h' := h) rfl ?_
  refine Wp.br (fun c1 => ?_) (fun c1 => ?_)
  · replace K := K.1 c1
    exact Wp.ret (op_ix (by decide) ol_54 56 rfl) rfl K
  · replace K := K.2 c1
    refine Wp.blk (by decide) ol_54 27 6 (pc' := 59) (L' := [.ref v0, mk0, .int v2, .int v3, .int (((1 : Int32)) <<< (v3 &&& 31)), .int (0 : Int32)]) (S' := []) (h' := h) rfl ?_
    exact K
/-- CutsOrFast$Search.<init> at 59 -/
theorem g54_59 (d : Nat) (v0 : Nat) (v2 : Int32) (v3 : Int32) (v4 : Int32) (v5 : Int32) (h : AH)  (Q : Option Value → AH → Prop) (K : ((v5 < v4 → (okC 8 (AK h v0).1 = true ∧ ∃ i3 : Nat, AR h v0 1 = some i3 ∧ ∃ i5 : Nat, AR h v0 1 = some i5 ∧ (AK h i5).1 = 20 ∧ (AK h i5).2 < 2147483648 ∧ (AK h i3).1 = 20 ∧ (AK h i3).2 < 2147483648 ∧ 2 ≤ i3 ∧ (∀ h12, h12 = (putv h i3 ((v5 ||| v4)) ((((atv h i5 v5)) + v2))) → Wp (d + 1) 54 59 [.ref v0, mk0, .int v2, .int v3, .int v4, .int (v5 + (1 : Int32))] [] h12 Q))) ∧ (¬ v5 < v4 → Wp (d + 1) 54 45 [.ref v0, mk0, .int (v2 * ((3 : Int32))), .int (v3 + (1 : Int32)), mk0, mk0] [] h Q))) : Wp (d + 1) 54 59 [.ref v0, mk0, .int v2, .int v3, .int v4, .int v5] [] h Q := by
  refine Wp.blk (by decide) ol_54 33 3 (pc' := (if v5 < v4 then 66 else 95)) (L' := [.ref v0, mk0, .int v2, .int v3, .int v4, .int v5]) (S' := []) (h' := h) rfl ?_
  refine Wp.br (fun c1 => ?_) (fun c1 => ?_)
  · replace K := K.1 c1
    refine Wp.blk (by decide) ol_54 36 1 (pc' := 67) (L' := [.ref v0, mk0, .int v2, .int v3, .int v4, .int v5]) (S' := [.ref v0]) (h' := h) rfl ?_
    obtain ⟨k2, K⟩ := K
    obtain ⟨i3, q4, K⟩ := K
    refine Wp.getf (op_ix (by decide) ol_54 37 rfl) k2 (v := .ref i3) (congrArg va_rf q4) rfl ?_
    refine Wp.blk (by decide) ol_54 38 4 (pc' := 76) (L' := [.ref v0, mk0, .int v2, .int v3, .int v4, .int v5]) (S' := [.ref v0, .int (v5 ||| v4), .ref i3]) (h' := h) rfl ?_
    obtain ⟨i5, q6, K⟩ := K
    refine Wp.getf (op_ix (by decide) ol_54 42 rfl) k2 (v := .ref i5) (congrArg va_rf q6) rfl ?_
    refine Wp.blk (by decide) ol_54 43 1 (pc' := 81) (L' := [.ref v0, mk0, .int v2, .int v3, .int v4, .int v5]) (S' := [.int v5, .ref i5, .int (v5 ||| v4), .ref i3]) (h' := h) rfl ?_
    obtain ⟨k7, K⟩ := K
    obtain ⟨l8, K⟩ := K
    refine Wp.callI (op_ix (by decide) ol_54 44 rfl) rfl rfl (sp_at k7 l8 ?_)
    refine ⟨_, rfl, ?_⟩
    refine Wp.blk (by decide) ol_54 45 2 (pc' := 86) (L' := [.ref v0, mk0, .int v2, .int v3, .int v4, .int v5]) (S' := [.int (((atv h i5 v5)) + v2), .int (v5 ||| v4), .ref i3]) (h' := h) rfl ?_
    obtain ⟨k9, K⟩ := K
    obtain ⟨l10, K⟩ := K
    obtain ⟨b11, K⟩ := K
    refine Wp.callV (op_ix (by decide) ol_54 47 rfl) rfl rfl (sp_put k9 l10 b11 ?_)
    refine ⟨rfl, ?_⟩
    obtain ⟨h12, e13⟩ : ∃ y, y = (putv h i3 ((v5 ||| v4)) ((((atv h i5 v5)) + v2))) := ⟨_, rfl⟩
    rw [← e13]
    replace K := K h12 e13
    refine Wp.blk (by decide) ol_54 48 2 (pc' := 59) (L' := [.ref v0, mk0, .int v2, .int v3, .int v4, .int (v5 + (1 : Int32))]) (S' := []) (h' := h12) rfl ?_
    exact K
  · replace K := K.2 c1
    refine Wp.blk (by decide) ol_54 50 6 (pc' := 45) (L' := [.ref v0, mk0, .int (v2 * ((3 : Int32))), .int (v3 + (1 : Int32)), .int v4, .int v5]) (S' := []) (h' := h) rfl ?_
    refine Wp.forget (L := [.ref v0, mk0, .int (v2 * ((3 : Int32))), .int (v3 + (1 : Int32)), mk0, mk0]) (⟨Or.inr rfl, ⟨Or.inr rfl, ⟨Or.inr rfl, ⟨Or.inr rfl, ⟨Or.inl rfl, ⟨Or.inl rfl, trivial⟩⟩⟩⟩⟩⟩) ?_
    exact K
/-- CutsOrFast$Search.forget at 0 ()V -/
theorem g55_0 (d : Nat)  (h : AH) (HS : Sh h)  (Q : Option Value → AH → Prop) (K : (Cl d 56 [.ref 19] h (fun r h1 => r = none ∧ Sh h1 ∧ Q none (stI h1 17 4 ((-1 : Int32)))))) : Wp (d + 1) 55 0 [.ref 17] [] h Q := by
  refine Wp.blk (by decide) ol_55 0 1 (pc' := 1) (L' := [.ref 17]) (S' := [.ref 17]) (h' := h) rfl ?_
  refine Wp.getf (op_ix (by decide) ol_55 1 rfl) (okS HS 17 rfl rfl) (v := .ref 19) (congrArg va_rf (rS HS 17 2 rfl)) rfl ?_
  refine Wp.callV (op_ix (by decide) ol_55 2 rfl) rfl rfl (K.mono ?_)
  rintro _ h1 ⟨rfl, hs2, K⟩
  refine ⟨rfl, ?_⟩
  refine Wp.blk (by decide) ol_55 3 2 (pc' := 9) (L' := [.ref 17]) (S' := [.int (-1 : Int32), .ref 17]) (h' := h1) rfl ?_
  refine Wp.putf (op_ix (by decide) ol_55 5 rfl) (by decide) (okS hs2 17 rfl rfl) (h' := (stI h1 17 4 ((-1 : Int32)))) rfl rfl ?_
  exact Wp.ret (op_ix (by decide) ol_55 6 rfl) rfl K
/-- CutsOrFast$Search.empty at 0 ([J)V -/
theorem g56_0 (d : Nat) (v0 : Nat) (h : AH) (HS : Sh h)  (Q : Option Value → AH → Prop) (K : Wp d 56 2 [.ref v0, .int (0 : Int32)] [] h Q) : Wp d 56 0 [.ref v0, mk0] [] h Q := by
  refine Wp.blk (by decide) ol_56 0 2 (pc' := 2) (L' := [.ref v0, .int (0 : Int32)]) (S' := []) (h' := h) rfl ?_
  exact K
/-- CutsOrFast$Search.empty at 2 -/
theorem g56_2 (d : Nat) (v0 : Nat) (v1 : Int32) (h : AH) (HS : Sh h)  (Q : Option Value → AH → Prop) (K : (((AK h v0).1 = 20 ∨ (AK h v0).1 = 21 ∨ (AK h v0).1 = 24) ∧ ((v1 < (Int32.ofNat (AK h v0).2) → ((AK h v0).1 = 21 ∧ inR h v0 v1 = true ∧ 2 ≤ v0 ∧ Wp d 56 2 [.ref v0, .int (v1 + (1 : Int32))] [] (stL h v0 v1.toNatClampNeg ((0 : Int64))) Q)) ∧ (¬ v1 < (Int32.ofNat (AK h v0).2) → Q none h)))) : Wp d 56 2 [.ref v0, .int v1] [] h Q := by
  refine Wp.blk (by decide) ol_56 2 2 (pc' := 4) (L' := [.ref v0, .int v1]) (S' := [.ref v0, .int v1]) (h' := h) rfl ?_
  obtain ⟨k1, K⟩ := K
  refine Wp.alen (op_ix (by decide) ol_56 4 rfl) k1 rfl ?_
  refine Wp.blk (by decide) ol_56 5 1 (pc' := (if v1 < (Int32.ofNat (AK h v0).2) then 8 else 18)) (L' := [.ref v0, .int v1]) (S' := []) (h' := h) rfl ?_
  refine Wp.br (fun c2 => ?_) (fun c2 => ?_)
  · replace K := K.1 c2
    refine Wp.blk (by decide) ol_56 6 3 (pc' := 11) (L' := [.ref v0, .int v1]) (S' := [.long (0 : Int64), .int v1, .ref v0]) (h' := h) rfl ?_
    obtain ⟨k3, K⟩ := K
    obtain ⟨r4, K⟩ := K
    obtain ⟨b5, K⟩ := K
    refine Wp.last (op_ix (by decide) ol_56 9 rfl) b5 k3 r4 rfl ?_
    refine Wp.blk (by decide) ol_56 10 2 (pc' := 2) (L' := [.ref v0, .int (v1 + (1 : Int32))]) (S' := []) (h' := (stL h v0 v1.toNatClampNeg ((0 : Int64)))) rfl ?_
    exact K
  · replace K := K.2 c2
    exact Wp.ret (op_ix (by decide) ol_56 12 rfl) rfl K
/-- CutsOrFast$Search.ownerOf at 0 (IIII)I -/
theorem g57_0 (d : Nat) (v1 : Int32) (v2 : Int32) (v3 : Int32) (v4 : Int32) (h : AH) (HS : Sh h)  (Q : Option Value → AH → Prop) (K : (((((atv h 10 v1)) &&& ((((1 : Int32)) <<< (((AI h 5 7)) &&& 31)))) = (0 : Int32) → (((0 : Int32) < v4 → (((((atv h 10 ((((((((1 : Int32)) <<< (((AI h 5 5)) &&& 31))) - ((1 : Int32)))) &&& ((v2 ^^^ ((-1 : Int32)))))))) &&& ((((1 : Int32)) <<< (((AI h 5 7)) &&& 31)))) = (0 : Int32) → Q (some (.int (1 : Int32))) h) ∧ (¬ (((atv h 10 ((((((((1 : Int32)) <<< (((AI h 5 5)) &&& 31))) - ((1 : Int32)))) &&& ((v2 ^^^ ((-1 : Int32)))))))) &&& ((((1 : Int32)) <<< (((AI h 5 7)) &&& 31)))) = (0 : Int32) → ((((((((atvL h 19 (((((((2 : Int32)) * ((((atv h 18 v1)) + ((((2 : Int32)) * ((atv h 18 v2)))))))) + v3) / (32 : Int32))))).toUInt64 >>> (((((2 : Int32)) * (((((((2 : Int32)) * ((((atv h 18 v1)) + ((((2 : Int32)) * ((atv h 18 v2)))))))) + v3) - (((((2 : Int32)) * ((((atv h 18 v1)) + ((((2 : Int32)) * ((atv h 18 v2)))))))) + v3) / (32 : Int32) * (32 : Int32))))).toInt64.toUInt64 &&& Int64.toUInt64 63)).toInt64).toInt32) &&& ((3 : Int32))) = (0 : Int32) → (Cl (d + 1) 62 [.ref 17, .int v1, .int v2, .int v3, .int v4] h (fun r h5 => ∃ x7 : Int32, r = some (.int x7) ∧ Sh h5 ∧ ((x7 = (-1 : Int32) → Wp (d + 2) 57 116 [.ref 17, mk0, mk0, mk0, mk0, .int (((((2 : Int32)) * ((((atv h 18 v1)) + ((((2 : Int32)) * ((atv h 18 v2)))))))) + v3), .int (((2 : Int32)) * (((((((2 : Int32)) * ((((atv h 18 v1)) + ((((2 : Int32)) * ((atv h 18 v2)))))))) + v3) - (((((2 : Int32)) * ((((atv h 18 v1)) + ((((2 : Int32)) * ((atv h 18 v2)))))))) + v3) / (32 : Int32) * (32 : Int32)))), mk0, mk0, mk0, mk0] [.int (((1 : Int32)) - v3)] h5 Q) ∧ (¬ x7 = (-1 : Int32) → Wp (d + 2) 57 116 [.ref 17, mk0, mk0, mk0, mk0, .int (((((2 : Int32)) * ((((atv h 18 v1)) + ((((2 : Int32)) * ((atv h 18 v2)))))))) + v3), .int (((2 : Int32)) * (((((((2 : Int32)) * ((((atv h 18 v1)) + ((((2 : Int32)) * ((atv h 18 v2)))))))) + v3) - (((((2 : Int32)) * ((((atv h 18 v1)) + ((((2 : Int32)) * ((atv h 18 v2)))))))) + v3) / (32 : Int32) * (32 : Int32)))), mk0, mk0, mk0, mk0] [.int v3] h5 Q))))) ∧ (¬ ((((((atvL h 19 (((((((2 : Int32)) * ((((atv h 18 v1)) + ((((2 : Int32)) * ((atv h 18 v2)))))))) + v3) / (32 : Int32))))).toUInt64 >>> (((((2 : Int32)) * (((((((2 : Int32)) * ((((atv h 18 v1)) + ((((2 : Int32)) * ((atv h 18 v2)))))))) + v3) - (((((2 : Int32)) * ((((atv h 18 v1)) + ((((2 : Int32)) * ((atv h 18 v2)))))))) + v3) / (32 : Int32) * (32 : Int32))))).toInt64.toUInt64 &&& Int64.toUInt64 63)).toInt64).toInt32) &&& ((3 : Int32))) = (0 : Int32) → Q (some (.int ((((((((atvL h 19 (((((((2 : Int32)) * ((((atv h 18 v1)) + ((((2 : Int32)) * ((atv h 18 v2)))))))) + v3) / (32 : Int32))))).toUInt64 >>> (((((2 : Int32)) * (((((((2 : Int32)) * ((((atv h 18 v1)) + ((((2 : Int32)) * ((atv h 18 v2)))))))) + v3) - (((((2 : Int32)) * ((((atv h 18 v1)) + ((((2 : Int32)) * ((atv h 18 v2)))))))) + v3) / (32 : Int32) * (32 : Int32))))).toInt64.toUInt64 &&& Int64.toUInt64 63)).toInt64).toInt32) &&& ((3 : Int32)))) - ((1 : Int32))))) h))))) ∧ (¬ (0 : Int32) < v4 → Q (some (.int (1 : Int32))) h))) ∧ (¬ (((atv h 10 v1)) &&& ((((1 : Int32)) <<< (((AI h 5 7)) &&& 31)))) = (0 : Int32) → Q (some (.int (0 : Int32))) h))) : Wp (d + 2) 57 0 [.ref 17, .int v1, .int v2, .int v3, .int v4, mk0, mk0, mk0, mk0, mk0, mk0] [] h Q := by
  refine Wp.blk (by decide) ol_57 0 1 (pc' := 1) (L' := [.ref 17, .int v1, .int v2, .int v3, .int v4, mk0, mk0, mk0, mk0, mk0, mk0]) (S' := [.ref 17]) (h' := h) rfl ?_
  refine Wp.getf (op_ix (by decide) ol_57 1 rfl) (okS HS 17 rfl rfl) (v := .ref 5) (congrArg va_rf (rS HS 17 0 rfl)) rfl ?_
  refine Wp.blk (by decide) ol_57 2 1 (pc' := 5) (L' := [.ref 17, .int v1, .int v2, .int v3, .int v4, mk0, mk0, mk0, mk0, mk0, mk0]) (S' := [.int v1, .ref 5]) (h' := h) rfl ?_
  refine Wp.callI (op_ix (by decide) ol_57 3 rfl) (act_virt (c2 := 1) rfl (lk1 (kS HS 5 rfl)) rfl) rfl (Cl.enter (L := [.ref 5, .int v1]) rfl ?_)
  refine Wp.blk (by decide) ol_34 0 1 (pc' := 1) (L' := [.ref 5, .int v1]) (S' := [.ref 5]) (h' := h) rfl ?_
  refine Wp.getf (op_ix (by decide) ol_34 1 rfl) (okS HS 5 rfl rfl) (v := .ref 10) (congrArg va_rf (rS HS 5 4 rfl)) rfl ?_
  refine Wp.blk (by decide) ol_34 2 1 (pc' := 5) (L' := [.ref 5, .int v1]) (S' := [.int v1, .ref 10]) (h' := h) rfl ?_
  refine Wp.callI (op_ix (by decide) ol_34 3 rfl) rfl rfl (sp_at (kS HS 10 rfl) (nS HS 10 rfl) ?_)
  refine ⟨_, rfl, ?_⟩
  refine Wp.blk (by decide) ol_34 4 2 (pc' := 10) (L' := [.ref 5, .int v1]) (S' := [.ref 5, .int (1 : Int32), .int (atv h 10 v1)]) (h' := h) rfl ?_
  refine Wp.getf (op_ix (by decide) ol_34 6 rfl) (okS HS 5 rfl rfl) (v := .int (AI h 5 7)) rfl rfl ?_
  refine Wp.blk (by decide) ol_34 7 3 (pc' := (if (((atv h 10 v1)) &&& ((((1 : Int32)) <<< (((AI h 5 7)) &&& 31)))) = (0 : Int32) then 22 else 18)) (L' := [.ref 5, .int v1]) (S' := []) (h' := h) rfl ?_
  refine Wp.br (fun c1 => ?_) (fun c1 => ?_)
  · replace K := K.1 c1
    refine Wp.blk (by decide) ol_34 12 1 (pc' := 23) (L' := [.ref 5, .int v1]) (S' := [.int (0 : Int32)]) (h' := h) rfl ?_
    refine Wp.ret (op_ix (by decide) ol_34 13 rfl) rfl ⟨_, rfl, ?_⟩
    refine Wp.blk (by decide) ol_57 4 1 (pc' := (if (0 : Int32) = (0 : Int32) then 13 else 11)) (L' := [.ref 17, .int v1, .int v2, .int v3, .int v4, mk0, mk0, mk0, mk0, mk0, mk0]) (S' := []) (h' := h) rfl ?_
    refine Wp.br (fun _ => ?_) (fun hc => absurd (by decide) hc)
    refine Wp.blk (by decide) ol_57 7 2 (pc' := (if (0 : Int32) < v4 then 18 else 39)) (L' := [.ref 17, .int v1, .int v2, .int v3, .int v4, mk0, mk0, mk0, mk0, mk0, mk0]) (S' := []) (h' := h) rfl ?_
    refine Wp.br (fun c2 => ?_) (fun c2 => ?_)
    · replace K := K.1 c2
      refine Wp.blk (by decide) ol_57 9 1 (pc' := 19) (L' := [.ref 17, .int v1, .int v2, .int v3, .int v4, mk0, mk0, mk0, mk0, mk0, mk0]) (S' := [.ref 17]) (h' := h) rfl ?_
      refine Wp.getf (op_ix (by decide) ol_57 10 rfl) (okS HS 17 rfl rfl) (v := .ref 5) (congrArg va_rf (rS HS 17 0 rfl)) rfl ?_
      refine Wp.blk (by decide) ol_57 11 1 (pc' := 23) (L' := [.ref 17, .int v1, .int v2, .int v3, .int v4, mk0, mk0, mk0, mk0, mk0, mk0]) (S' := [.ref 17, .ref 5]) (h' := h) rfl ?_
      refine Wp.getf (op_ix (by decide) ol_57 12 rfl) (okS HS 17 rfl rfl) (v := .ref 5) (congrArg va_rf (rS HS 17 0 rfl)) rfl ?_
      refine Wp.callI (op_ix (by decide) ol_57 13 rfl) (act_virt (c2 := 0) rfl (lk1 (kS HS 5 rfl)) rfl) rfl (Cl.enter (L := [.ref 5]) rfl ?_)
      refine Wp.blk (by decide) ol_27 0 2 (pc' := 2) (L' := [.ref 5]) (S' := [.ref 5, .int (1 : Int32)]) (h' := h) rfl ?_
      refine Wp.getf (op_ix (by decide) ol_27 2 rfl) (okS HS 5 rfl rfl) (v := .int (AI h 5 5)) rfl rfl ?_
      refine Wp.blk (by decide) ol_27 3 3 (pc' := 8) (L' := [.ref 5]) (S' := [.int (((((1 : Int32)) <<< (((AI h 5 5)) &&& 31))) - ((1 : Int32)))]) (h' := h) rfl ?_
      refine Wp.ret (op_ix (by decide) ol_27 6 rfl) rfl ⟨_, rfl, ?_⟩
      refine Wp.blk (by decide) ol_57 14 4 (pc' := 33) (L' := [.ref 17, .int v1, .int v2, .int v3, .int v4, mk0, mk0, mk0, mk0, mk0, mk0]) (S' := [.int (((((((1 : Int32)) <<< (((AI h 5 5)) &&& 31))) - ((1 : Int32)))) &&& ((v2 ^^^ ((-1 : Int32))))), .ref 5]) (h' := h) rfl ?_
      refine Wp.callI (op_ix (by decide) ol_57 18 rfl) (act_virt (c2 := 1) rfl (lk1 (kS HS 5 rfl)) rfl) rfl (Cl.enter (L := [.ref 5, .int (((((((1 : Int32)) <<< (((AI h 5 5)) &&& 31))) - ((1 : Int32)))) &&& ((v2 ^^^ ((-1 : Int32)))))]) rfl ?_)
      refine Wp.blk (by decide) ol_34 0 1 (pc' := 1) (L' := [.ref 5, .int (((((((1 : Int32)) <<< (((AI h 5 5)) &&& 31))) - ((1 : Int32)))) &&& ((v2 ^^^ ((-1 : Int32)))))]) (S' := [.ref 5]) (h' := h) rfl ?_
      refine Wp.getf (op_ix (by decide) ol_34 1 rfl) (okS HS 5 rfl rfl) (v := .ref 10) (congrArg va_rf (rS HS 5 4 rfl)) rfl ?_
      refine Wp.blk (by decide) ol_34 2 1 (pc' := 5) (L' := [.ref 5, .int (((((((1 : Int32)) <<< (((AI h 5 5)) &&& 31))) - ((1 : Int32)))) &&& ((v2 ^^^ ((-1 : Int32)))))]) (S' := [.int (((((((1 : Int32)) <<< (((AI h 5 5)) &&& 31))) - ((1 : Int32)))) &&& ((v2 ^^^ ((-1 : Int32))))), .ref 10]) (h' := h) rfl ?_
      refine Wp.callI (op_ix (by decide) ol_34 3 rfl) rfl rfl (sp_at (kS HS 10 rfl) (nS HS 10 rfl) ?_)
      refine ⟨_, rfl, ?_⟩
      refine Wp.blk (by decide) ol_34 4 2 (pc' := 10) (L' := [.ref 5, .int (((((((1 : Int32)) <<< (((AI h 5 5)) &&& 31))) - ((1 : Int32)))) &&& ((v2 ^^^ ((-1 : Int32)))))]) (S' := [.ref 5, .int (1 : Int32), .int (atv h 10 ((((((((1 : Int32)) <<< (((AI h 5 5)) &&& 31))) - ((1 : Int32)))) &&& ((v2 ^^^ ((-1 : Int32)))))))]) (h' := h) rfl ?_
      refine Wp.getf (op_ix (by decide) ol_34 6 rfl) (okS HS 5 rfl rfl) (v := .int (AI h 5 7)) rfl rfl ?_
      refine Wp.blk (by decide) ol_34 7 3 (pc' := (if (((atv h 10 ((((((((1 : Int32)) <<< (((AI h 5 5)) &&& 31))) - ((1 : Int32)))) &&& ((v2 ^^^ ((-1 : Int32)))))))) &&& ((((1 : Int32)) <<< (((AI h 5 7)) &&& 31)))) = (0 : Int32) then 22 else 18)) (L' := [.ref 5, .int (((((((1 : Int32)) <<< (((AI h 5 5)) &&& 31))) - ((1 : Int32)))) &&& ((v2 ^^^ ((-1 : Int32)))))]) (S' := []) (h' := h) rfl ?_
      refine Wp.br (fun c3 => ?_) (fun c3 => ?_)
      · replace K := K.1 c3
        refine Wp.blk (by decide) ol_34 12 1 (pc' := 23) (L' := [.ref 5, .int (((((((1 : Int32)) <<< (((AI h 5 5)) &&& 31))) - ((1 : Int32)))) &&& ((v2 ^^^ ((-1 : Int32)))))]) (S' := [.int (0 : Int32)]) (h' := h) rfl ?_
        refine Wp.ret (op_ix (by decide) ol_34 13 rfl) rfl ⟨_, rfl, ?_⟩
        refine Wp.blk (by decide) ol_57 19 1 (pc' := (if (0 : Int32) = (0 : Int32) then 39 else 41)) (L' := [.ref 17, .int v1, .int v2, .int v3, .int v4, mk0, mk0, mk0, mk0, mk0, mk0]) (S' := []) (h' := h) rfl ?_
        refine Wp.br (fun _ => ?_) (fun hc => absurd (by decide) hc)
        refine Wp.blk (by decide) ol_57 20 1 (pc' := 40) (L' := [.ref 17, .int v1, .int v2, .int v3, .int v4, mk0, mk0, mk0, mk0, mk0, mk0]) (S' := [.int (1 : Int32)]) (h' := h) rfl ?_
        exact Wp.ret (op_ix (by decide) ol_57 21 rfl) rfl K
      · replace K := K.2 c3
        refine Wp.blk (by decide) ol_34 10 2 (pc' := 23) (L' := [.ref 5, .int (((((((1 : Int32)) <<< (((AI h 5 5)) &&& 31))) - ((1 : Int32)))) &&& ((v2 ^^^ ((-1 : Int32)))))]) (S' := [.int (1 : Int32)]) (h' := h) rfl ?_
        refine Wp.ret (op_ix (by decide) ol_34 13 rfl) rfl ⟨_, rfl, ?_⟩
        refine Wp.blk (by decide) ol_57 19 1 (pc' := (if (1 : Int32) = (0 : Int32) then 39 else 41)) (L' := [.ref 17, .int v1, .int v2, .int v3, .int v4, mk0, mk0, mk0, mk0, mk0, mk0]) (S' := []) (h' := h) rfl ?_
        refine Wp.br (fun hc => absurd hc (by decide)) (fun _ => ?_)
        refine Wp.blk (by decide) ol_57 22 4 (pc' := 45) (L' := [.ref 17, .int v1, .int v2, .int v3, .int v4, mk0, mk0, mk0, mk0, mk0, mk0]) (S' := [.int v2, .int v1, .ref 17, .int (2 : Int32)]) (h' := h) rfl ?_
        refine Wp.callI (op_ix (by decide) ol_57 26 rfl) (act_virt (c2 := 2) rfl (lk1 (kS HS 17 rfl)) rfl) rfl (Cl.enter (L := [.ref 17, .int v1, .int v2]) rfl ?_)
        refine Wp.blk (by decide) ol_201 0 1 (pc' := 1) (L' := [.ref 17, .int v1, .int v2]) (S' := [.ref 17]) (h' := h) rfl ?_
        refine Wp.getf (op_ix (by decide) ol_201 1 rfl) (okS HS 17 rfl rfl) (v := .ref 18) (congrArg va_rf (rS HS 17 1 rfl)) rfl ?_
        refine Wp.blk (by decide) ol_201 2 1 (pc' := 5) (L' := [.ref 17, .int v1, .int v2]) (S' := [.int v1, .ref 18]) (h' := h) rfl ?_
        refine Wp.callI (op_ix (by decide) ol_201 3 rfl) rfl rfl (sp_at (kS HS 18 rfl) (nS HS 18 rfl) ?_)
        refine ⟨_, rfl, ?_⟩
        refine Wp.blk (by decide) ol_201 4 2 (pc' := 10) (L' := [.ref 17, .int v1, .int v2]) (S' := [.ref 17, .int (2 : Int32), .int (atv h 18 v1)]) (h' := h) rfl ?_
        refine Wp.getf (op_ix (by decide) ol_201 6 rfl) (okS HS 17 rfl rfl) (v := .ref 18) (congrArg va_rf (rS HS 17 1 rfl)) rfl ?_
        refine Wp.blk (by decide) ol_201 7 1 (pc' := 14) (L' := [.ref 17, .int v1, .int v2]) (S' := [.int v2, .ref 18, .int (2 : Int32), .int (atv h 18 v1)]) (h' := h) rfl ?_
        refine Wp.callI (op_ix (by decide) ol_201 8 rfl) rfl rfl (sp_at (kS HS 18 rfl) (nS HS 18 rfl) ?_)
        refine ⟨_, rfl, ?_⟩
        refine Wp.blk (by decide) ol_201 9 2 (pc' := 19) (L' := [.ref 17, .int v1, .int v2]) (S' := [.int (((atv h 18 v1)) + ((((2 : Int32)) * ((atv h 18 v2)))))]) (h' := h) rfl ?_
        refine Wp.ret (op_ix (by decide) ol_201 11 rfl) rfl ⟨_, rfl, ?_⟩
        refine Wp.blk (by decide) ol_57 27 11 (pc' := 63) (L' := [.ref 17, .int v1, .int v2, .int v3, .int v4, .int (((((2 : Int32)) * ((((atv h 18 v1)) + ((((2 : Int32)) * ((atv h 18 v2)))))))) + v3), .int (((2 : Int32)) * (((((((2 : Int32)) * ((((atv h 18 v1)) + ((((2 : Int32)) * ((atv h 18 v2)))))))) + v3) - (((((2 : Int32)) * ((((atv h 18 v1)) + ((((2 : Int32)) * ((atv h 18 v2)))))))) + v3) / (32 : Int32) * (32 : Int32)))), mk0, mk0, mk0, mk0]) (S' := [.ref 17]) (h' := h) rfl ?_
        refine Wp.getf (op_ix (by decide) ol_57 38 rfl) (okS HS 17 rfl rfl) (v := .ref 19) (congrArg va_rf (rS HS 17 2 rfl)) rfl ?_
        refine Wp.blk (by decide) ol_57 39 3 (pc' := 71) (L' := [.ref 17, .int v1, .int v2, .int v3, .int v4, .int (((((2 : Int32)) * ((((atv h 18 v1)) + ((((2 : Int32)) * ((atv h 18 v2)))))))) + v3), .int (((2 : Int32)) * (((((((2 : Int32)) * ((((atv h 18 v1)) + ((((2 : Int32)) * ((atv h 18 v2)))))))) + v3) - (((((2 : Int32)) * ((((atv h 18 v1)) + ((((2 : Int32)) * ((atv h 18 v2)))))))) + v3) / (32 : Int32) * (32 : Int32)))), mk0, mk0, mk0, mk0]) (S' := [.int ((((((2 : Int32)) * ((((atv h 18 v1)) + ((((2 : Int32)) * ((atv h 18 v2)))))))) + v3) / (32 : Int32)), .ref 19]) (h' := h) rfl ?_
        refine Wp.callL (op_ix (by decide) ol_57 42 rfl) rfl rfl (sp_atL (kS HS 19 rfl) (nS HS 19 rfl) ?_)
        refine ⟨_, rfl, ?_⟩
        refine Wp.blk (by decide) ol_57 43 10 (pc' := (if ((((((atvL h 19 (((((((2 : Int32)) * ((((atv h 18 v1)) + ((((2 : Int32)) * ((atv h 18 v2)))))))) + v3) / (32 : Int32))))).toUInt64 >>> (((((2 : Int32)) * (((((((2 : Int32)) * ((((atv h 18 v1)) + ((((2 : Int32)) * ((atv h 18 v2)))))))) + v3) - (((((2 : Int32)) * ((((atv h 18 v1)) + ((((2 : Int32)) * ((atv h 18 v2)))))))) + v3) / (32 : Int32) * (32 : Int32))))).toInt64.toUInt64 &&& Int64.toUInt64 63)).toInt64).toInt32) &&& ((3 : Int32))) = (0 : Int32) then 96 else 91)) (L' := [.ref 17, .int v1, .int v2, .int v3, .int v4, .int (((((2 : Int32)) * ((((atv h 18 v1)) + ((((2 : Int32)) * ((atv h 18 v2)))))))) + v3), .int (((2 : Int32)) * (((((((2 : Int32)) * ((((atv h 18 v1)) + ((((2 : Int32)) * ((atv h 18 v2)))))))) + v3) - (((((2 : Int32)) * ((((atv h 18 v1)) + ((((2 : Int32)) * ((atv h 18 v2)))))))) + v3) / (32 : Int32) * (32 : Int32)))), .long (atvL h 19 (((((((2 : Int32)) * ((((atv h 18 v1)) + ((((2 : Int32)) * ((atv h 18 v2)))))))) + v3) / (32 : Int32)))), mk0, .int ((((((atvL h 19 (((((((2 : Int32)) * ((((atv h 18 v1)) + ((((2 : Int32)) * ((atv h 18 v2)))))))) + v3) / (32 : Int32))))).toUInt64 >>> (((((2 : Int32)) * (((((((2 : Int32)) * ((((atv h 18 v1)) + ((((2 : Int32)) * ((atv h 18 v2)))))))) + v3) - (((((2 : Int32)) * ((((atv h 18 v1)) + ((((2 : Int32)) * ((atv h 18 v2)))))))) + v3) / (32 : Int32) * (32 : Int32))))).toInt64.toUInt64 &&& Int64.toUInt64 63)).toInt64).toInt32) &&& ((3 : Int32))), mk0]) (S' := []) (h' := h) rfl ?_
        refine Wp.br (fun c4 => ?_) (fun c4 => ?_)
        · replace K := K.1 c4
          refine Wp.blk (by decide) ol_57 57 5 (pc' := 102) (L' := [.ref 17, .int v1, .int v2, .int v3, .int v4, .int (((((2 : Int32)) * ((((atv h 18 v1)) + ((((2 : Int32)) * ((atv h 18 v2)))))))) + v3), .int (((2 : Int32)) * (((((((2 : Int32)) * ((((atv h 18 v1)) + ((((2 : Int32)) * ((atv h 18 v2)))))))) + v3) - (((((2 : Int32)) * ((((atv h 18 v1)) + ((((2 : Int32)) * ((atv h 18 v2)))))))) + v3) / (32 : Int32) * (32 : Int32)))), .long (atvL h 19 (((((((2 : Int32)) * ((((atv h 18 v1)) + ((((2 : Int32)) * ((atv h 18 v2)))))))) + v3) / (32 : Int32)))), mk0, .int ((((((atvL h 19 (((((((2 : Int32)) * ((((atv h 18 v1)) + ((((2 : Int32)) * ((atv h 18 v2)))))))) + v3) / (32 : Int32))))).toUInt64 >>> (((((2 : Int32)) * (((((((2 : Int32)) * ((((atv h 18 v1)) + ((((2 : Int32)) * ((atv h 18 v2)))))))) + v3) - (((((2 : Int32)) * ((((atv h 18 v1)) + ((((2 : Int32)) * ((atv h 18 v2)))))))) + v3) / (32 : Int32) * (32 : Int32))))).toInt64.toUInt64 &&& Int64.toUInt64 63)).toInt64).toInt32) &&& ((3 : Int32))), mk0]) (S' := [.int v4, .int v3, .int v2, .int v1, .ref 17]) (h' := h) rfl ?_
          refine Wp.callI (op_ix (by decide) ol_57 62 rfl) (act_virt (c2 := 4) rfl (lk1 (kS HS 17 rfl)) rfl) rfl (K.mono ?_)
          rintro _ h5 ⟨x7, rfl, hs6, K⟩
          refine ⟨x7, rfl, ?_⟩
          refine Wp.blk (by decide) ol_57 63 2 (pc' := (if x7 = (-1 : Int32) then 109 else 115)) (L' := [.ref 17, .int v1, .int v2, .int v3, .int v4, .int (((((2 : Int32)) * ((((atv h 18 v1)) + ((((2 : Int32)) * ((atv h 18 v2)))))))) + v3), .int (((2 : Int32)) * (((((((2 : Int32)) * ((((atv h 18 v1)) + ((((2 : Int32)) * ((atv h 18 v2)))))))) + v3) - (((((2 : Int32)) * ((((atv h 18 v1)) + ((((2 : Int32)) * ((atv h 18 v2)))))))) + v3) / (32 : Int32) * (32 : Int32)))), .long (atvL h 19 (((((((2 : Int32)) * ((((atv h 18 v1)) + ((((2 : Int32)) * ((atv h 18 v2)))))))) + v3) / (32 : Int32)))), mk0, .int ((((((atvL h 19 (((((((2 : Int32)) * ((((atv h 18 v1)) + ((((2 : Int32)) * ((atv h 18 v2)))))))) + v3) / (32 : Int32))))).toUInt64 >>> (((((2 : Int32)) * (((((((2 : Int32)) * ((((atv h 18 v1)) + ((((2 : Int32)) * ((atv h 18 v2)))))))) + v3) - (((((2 : Int32)) * ((((atv h 18 v1)) + ((((2 : Int32)) * ((atv h 18 v2)))))))) + v3) / (32 : Int32) * (32 : Int32))))).toInt64.toUInt64 &&& Int64.toUInt64 63)).toInt64).toInt32) &&& ((3 : Int32))), mk0]) (S' := []) (h' := h5) rfl ?_
          refine Wp.br (fun c8 => ?_) (fun c8 => ?_)
          · replace K := K.1 c8
            refine Wp.blk (by decide) ol_57 65 4 (pc' := 116) (L' := [.ref 17, .int v1, .int v2, .int v3, .int v4, .int (((((2 : Int32)) * ((((atv h 18 v1)) + ((((2 : Int32)) * ((atv h 18 v2)))))))) + v3), .int (((2 : Int32)) * (((((((2 : Int32)) * ((((atv h 18 v1)) + ((((2 : Int32)) * ((atv h 18 v2)))))))) + v3) - (((((2 : Int32)) * ((((atv h 18 v1)) + ((((2 : Int32)) * ((atv h 18 v2)))))))) + v3) / (32 : Int32) * (32 : Int32)))), .long (atvL h 19 (((((((2 : Int32)) * ((((atv h 18 v1)) + ((((2 : Int32)) * ((atv h 18 v2)))))))) + v3) / (32 : Int32)))), mk0, .int ((((((atvL h 19 (((((((2 : Int32)) * ((((atv h 18 v1)) + ((((2 : Int32)) * ((atv h 18 v2)))))))) + v3) / (32 : Int32))))).toUInt64 >>> (((((2 : Int32)) * (((((((2 : Int32)) * ((((atv h 18 v1)) + ((((2 : Int32)) * ((atv h 18 v2)))))))) + v3) - (((((2 : Int32)) * ((((atv h 18 v1)) + ((((2 : Int32)) * ((atv h 18 v2)))))))) + v3) / (32 : Int32) * (32 : Int32))))).toInt64.toUInt64 &&& Int64.toUInt64 63)).toInt64).toInt32) &&& ((3 : Int32))), mk0]) (S' := [.int (((1 : Int32)) - v3)]) (h' := h5) rfl ?_
            refine Wp.forget (L := [.ref 17, mk0, mk0, mk0, mk0, .int (((((2 : Int32)) * ((((atv h 18 v1)) + ((((2 : Int32)) * ((atv h 18 v2)))))))) + v3), .int (((2 : Int32)) * (((((((2 : Int32)) * ((((atv h 18 v1)) + ((((2 : Int32)) * ((atv h 18 v2)))))))) + v3) - (((((2 : Int32)) * ((((atv h 18 v1)) + ((((2 : Int32)) * ((atv h 18 v2)))))))) + v3) / (32 : Int32) * (32 : Int32)))), mk0, mk0, mk0, mk0]) (⟨Or.inr rfl, ⟨Or.inl rfl, ⟨Or.inl rfl, ⟨Or.inl rfl, ⟨Or.inl rfl, ⟨Or.inr rfl, ⟨Or.inr rfl, ⟨Or.inl rfl, ⟨Or.inr rfl, ⟨Or.inl rfl, ⟨Or.inr rfl, trivial⟩⟩⟩⟩⟩⟩⟩⟩⟩⟩⟩) ?_
            exact K
          · replace K := K.2 c8
            refine Wp.blk (by decide) ol_57 69 1 (pc' := 116) (L' := [.ref 17, .int v1, .int v2, .int v3, .int v4, .int (((((2 : Int32)) * ((((atv h 18 v1)) + ((((2 : Int32)) * ((atv h 18 v2)))))))) + v3), .int (((2 : Int32)) * (((((((2 : Int32)) * ((((atv h 18 v1)) + ((((2 : Int32)) * ((atv h 18 v2)))))))) + v3) - (((((2 : Int32)) * ((((atv h 18 v1)) + ((((2 : Int32)) * ((atv h 18 v2)))))))) + v3) / (32 : Int32) * (32 : Int32)))), .long (atvL h 19 (((((((2 : Int32)) * ((((atv h 18 v1)) + ((((2 : Int32)) * ((atv h 18 v2)))))))) + v3) / (32 : Int32)))), mk0, .int ((((((atvL h 19 (((((((2 : Int32)) * ((((atv h 18 v1)) + ((((2 : Int32)) * ((atv h 18 v2)))))))) + v3) / (32 : Int32))))).toUInt64 >>> (((((2 : Int32)) * (((((((2 : Int32)) * ((((atv h 18 v1)) + ((((2 : Int32)) * ((atv h 18 v2)))))))) + v3) - (((((2 : Int32)) * ((((atv h 18 v1)) + ((((2 : Int32)) * ((atv h 18 v2)))))))) + v3) / (32 : Int32) * (32 : Int32))))).toInt64.toUInt64 &&& Int64.toUInt64 63)).toInt64).toInt32) &&& ((3 : Int32))), mk0]) (S' := [.int v3]) (h' := h5) rfl ?_
            refine Wp.forget (L := [.ref 17, mk0, mk0, mk0, mk0, .int (((((2 : Int32)) * ((((atv h 18 v1)) + ((((2 : Int32)) * ((atv h 18 v2)))))))) + v3), .int (((2 : Int32)) * (((((((2 : Int32)) * ((((atv h 18 v1)) + ((((2 : Int32)) * ((atv h 18 v2)))))))) + v3) - (((((2 : Int32)) * ((((atv h 18 v1)) + ((((2 : Int32)) * ((atv h 18 v2)))))))) + v3) / (32 : Int32) * (32 : Int32)))), mk0, mk0, mk0, mk0]) (⟨Or.inr rfl, ⟨Or.inl rfl, ⟨Or.inl rfl, ⟨Or.inl rfl, ⟨Or.inl rfl, ⟨Or.inr rfl, ⟨Or.inr rfl, ⟨Or.inl rfl, ⟨Or.inr rfl, ⟨Or.inl rfl, ⟨Or.inr rfl, trivial⟩⟩⟩⟩⟩⟩⟩⟩⟩⟩⟩) ?_
            exact K
        · replace K := K.2 c4
          refine Wp.blk (by decide) ol_57 53 3 (pc' := 95) (L' := [.ref 17, .int v1, .int v2, .int v3, .int v4, .int (((((2 : Int32)) * ((((atv h 18 v1)) + ((((2 : Int32)) * ((atv h 18 v2)))))))) + v3), .int (((2 : Int32)) * (((((((2 : Int32)) * ((((atv h 18 v1)) + ((((2 : Int32)) * ((atv h 18 v2)))))))) + v3) - (((((2 : Int32)) * ((((atv h 18 v1)) + ((((2 : Int32)) * ((atv h 18 v2)))))))) + v3) / (32 : Int32) * (32 : Int32)))), .long (atvL h 19 (((((((2 : Int32)) * ((((atv h 18 v1)) + ((((2 : Int32)) * ((atv h 18 v2)))))))) + v3) / (32 : Int32)))), mk0, .int ((((((atvL h 19 (((((((2 : Int32)) * ((((atv h 18 v1)) + ((((2 : Int32)) * ((atv h 18 v2)))))))) + v3) / (32 : Int32))))).toUInt64 >>> (((((2 : Int32)) * (((((((2 : Int32)) * ((((atv h 18 v1)) + ((((2 : Int32)) * ((atv h 18 v2)))))))) + v3) - (((((2 : Int32)) * ((((atv h 18 v1)) + ((((2 : Int32)) * ((atv h 18 v2)))))))) + v3) / (32 : Int32) * (32 : Int32))))).toInt64.toUInt64 &&& Int64.toUInt64 63)).toInt64).toInt32) &&& ((3 : Int32))), mk0]) (S' := [.int ((((((((atvL h 19 (((((((2 : Int32)) * ((((atv h 18 v1)) + ((((2 : Int32)) * ((atv h 18 v2)))))))) + v3) / (32 : Int32))))).toUInt64 >>> (((((2 : Int32)) * (((((((2 : Int32)) * ((((atv h 18 v1)) + ((((2 : Int32)) * ((atv h 18 v2)))))))) + v3) - (((((2 : Int32)) * ((((atv h 18 v1)) + ((((2 : Int32)) * ((atv h 18 v2)))))))) + v3) / (32 : Int32) * (32 : Int32))))).toInt64.toUInt64 &&& Int64.toUInt64 63)).toInt64).toInt32) &&& ((3 : Int32)))) - ((1 : Int32)))]) (h' := h) rfl ?_
          exact Wp.ret (op_ix (by decide) ol_57 56 rfl) rfl K
    · replace K := K.2 c2
      refine Wp.blk (by decide) ol_57 20 1 (pc' := 40) (L' := [.ref 17, .int v1, .int v2, .int v3, .int v4, mk0, mk0, mk0, mk0, mk0, mk0]) (S' := [.int (1 : Int32)]) (h' := h) rfl ?_
      exact Wp.ret (op_ix (by decide) ol_57 21 rfl) rfl K
  · replace K := K.2 c1
    refine Wp.blk (by decide) ol_34 10 2 (pc' := 23) (L' := [.ref 5, .int v1]) (S' := [.int (1 : Int32)]) (h' := h) rfl ?_
    refine Wp.ret (op_ix (by decide) ol_34 13 rfl) rfl ⟨_, rfl, ?_⟩
    refine Wp.blk (by decide) ol_57 4 1 (pc' := (if (1 : Int32) = (0 : Int32) then 13 else 11)) (L' := [.ref 17, .int v1, .int v2, .int v3, .int v4, mk0, mk0, mk0, mk0, mk0, mk0]) (S' := []) (h' := h) rfl ?_
    refine Wp.br (fun hc => absurd hc (by decide)) (fun _ => ?_)
    refine Wp.blk (by decide) ol_57 5 1 (pc' := 12) (L' := [.ref 17, .int v1, .int v2, .int v3, .int v4, mk0, mk0, mk0, mk0, mk0, mk0]) (S' := [.int (0 : Int32)]) (h' := h) rfl ?_
    exact Wp.ret (op_ix (by decide) ol_57 6 rfl) rfl K
/-- CutsOrFast$Search.ownerOf at 116 -/
theorem g57_116 (d : Nat) (v5 : Int32) (v6 : Int32) (s0 : Int32) (h : AH) (HS : Sh h)  (Q : Option Value → AH → Prop) (K : (∀ h1, h1 = (putvL h 19 ((v5 / (32 : Int32))) ((((atvL h 19 ((v5 / (32 : Int32))))) ||| (((((s0 + ((1 : Int32)))).toInt64) <<< (v6.toInt64 &&& 63)))))) → Q (some (.int s0)) h1)) : Wp (d + 1) 57 116 [.ref 17, mk0, mk0, mk0, mk0, .int v5, .int v6, mk0, mk0, mk0, mk0] [.int s0] h Q := by
  refine Wp.blk (by decide) ol_57 70 2 (pc' := 119) (L' := [.ref 17, mk0, mk0, mk0, mk0, .int v5, .int v6, mk0, mk0, mk0, .int s0]) (S' := [.ref 17]) (h' := h) rfl ?_
  refine Wp.getf (op_ix (by decide) ol_57 72 rfl) (okS HS 17 rfl rfl) (v := .ref 19) (congrArg va_rf (rS HS 17 2 rfl)) rfl ?_
  refine Wp.blk (by decide) ol_57 73 3 (pc' := 127) (L' := [.ref 17, mk0, mk0, mk0, mk0, .int v5, .int v6, mk0, mk0, mk0, .int s0]) (S' := [.int (v5 / (32 : Int32)), .ref 19]) (h' := h) rfl ?_
  refine Wp.callL (op_ix (by decide) ol_57 76 rfl) rfl rfl (sp_atL (kS HS 19 rfl) (nS HS 19 rfl) ?_)
  refine ⟨_, rfl, ?_⟩
  refine Wp.blk (by decide) ol_57 77 2 (pc' := 133) (L' := [.ref 17, mk0, mk0, mk0, mk0, .int v5, .int v6, .long (atvL h 19 ((v5 / (32 : Int32)))), mk0, mk0, .int s0]) (S' := [.ref 17]) (h' := h) rfl ?_
  refine Wp.getf (op_ix (by decide) ol_57 79 rfl) (okS HS 17 rfl rfl) (v := .ref 19) (congrArg va_rf (rS HS 17 2 rfl)) rfl ?_
  refine Wp.blk (by decide) ol_57 80 11 (pc' := 152) (L' := [.ref 17, mk0, mk0, mk0, mk0, .int v5, .int v6, .long (atvL h 19 ((v5 / (32 : Int32)))), mk0, mk0, .int s0]) (S' := [.long (((atvL h 19 ((v5 / (32 : Int32))))) ||| (((((s0 + ((1 : Int32)))).toInt64) <<< (v6.toInt64 &&& 63)))), .int (v5 / (32 : Int32)), .ref 19]) (h' := h) rfl ?_
  refine Wp.callV (op_ix (by decide) ol_57 91 rfl) rfl rfl (sp_putL (kS HS 19 rfl) (nS HS 19 rfl) (by decide) ?_)
  refine ⟨rfl, ?_⟩
  obtain ⟨h1, e2⟩ : ∃ y, y = (putvL h 19 ((v5 / (32 : Int32))) ((((atvL h 19 ((v5 / (32 : Int32))))) ||| (((((s0 + ((1 : Int32)))).toInt64) <<< (v6.toInt64 &&& 63)))))) := ⟨_, rfl⟩
  rw [← e2]
  replace K := K h1 e2
  have hs3 : Sh h1 := by rw [e2]; exact Sh.putvL HS _ _ _
  refine Wp.blk (by decide) ol_57 92 1 (pc' := 157) (L' := [.ref 17, mk0, mk0, mk0, mk0, .int v5, .int v6, .long (atvL h 19 ((v5 / (32 : Int32)))), mk0, mk0, .int s0]) (S' := [.int s0]) (h' := h1) rfl ?_
  exact Wp.ret (op_ix (by decide) ol_57 93 rfl) rfl K
/-- CutsOrFast$Search.owner at 0 (III)I -/
theorem g58_0 (d : Nat) (v1 : Int32) (v2 : Int32) (v3 : Int32) (h : AH) (HS : Sh h)  (Q : Option Value → AH → Prop) (K : (Cl (d + 1) 199 [.int (((((((((1 : Int32)) <<< (((AI h 5 5)) &&& 31))) - ((1 : Int32)))) &&& ((v1 ^^^ ((-1 : Int32)))))) &&& ((v2 ^^^ ((-1 : Int32)))))] h (fun r h1 => ∃ x3 : Int32, r = some (.int x3) ∧ Sh h1 ∧ (Cl (d + 1) 57 [.ref 17, .int v1, .int v2, .int v3, .int x3] h1 (fun r h4 => ∃ x6 : Int32, r = some (.int x6) ∧ Sh h4 ∧ Q (some (.int x6)) h4))))) : Wp (d + 2) 58 0 [.ref 17, .int v1, .int v2, .int v3] [] h Q := by
  refine Wp.blk (by decide) ol_58 0 7 (pc' := 7) (L' := [.ref 17, .int v1, .int v2, .int v3]) (S' := [.int v2, .int v1, .ref 17, .int v3, .int v2, .int v1, .ref 17]) (h' := h) rfl ?_
  refine Wp.callI (op_ix (by decide) ol_58 7 rfl) (act_virt (c2 := 2) rfl (lk1 (kS HS 17 rfl)) rfl) rfl (Cl.enter (L := [.ref 17, .int v1, .int v2]) rfl ?_)
  refine Wp.blk (by decide) ol_200 0 1 (pc' := 1) (L' := [.ref 17, .int v1, .int v2]) (S' := [.ref 17]) (h' := h) rfl ?_
  refine Wp.getf (op_ix (by decide) ol_200 1 rfl) (okS HS 17 rfl rfl) (v := .ref 5) (congrArg va_rf (rS HS 17 0 rfl)) rfl ?_
  refine Wp.callI (op_ix (by decide) ol_200 2 rfl) (act_virt (c2 := 0) rfl (lk1 (kS HS 5 rfl)) rfl) rfl (Cl.enter (L := [.ref 5]) rfl ?_)
  refine Wp.blk (by decide) ol_27 0 2 (pc' := 2) (L' := [.ref 5]) (S' := [.ref 5, .int (1 : Int32)]) (h' := h) rfl ?_
  refine Wp.getf (op_ix (by decide) ol_27 2 rfl) (okS HS 5 rfl rfl) (v := .int (AI h 5 5)) rfl rfl ?_
  refine Wp.blk (by decide) ol_27 3 3 (pc' := 8) (L' := [.ref 5]) (S' := [.int (((((1 : Int32)) <<< (((AI h 5 5)) &&& 31))) - ((1 : Int32)))]) (h' := h) rfl ?_
  refine Wp.ret (op_ix (by decide) ol_27 6 rfl) rfl ⟨_, rfl, ?_⟩
  refine Wp.blk (by decide) ol_200 3 8 (pc' := 15) (L' := [.ref 17, .int v1, .int v2]) (S' := [.int (((((((((1 : Int32)) <<< (((AI h 5 5)) &&& 31))) - ((1 : Int32)))) &&& ((v1 ^^^ ((-1 : Int32)))))) &&& ((v2 ^^^ ((-1 : Int32)))))]) (h' := h) rfl ?_
  refine Wp.ret (op_ix (by decide) ol_200 11 rfl) rfl ⟨_, rfl, ?_⟩
  refine Wp.callI (op_ix (by decide) ol_58 8 rfl) rfl rfl (K.mono ?_)
  rintro _ h1 ⟨x3, rfl, hs2, K⟩
  refine ⟨x3, rfl, ?_⟩
  refine Wp.callI (op_ix (by decide) ol_58 9 rfl) (act_virt (c2 := 4) rfl (lk1 (kS hs2 17 rfl)) rfl) rfl (K.mono ?_)
  rintro _ h4 ⟨x6, rfl, hs5, K⟩
  refine ⟨x6, rfl, ?_⟩
  exact Wp.ret (op_ix (by decide) ol_58 10 rfl) rfl K
/-- CutsOrFast$Search.leastGood at 0 (III)I -/
theorem g59_0 (d : Nat) (v1 : Int32) (v2 : Int32) (v3 : Int32) (h : AH) (HS : Sh h)  (Q : Option Value → AH → Prop) (K : (Cl (d + 1) 37 [.ref 5, .int v1, .int v2] h (fun r h1 => ∃ x3 : Int32, r = some (.int x3) ∧ Sh h1 ∧ ((x3 = (0 : Int32) → (Cl (d + 1) 199 [.int (((((((((1 : Int32)) <<< (((AI h1 5 5)) &&& 31))) - ((1 : Int32)))) &&& ((v1 ^^^ ((-1 : Int32)))))) &&& ((v2 ^^^ ((-1 : Int32)))))] h1 (fun r h5 => ∃ x7 : Int32, r = some (.int x7) ∧ Sh h5 ∧ (Cl (d + 1) 62 [.ref 17, .int v1, .int v2, .int v3, .int x7] h5 (fun r h8 => ∃ x10 : Int32, r = some (.int x10) ∧ Sh h8 ∧ Q (some (.int x10)) h8))))) ∧ (¬ x3 = (0 : Int32) → Q (some (.int (-1 : Int32))) h1))))) : Wp (d + 2) 59 0 [.ref 17, .int v1, .int v2, .int v3] [] h Q := by
  refine Wp.blk (by decide) ol_59 0 1 (pc' := 1) (L' := [.ref 17, .int v1, .int v2, .int v3]) (S' := [.ref 17]) (h' := h) rfl ?_
  refine Wp.getf (op_ix (by decide) ol_59 1 rfl) (okS HS 17 rfl rfl) (v := .ref 5) (congrArg va_rf (rS HS 17 0 rfl)) rfl ?_
  refine Wp.blk (by decide) ol_59 2 2 (pc' := 6) (L' := [.ref 17, .int v1, .int v2, .int v3]) (S' := [.int v2, .int v1, .ref 5]) (h' := h) rfl ?_
  refine Wp.callI (op_ix (by decide) ol_59 4 rfl) (act_virt (c2 := 2) rfl (lk1 (kS HS 5 rfl)) rfl) rfl (K.mono ?_)
  rintro _ h1 ⟨x3, rfl, hs2, K⟩
  refine ⟨x3, rfl, ?_⟩
  refine Wp.blk (by decide) ol_59 5 1 (pc' := (if x3 = (0 : Int32) then 14 else 12)) (L' := [.ref 17, .int v1, .int v2, .int v3]) (S' := []) (h' := h1) rfl ?_
  refine Wp.br (fun c4 => ?_) (fun c4 => ?_)
  · replace K := K.1 c4
    refine Wp.blk (by decide) ol_59 8 7 (pc' := 21) (L' := [.ref 17, .int v1, .int v2, .int v3]) (S' := [.int v2, .int v1, .ref 17, .int v3, .int v2, .int v1, .ref 17]) (h' := h1) rfl ?_
    refine Wp.callI (op_ix (by decide) ol_59 15 rfl) (act_virt (c2 := 2) rfl (lk1 (kS hs2 17 rfl)) rfl) rfl (Cl.enter (L := [.ref 17, .int v1, .int v2]) rfl ?_)
    refine Wp.blk (by decide) ol_200 0 1 (pc' := 1) (L' := [.ref 17, .int v1, .int v2]) (S' := [.ref 17]) (h' := h1) rfl ?_
    refine Wp.getf (op_ix (by decide) ol_200 1 rfl) (okS hs2 17 rfl rfl) (v := .ref 5) (congrArg va_rf (rS hs2 17 0 rfl)) rfl ?_
    refine Wp.callI (op_ix (by decide) ol_200 2 rfl) (act_virt (c2 := 0) rfl (lk1 (kS hs2 5 rfl)) rfl) rfl (Cl.enter (L := [.ref 5]) rfl ?_)
    refine Wp.blk (by decide) ol_27 0 2 (pc' := 2) (L' := [.ref 5]) (S' := [.ref 5, .int (1 : Int32)]) (h' := h1) rfl ?_
    refine Wp.getf (op_ix (by decide) ol_27 2 rfl) (okS hs2 5 rfl rfl) (v := .int (AI h1 5 5)) rfl rfl ?_
    refine Wp.blk (by decide) ol_27 3 3 (pc' := 8) (L' := [.ref 5]) (S' := [.int (((((1 : Int32)) <<< (((AI h1 5 5)) &&& 31))) - ((1 : Int32)))]) (h' := h1) rfl ?_
    refine Wp.ret (op_ix (by decide) ol_27 6 rfl) rfl ⟨_, rfl, ?_⟩
    refine Wp.blk (by decide) ol_200 3 8 (pc' := 15) (L' := [.ref 17, .int v1, .int v2]) (S' := [.int (((((((((1 : Int32)) <<< (((AI h1 5 5)) &&& 31))) - ((1 : Int32)))) &&& ((v1 ^^^ ((-1 : Int32)))))) &&& ((v2 ^^^ ((-1 : Int32)))))]) (h' := h1) rfl ?_
    refine Wp.ret (op_ix (by decide) ol_200 11 rfl) rfl ⟨_, rfl, ?_⟩
    refine Wp.callI (op_ix (by decide) ol_59 16 rfl) rfl rfl (K.mono ?_)
    rintro _ h5 ⟨x7, rfl, hs6, K⟩
    refine ⟨x7, rfl, ?_⟩
    refine Wp.callI (op_ix (by decide) ol_59 17 rfl) (act_virt (c2 := 4) rfl (lk1 (kS hs6 17 rfl)) rfl) rfl (K.mono ?_)
    rintro _ h8 ⟨x10, rfl, hs9, K⟩
    refine ⟨x10, rfl, ?_⟩
    exact Wp.ret (op_ix (by decide) ol_59 18 rfl) rfl K
  · replace K := K.2 c4
    refine Wp.blk (by decide) ol_59 6 1 (pc' := 13) (L' := [.ref 17, .int v1, .int v2, .int v3]) (S' := [.int (-1 : Int32)]) (h' := h1) rfl ?_
    exact Wp.ret (op_ix (by decide) ol_59 7 rfl) rfl K
/-- CutsOrFast$Search.ownersMove at 0 (IIII)I -/
theorem g62_0 (d : Nat) (v1 : Int32) (v2 : Int32) (v3 : Int32) (v4 : Int32) (h : AH) (HS : Sh h)  (Q : Option Value → AH → Prop) (K : Wp (d + 2) 62 11 [.ref 17, .int v1, .int v2, .int v3, .int v4, .int (((((((((1 : Int32)) <<< (((AI h 5 5)) &&& 31))) - ((1 : Int32)))) &&& ((v1 ^^^ ((-1 : Int32)))))) &&& ((v2 ^^^ ((-1 : Int32))))), .int (0 : Int32), mk0, mk0] [] h Q) : Wp (d + 2) 62 0 [.ref 17, .int v1, .int v2, .int v3, .int v4, mk0, mk0, mk0, mk0] [] h Q := by
  refine Wp.blk (by decide) ol_62 0 3 (pc' := 3) (L' := [.ref 17, .int v1, .int v2, .int v3, .int v4, mk0, mk0, mk0, mk0]) (S' := [.int v2, .int v1, .ref 17]) (h' := h) rfl ?_
  refine Wp.callI (op_ix (by decide) ol_62 3 rfl) (act_virt (c2 := 2) rfl (lk1 (kS HS 17 rfl)) rfl) rfl (Cl.enter (L := [.ref 17, .int v1, .int v2]) rfl ?_)
  refine Wp.blk (by decide) ol_200 0 1 (pc' := 1) (L' := [.ref 17, .int v1, .int v2]) (S' := [.ref 17]) (h' := h) rfl ?_
  refine Wp.getf (op_ix (by decide) ol_200 1 rfl) (okS HS 17 rfl rfl) (v := .ref 5) (congrArg va_rf (rS HS 17 0 rfl)) rfl ?_
  refine Wp.callI (op_ix (by decide) ol_200 2 rfl) (act_virt (c2 := 0) rfl (lk1 (kS HS 5 rfl)) rfl) rfl (Cl.enter (L := [.ref 5]) rfl ?_)
  refine Wp.blk (by decide) ol_27 0 2 (pc' := 2) (L' := [.ref 5]) (S' := [.ref 5, .int (1 : Int32)]) (h' := h) rfl ?_
  refine Wp.getf (op_ix (by decide) ol_27 2 rfl) (okS HS 5 rfl rfl) (v := .int (AI h 5 5)) rfl rfl ?_
  refine Wp.blk (by decide) ol_27 3 3 (pc' := 8) (L' := [.ref 5]) (S' := [.int (((((1 : Int32)) <<< (((AI h 5 5)) &&& 31))) - ((1 : Int32)))]) (h' := h) rfl ?_
  refine Wp.ret (op_ix (by decide) ol_27 6 rfl) rfl ⟨_, rfl, ?_⟩
  refine Wp.blk (by decide) ol_200 3 8 (pc' := 15) (L' := [.ref 17, .int v1, .int v2]) (S' := [.int (((((((((1 : Int32)) <<< (((AI h 5 5)) &&& 31))) - ((1 : Int32)))) &&& ((v1 ^^^ ((-1 : Int32)))))) &&& ((v2 ^^^ ((-1 : Int32)))))]) (h' := h) rfl ?_
  refine Wp.ret (op_ix (by decide) ol_200 11 rfl) rfl ⟨_, rfl, ?_⟩
  refine Wp.blk (by decide) ol_62 4 3 (pc' := 11) (L' := [.ref 17, .int v1, .int v2, .int v3, .int v4, .int (((((((((1 : Int32)) <<< (((AI h 5 5)) &&& 31))) - ((1 : Int32)))) &&& ((v1 ^^^ ((-1 : Int32)))))) &&& ((v2 ^^^ ((-1 : Int32))))), .int (0 : Int32), mk0, mk0]) (S' := []) (h' := h) rfl ?_
  exact K
/-- CutsOrFast$Search.ownersMove at 11 -/
theorem g62_11 (d : Nat) (v1 : Int32) (v2 : Int32) (v3 : Int32) (v4 : Int32) (v5 : Int32) (v6 : Int32) (h : AH) (HS : Sh h)  (Q : Option Value → AH → Prop) (K : ((v6 < (AI h 5 5) → (((v5 &&& ((((1 : Int32)) <<< (v6 &&& 31)))) = (0 : Int32) → Wp (d + 1) 62 11 [.ref 17, .int v1, .int v2, .int v3, .int v4, .int v5, .int (v6 + (1 : Int32)), mk0, mk0] [] h Q) ∧ (¬ (v5 &&& ((((1 : Int32)) <<< (v6 &&& 31)))) = (0 : Int32) → ((v3 = (0 : Int32) → (Cl d 57 [.ref 17, .int (v1 ||| ((((1 : Int32)) <<< (v6 &&& 31)))), .int v2, .int (1 : Int32), .int (v4 - ((1 : Int32)))] h (fun r h4 => ∃ x6 : Int32, r = some (.int x6) ∧ Sh h4 ∧ ((x6 = v3 → Q (some (.int v6)) h4) ∧ (¬ x6 = v3 → Wp (d + 1) 62 11 [.ref 17, .int v1, .int v2, .int v3, .int v4, .int v5, .int (v6 + (1 : Int32)), mk0, mk0] [] h4 Q))))) ∧ (¬ v3 = (0 : Int32) → (Cl d 57 [.ref 17, .int v1, .int (v2 ||| ((((1 : Int32)) <<< (v6 &&& 31)))), .int (0 : Int32), .int (v4 - ((1 : Int32)))] h (fun r h8 => ∃ x10 : Int32, r = some (.int x10) ∧ Sh h8 ∧ ((x10 = v3 → Q (some (.int v6)) h8) ∧ (¬ x10 = v3 → Wp (d + 1) 62 11 [.ref 17, .int v1, .int v2, .int v3, .int v4, .int v5, .int (v6 + (1 : Int32)), mk0, mk0] [] h8 Q))))))))) ∧ (¬ v6 < (AI h 5 5) → Q (some (.int (-1 : Int32))) h))) : Wp (d + 1) 62 11 [.ref 17, .int v1, .int v2, .int v3, .int v4, .int v5, .int v6, mk0, mk0] [] h Q := by
  refine Wp.blk (by decide) ol_62 7 2 (pc' := 14) (L' := [.ref 17, .int v1, .int v2, .int v3, .int v4, .int v5, .int v6, mk0, mk0]) (S' := [.ref 17, .int v6]) (h' := h) rfl ?_
  refine Wp.getf (op_ix (by decide) ol_62 9 rfl) (okS HS 17 rfl rfl) (v := .ref 5) (congrArg va_rf (rS HS 17 0 rfl)) rfl ?_
  refine Wp.callI (op_ix (by decide) ol_62 10 rfl) (act_virt (c2 := 0) rfl (lk1 (kS HS 5 rfl)) rfl) rfl (Cl.enter (L := [.ref 5]) rfl ?_)
  refine Wp.blk (by decide) ol_26 0 1 (pc' := 1) (L' := [.ref 5]) (S' := [.ref 5]) (h' := h) rfl ?_
  refine Wp.getf (op_ix (by decide) ol_26 1 rfl) (okS HS 5 rfl rfl) (v := .int (AI h 5 5)) rfl rfl ?_
  refine Wp.ret (op_ix (by decide) ol_26 2 rfl) rfl ⟨_, rfl, ?_⟩
  refine Wp.blk (by decide) ol_62 11 1 (pc' := (if v6 < (AI h 5 5) then 23 else 89)) (L' := [.ref 17, .int v1, .int v2, .int v3, .int v4, .int v5, .int v6, mk0, mk0]) (S' := []) (h' := h) rfl ?_
  refine Wp.br (fun c1 => ?_) (fun c1 => ?_)
  · replace K := K.1 c1
    refine Wp.blk (by decide) ol_62 12 8 (pc' := (if (v5 &&& ((((1 : Int32)) <<< (v6 &&& 31)))) = (0 : Int32) then 83 else 37)) (L' := [.ref 17, .int v1, .int v2, .int v3, .int v4, .int v5, .int v6, .int (((1 : Int32)) <<< (v6 &&& 31)), mk0]) (S' := []) (h' := h) rfl ?_
    refine Wp.br (fun c2 => ?_) (fun c2 => ?_)
    · replace K := K.1 c2
      refine Wp.blk (by decide) ol_62 49 2 (pc' := 11) (L' := [.ref 17, .int v1, .int v2, .int v3, .int v4, .int v5, .int (v6 + (1 : Int32)), .int (((1 : Int32)) <<< (v6 &&& 31)), mk0]) (S' := []) (h' := h) rfl ?_
      refine Wp.forget (L := [.ref 17, .int v1, .int v2, .int v3, .int v4, .int v5, .int (v6 + (1 : Int32)), mk0, mk0]) (⟨Or.inr rfl, ⟨Or.inr rfl, ⟨Or.inr rfl, ⟨Or.inr rfl, ⟨Or.inr rfl, ⟨Or.inr rfl, ⟨Or.inr rfl, ⟨Or.inl rfl, ⟨Or.inr rfl, trivial⟩⟩⟩⟩⟩⟩⟩⟩⟩) ?_
      exact K
    · replace K := K.2 c2
      refine Wp.blk (by decide) ol_62 20 2 (pc' := (if v3 = (0 : Int32) then 41 else 58)) (L' := [.ref 17, .int v1, .int v2, .int v3, .int v4, .int v5, .int v6, .int (((1 : Int32)) <<< (v6 &&& 31)), mk0]) (S' := []) (h' := h) rfl ?_
      refine Wp.br (fun c3 => ?_) (fun c3 => ?_)
      · replace K := K.1 c3
        refine Wp.blk (by decide) ol_62 22 9 (pc' := 52) (L' := [.ref 17, .int v1, .int v2, .int v3, .int v4, .int v5, .int v6, .int (((1 : Int32)) <<< (v6 &&& 31)), mk0]) (S' := [.int (v4 - ((1 : Int32))), .int (1 : Int32), .int v2, .int (v1 ||| ((((1 : Int32)) <<< (v6 &&& 31)))), .ref 17]) (h' := h) rfl ?_
        refine Wp.callI (op_ix (by decide) ol_62 31 rfl) (act_virt (c2 := 4) rfl (lk1 (kS HS 17 rfl)) rfl) rfl (K.mono ?_)
        rintro _ h4 ⟨x6, rfl, hs5, K⟩
        refine ⟨x6, rfl, ?_⟩
        refine Wp.blk (by decide) ol_62 32 1 (pc' := 72) (L' := [.ref 17, .int v1, .int v2, .int v3, .int v4, .int v5, .int v6, .int (((1 : Int32)) <<< (v6 &&& 31)), mk0]) (S' := [.int x6]) (h' := h4) rfl ?_
        refine Wp.blk (by decide) ol_62 43 4 (pc' := (if x6 = v3 then 80 else 83)) (L' := [.ref 17, .int v1, .int v2, .int v3, .int v4, .int v5, .int v6, .int (((1 : Int32)) <<< (v6 &&& 31)), .int x6]) (S' := []) (h' := h4) rfl ?_
        refine Wp.br (fun c7 => ?_) (fun c7 => ?_)
        · replace K := K.1 c7
          refine Wp.blk (by decide) ol_62 47 1 (pc' := 82) (L' := [.ref 17, .int v1, .int v2, .int v3, .int v4, .int v5, .int v6, .int (((1 : Int32)) <<< (v6 &&& 31)), .int x6]) (S' := [.int v6]) (h' := h4) rfl ?_
          exact Wp.ret (op_ix (by decide) ol_62 48 rfl) rfl K
        · replace K := K.2 c7
          refine Wp.blk (by decide) ol_62 49 2 (pc' := 11) (L' := [.ref 17, .int v1, .int v2, .int v3, .int v4, .int v5, .int (v6 + (1 : Int32)), .int (((1 : Int32)) <<< (v6 &&& 31)), .int x6]) (S' := []) (h' := h4) rfl ?_
          refine Wp.forget (L := [.ref 17, .int v1, .int v2, .int v3, .int v4, .int v5, .int (v6 + (1 : Int32)), mk0, mk0]) (⟨Or.inr rfl, ⟨Or.inr rfl, ⟨Or.inr rfl, ⟨Or.inr rfl, ⟨Or.inr rfl, ⟨Or.inr rfl, ⟨Or.inr rfl, ⟨Or.inl rfl, ⟨Or.inl rfl, trivial⟩⟩⟩⟩⟩⟩⟩⟩⟩) ?_
          exact K
      · replace K := K.2 c3
        refine Wp.blk (by decide) ol_62 33 9 (pc' := 69) (L' := [.ref 17, .int v1, .int v2, .int v3, .int v4, .int v5, .int v6, .int (((1 : Int32)) <<< (v6 &&& 31)), mk0]) (S' := [.int (v4 - ((1 : Int32))), .int (0 : Int32), .int (v2 ||| ((((1 : Int32)) <<< (v6 &&& 31)))), .int v1, .ref 17]) (h' := h) rfl ?_
        refine Wp.callI (op_ix (by decide) ol_62 42 rfl) (act_virt (c2 := 4) rfl (lk1 (kS HS 17 rfl)) rfl) rfl (K.mono ?_)
        rintro _ h8 ⟨x10, rfl, hs9, K⟩
        refine ⟨x10, rfl, ?_⟩
        refine Wp.blk (by decide) ol_62 43 4 (pc' := (if x10 = v3 then 80 else 83)) (L' := [.ref 17, .int v1, .int v2, .int v3, .int v4, .int v5, .int v6, .int (((1 : Int32)) <<< (v6 &&& 31)), .int x10]) (S' := []) (h' := h8) rfl ?_
        refine Wp.br (fun c11 => ?_) (fun c11 => ?_)
        · replace K := K.1 c11
          refine Wp.blk (by decide) ol_62 47 1 (pc' := 82) (L' := [.ref 17, .int v1, .int v2, .int v3, .int v4, .int v5, .int v6, .int (((1 : Int32)) <<< (v6 &&& 31)), .int x10]) (S' := [.int v6]) (h' := h8) rfl ?_
          exact Wp.ret (op_ix (by decide) ol_62 48 rfl) rfl K
        · replace K := K.2 c11
          refine Wp.blk (by decide) ol_62 49 2 (pc' := 11) (L' := [.ref 17, .int v1, .int v2, .int v3, .int v4, .int v5, .int (v6 + (1 : Int32)), .int (((1 : Int32)) <<< (v6 &&& 31)), .int x10]) (S' := []) (h' := h8) rfl ?_
          refine Wp.forget (L := [.ref 17, .int v1, .int v2, .int v3, .int v4, .int v5, .int (v6 + (1 : Int32)), mk0, mk0]) (⟨Or.inr rfl, ⟨Or.inr rfl, ⟨Or.inr rfl, ⟨Or.inr rfl, ⟨Or.inr rfl, ⟨Or.inr rfl, ⟨Or.inr rfl, ⟨Or.inl rfl, ⟨Or.inl rfl, trivial⟩⟩⟩⟩⟩⟩⟩⟩⟩) ?_
          exact K
  · replace K := K.2 c1
    refine Wp.blk (by decide) ol_62 51 1 (pc' := 90) (L' := [.ref 17, .int v1, .int v2, .int v3, .int v4, .int v5, .int v6, mk0, mk0]) (S' := [.int (-1 : Int32)]) (h' := h) rfl ?_
    exact Wp.ret (op_ix (by decide) ol_62 52 rfl) rfl K
/-- CutsOrFast$Sets.<init> at 0 (LCutsOrFast$Net;LCutsOrFast$Search;)V -/
theorem g65_0 (d : Nat) (v0 : Nat) (v1 : Nat) (v2 : Nat) (h : AH)  (Q : Option Value → AH → Prop) (K : (okC 9 (AK h v0).1 = true ∧ 2 ≤ v0 ∧ Q none (stR ((stR h v0 0 (some v1))) v0 1 (some v2)))) : Wp d 65 0 [.ref v0, .ref v1, .ref v2] [] h Q := by
  refine Wp.blk (by decide) ol_65 0 4 (pc' := 6) (L' := [.ref v0, .ref v1, .ref v2]) (S' := [.ref v1, .ref v0]) (h' := h) rfl ?_
  obtain ⟨k1, K⟩ := K
  obtain ⟨b2, K⟩ := K
  refine Wp.putf (op_ix (by decide) ol_65 4 rfl) b2 k1 (h' := (stR h v0 0 (some v1))) rfl rfl ?_
  refine Wp.blk (by decide) ol_65 5 2 (pc' := 11) (L' := [.ref v0, .ref v1, .ref v2]) (S' := [.ref v2, .ref v0]) (h' := (stR h v0 0 (some v1))) rfl ?_
  refine Wp.putf (op_ix (by decide) ol_65 7 rfl) b2 k1 (h' := (stR ((stR h v0 0 (some v1))) v0 1 (some v2))) rfl rfl ?_
  exact Wp.ret (op_ix (by decide) ol_65 8 rfl) rfl K
/-- CutsOrFast$Stand.<init> at 0 (LCutsOrFast$Net;)V -/
theorem g71_0 (d : Nat) (v0 : Nat) (v1 : Nat) (h : AH)  (Q : Option Value → AH → Prop) (K : (∀ n1, n1 = (NX h) → ∀ h2, h2 = (newO h 20 9) → (okC 10 (AK h2 v0).1 = true ∧ 2 ≤ v0 ∧ Q none (stR ((stR h2 v0 1 (some n1))) v0 0 (some v1))))) : Wp d 71 0 [.ref v0, .ref v1] [] h Q := by
  refine Wp.blk (by decide) ol_71 0 4 (pc' := 7) (L' := [.ref v0, .ref v1]) (S' := [.int (9 : Int32), .ref v0]) (h' := h) rfl ?_
  refine Wp.blk (by decide) ol_71 4 1 (pc' := 9) (L' := [.ref v0, .ref v1]) (S' := [.ref (NX h), .ref v0]) (h' := (newO h 20 9)) rfl ?_
  obtain ⟨n1, e3⟩ : ∃ x, x = (NX h) := ⟨_, rfl⟩
  obtain ⟨h2, e4⟩ : ∃ x, x = (newO h 20 9) := ⟨_, rfl⟩
  rw [← e4, ← e3]
  replace K := K n1 e3 h2 e4
  obtain ⟨k5, K⟩ := K
  obtain ⟨b6, K⟩ := K
  refine Wp.putf (op_ix (by decide) ol_71 5 rfl) b6 k5 (h' := (stR h2 v0 1 (some n1))) rfl rfl ?_
  refine Wp.blk (by decide) ol_71 6 2 (pc' := 14) (L' := [.ref v0, .ref v1]) (S' := [.ref v1, .ref v0]) (h' := (stR h2 v0 1 (some n1))) rfl ?_
  refine Wp.putf (op_ix (by decide) ol_71 8 rfl) b6 k5 (h' := (stR ((stR h2 v0 1 (some n1))) v0 0 (some v1))) rfl rfl ?_
  exact Wp.ret (op_ix (by decide) ol_71 9 rfl) rfl K
/-- CutsOrFast$Stand.start at 0 (II)V -/
theorem g72_0 (d : Nat) (v0 : Nat) (v1 : Int32) (v2 : Int32) (h : AH) (HS : Sh h) (t0 : St3 v0) (Q : Option Value → AH → Prop) (K : Q none (stI ((stI ((stI ((stI h v0 3 v1)) v0 4 v2)) v0 5 ((0 : Int32)))) v0 2 ((0 : Int32)))) : Wp d 72 0 [.ref v0, .int v1, .int v2] [] h Q := by
  refine Wp.blk (by decide) ol_72 0 2 (pc' := 2) (L' := [.ref v0, .int v1, .int v2]) (S' := [.int v1, .ref v0]) (h' := h) rfl ?_
  refine Wp.putf (op_ix (by decide) ol_72 2 rfl) (twoT t0) (okT HS t0) (h' := (stI h v0 3 v1)) rfl rfl ?_
  refine Wp.blk (by decide) ol_72 3 2 (pc' := 7) (L' := [.ref v0, .int v1, .int v2]) (S' := [.int v2, .ref v0]) (h' := (stI h v0 3 v1)) rfl ?_
  refine Wp.putf (op_ix (by decide) ol_72 5 rfl) (twoT t0) (okT HS t0) (h' := (stI ((stI h v0 3 v1)) v0 4 v2)) rfl rfl ?_
  refine Wp.blk (by decide) ol_72 6 2 (pc' := 12) (L' := [.ref v0, .int v1, .int v2]) (S' := [.int (0 : Int32), .ref v0]) (h' := (stI ((stI h v0 3 v1)) v0 4 v2)) rfl ?_
  refine Wp.putf (op_ix (by decide) ol_72 8 rfl) (twoT t0) (okT HS t0) (h' := (stI ((stI ((stI h v0 3 v1)) v0 4 v2)) v0 5 ((0 : Int32)))) rfl rfl ?_
  refine Wp.blk (by decide) ol_72 9 2 (pc' := 17) (L' := [.ref v0, .int v1, .int v2]) (S' := [.int (0 : Int32), .ref v0]) (h' := (stI ((stI ((stI h v0 3 v1)) v0 4 v2)) v0 5 ((0 : Int32)))) rfl ?_
  refine Wp.putf (op_ix (by decide) ol_72 11 rfl) (twoT t0) (okT HS t0) (h' := (stI ((stI ((stI ((stI h v0 3 v1)) v0 4 v2)) v0 5 ((0 : Int32)))) v0 2 ((0 : Int32)))) rfl rfl ?_
  exact Wp.ret (op_ix (by decide) ol_72 12 rfl) rfl K
/-- CutsOrFast$Stand.copyFrom at 0 (LCutsOrFast$Stand;)V -/
theorem g73_0 (d : Nat) (v0 : Nat) (v1 : Nat) (h : AH) (HS : Sh h) (t0 : St3 v0) (t1 : St3 v1) (Q : Option Value → AH → Prop) (K : Wp d 73 34 [.ref v0, .ref v1, .int (0 : Int32)] [] (stI ((stI ((stI ((stI h v0 3 ((AI h v1 3)))) v0 4 ((AI ((stI h v0 3 ((AI h v1 3)))) v1 4)))) v0 5 ((AI ((stI ((stI h v0 3 ((AI h v1 3)))) v0 4 ((AI ((stI h v0 3 ((AI h v1 3)))) v1 4)))) v1 5)))) v0 2 ((AI ((stI ((stI ((stI h v0 3 ((AI h v1 3)))) v0 4 ((AI ((stI h v0 3 ((AI h v1 3)))) v1 4)))) v0 5 ((AI ((stI ((stI h v0 3 ((AI h v1 3)))) v0 4 ((AI ((stI h v0 3 ((AI h v1 3)))) v1 4)))) v1 5)))) v1 2))) Q) : Wp d 73 0 [.ref v0, .ref v1, mk0] [] h Q := by
  refine Wp.blk (by decide) ol_73 0 2 (pc' := 2) (L' := [.ref v0, .ref v1, mk0]) (S' := [.ref v1, .ref v0]) (h' := h) rfl ?_
  refine Wp.getf (op_ix (by decide) ol_73 2 rfl) (okT HS t1) (v := .int (AI h v1 3)) rfl rfl ?_
  refine Wp.putf (op_ix (by decide) ol_73 3 rfl) (twoT t0) (okT HS t0) (h' := (stI h v0 3 ((AI h v1 3)))) rfl rfl ?_
  refine Wp.blk (by decide) ol_73 4 2 (pc' := 10) (L' := [.ref v0, .ref v1, mk0]) (S' := [.ref v1, .ref v0]) (h' := (stI h v0 3 ((AI h v1 3)))) rfl ?_
  refine Wp.getf (op_ix (by decide) ol_73 6 rfl) (okT HS t1) (v := .int (AI ((stI h v0 3 ((AI h v1 3)))) v1 4)) rfl rfl ?_
  refine Wp.putf (op_ix (by decide) ol_73 7 rfl) (twoT t0) (okT HS t0) (h' := (stI ((stI h v0 3 ((AI h v1 3)))) v0 4 ((AI ((stI h v0 3 ((AI h v1 3)))) v1 4)))) rfl rfl ?_
  refine Wp.blk (by decide) ol_73 8 2 (pc' := 18) (L' := [.ref v0, .ref v1, mk0]) (S' := [.ref v1, .ref v0]) (h' := (stI ((stI h v0 3 ((AI h v1 3)))) v0 4 ((AI ((stI h v0 3 ((AI h v1 3)))) v1 4)))) rfl ?_
  refine Wp.getf (op_ix (by decide) ol_73 10 rfl) (okT HS t1) (v := .int (AI ((stI ((stI h v0 3 ((AI h v1 3)))) v0 4 ((AI ((stI h v0 3 ((AI h v1 3)))) v1 4)))) v1 5)) rfl rfl ?_
  refine Wp.putf (op_ix (by decide) ol_73 11 rfl) (twoT t0) (okT HS t0) (h' := (stI ((stI ((stI h v0 3 ((AI h v1 3)))) v0 4 ((AI ((stI h v0 3 ((AI h v1 3)))) v1 4)))) v0 5 ((AI ((stI ((stI h v0 3 ((AI h v1 3)))) v0 4 ((AI ((stI h v0 3 ((AI h v1 3)))) v1 4)))) v1 5)))) rfl rfl ?_
  refine Wp.blk (by decide) ol_73 12 2 (pc' := 26) (L' := [.ref v0, .ref v1, mk0]) (S' := [.ref v1, .ref v0]) (h' := (stI ((stI ((stI h v0 3 ((AI h v1 3)))) v0 4 ((AI ((stI h v0 3 ((AI h v1 3)))) v1 4)))) v0 5 ((AI ((stI ((stI h v0 3 ((AI h v1 3)))) v0 4 ((AI ((stI h v0 3 ((AI h v1 3)))) v1 4)))) v1 5)))) rfl ?_
  refine Wp.getf (op_ix (by decide) ol_73 14 rfl) (okT HS t1) (v := .int (AI ((stI ((stI ((stI h v0 3 ((AI h v1 3)))) v0 4 ((AI ((stI h v0 3 ((AI h v1 3)))) v1 4)))) v0 5 ((AI ((stI ((stI h v0 3 ((AI h v1 3)))) v0 4 ((AI ((stI h v0 3 ((AI h v1 3)))) v1 4)))) v1 5)))) v1 2)) rfl rfl ?_
  refine Wp.putf (op_ix (by decide) ol_73 15 rfl) (twoT t0) (okT HS t0) (h' := (stI ((stI ((stI ((stI h v0 3 ((AI h v1 3)))) v0 4 ((AI ((stI h v0 3 ((AI h v1 3)))) v1 4)))) v0 5 ((AI ((stI ((stI h v0 3 ((AI h v1 3)))) v0 4 ((AI ((stI h v0 3 ((AI h v1 3)))) v1 4)))) v1 5)))) v0 2 ((AI ((stI ((stI ((stI h v0 3 ((AI h v1 3)))) v0 4 ((AI ((stI h v0 3 ((AI h v1 3)))) v1 4)))) v0 5 ((AI ((stI ((stI h v0 3 ((AI h v1 3)))) v0 4 ((AI ((stI h v0 3 ((AI h v1 3)))) v1 4)))) v1 5)))) v1 2)))) rfl rfl ?_
  refine Wp.blk (by decide) ol_73 16 2 (pc' := 34) (L' := [.ref v0, .ref v1, .int (0 : Int32)]) (S' := []) (h' := (stI ((stI ((stI ((stI h v0 3 ((AI h v1 3)))) v0 4 ((AI ((stI h v0 3 ((AI h v1 3)))) v1 4)))) v0 5 ((AI ((stI ((stI h v0 3 ((AI h v1 3)))) v0 4 ((AI ((stI h v0 3 ((AI h v1 3)))) v1 4)))) v1 5)))) v0 2 ((AI ((stI ((stI ((stI h v0 3 ((AI h v1 3)))) v0 4 ((AI ((stI h v0 3 ((AI h v1 3)))) v1 4)))) v0 5 ((AI ((stI ((stI h v0 3 ((AI h v1 3)))) v0 4 ((AI ((stI h v0 3 ((AI h v1 3)))) v1 4)))) v1 5)))) v1 2)))) rfl ?_
  exact K
/-- CutsOrFast$Stand.copyFrom at 34 -/
theorem g73_34 (d : Nat) (v0 : Nat) (v1 : Nat) (v2 : Int32) (h : AH) (HS : Sh h) (t0 : St3 v0) (t1 : St3 v1) (Q : Option Value → AH → Prop) (K : ((v2 < (AI h v0 2) → (∀ h2, h2 = (putv h ((v0 + 1)) v2 ((atv h ((v1 + 1)) v2))) → Wp (d + 1) 73 34 [.ref v0, .ref v1, .int (v2 + (1 : Int32))] [] h2 Q)) ∧ (¬ v2 < (AI h v0 2) → Q none h))) : Wp (d + 1) 73 34 [.ref v0, .ref v1, .int v2] [] h Q := by
  refine Wp.blk (by decide) ol_73 18 2 (pc' := 36) (L' := [.ref v0, .ref v1, .int v2]) (S' := [.ref v0, .int v2]) (h' := h) rfl ?_
  refine Wp.getf (op_ix (by decide) ol_73 20 rfl) (okT HS t0) (v := .int (AI h v0 2)) rfl rfl ?_
  refine Wp.blk (by decide) ol_73 21 1 (pc' := (if v2 < (AI h v0 2) then 42 else 64)) (L' := [.ref v0, .ref v1, .int v2]) (S' := []) (h' := h) rfl ?_
  refine Wp.br (fun c1 => ?_) (fun c1 => ?_)
  · replace K := K.1 c1
    refine Wp.blk (by decide) ol_73 22 1 (pc' := 43) (L' := [.ref v0, .ref v1, .int v2]) (S' := [.ref v0]) (h' := h) rfl ?_
    refine Wp.getf (op_ix (by decide) ol_73 23 rfl) (okT HS t0) (v := .ref (v0 + 1)) (congrArg va_rf (rT1 HS t0)) rfl ?_
    refine Wp.blk (by decide) ol_73 24 2 (pc' := 48) (L' := [.ref v0, .ref v1, .int v2]) (S' := [.ref v1, .int v2, .ref (v0 + 1)]) (h' := h) rfl ?_
    refine Wp.getf (op_ix (by decide) ol_73 26 rfl) (okT HS t1) (v := .ref (v1 + 1)) (congrArg va_rf (rT1 HS t1)) rfl ?_
    refine Wp.blk (by decide) ol_73 27 1 (pc' := 52) (L' := [.ref v0, .ref v1, .int v2]) (S' := [.int v2, .ref (v1 + 1), .int v2, .ref (v0 + 1)]) (h' := h) rfl ?_
    refine Wp.callI (op_ix (by decide) ol_73 28 rfl) rfl rfl (sp_at (kM HS t1) (nM HS t1) ?_)
    refine ⟨_, rfl, ?_⟩
    refine Wp.callV (op_ix (by decide) ol_73 29 rfl) rfl rfl (sp_put (kM HS t0) (nM HS t0) (Nat.le_succ_of_le (twoT t0)) ?_)
    refine ⟨rfl, ?_⟩
    obtain ⟨h2, e3⟩ : ∃ y, y = (putv h ((v0 + 1)) v2 ((atv h ((v1 + 1)) v2))) := ⟨_, rfl⟩
    rw [← e3]
    replace K := K h2 e3
    have hs4 : Sh h2 := by rw [e3]; exact Sh.putv HS _ _ _
    refine Wp.blk (by decide) ol_73 30 2 (pc' := 34) (L' := [.ref v0, .ref v1, .int (v2 + (1 : Int32))]) (S' := []) (h' := h2) rfl ?_
    exact K
  · replace K := K.2 c1
    exact Wp.ret (op_ix (by decide) ol_73 32 rfl) rfl K
/-- CutsOrFast$Stand.play at 0 (I)V -/
theorem g74_0 (d : Nat) (v0 : Nat) (v1 : Int32) (h : AH) (HS : Sh h) (t0 : St3 v0) (Q : Option Value → AH → Prop) (K : (((AI h v0 5) = (0 : Int32) → Wp d 74 34 [.ref v0, .int v1] [] (stI h v0 3 ((((AI h v0 3)) ||| ((((1 : Int32)) <<< (v1 &&& 31)))))) Q) ∧ (¬ (AI h v0 5) = (0 : Int32) → Wp d 74 34 [.ref v0, .int v1] [] (stI h v0 4 ((((AI h v0 4)) ||| ((((1 : Int32)) <<< (v1 &&& 31)))))) Q))) : Wp d 74 0 [.ref v0, .int v1] [] h Q := by
  refine Wp.blk (by decide) ol_74 0 1 (pc' := 1) (L' := [.ref v0, .int v1]) (S' := [.ref v0]) (h' := h) rfl ?_
  refine Wp.getf (op_ix (by decide) ol_74 1 rfl) (okT HS t0) (v := .int (AI h v0 5)) rfl rfl ?_
  refine Wp.blk (by decide) ol_74 2 1 (pc' := (if (AI h v0 5) = (0 : Int32) then 7 else 22)) (L' := [.ref v0, .int v1]) (S' := []) (h' := h) rfl ?_
  refine Wp.br (fun c1 => ?_) (fun c1 => ?_)
  · replace K := K.1 c1
    refine Wp.blk (by decide) ol_74 3 2 (pc' := 9) (L' := [.ref v0, .int v1]) (S' := [.ref v0, .ref v0]) (h' := h) rfl ?_
    refine Wp.getf (op_ix (by decide) ol_74 5 rfl) (okT HS t0) (v := .int (AI h v0 3)) rfl rfl ?_
    refine Wp.blk (by decide) ol_74 6 4 (pc' := 16) (L' := [.ref v0, .int v1]) (S' := [.int (((AI h v0 3)) ||| ((((1 : Int32)) <<< (v1 &&& 31)))), .ref v0]) (h' := h) rfl ?_
    refine Wp.putf (op_ix (by decide) ol_74 10 rfl) (twoT t0) (okT HS t0) (h' := (stI h v0 3 ((((AI h v0 3)) ||| ((((1 : Int32)) <<< (v1 &&& 31))))))) rfl rfl ?_
    refine Wp.blk (by decide) ol_74 11 1 (pc' := 34) (L' := [.ref v0, .int v1]) (S' := []) (h' := (stI h v0 3 ((((AI h v0 3)) ||| ((((1 : Int32)) <<< (v1 &&& 31))))))) rfl ?_
    exact K
  · replace K := K.2 c1
    refine Wp.blk (by decide) ol_74 12 2 (pc' := 24) (L' := [.ref v0, .int v1]) (S' := [.ref v0, .ref v0]) (h' := h) rfl ?_
    refine Wp.getf (op_ix (by decide) ol_74 14 rfl) (okT HS t0) (v := .int (AI h v0 4)) rfl rfl ?_
    refine Wp.blk (by decide) ol_74 15 4 (pc' := 31) (L' := [.ref v0, .int v1]) (S' := [.int (((AI h v0 4)) ||| ((((1 : Int32)) <<< (v1 &&& 31)))), .ref v0]) (h' := h) rfl ?_
    refine Wp.putf (op_ix (by decide) ol_74 19 rfl) (twoT t0) (okT HS t0) (h' := (stI h v0 4 ((((AI h v0 4)) ||| ((((1 : Int32)) <<< (v1 &&& 31))))))) rfl rfl ?_
    exact K
/-- CutsOrFast$Stand.play at 34 -/
theorem g74_34 (d : Nat) (v0 : Nat) (v1 : Int32) (h : AH) (HS : Sh h) (t0 : St3 v0) (Q : Option Value → AH → Prop) (K : (∀ h1, h1 = (putv h ((v0 + 1)) ((AI h v0 2)) v1) → Q none (stI ((stI h1 v0 2 ((((AI h1 v0 2)) + ((1 : Int32)))))) v0 5 ((((1 : Int32)) - ((AI ((stI h1 v0 2 ((((AI h1 v0 2)) + ((1 : Int32)))))) v0 5))))))) : Wp (d + 1) 74 34 [.ref v0, .int v1] [] h Q := by
  refine Wp.blk (by decide) ol_74 20 1 (pc' := 35) (L' := [.ref v0, .int v1]) (S' := [.ref v0]) (h' := h) rfl ?_
  refine Wp.getf (op_ix (by decide) ol_74 21 rfl) (okT HS t0) (v := .ref (v0 + 1)) (congrArg va_rf (rT1 HS t0)) rfl ?_
  refine Wp.blk (by decide) ol_74 22 1 (pc' := 39) (L' := [.ref v0, .int v1]) (S' := [.ref v0, .ref (v0 + 1)]) (h' := h) rfl ?_
  refine Wp.getf (op_ix (by decide) ol_74 23 rfl) (okT HS t0) (v := .int (AI h v0 2)) rfl rfl ?_
  refine Wp.blk (by decide) ol_74 24 1 (pc' := 43) (L' := [.ref v0, .int v1]) (S' := [.int v1, .int (AI h v0 2), .ref (v0 + 1)]) (h' := h) rfl ?_
  refine Wp.callV (op_ix (by decide) ol_74 25 rfl) rfl rfl (sp_put (kM HS t0) (nM HS t0) (Nat.le_succ_of_le (twoT t0)) ?_)
  refine ⟨rfl, ?_⟩
  obtain ⟨h1, e2⟩ : ∃ y, y = (putv h ((v0 + 1)) ((AI h v0 2)) v1) := ⟨_, rfl⟩
  rw [← e2]
  replace K := K h1 e2
  have hs3 : Sh h1 := by rw [e2]; exact Sh.putv HS _ _ _
  refine Wp.blk (by decide) ol_74 26 2 (pc' := 48) (L' := [.ref v0, .int v1]) (S' := [.ref v0, .ref v0]) (h' := h1) rfl ?_
  refine Wp.getf (op_ix (by decide) ol_74 28 rfl) (okT hs3 t0) (v := .int (AI h1 v0 2)) rfl rfl ?_
  refine Wp.blk (by decide) ol_74 29 2 (pc' := 53) (L' := [.ref v0, .int v1]) (S' := [.int (((AI h1 v0 2)) + ((1 : Int32))), .ref v0]) (h' := h1) rfl ?_
  refine Wp.putf (op_ix (by decide) ol_74 31 rfl) (twoT t0) (okT hs3 t0) (h' := (stI h1 v0 2 ((((AI h1 v0 2)) + ((1 : Int32)))))) rfl rfl ?_
  refine Wp.blk (by decide) ol_74 32 3 (pc' := 59) (L' := [.ref v0, .int v1]) (S' := [.ref v0, .int (1 : Int32), .ref v0]) (h' := (stI h1 v0 2 ((((AI h1 v0 2)) + ((1 : Int32)))))) rfl ?_
  refine Wp.getf (op_ix (by decide) ol_74 35 rfl) (okT hs3 t0) (v := .int (AI ((stI h1 v0 2 ((((AI h1 v0 2)) + ((1 : Int32)))))) v0 5)) rfl rfl ?_
  refine Wp.blk (by decide) ol_74 36 1 (pc' := 63) (L' := [.ref v0, .int v1]) (S' := [.int (((1 : Int32)) - ((AI ((stI h1 v0 2 ((((AI h1 v0 2)) + ((1 : Int32)))))) v0 5))), .ref v0]) (h' := (stI h1 v0 2 ((((AI h1 v0 2)) + ((1 : Int32)))))) rfl ?_
  refine Wp.putf (op_ix (by decide) ol_74 37 rfl) (twoT t0) (okT hs3 t0) (h' := (stI ((stI h1 v0 2 ((((AI h1 v0 2)) + ((1 : Int32)))))) v0 5 ((((1 : Int32)) - ((AI ((stI h1 v0 2 ((((AI h1 v0 2)) + ((1 : Int32)))))) v0 5)))))) rfl rfl ?_
  exact Wp.ret (op_ix (by decide) ol_74 38 rfl) rfl K
/-- CutsOrFast$Stand.undo at 0 ()V -/
theorem g75_0 (d : Nat) (v0 : Nat) (h : AH) (HS : Sh h) (t0 : St3 v0) (Q : Option Value → AH → Prop) (K : (((0 : Int32) < (AI h v0 2) → Q none (stI ((stI ((stI ((stI h v0 2 ((((AI h v0 2)) - ((1 : Int32)))))) v0 3 ((((AI ((stI h v0 2 ((((AI h v0 2)) - ((1 : Int32)))))) v0 3)) &&& ((((((1 : Int32)) <<< (((atv ((stI h v0 2 ((((AI h v0 2)) - ((1 : Int32)))))) ((v0 + 1)) ((AI ((stI h v0 2 ((((AI h v0 2)) - ((1 : Int32)))))) v0 2)))) &&& 31))) ^^^ ((-1 : Int32)))))))) v0 4 ((((AI ((stI ((stI h v0 2 ((((AI h v0 2)) - ((1 : Int32)))))) v0 3 ((((AI ((stI h v0 2 ((((AI h v0 2)) - ((1 : Int32)))))) v0 3)) &&& ((((((1 : Int32)) <<< (((atv ((stI h v0 2 ((((AI h v0 2)) - ((1 : Int32)))))) ((v0 + 1)) ((AI ((stI h v0 2 ((((AI h v0 2)) - ((1 : Int32)))))) v0 2)))) &&& 31))) ^^^ ((-1 : Int32)))))))) v0 4)) &&& ((((((1 : Int32)) <<< (((atv ((stI h v0 2 ((((AI h v0 2)) - ((1 : Int32)))))) ((v0 + 1)) ((AI ((stI h v0 2 ((((AI h v0 2)) - ((1 : Int32)))))) v0 2)))) &&& 31))) ^^^ ((-1 : Int32)))))))) v0 5 ((((1 : Int32)) - ((AI ((stI ((stI ((stI h v0 2 ((((AI h v0 2)) - ((1 : Int32)))))) v0 3 ((((AI ((stI h v0 2 ((((AI h v0 2)) - ((1 : Int32)))))) v0 3)) &&& ((((((1 : Int32)) <<< (((atv ((stI h v0 2 ((((AI h v0 2)) - ((1 : Int32)))))) ((v0 + 1)) ((AI ((stI h v0 2 ((((AI h v0 2)) - ((1 : Int32)))))) v0 2)))) &&& 31))) ^^^ ((-1 : Int32)))))))) v0 4 ((((AI ((stI ((stI h v0 2 ((((AI h v0 2)) - ((1 : Int32)))))) v0 3 ((((AI ((stI h v0 2 ((((AI h v0 2)) - ((1 : Int32)))))) v0 3)) &&& ((((((1 : Int32)) <<< (((atv ((stI h v0 2 ((((AI h v0 2)) - ((1 : Int32)))))) ((v0 + 1)) ((AI ((stI h v0 2 ((((AI h v0 2)) - ((1 : Int32)))))) v0 2)))) &&& 31))) ^^^ ((-1 : Int32)))))))) v0 4)) &&& ((((((1 : Int32)) <<< (((atv ((stI h v0 2 ((((AI h v0 2)) - ((1 : Int32)))))) ((v0 + 1)) ((AI ((stI h v0 2 ((((AI h v0 2)) - ((1 : Int32)))))) v0 2)))) &&& 31))) ^^^ ((-1 : Int32)))))))) v0 5)))))) ∧ (¬ (0 : Int32) < (AI h v0 2) → Q none h))) : Wp (d + 1) 75 0 [.ref v0, mk0] [] h Q := by
  refine Wp.blk (by decide) ol_75 0 1 (pc' := 1) (L' := [.ref v0, mk0]) (S' := [.ref v0]) (h' := h) rfl ?_
  refine Wp.getf (op_ix (by decide) ol_75 1 rfl) (okT HS t0) (v := .int (AI h v0 2)) rfl rfl ?_
  refine Wp.blk (by decide) ol_75 2 1 (pc' := (if (0 : Int32) < (AI h v0 2) then 7 else 65)) (L' := [.ref v0, mk0]) (S' := []) (h' := h) rfl ?_
  refine Wp.br (fun c1 => ?_) (fun c1 => ?_)
  · replace K := K.1 c1
    refine Wp.blk (by decide) ol_75 3 2 (pc' := 9) (L' := [.ref v0, mk0]) (S' := [.ref v0, .ref v0]) (h' := h) rfl ?_
    refine Wp.getf (op_ix (by decide) ol_75 5 rfl) (okT HS t0) (v := .int (AI h v0 2)) rfl rfl ?_
    refine Wp.blk (by decide) ol_75 6 2 (pc' := 14) (L' := [.ref v0, mk0]) (S' := [.int (((AI h v0 2)) - ((1 : Int32))), .ref v0]) (h' := h) rfl ?_
    refine Wp.putf (op_ix (by decide) ol_75 8 rfl) (twoT t0) (okT HS t0) (h' := (stI h v0 2 ((((AI h v0 2)) - ((1 : Int32)))))) rfl rfl ?_
    refine Wp.blk (by decide) ol_75 9 2 (pc' := 19) (L' := [.ref v0, mk0]) (S' := [.ref v0, .int (1 : Int32)]) (h' := (stI h v0 2 ((((AI h v0 2)) - ((1 : Int32)))))) rfl ?_
    refine Wp.getf (op_ix (by decide) ol_75 11 rfl) (okT HS t0) (v := .ref (v0 + 1)) (congrArg va_rf (rT1 HS t0)) rfl ?_
    refine Wp.blk (by decide) ol_75 12 1 (pc' := 23) (L' := [.ref v0, mk0]) (S' := [.ref v0, .ref (v0 + 1), .int (1 : Int32)]) (h' := (stI h v0 2 ((((AI h v0 2)) - ((1 : Int32)))))) rfl ?_
    refine Wp.getf (op_ix (by decide) ol_75 13 rfl) (okT HS t0) (v := .int (AI ((stI h v0 2 ((((AI h v0 2)) - ((1 : Int32)))))) v0 2)) rfl rfl ?_
    refine Wp.callI (op_ix (by decide) ol_75 14 rfl) rfl rfl (sp_at (kM HS t0) (nM HS t0) ?_)
    refine ⟨_, rfl, ?_⟩
    refine Wp.blk (by decide) ol_75 15 4 (pc' := 33) (L' := [.ref v0, .int (((1 : Int32)) <<< (((atv ((stI h v0 2 ((((AI h v0 2)) - ((1 : Int32)))))) ((v0 + 1)) ((AI ((stI h v0 2 ((((AI h v0 2)) - ((1 : Int32)))))) v0 2)))) &&& 31))]) (S' := [.ref v0, .ref v0]) (h' := (stI h v0 2 ((((AI h v0 2)) - ((1 : Int32)))))) rfl ?_
    refine Wp.getf (op_ix (by decide) ol_75 19 rfl) (okT HS t0) (v := .int (AI ((stI h v0 2 ((((AI h v0 2)) - ((1 : Int32)))))) v0 3)) rfl rfl ?_
    refine Wp.blk (by decide) ol_75 20 4 (pc' := 40) (L' := [.ref v0, .int (((1 : Int32)) <<< (((atv ((stI h v0 2 ((((AI h v0 2)) - ((1 : Int32)))))) ((v0 + 1)) ((AI ((stI h v0 2 ((((AI h v0 2)) - ((1 : Int32)))))) v0 2)))) &&& 31))]) (S' := [.int (((AI ((stI h v0 2 ((((AI h v0 2)) - ((1 : Int32)))))) v0 3)) &&& ((((((1 : Int32)) <<< (((atv ((stI h v0 2 ((((AI h v0 2)) - ((1 : Int32)))))) ((v0 + 1)) ((AI ((stI h v0 2 ((((AI h v0 2)) - ((1 : Int32)))))) v0 2)))) &&& 31))) ^^^ ((-1 : Int32))))), .ref v0]) (h' := (stI h v0 2 ((((AI h v0 2)) - ((1 : Int32)))))) rfl ?_
    refine Wp.putf (op_ix (by decide) ol_75 24 rfl) (twoT t0) (okT HS t0) (h' := (stI ((stI h v0 2 ((((AI h v0 2)) - ((1 : Int32)))))) v0 3 ((((AI ((stI h v0 2 ((((AI h v0 2)) - ((1 : Int32)))))) v0 3)) &&& ((((((1 : Int32)) <<< (((atv ((stI h v0 2 ((((AI h v0 2)) - ((1 : Int32)))))) ((v0 + 1)) ((AI ((stI h v0 2 ((((AI h v0 2)) - ((1 : Int32)))))) v0 2)))) &&& 31))) ^^^ ((-1 : Int32)))))))) rfl rfl ?_
    refine Wp.blk (by decide) ol_75 25 2 (pc' := 45) (L' := [.ref v0, .int (((1 : Int32)) <<< (((atv ((stI h v0 2 ((((AI h v0 2)) - ((1 : Int32)))))) ((v0 + 1)) ((AI ((stI h v0 2 ((((AI h v0 2)) - ((1 : Int32)))))) v0 2)))) &&& 31))]) (S' := [.ref v0, .ref v0]) (h' := (stI ((stI h v0 2 ((((AI h v0 2)) - ((1 : Int32)))))) v0 3 ((((AI ((stI h v0 2 ((((AI h v0 2)) - ((1 : Int32)))))) v0 3)) &&& ((((((1 : Int32)) <<< (((atv ((stI h v0 2 ((((AI h v0 2)) - ((1 : Int32)))))) ((v0 + 1)) ((AI ((stI h v0 2 ((((AI h v0 2)) - ((1 : Int32)))))) v0 2)))) &&& 31))) ^^^ ((-1 : Int32)))))))) rfl ?_
    refine Wp.getf (op_ix (by decide) ol_75 27 rfl) (okT HS t0) (v := .int (AI ((stI ((stI h v0 2 ((((AI h v0 2)) - ((1 : Int32)))))) v0 3 ((((AI ((stI h v0 2 ((((AI h v0 2)) - ((1 : Int32)))))) v0 3)) &&& ((((((1 : Int32)) <<< (((atv ((stI h v0 2 ((((AI h v0 2)) - ((1 : Int32)))))) ((v0 + 1)) ((AI ((stI h v0 2 ((((AI h v0 2)) - ((1 : Int32)))))) v0 2)))) &&& 31))) ^^^ ((-1 : Int32)))))))) v0 4)) rfl rfl ?_
    refine Wp.blk (by decide) ol_75 28 4 (pc' := 52) (L' := [.ref v0, .int (((1 : Int32)) <<< (((atv ((stI h v0 2 ((((AI h v0 2)) - ((1 : Int32)))))) ((v0 + 1)) ((AI ((stI h v0 2 ((((AI h v0 2)) - ((1 : Int32)))))) v0 2)))) &&& 31))]) (S' := [.int (((AI ((stI ((stI h v0 2 ((((AI h v0 2)) - ((1 : Int32)))))) v0 3 ((((AI ((stI h v0 2 ((((AI h v0 2)) - ((1 : Int32)))))) v0 3)) &&& ((((((1 : Int32)) <<< (((atv ((stI h v0 2 ((((AI h v0 2)) - ((1 : Int32)))))) ((v0 + 1)) ((AI ((stI h v0 2 ((((AI h v0 2)) - ((1 : Int32)))))) v0 2)))) &&& 31))) ^^^ ((-1 : Int32)))))))) v0 4)) &&& ((((((1 : Int32)) <<< (((atv ((stI h v0 2 ((((AI h v0 2)) - ((1 : Int32)))))) ((v0 + 1)) ((AI ((stI h v0 2 ((((AI h v0 2)) - ((1 : Int32)))))) v0 2)))) &&& 31))) ^^^ ((-1 : Int32))))), .ref v0]) (h' := (stI ((stI h v0 2 ((((AI h v0 2)) - ((1 : Int32)))))) v0 3 ((((AI ((stI h v0 2 ((((AI h v0 2)) - ((1 : Int32)))))) v0 3)) &&& ((((((1 : Int32)) <<< (((atv ((stI h v0 2 ((((AI h v0 2)) - ((1 : Int32)))))) ((v0 + 1)) ((AI ((stI h v0 2 ((((AI h v0 2)) - ((1 : Int32)))))) v0 2)))) &&& 31))) ^^^ ((-1 : Int32)))))))) rfl ?_
    refine Wp.putf (op_ix (by decide) ol_75 32 rfl) (twoT t0) (okT HS t0) (h' := (stI ((stI ((stI h v0 2 ((((AI h v0 2)) - ((1 : Int32)))))) v0 3 ((((AI ((stI h v0 2 ((((AI h v0 2)) - ((1 : Int32)))))) v0 3)) &&& ((((((1 : Int32)) <<< (((atv ((stI h v0 2 ((((AI h v0 2)) - ((1 : Int32)))))) ((v0 + 1)) ((AI ((stI h v0 2 ((((AI h v0 2)) - ((1 : Int32)))))) v0 2)))) &&& 31))) ^^^ ((-1 : Int32)))))))) v0 4 ((((AI ((stI ((stI h v0 2 ((((AI h v0 2)) - ((1 : Int32)))))) v0 3 ((((AI ((stI h v0 2 ((((AI h v0 2)) - ((1 : Int32)))))) v0 3)) &&& ((((((1 : Int32)) <<< (((atv ((stI h v0 2 ((((AI h v0 2)) - ((1 : Int32)))))) ((v0 + 1)) ((AI ((stI h v0 2 ((((AI h v0 2)) - ((1 : Int32)))))) v0 2)))) &&& 31))) ^^^ ((-1 : Int32)))))))) v0 4)) &&& ((((((1 : Int32)) <<< (((atv ((stI h v0 2 ((((AI h v0 2)) - ((1 : Int32)))))) ((v0 + 1)) ((AI ((stI h v0 2 ((((AI h v0 2)) - ((1 : Int32)))))) v0 2)))) &&& 31))) ^^^ ((-1 : Int32)))))))) rfl rfl ?_
    refine Wp.blk (by decide) ol_75 33 3 (pc' := 58) (L' := [.ref v0, .int (((1 : Int32)) <<< (((atv ((stI h v0 2 ((((AI h v0 2)) - ((1 : Int32)))))) ((v0 + 1)) ((AI ((stI h v0 2 ((((AI h v0 2)) - ((1 : Int32)))))) v0 2)))) &&& 31))]) (S' := [.ref v0, .int (1 : Int32), .ref v0]) (h' := (stI ((stI ((stI h v0 2 ((((AI h v0 2)) - ((1 : Int32)))))) v0 3 ((((AI ((stI h v0 2 ((((AI h v0 2)) - ((1 : Int32)))))) v0 3)) &&& ((((((1 : Int32)) <<< (((atv ((stI h v0 2 ((((AI h v0 2)) - ((1 : Int32)))))) ((v0 + 1)) ((AI ((stI h v0 2 ((((AI h v0 2)) - ((1 : Int32)))))) v0 2)))) &&& 31))) ^^^ ((-1 : Int32)))))))) v0 4 ((((AI ((stI ((stI h v0 2 ((((AI h v0 2)) - ((1 : Int32)))))) v0 3 ((((AI ((stI h v0 2 ((((AI h v0 2)) - ((1 : Int32)))))) v0 3)) &&& ((((((1 : Int32)) <<< (((atv ((stI h v0 2 ((((AI h v0 2)) - ((1 : Int32)))))) ((v0 + 1)) ((AI ((stI h v0 2 ((((AI h v0 2)) - ((1 : Int32)))))) v0 2)))) &&& 31))) ^^^ ((-1 : Int32)))))))) v0 4)) &&& ((((((1 : Int32)) <<< (((atv ((stI h v0 2 ((((AI h v0 2)) - ((1 : Int32)))))) ((v0 + 1)) ((AI ((stI h v0 2 ((((AI h v0 2)) - ((1 : Int32)))))) v0 2)))) &&& 31))) ^^^ ((-1 : Int32)))))))) rfl ?_
    refine Wp.getf (op_ix (by decide) ol_75 36 rfl) (okT HS t0) (v := .int (AI ((stI ((stI ((stI h v0 2 ((((AI h v0 2)) - ((1 : Int32)))))) v0 3 ((((AI ((stI h v0 2 ((((AI h v0 2)) - ((1 : Int32)))))) v0 3)) &&& ((((((1 : Int32)) <<< (((atv ((stI h v0 2 ((((AI h v0 2)) - ((1 : Int32)))))) ((v0 + 1)) ((AI ((stI h v0 2 ((((AI h v0 2)) - ((1 : Int32)))))) v0 2)))) &&& 31))) ^^^ ((-1 : Int32)))))))) v0 4 ((((AI ((stI ((stI h v0 2 ((((AI h v0 2)) - ((1 : Int32)))))) v0 3 ((((AI ((stI h v0 2 ((((AI h v0 2)) - ((1 : Int32)))))) v0 3)) &&& ((((((1 : Int32)) <<< (((atv ((stI h v0 2 ((((AI h v0 2)) - ((1 : Int32)))))) ((v0 + 1)) ((AI ((stI h v0 2 ((((AI h v0 2)) - ((1 : Int32)))))) v0 2)))) &&& 31))) ^^^ ((-1 : Int32)))))))) v0 4)) &&& ((((((1 : Int32)) <<< (((atv ((stI h v0 2 ((((AI h v0 2)) - ((1 : Int32)))))) ((v0 + 1)) ((AI ((stI h v0 2 ((((AI h v0 2)) - ((1 : Int32)))))) v0 2)))) &&& 31))) ^^^ ((-1 : Int32)))))))) v0 5)) rfl rfl ?_
    refine Wp.blk (by decide) ol_75 37 1 (pc' := 62) (L' := [.ref v0, .int (((1 : Int32)) <<< (((atv ((stI h v0 2 ((((AI h v0 2)) - ((1 : Int32)))))) ((v0 + 1)) ((AI ((stI h v0 2 ((((AI h v0 2)) - ((1 : Int32)))))) v0 2)))) &&& 31))]) (S' := [.int (((1 : Int32)) - ((AI ((stI ((stI ((stI h v0 2 ((((AI h v0 2)) - ((1 : Int32)))))) v0 3 ((((AI ((stI h v0 2 ((((AI h v0 2)) - ((1 : Int32)))))) v0 3)) &&& ((((((1 : Int32)) <<< (((atv ((stI h v0 2 ((((AI h v0 2)) - ((1 : Int32)))))) ((v0 + 1)) ((AI ((stI h v0 2 ((((AI h v0 2)) - ((1 : Int32)))))) v0 2)))) &&& 31))) ^^^ ((-1 : Int32)))))))) v0 4 ((((AI ((stI ((stI h v0 2 ((((AI h v0 2)) - ((1 : Int32)))))) v0 3 ((((AI ((stI h v0 2 ((((AI h v0 2)) - ((1 : Int32)))))) v0 3)) &&& ((((((1 : Int32)) <<< (((atv ((stI h v0 2 ((((AI h v0 2)) - ((1 : Int32)))))) ((v0 + 1)) ((AI ((stI h v0 2 ((((AI h v0 2)) - ((1 : Int32)))))) v0 2)))) &&& 31))) ^^^ ((-1 : Int32)))))))) v0 4)) &&& ((((((1 : Int32)) <<< (((atv ((stI h v0 2 ((((AI h v0 2)) - ((1 : Int32)))))) ((v0 + 1)) ((AI ((stI h v0 2 ((((AI h v0 2)) - ((1 : Int32)))))) v0 2)))) &&& 31))) ^^^ ((-1 : Int32)))))))) v0 5))), .ref v0]) (h' := (stI ((stI ((stI h v0 2 ((((AI h v0 2)) - ((1 : Int32)))))) v0 3 ((((AI ((stI h v0 2 ((((AI h v0 2)) - ((1 : Int32)))))) v0 3)) &&& ((((((1 : Int32)) <<< (((atv ((stI h v0 2 ((((AI h v0 2)) - ((1 : Int32)))))) ((v0 + 1)) ((AI ((stI h v0 2 ((((AI h v0 2)) - ((1 : Int32)))))) v0 2)))) &&& 31))) ^^^ ((-1 : Int32)))))))) v0 4 ((((AI ((stI ((stI h v0 2 ((((AI h v0 2)) - ((1 : Int32)))))) v0 3 ((((AI ((stI h v0 2 ((((AI h v0 2)) - ((1 : Int32)))))) v0 3)) &&& ((((((1 : Int32)) <<< (((atv ((stI h v0 2 ((((AI h v0 2)) - ((1 : Int32)))))) ((v0 + 1)) ((AI ((stI h v0 2 ((((AI h v0 2)) - ((1 : Int32)))))) v0 2)))) &&& 31))) ^^^ ((-1 : Int32)))))))) v0 4)) &&& ((((((1 : Int32)) <<< (((atv ((stI h v0 2 ((((AI h v0 2)) - ((1 : Int32)))))) ((v0 + 1)) ((AI ((stI h v0 2 ((((AI h v0 2)) - ((1 : Int32)))))) v0 2)))) &&& 31))) ^^^ ((-1 : Int32)))))))) rfl ?_
    refine Wp.putf (op_ix (by decide) ol_75 38 rfl) (twoT t0) (okT HS t0) (h' := (stI ((stI ((stI ((stI h v0 2 ((((AI h v0 2)) - ((1 : Int32)))))) v0 3 ((((AI ((stI h v0 2 ((((AI h v0 2)) - ((1 : Int32)))))) v0 3)) &&& ((((((1 : Int32)) <<< (((atv ((stI h v0 2 ((((AI h v0 2)) - ((1 : Int32)))))) ((v0 + 1)) ((AI ((stI h v0 2 ((((AI h v0 2)) - ((1 : Int32)))))) v0 2)))) &&& 31))) ^^^ ((-1 : Int32)))))))) v0 4 ((((AI ((stI ((stI h v0 2 ((((AI h v0 2)) - ((1 : Int32)))))) v0 3 ((((AI ((stI h v0 2 ((((AI h v0 2)) - ((1 : Int32)))))) v0 3)) &&& ((((((1 : Int32)) <<< (((atv ((stI h v0 2 ((((AI h v0 2)) - ((1 : Int32)))))) ((v0 + 1)) ((AI ((stI h v0 2 ((((AI h v0 2)) - ((1 : Int32)))))) v0 2)))) &&& 31))) ^^^ ((-1 : Int32)))))))) v0 4)) &&& ((((((1 : Int32)) <<< (((atv ((stI h v0 2 ((((AI h v0 2)) - ((1 : Int32)))))) ((v0 + 1)) ((AI ((stI h v0 2 ((((AI h v0 2)) - ((1 : Int32)))))) v0 2)))) &&& 31))) ^^^ ((-1 : Int32)))))))) v0 5 ((((1 : Int32)) - ((AI ((stI ((stI ((stI h v0 2 ((((AI h v0 2)) - ((1 : Int32)))))) v0 3 ((((AI ((stI h v0 2 ((((AI h v0 2)) - ((1 : Int32)))))) v0 3)) &&& ((((((1 : Int32)) <<< (((atv ((stI h v0 2 ((((AI h v0 2)) - ((1 : Int32)))))) ((v0 + 1)) ((AI ((stI h v0 2 ((((AI h v0 2)) - ((1 : Int32)))))) v0 2)))) &&& 31))) ^^^ ((-1 : Int32)))))))) v0 4 ((((AI ((stI ((stI h v0 2 ((((AI h v0 2)) - ((1 : Int32)))))) v0 3 ((((AI ((stI h v0 2 ((((AI h v0 2)) - ((1 : Int32)))))) v0 3)) &&& ((((((1 : Int32)) <<< (((atv ((stI h v0 2 ((((AI h v0 2)) - ((1 : Int32)))))) ((v0 + 1)) ((AI ((stI h v0 2 ((((AI h v0 2)) - ((1 : Int32)))))) v0 2)))) &&& 31))) ^^^ ((-1 : Int32)))))))) v0 4)) &&& ((((((1 : Int32)) <<< (((atv ((stI h v0 2 ((((AI h v0 2)) - ((1 : Int32)))))) ((v0 + 1)) ((AI ((stI h v0 2 ((((AI h v0 2)) - ((1 : Int32)))))) v0 2)))) &&& 31))) ^^^ ((-1 : Int32)))))))) v0 5)))))) rfl rfl ?_
    exact Wp.ret (op_ix (by decide) ol_75 39 rfl) rfl K
  · replace K := K.2 c1
    exact Wp.ret (op_ix (by decide) ol_75 39 rfl) rfl K
/-- CutsOrFast$Stand.undoAll at 0 ()V -/
theorem g76_0 (d : Nat) (v0 : Nat) (h : AH) (HS : Sh h) (t0 : St3 v0) (Q : Option Value → AH → Prop) (K : Wp d 76 5 [.ref v0, .int (AI h v0 2)] [] h Q) : Wp d 76 0 [.ref v0, mk0] [] h Q := by
  refine Wp.blk (by decide) ol_76 0 1 (pc' := 1) (L' := [.ref v0, mk0]) (S' := [.ref v0]) (h' := h) rfl ?_
  refine Wp.getf (op_ix (by decide) ol_76 1 rfl) (okT HS t0) (v := .int (AI h v0 2)) rfl rfl ?_
  refine Wp.blk (by decide) ol_76 2 1 (pc' := 5) (L' := [.ref v0, .int (AI h v0 2)]) (S' := []) (h' := h) rfl ?_
  exact K
/-- CutsOrFast$Stand.undoAll at 5 -/
theorem g76_5 (d : Nat) (v0 : Nat) (v1 : Int32) (h : AH) (HS : Sh h) (t0 : St3 v0) (Q : Option Value → AH → Prop) (K : (((0 : Int32) < v1 → (Cl d 75 [.ref v0] h (fun r h2 => r = none ∧ Sh h2 ∧ Wp (d + 1) 76 5 [.ref v0, .int (v1 + (-1 : Int32))] [] h2 Q))) ∧ (¬ (0 : Int32) < v1 → Q none h))) : Wp (d + 1) 76 5 [.ref v0, .int v1] [] h Q := by
  refine Wp.blk (by decide) ol_76 3 2 (pc' := (if (0 : Int32) < v1 then 9 else 19)) (L' := [.ref v0, .int v1]) (S' := []) (h' := h) rfl ?_
  refine Wp.br (fun c1 => ?_) (fun c1 => ?_)
  · replace K := K.1 c1
    refine Wp.blk (by decide) ol_76 5 1 (pc' := 10) (L' := [.ref v0, .int v1]) (S' := [.ref v0]) (h' := h) rfl ?_
    refine Wp.callV (op_ix (by decide) ol_76 6 rfl) (act_virt (c2 := 0) rfl (lk1 (kT HS t0)) rfl) rfl (K.mono ?_)
    rintro _ h2 ⟨rfl, hs3, K⟩
    refine ⟨rfl, ?_⟩
    refine Wp.blk (by decide) ol_76 7 1 (pc' := 16) (L' := [.ref v0, .int (v1 + (-1 : Int32))]) (S' := []) (h' := h2) rfl ?_
    generalize (v1 + (-1 : Int32)) = yy4 at K ⊢
    refine Wp.blk (by decide) ol_76 8 1 (pc' := 5) (L' := [.ref v0, .int yy4]) (S' := []) (h' := h2) rfl ?_
    exact K
  · replace K := K.2 c1
    exact Wp.ret (op_ix (by decide) ol_76 9 rfl) rfl K
/-- CutsOrFast$Stand.outcome at 0 ()I -/
theorem g77_0 (d : Nat) (v0 : Nat) (h : AH) (HS : Sh h) (t0 : St3 v0) (Q : Option Value → AH → Prop) (K : (Cl d 37 [.ref 5, .int (AI h v0 3), .int (AI h v0 4)] h (fun r h1 => ∃ x3 : Int32, r = some (.int x3) ∧ Sh h1 ∧ Q (some (.int x3)) h1))) : Wp (d + 1) 77 0 [.ref v0] [] h Q := by
  refine Wp.blk (by decide) ol_77 0 1 (pc' := 1) (L' := [.ref v0]) (S' := [.ref v0]) (h' := h) rfl ?_
  refine Wp.getf (op_ix (by decide) ol_77 1 rfl) (okT HS t0) (v := .ref 5) (congrArg va_rf (rT0 HS t0)) rfl ?_
  refine Wp.blk (by decide) ol_77 2 1 (pc' := 5) (L' := [.ref v0]) (S' := [.ref v0, .ref 5]) (h' := h) rfl ?_
  refine Wp.getf (op_ix (by decide) ol_77 3 rfl) (okT HS t0) (v := .int (AI h v0 3)) rfl rfl ?_
  refine Wp.blk (by decide) ol_77 4 1 (pc' := 9) (L' := [.ref v0]) (S' := [.ref v0, .int (AI h v0 3), .ref 5]) (h' := h) rfl ?_
  refine Wp.getf (op_ix (by decide) ol_77 5 rfl) (okT HS t0) (v := .int (AI h v0 4)) rfl rfl ?_
  refine Wp.callI (op_ix (by decide) ol_77 6 rfl) (act_virt (c2 := 2) rfl (lk1 (kS HS 5 rfl)) rfl) rfl (K.mono ?_)
  rintro _ h1 ⟨x3, rfl, hs2, K⟩
  refine ⟨x3, rfl, ?_⟩
  exact Wp.ret (op_ix (by decide) ol_77 7 rfl) rfl K
/-- CutsOrFast$Stand.stateOf at 0 (I)I -/
theorem g78_0 (d : Nat) (v0 : Nat) (v1 : Int32) (h : AH) (HS : Sh h) (t0 : St3 v0) (Q : Option Value → AH → Prop) (K : (((((AI h v0 3)) &&& ((((1 : Int32)) <<< (v1 &&& 31)))) = (0 : Int32) → (((((AI h v0 4)) &&& ((((1 : Int32)) <<< (v1 &&& 31)))) = (0 : Int32) → Q (some (.int (0 : Int32))) h) ∧ (¬ (((AI h v0 4)) &&& ((((1 : Int32)) <<< (v1 &&& 31)))) = (0 : Int32) → Q (some (.int (2 : Int32))) h))) ∧ (¬ (((AI h v0 3)) &&& ((((1 : Int32)) <<< (v1 &&& 31)))) = (0 : Int32) → Q (some (.int (1 : Int32))) h))) : Wp d 78 0 [.ref v0, .int v1, mk0] [] h Q := by
  refine Wp.blk (by decide) ol_78 0 5 (pc' := 5) (L' := [.ref v0, .int v1, .int (((1 : Int32)) <<< (v1 &&& 31))]) (S' := [.ref v0]) (h' := h) rfl ?_
  refine Wp.getf (op_ix (by decide) ol_78 5 rfl) (okT HS t0) (v := .int (AI h v0 3)) rfl rfl ?_
  refine Wp.blk (by decide) ol_78 6 3 (pc' := (if (((AI h v0 3)) &&& ((((1 : Int32)) <<< (v1 &&& 31)))) = (0 : Int32) then 15 else 13)) (L' := [.ref v0, .int v1, .int (((1 : Int32)) <<< (v1 &&& 31))]) (S' := []) (h' := h) rfl ?_
  refine Wp.br (fun c1 => ?_) (fun c1 => ?_)
  · replace K := K.1 c1
    refine Wp.blk (by decide) ol_78 11 1 (pc' := 16) (L' := [.ref v0, .int v1, .int (((1 : Int32)) <<< (v1 &&& 31))]) (S' := [.ref v0]) (h' := h) rfl ?_
    refine Wp.getf (op_ix (by decide) ol_78 12 rfl) (okT HS t0) (v := .int (AI h v0 4)) rfl rfl ?_
    refine Wp.blk (by decide) ol_78 13 3 (pc' := (if (((AI h v0 4)) &&& ((((1 : Int32)) <<< (v1 &&& 31)))) = (0 : Int32) then 28 else 24)) (L' := [.ref v0, .int v1, .int (((1 : Int32)) <<< (v1 &&& 31))]) (S' := []) (h' := h) rfl ?_
    refine Wp.br (fun c2 => ?_) (fun c2 => ?_)
    · replace K := K.1 c2
      refine Wp.blk (by decide) ol_78 18 1 (pc' := 29) (L' := [.ref v0, .int v1, .int (((1 : Int32)) <<< (v1 &&& 31))]) (S' := [.int (0 : Int32)]) (h' := h) rfl ?_
      exact Wp.ret (op_ix (by decide) ol_78 19 rfl) rfl K
    · replace K := K.2 c2
      refine Wp.blk (by decide) ol_78 16 2 (pc' := 29) (L' := [.ref v0, .int v1, .int (((1 : Int32)) <<< (v1 &&& 31))]) (S' := [.int (2 : Int32)]) (h' := h) rfl ?_
      exact Wp.ret (op_ix (by decide) ol_78 19 rfl) rfl K
  · replace K := K.2 c1
    refine Wp.blk (by decide) ol_78 9 1 (pc' := 14) (L' := [.ref v0, .int v1, .int (((1 : Int32)) <<< (v1 &&& 31))]) (S' := [.int (1 : Int32)]) (h' := h) rfl ?_
    exact Wp.ret (op_ix (by decide) ol_78 10 rfl) rfl K
/-- CutsOrFast$Stand.movesMade at 0 ()I -/
theorem g80_0 (d : Nat) (v0 : Nat) (h : AH) (HS : Sh h) (t0 : St3 v0) (Q : Option Value → AH → Prop) (K : Q (some (.int (AI h v0 2))) h) : Wp d 80 0 [.ref v0] [] h Q := by
  refine Wp.blk (by decide) ol_80 0 1 (pc' := 1) (L' := [.ref v0]) (S' := [.ref v0]) (h' := h) rfl ?_
  refine Wp.getf (op_ix (by decide) ol_80 1 rfl) (okT HS t0) (v := .int (AI h v0 2)) rfl rfl ?_
  exact Wp.ret (op_ix (by decide) ol_80 2 rfl) rfl K
/-- CutsOrFast$Stand.moveAt at 0 (I)I -/
theorem g81_0 (d : Nat) (v0 : Nat) (v1 : Int32) (h : AH) (HS : Sh h) (t0 : St3 v0) (Q : Option Value → AH → Prop) (K : Q (some (.int (atv h ((v0 + 1)) v1))) h) : Wp (d + 1) 81 0 [.ref v0, .int v1] [] h Q := by
  refine Wp.blk (by decide) ol_81 0 1 (pc' := 1) (L' := [.ref v0, .int v1]) (S' := [.ref v0]) (h' := h) rfl ?_
  refine Wp.getf (op_ix (by decide) ol_81 1 rfl) (okT HS t0) (v := .ref (v0 + 1)) (congrArg va_rf (rT1 HS t0)) rfl ?_
  refine Wp.blk (by decide) ol_81 2 1 (pc' := 5) (L' := [.ref v0, .int v1]) (S' := [.int v1, .ref (v0 + 1)]) (h' := h) rfl ?_
  refine Wp.callI (op_ix (by decide) ol_81 3 rfl) rfl rfl (sp_at (kM HS t0) (nM HS t0) ?_)
  refine ⟨_, rfl, ?_⟩
  exact Wp.ret (op_ix (by decide) ol_81 4 rfl) rfl K
/-- CutsOrFast$Stand.side at 0 ()I -/
theorem g82_0 (d : Nat) (v0 : Nat) (h : AH) (HS : Sh h) (t0 : St3 v0) (Q : Option Value → AH → Prop) (K : Q (some (.int (AI h v0 5))) h) : Wp d 82 0 [.ref v0] [] h Q := by
  refine Wp.blk (by decide) ol_82 0 1 (pc' := 1) (L' := [.ref v0]) (S' := [.ref v0]) (h' := h) rfl ?_
  refine Wp.getf (op_ix (by decide) ol_82 1 rfl) (okT HS t0) (v := .int (AI h v0 5)) rfl rfl ?_
  exact Wp.ret (op_ix (by decide) ol_82 2 rfl) rfl K
/-- CutsOrFast$Stand.setSide at 0 (I)V -/
theorem g83_0 (d : Nat) (v0 : Nat) (v1 : Int32) (h : AH) (HS : Sh h) (t0 : St3 v0) (Q : Option Value → AH → Prop) (K : Q none (stI h v0 5 v1)) : Wp d 83 0 [.ref v0, .int v1] [] h Q := by
  refine Wp.blk (by decide) ol_83 0 2 (pc' := 2) (L' := [.ref v0, .int v1]) (S' := [.int v1, .ref v0]) (h' := h) rfl ?_
  refine Wp.putf (op_ix (by decide) ol_83 2 rfl) (twoT t0) (okT HS t0) (h' := (stI h v0 5 v1)) rfl rfl ?_
  exact Wp.ret (op_ix (by decide) ol_83 3 rfl) rfl K
/-- CutsOrFast$Stand.fastSet at 0 ()I -/
theorem g84_0 (d : Nat) (v0 : Nat) (h : AH) (HS : Sh h) (t0 : St3 v0) (Q : Option Value → AH → Prop) (K : Q (some (.int (AI h v0 3))) h) : Wp d 84 0 [.ref v0] [] h Q := by
  refine Wp.blk (by decide) ol_84 0 1 (pc' := 1) (L' := [.ref v0]) (S' := [.ref v0]) (h' := h) rfl ?_
  refine Wp.getf (op_ix (by decide) ol_84 1 rfl) (okT HS t0) (v := .int (AI h v0 3)) rfl rfl ?_
  exact Wp.ret (op_ix (by decide) ol_84 2 rfl) rfl K
/-- CutsOrFast$Stand.cutSet at 0 ()I -/
theorem g85_0 (d : Nat) (v0 : Nat) (h : AH) (HS : Sh h) (t0 : St3 v0) (Q : Option Value → AH → Prop) (K : Q (some (.int (AI h v0 4))) h) : Wp d 85 0 [.ref v0] [] h Q := by
  refine Wp.blk (by decide) ol_85 0 1 (pc' := 1) (L' := [.ref v0]) (S' := [.ref v0]) (h' := h) rfl ?_
  refine Wp.getf (op_ix (by decide) ol_85 1 rfl) (okT HS t0) (v := .int (AI h v0 4)) rfl rfl ?_
  exact Wp.ret (op_ix (by decide) ol_85 2 rfl) rfl K
/-- CutsOrFast$Stand.openSet at 0 ()I -/
theorem g86_0 (d : Nat) (v0 : Nat) (h : AH) (HS : Sh h) (t0 : St3 v0) (Q : Option Value → AH → Prop) (K : Q (some (.int (((((((((1 : Int32)) <<< (((AI h 5 5)) &&& 31))) - ((1 : Int32)))) &&& ((((AI h v0 3)) ^^^ ((-1 : Int32)))))) &&& ((((AI h v0 4)) ^^^ ((-1 : Int32))))))) h) : Wp (d + 1) 86 0 [.ref v0] [] h Q := by
  refine Wp.blk (by decide) ol_86 0 1 (pc' := 1) (L' := [.ref v0]) (S' := [.ref v0]) (h' := h) rfl ?_
  refine Wp.getf (op_ix (by decide) ol_86 1 rfl) (okT HS t0) (v := .ref 5) (congrArg va_rf (rT0 HS t0)) rfl ?_
  refine Wp.callI (op_ix (by decide) ol_86 2 rfl) (act_virt (c2 := 0) rfl (lk1 (kS HS 5 rfl)) rfl) rfl (Cl.enter (L := [.ref 5]) rfl ?_)
  refine Wp.blk (by decide) ol_27 0 2 (pc' := 2) (L' := [.ref 5]) (S' := [.ref 5, .int (1 : Int32)]) (h' := h) rfl ?_
  refine Wp.getf (op_ix (by decide) ol_27 2 rfl) (okS HS 5 rfl rfl) (v := .int (AI h 5 5)) rfl rfl ?_
  refine Wp.blk (by decide) ol_27 3 3 (pc' := 8) (L' := [.ref 5]) (S' := [.int (((((1 : Int32)) <<< (((AI h 5 5)) &&& 31))) - ((1 : Int32)))]) (h' := h) rfl ?_
  refine Wp.ret (op_ix (by decide) ol_27 6 rfl) rfl ⟨_, rfl, ?_⟩
  refine Wp.blk (by decide) ol_86 3 1 (pc' := 8) (L' := [.ref v0]) (S' := [.ref v0, .int (((((1 : Int32)) <<< (((AI h 5 5)) &&& 31))) - ((1 : Int32)))]) (h' := h) rfl ?_
  refine Wp.getf (op_ix (by decide) ol_86 4 rfl) (okT HS t0) (v := .int (AI h v0 3)) rfl rfl ?_
  refine Wp.blk (by decide) ol_86 5 4 (pc' := 15) (L' := [.ref v0]) (S' := [.ref v0, .int (((((((1 : Int32)) <<< (((AI h 5 5)) &&& 31))) - ((1 : Int32)))) &&& ((((AI h v0 3)) ^^^ ((-1 : Int32)))))]) (h' := h) rfl ?_
  refine Wp.getf (op_ix (by decide) ol_86 9 rfl) (okT HS t0) (v := .int (AI h v0 4)) rfl rfl ?_
  refine Wp.blk (by decide) ol_86 10 3 (pc' := 21) (L' := [.ref v0]) (S' := [.int (((((((((1 : Int32)) <<< (((AI h 5 5)) &&& 31))) - ((1 : Int32)))) &&& ((((AI h v0 3)) ^^^ ((-1 : Int32)))))) &&& ((((AI h v0 4)) ^^^ ((-1 : Int32)))))]) (h' := h) rfl ?_
  exact Wp.ret (op_ix (by decide) ol_86 13 rfl) rfl K
/-- CutsOrFast$Search.openSet at 0 (II)I -/
theorem g200_0 (d : Nat) (v1 : Int32) (v2 : Int32) (h : AH) (HS : Sh h)  (Q : Option Value → AH → Prop) (K : Q (some (.int (((((((((1 : Int32)) <<< (((AI h 5 5)) &&& 31))) - ((1 : Int32)))) &&& ((v1 ^^^ ((-1 : Int32)))))) &&& ((v2 ^^^ ((-1 : Int32))))))) h) : Wp (d + 1) 200 0 [.ref 17, .int v1, .int v2] [] h Q := by
  refine Wp.blk (by decide) ol_200 0 1 (pc' := 1) (L' := [.ref 17, .int v1, .int v2]) (S' := [.ref 17]) (h' := h) rfl ?_
  refine Wp.getf (op_ix (by decide) ol_200 1 rfl) (okS HS 17 rfl rfl) (v := .ref 5) (congrArg va_rf (rS HS 17 0 rfl)) rfl ?_
  refine Wp.callI (op_ix (by decide) ol_200 2 rfl) (act_virt (c2 := 0) rfl (lk1 (kS HS 5 rfl)) rfl) rfl (Cl.enter (L := [.ref 5]) rfl ?_)
  refine Wp.blk (by decide) ol_27 0 2 (pc' := 2) (L' := [.ref 5]) (S' := [.ref 5, .int (1 : Int32)]) (h' := h) rfl ?_
  refine Wp.getf (op_ix (by decide) ol_27 2 rfl) (okS HS 5 rfl rfl) (v := .int (AI h 5 5)) rfl rfl ?_
  refine Wp.blk (by decide) ol_27 3 3 (pc' := 8) (L' := [.ref 5]) (S' := [.int (((((1 : Int32)) <<< (((AI h 5 5)) &&& 31))) - ((1 : Int32)))]) (h' := h) rfl ?_
  refine Wp.ret (op_ix (by decide) ol_27 6 rfl) rfl ⟨_, rfl, ?_⟩
  refine Wp.blk (by decide) ol_200 3 8 (pc' := 15) (L' := [.ref 17, .int v1, .int v2]) (S' := [.int (((((((((1 : Int32)) <<< (((AI h 5 5)) &&& 31))) - ((1 : Int32)))) &&& ((v1 ^^^ ((-1 : Int32)))))) &&& ((v2 ^^^ ((-1 : Int32)))))]) (h' := h) rfl ?_
  exact Wp.ret (op_ix (by decide) ol_200 11 rfl) rfl K
/-- CutsOrFast$Search.standOf at 0 (II)I -/
theorem g201_0 (d : Nat) (v1 : Int32) (v2 : Int32) (h : AH) (HS : Sh h)  (Q : Option Value → AH → Prop) (K : Q (some (.int (((atv h 18 v1)) + ((((2 : Int32)) * ((atv h 18 v2))))))) h) : Wp (d + 1) 201 0 [.ref 17, .int v1, .int v2] [] h Q := by
  refine Wp.blk (by decide) ol_201 0 1 (pc' := 1) (L' := [.ref 17, .int v1, .int v2]) (S' := [.ref 17]) (h' := h) rfl ?_
  refine Wp.getf (op_ix (by decide) ol_201 1 rfl) (okS HS 17 rfl rfl) (v := .ref 18) (congrArg va_rf (rS HS 17 1 rfl)) rfl ?_
  refine Wp.blk (by decide) ol_201 2 1 (pc' := 5) (L' := [.ref 17, .int v1, .int v2]) (S' := [.int v1, .ref 18]) (h' := h) rfl ?_
  refine Wp.callI (op_ix (by decide) ol_201 3 rfl) rfl rfl (sp_at (kS HS 18 rfl) (nS HS 18 rfl) ?_)
  refine ⟨_, rfl, ?_⟩
  refine Wp.blk (by decide) ol_201 4 2 (pc' := 10) (L' := [.ref 17, .int v1, .int v2]) (S' := [.ref 17, .int (2 : Int32), .int (atv h 18 v1)]) (h' := h) rfl ?_
  refine Wp.getf (op_ix (by decide) ol_201 6 rfl) (okS HS 17 rfl rfl) (v := .ref 18) (congrArg va_rf (rS HS 17 1 rfl)) rfl ?_
  refine Wp.blk (by decide) ol_201 7 1 (pc' := 14) (L' := [.ref 17, .int v1, .int v2]) (S' := [.int v2, .ref 18, .int (2 : Int32), .int (atv h 18 v1)]) (h' := h) rfl ?_
  refine Wp.callI (op_ix (by decide) ol_201 8 rfl) rfl rfl (sp_at (kS HS 18 rfl) (nS HS 18 rfl) ?_)
  refine ⟨_, rfl, ?_⟩
  refine Wp.blk (by decide) ol_201 9 2 (pc' := 19) (L' := [.ref 17, .int v1, .int v2]) (S' := [.int (((atv h 18 v1)) + ((((2 : Int32)) * ((atv h 18 v2)))))]) (h' := h) rfl ?_
  exact Wp.ret (op_ix (by decide) ol_201 11 rfl) rfl K
