/-- CutsOrFastModel.size at 0 (I)I -/
theorem g165_0 (d : Nat) (v0 : Int32) (h : AH) (HS : Sh h)  (Q : Option Value → AH → Prop) (K : Wp d 165 4 [.int v0, .int (0 : Int32), .int (0 : Int32)] [] h Q) : Wp d 165 0 [.int v0, mk0, mk0] [] h Q := by
  refine Wp.blk (by decide) ol_165 0 4 (pc' := 4) (L' := [.int v0, .int (0 : Int32), .int (0 : Int32)]) (S' := []) (h' := h) rfl ?_
  exact K
/-- CutsOrFastModel.size at 4 -/
theorem g165_4 (d : Nat) (v0 : Int32) (v1 : Int32) (v2 : Int32) (h : AH) (HS : Sh h)  (Q : Option Value → AH → Prop) (K : ((v2 < (10 : Int32) → Wp d 165 4 [.int v0, .int (v1 + ((((v0 >>> (v2 &&& 31))) &&& ((1 : Int32))))), .int (v2 + (1 : Int32))] [] h Q) ∧ (¬ v2 < (10 : Int32) → Q (some (.int v1)) h))) : Wp d 165 4 [.int v0, .int v1, .int v2] [] h Q := by
  refine Wp.blk (by decide) ol_165 4 3 (pc' := (if v2 < (10 : Int32) then 10 else 24)) (L' := [.int v0, .int v1, .int v2]) (S' := []) (h' := h) rfl ?_
  refine Wp.br (fun c1 => ?_) (fun c1 => ?_)
  · replace K := K.1 c1
    refine Wp.blk (by decide) ol_165 7 10 (pc' := 4) (L' := [.int v0, .int (v1 + ((((v0 >>> (v2 &&& 31))) &&& ((1 : Int32))))), .int (v2 + (1 : Int32))]) (S' := []) (h' := h) rfl ?_
    exact K
  · replace K := K.2 c1
    refine Wp.blk (by decide) ol_165 17 1 (pc' := 25) (L' := [.int v0, .int v1, .int v2]) (S' := [.int v1]) (h' := h) rfl ?_
    exact Wp.ret (op_ix (by decide) ol_165 18 rfl) rfl K
/-- CutsOrFastModel.partingNow at 0 (I)I -/
theorem g166_0 (d : Nat) (v1 : Int32) (h : AH) (HS : Sh h)  (Q : Option Value → AH → Prop) (K : (Cl d 143 [.ref 23, .int (0 : Int32)] h (fun r h1 => ∃ x3 : Int32, r = some (.int x3) ∧ Sh h1 ∧ Wp (d + 1) 166 11 [.ref 23, .int v1, .int x3, .int (-1 : Int32), .int (0 : Int32), mk0] [] h1 Q))) : Wp (d + 1) 166 0 [.ref 23, .int v1, mk0, mk0, mk0, mk0] [] h Q := by
  refine Wp.blk (by decide) ol_166 0 2 (pc' := 2) (L' := [.ref 23, .int v1, mk0, mk0, mk0, mk0]) (S' := [.int (0 : Int32), .ref 23]) (h' := h) rfl ?_
  refine Wp.callI (op_ix (by decide) ol_166 2 rfl) (act_virt (c2 := 1) rfl (lk1 (kS HS 23 rfl)) rfl) rfl (K.mono ?_)
  rintro _ h1 ⟨x3, rfl, hs2, K⟩
  refine ⟨x3, rfl, ?_⟩
  refine Wp.blk (by decide) ol_166 3 5 (pc' := 11) (L' := [.ref 23, .int v1, .int x3, .int (-1 : Int32), .int (0 : Int32), mk0]) (S' := []) (h' := h1) rfl ?_
  exact K
/-- CutsOrFastModel.partingNow at 11 -/
theorem g166_11 (d : Nat) (v1 : Int32) (v2 : Int32) (v3 : Int32) (v4 : Int32) (h : AH) (HS : Sh h)  (Q : Option Value → AH → Prop) (K : ((v4 < (((1 : Int32)) <<< (((AI h 23 0)) &&& 31)) → (((v4 &&& ((v2 ^^^ ((-1 : Int32))))) = (0 : Int32) → (Cl (d + 1) 143 [.ref 23, .int (1 : Int32)] h (fun r h3 => ∃ x5 : Int32, r = some (.int x5) ∧ Sh h3 ∧ (Cl d 141 [.ref 23, .int (AI h3 23 2), .int (x5 ||| ((v2 &&& ((v4 ^^^ ((-1 : Int32))))))), .int (AI h3 23 0)] h3 (fun r h6 => ∃ x8 : Int32, r = some (.int x8) ∧ Sh h6 ∧ (((((x8 >>> (((AI h6 23 3)) &&& 31))) &&& ((1 : Int32))) = (1 : Int32) → Wp (d + 2) 166 59 [.ref 23, .int v1, .int v2, .int v3, .int v4, mk0] [.int (0 : Int32)] h6 Q) ∧ (¬ (((x8 >>> (((AI h6 23 3)) &&& 31))) &&& ((1 : Int32))) = (1 : Int32) → Wp (d + 2) 166 59 [.ref 23, .int v1, .int v2, .int v3, .int v4, mk0] [.int (1 : Int32)] h6 Q))))))) ∧ (¬ (v4 &&& ((v2 ^^^ ((-1 : Int32))))) = (0 : Int32) → Wp (d + 2) 166 59 [.ref 23, .int v1, .int v2, .int v3, .int v4, mk0] [.int (0 : Int32)] h Q))) ∧ (¬ v4 < (((1 : Int32)) <<< (((AI h 23 0)) &&& 31)) → ((v3 = (-1 : Int32) → Q (some (.int v3)) h) ∧ (¬ v3 = (-1 : Int32) → ((v1 = (1 : Int32) → Q (some (.int v3)) h) ∧ (¬ v1 = (1 : Int32) → (Cl (d + 1) 165 [.int v3] h (fun r h12 => ∃ x14 : Int32, r = some (.int x14) ∧ Sh h12 ∧ Q (some (.int x14)) h12))))))))) : Wp (d + 2) 166 11 [.ref 23, .int v1, .int v2, .int v3, .int v4, mk0] [] h Q := by
  refine Wp.blk (by decide) ol_166 8 3 (pc' := 15) (L' := [.ref 23, .int v1, .int v2, .int v3, .int v4, mk0]) (S' := [.ref 23, .int (1 : Int32), .int v4]) (h' := h) rfl ?_
  refine Wp.getf (op_ix (by decide) ol_166 11 rfl) (okS HS 23 rfl rfl) (v := .int (AI h 23 0)) rfl rfl ?_
  refine Wp.blk (by decide) ol_166 12 2 (pc' := (if v4 < (((1 : Int32)) <<< (((AI h 23 0)) &&& 31)) then 22 else 96)) (L' := [.ref 23, .int v1, .int v2, .int v3, .int v4, mk0]) (S' := []) (h' := h) rfl ?_
  refine Wp.br (fun c1 => ?_) (fun c1 => ?_)
  · replace K := K.1 c1
    refine Wp.blk (by decide) ol_166 14 6 (pc' := (if (v4 &&& ((v2 ^^^ ((-1 : Int32))))) = (0 : Int32) then 31 else 58)) (L' := [.ref 23, .int v1, .int v2, .int v3, .int v4, mk0]) (S' := []) (h' := h) rfl ?_
    refine Wp.br (fun c2 => ?_) (fun c2 => ?_)
    · replace K := K.1 c2
      refine Wp.blk (by decide) ol_166 20 3 (pc' := 34) (L' := [.ref 23, .int v1, .int v2, .int v3, .int v4, mk0]) (S' := [.int (1 : Int32), .ref 23, .ref 23]) (h' := h) rfl ?_
      refine Wp.callI (op_ix (by decide) ol_166 23 rfl) (act_virt (c2 := 1) rfl (lk1 (kS HS 23 rfl)) rfl) rfl (K.mono ?_)
      rintro _ h3 ⟨x5, rfl, hs4, K⟩
      refine ⟨x5, rfl, ?_⟩
      refine Wp.blk (by decide) ol_166 24 7 (pc' := 45) (L' := [.ref 23, .int v1, .int v2, .int v3, .int v4, mk0]) (S' := [.ref 23, .int (x5 ||| ((v2 &&& ((v4 ^^^ ((-1 : Int32))))))), .ref 23]) (h' := h3) rfl ?_
      refine Wp.getf (op_ix (by decide) ol_166 31 rfl) (okS hs4 23 rfl rfl) (v := .int (AI h3 23 0)) rfl rfl ?_
      refine Wp.callI (op_ix (by decide) ol_166 32 rfl) (act_virt (c2 := 2) rfl (lk1 (kS hs4 23 rfl)) rfl) rfl (Cl.enter (L := [.ref 23, .int (x5 ||| ((v2 &&& ((v4 ^^^ ((-1 : Int32))))))), .int (AI h3 23 0)]) rfl ?_)
      refine Wp.blk (by decide) ol_142 0 2 (pc' := 2) (L' := [.ref 23, .int (x5 ||| ((v2 &&& ((v4 ^^^ ((-1 : Int32))))))), .int (AI h3 23 0)]) (S' := [.ref 23, .ref 23]) (h' := h3) rfl ?_
      refine Wp.getf (op_ix (by decide) ol_142 2 rfl) (okS hs4 23 rfl rfl) (v := .int (AI h3 23 2)) rfl rfl ?_
      refine Wp.blk (by decide) ol_142 3 2 (pc' := 7) (L' := [.ref 23, .int (x5 ||| ((v2 &&& ((v4 ^^^ ((-1 : Int32))))))), .int (AI h3 23 0)]) (S' := [.int (AI h3 23 0), .int (x5 ||| ((v2 &&& ((v4 ^^^ ((-1 : Int32))))))), .int (AI h3 23 2), .ref 23]) (h' := h3) rfl ?_
      refine Wp.callI (op_ix (by decide) ol_142 5 rfl) (act_virt (c2 := 3) rfl (lk1 (kS hs4 23 rfl)) rfl) rfl (K.mono ?_)
      rintro _ h6 ⟨x8, rfl, hs7, K⟩
      refine ⟨x8, rfl, ?_⟩
      refine Wp.blk (by decide) ol_142 6 1 (pc' := 11) (L' := [.ref 23, .int (x5 ||| ((v2 &&& ((v4 ^^^ ((-1 : Int32))))))), .int (AI h3 23 0)]) (S' := [.ref 23, .int x8]) (h' := h6) rfl ?_
      refine Wp.getf (op_ix (by decide) ol_142 7 rfl) (okS hs7 23 rfl rfl) (v := .int (AI h6 23 3)) rfl rfl ?_
      refine Wp.callI (op_ix (by decide) ol_142 8 rfl) rfl rfl (Cl.enter (L := [.int x8, .int (AI h6 23 3)]) rfl ?_)
      refine Wp.blk (by decide) ol_130 0 7 (pc' := (if (((x8 >>> (((AI h6 23 3)) &&& 31))) &&& ((1 : Int32))) = (1 : Int32) then 9 else 13)) (L' := [.int x8, .int (AI h6 23 3)]) (S' := []) (h' := h6) rfl ?_
      refine Wp.br (fun c9 => ?_) (fun c9 => ?_)
      · replace K := K.1 c9
        refine Wp.blk (by decide) ol_130 7 2 (pc' := 14) (L' := [.int x8, .int (AI h6 23 3)]) (S' := [.int (1 : Int32)]) (h' := h6) rfl ?_
        refine Wp.ret (op_ix (by decide) ol_130 10 rfl) rfl ⟨_, rfl, ?_⟩
        refine Wp.ret (op_ix (by decide) ol_142 9 rfl) rfl ⟨_, rfl, ?_⟩
        refine Wp.blk (by decide) ol_166 33 1 (pc' := (if (1 : Int32) = (0 : Int32) then 54 else 58)) (L' := [.ref 23, .int v1, .int v2, .int v3, .int v4, mk0]) (S' := []) (h' := h6) rfl ?_
        refine Wp.br (fun hc => absurd hc (by decide)) (fun _ => ?_)
        refine Wp.blk (by decide) ol_166 36 1 (pc' := 59) (L' := [.ref 23, .int v1, .int v2, .int v3, .int v4, mk0]) (S' := [.int (0 : Int32)]) (h' := h6) rfl ?_
        exact K
      · replace K := K.2 c9
        refine Wp.blk (by decide) ol_130 9 1 (pc' := 14) (L' := [.int x8, .int (AI h6 23 3)]) (S' := [.int (0 : Int32)]) (h' := h6) rfl ?_
        refine Wp.ret (op_ix (by decide) ol_130 10 rfl) rfl ⟨_, rfl, ?_⟩
        refine Wp.ret (op_ix (by decide) ol_142 9 rfl) rfl ⟨_, rfl, ?_⟩
        refine Wp.blk (by decide) ol_166 33 1 (pc' := (if (0 : Int32) = (0 : Int32) then 54 else 58)) (L' := [.ref 23, .int v1, .int v2, .int v3, .int v4, mk0]) (S' := []) (h' := h6) rfl ?_
        refine Wp.br (fun _ => ?_) (fun hc => absurd (by decide) hc)
        refine Wp.blk (by decide) ol_166 34 2 (pc' := 59) (L' := [.ref 23, .int v1, .int v2, .int v3, .int v4, mk0]) (S' := [.int (1 : Int32)]) (h' := h6) rfl ?_
        exact K
    · replace K := K.2 c2
      refine Wp.blk (by decide) ol_166 36 1 (pc' := 59) (L' := [.ref 23, .int v1, .int v2, .int v3, .int v4, mk0]) (S' := [.int (0 : Int32)]) (h' := h) rfl ?_
      exact K
  · replace K := K.2 c1
    refine Wp.blk (by decide) ol_166 54 3 (pc' := (if v3 = (-1 : Int32) then 106 else 101)) (L' := [.ref 23, .int v1, .int v2, .int v3, .int v4, mk0]) (S' := []) (h' := h) rfl ?_
    refine Wp.br (fun c10 => ?_) (fun c10 => ?_)
    · replace K := K.1 c10
      refine Wp.blk (by decide) ol_166 60 2 (pc' := 114) (L' := [.ref 23, .int v1, .int v2, .int v3, .int v4, mk0]) (S' := [.int v3]) (h' := h) rfl ?_
      exact Wp.ret (op_ix (by decide) ol_166 64 rfl) rfl K
    · replace K := K.2 c10
      refine Wp.blk (by decide) ol_166 57 3 (pc' := (if v1 = (1 : Int32) then 106 else 110)) (L' := [.ref 23, .int v1, .int v2, .int v3, .int v4, mk0]) (S' := []) (h' := h) rfl ?_
      refine Wp.br (fun c11 => ?_) (fun c11 => ?_)
      · replace K := K.1 c11
        refine Wp.blk (by decide) ol_166 60 2 (pc' := 114) (L' := [.ref 23, .int v1, .int v2, .int v3, .int v4, mk0]) (S' := [.int v3]) (h' := h) rfl ?_
        exact Wp.ret (op_ix (by decide) ol_166 64 rfl) rfl K
      · replace K := K.2 c11
        refine Wp.blk (by decide) ol_166 62 1 (pc' := 111) (L' := [.ref 23, .int v1, .int v2, .int v3, .int v4, mk0]) (S' := [.int v3]) (h' := h) rfl ?_
        refine Wp.callI (op_ix (by decide) ol_166 63 rfl) rfl rfl (K.mono ?_)
        rintro _ h12 ⟨x14, rfl, hs13, K⟩
        refine ⟨x14, rfl, ?_⟩
        exact Wp.ret (op_ix (by decide) ol_166 64 rfl) rfl K
/-- CutsOrFastModel.partingNow at 59 -/
theorem g166_59 (d : Nat) (v1 : Int32) (v2 : Int32) (v3 : Int32) (v4 : Int32) (s0 : Int32) (h : AH) (HS : Sh h)  (Q : Option Value → AH → Prop) (K : ((s0 = (0 : Int32) → Wp (d + 1) 166 11 [.ref 23, .int v1, .int v2, .int v3, .int (v4 + (1 : Int32)), mk0] [] h Q) ∧ (¬ s0 = (0 : Int32) → ((v3 = (-1 : Int32) → Wp (d + 1) 166 11 [.ref 23, .int v1, .int v2, .int v4, .int (v4 + (1 : Int32)), mk0] [] h Q) ∧ (¬ v3 = (-1 : Int32) → (Cl d 165 [.int v4] h (fun r h3 => ∃ x5 : Int32, r = some (.int x5) ∧ Sh h3 ∧ (Cl d 165 [.int v3] h3 (fun r h6 => ∃ x8 : Int32, r = some (.int x8) ∧ Sh h6 ∧ ((x5 < x8 → Wp (d + 1) 166 11 [.ref 23, .int v1, .int v2, .int v4, .int (v4 + (1 : Int32)), mk0] [] h6 Q) ∧ (¬ x5 < x8 → Wp (d + 1) 166 11 [.ref 23, .int v1, .int v2, .int v3, .int (v4 + (1 : Int32)), mk0] [] h6 Q))))))))))) : Wp (d + 1) 166 59 [.ref 23, .int v1, .int v2, .int v3, .int v4, mk0] [.int s0] h Q := by
  refine Wp.blk (by decide) ol_166 37 3 (pc' := (if s0 = (0 : Int32) then 88 else 66)) (L' := [.ref 23, .int v1, .int v2, .int v3, .int v4, .int s0]) (S' := []) (h' := h) rfl ?_
  refine Wp.br (fun c1 => ?_) (fun c1 => ?_)
  · replace K := K.1 c1
    refine Wp.blk (by decide) ol_166 50 4 (pc' := 11) (L' := [.ref 23, .int v1, .int v2, .int v3, .int (v4 + (1 : Int32)), .int s0]) (S' := []) (h' := h) rfl ?_
    refine Wp.forget (L := [.ref 23, .int v1, .int v2, .int v3, .int (v4 + (1 : Int32)), mk0]) (⟨Or.inr rfl, ⟨Or.inr rfl, ⟨Or.inr rfl, ⟨Or.inr rfl, ⟨Or.inr rfl, ⟨Or.inl rfl, trivial⟩⟩⟩⟩⟩⟩) ?_
    exact K
  · replace K := K.2 c1
    refine Wp.blk (by decide) ol_166 40 3 (pc' := (if v3 = (-1 : Int32) then 83 else 71)) (L' := [.ref 23, .int v1, .int v2, .int v3, .int v4, .int s0]) (S' := []) (h' := h) rfl ?_
    refine Wp.br (fun c2 => ?_) (fun c2 => ?_)
    · replace K := K.1 c2
      refine Wp.blk (by decide) ol_166 48 2 (pc' := 89) (L' := [.ref 23, .int v1, .int v2, .int v3, .int v4, .int s0]) (S' := [.int v4]) (h' := h) rfl ?_
      refine Wp.blk (by decide) ol_166 51 3 (pc' := 11) (L' := [.ref 23, .int v1, .int v2, .int v4, .int (v4 + (1 : Int32)), .int s0]) (S' := []) (h' := h) rfl ?_
      refine Wp.forget (L := [.ref 23, .int v1, .int v2, .int v4, .int (v4 + (1 : Int32)), mk0]) (⟨Or.inr rfl, ⟨Or.inr rfl, ⟨Or.inr rfl, ⟨Or.inr rfl, ⟨Or.inr rfl, ⟨Or.inl rfl, trivial⟩⟩⟩⟩⟩⟩) ?_
      exact K
    · replace K := K.2 c2
      refine Wp.blk (by decide) ol_166 43 1 (pc' := 73) (L' := [.ref 23, .int v1, .int v2, .int v3, .int v4, .int s0]) (S' := [.int v4]) (h' := h) rfl ?_
      refine Wp.callI (op_ix (by decide) ol_166 44 rfl) rfl rfl (K.mono ?_)
      rintro _ h3 ⟨x5, rfl, hs4, K⟩
      refine ⟨x5, rfl, ?_⟩
      refine Wp.blk (by decide) ol_166 45 1 (pc' := 77) (L' := [.ref 23, .int v1, .int v2, .int v3, .int v4, .int s0]) (S' := [.int v3, .int x5]) (h' := h3) rfl ?_
      refine Wp.callI (op_ix (by decide) ol_166 46 rfl) rfl rfl (K.mono ?_)
      rintro _ h6 ⟨x8, rfl, hs7, K⟩
      refine ⟨x8, rfl, ?_⟩
      refine Wp.blk (by decide) ol_166 47 1 (pc' := (if x5 < x8 then 83 else 88)) (L' := [.ref 23, .int v1, .int v2, .int v3, .int v4, .int s0]) (S' := []) (h' := h6) rfl ?_
      refine Wp.br (fun c9 => ?_) (fun c9 => ?_)
      · replace K := K.1 c9
        refine Wp.blk (by decide) ol_166 48 2 (pc' := 89) (L' := [.ref 23, .int v1, .int v2, .int v3, .int v4, .int s0]) (S' := [.int v4]) (h' := h6) rfl ?_
        refine Wp.blk (by decide) ol_166 51 3 (pc' := 11) (L' := [.ref 23, .int v1, .int v2, .int v4, .int (v4 + (1 : Int32)), .int s0]) (S' := []) (h' := h6) rfl ?_
        refine Wp.forget (L := [.ref 23, .int v1, .int v2, .int v4, .int (v4 + (1 : Int32)), mk0]) (⟨Or.inr rfl, ⟨Or.inr rfl, ⟨Or.inr rfl, ⟨Or.inr rfl, ⟨Or.inr rfl, ⟨Or.inl rfl, trivial⟩⟩⟩⟩⟩⟩) ?_
        exact K
      · replace K := K.2 c9
        refine Wp.blk (by decide) ol_166 50 4 (pc' := 11) (L' := [.ref 23, .int v1, .int v2, .int v3, .int (v4 + (1 : Int32)), .int s0]) (S' := []) (h' := h6) rfl ?_
        refine Wp.forget (L := [.ref 23, .int v1, .int v2, .int v3, .int (v4 + (1 : Int32)), mk0]) (⟨Or.inr rfl, ⟨Or.inr rfl, ⟨Or.inr rfl, ⟨Or.inr rfl, ⟨Or.inr rfl, ⟨Or.inl rfl, trivial⟩⟩⟩⟩⟩⟩) ?_
        exact K
/-- CutsOrFastModel.parting at 0 (I)I -/
theorem g167_0 (d : Nat) (v1 : Int32) (h : AH) (HS : Sh h)  (Q : Option Value → AH → Prop) (K : (((AI h 23 0) = (0 : Int32) → Q (some (.int (-103 : Int32))) h) ∧ (¬ (AI h 23 0) = (0 : Int32) → ((v1 < (0 : Int32) → Q (some (.int (-102 : Int32))) h) ∧ (¬ v1 < (0 : Int32) → (((1 : Int32) < v1 → Q (some (.int (-102 : Int32))) h) ∧ (¬ (1 : Int32) < v1 → (Cl d 166 [.ref 23, .int v1] h (fun r h4 => ∃ x6 : Int32, r = some (.int x6) ∧ Sh h4 ∧ Q (some (.int x6)) h4))))))))) : Wp (d + 1) 167 0 [.ref 23, .int v1] [] h Q := by
  refine Wp.blk (by decide) ol_167 0 1 (pc' := 1) (L' := [.ref 23, .int v1]) (S' := [.ref 23]) (h' := h) rfl ?_
  refine Wp.getf (op_ix (by decide) ol_167 1 rfl) (okS HS 23 rfl rfl) (v := .int (AI h 23 0)) rfl rfl ?_
  refine Wp.blk (by decide) ol_167 2 1 (pc' := (if (AI h 23 0) = (0 : Int32) then 7 else 10)) (L' := [.ref 23, .int v1]) (S' := []) (h' := h) rfl ?_
  refine Wp.br (fun c1 => ?_) (fun c1 => ?_)
  · replace K := K.1 c1
    refine Wp.blk (by decide) ol_167 3 1 (pc' := 9) (L' := [.ref 23, .int v1]) (S' := [.int (-103 : Int32)]) (h' := h) rfl ?_
    exact Wp.ret (op_ix (by decide) ol_167 4 rfl) rfl K
  · replace K := K.2 c1
    refine Wp.blk (by decide) ol_167 5 3 (pc' := 13) (L' := [.ref 23, .int v1]) (S' := [.int (1 : Int32), .int (0 : Int32), .int v1]) (h' := h) rfl ?_
    refine Wp.callI (op_ix (by decide) ol_167 8 rfl) rfl rfl (Cl.enter (L := [.int v1, .int (0 : Int32), .int (1 : Int32)]) rfl ?_)
    refine Wp.blk (by decide) ol_129 0 3 (pc' := (if v1 < (0 : Int32) then 14 else 5)) (L' := [.int v1, .int (0 : Int32), .int (1 : Int32)]) (S' := []) (h' := h) rfl ?_
    refine Wp.br (fun c2 => ?_) (fun c2 => ?_)
    · replace K := K.1 c2
      refine Wp.blk (by decide) ol_129 8 1 (pc' := 15) (L' := [.int v1, .int (0 : Int32), .int (1 : Int32)]) (S' := [.int (0 : Int32)]) (h' := h) rfl ?_
      refine Wp.ret (op_ix (by decide) ol_129 9 rfl) rfl ⟨_, rfl, ?_⟩
      refine Wp.blk (by decide) ol_167 9 1 (pc' := (if (0 : Int32) = (0 : Int32) then 27 else 19)) (L' := [.ref 23, .int v1]) (S' := []) (h' := h) rfl ?_
      refine Wp.br (fun _ => ?_) (fun hc => absurd (by decide) hc)
      refine Wp.blk (by decide) ol_167 14 1 (pc' := 29) (L' := [.ref 23, .int v1]) (S' := [.int (-102 : Int32)]) (h' := h) rfl ?_
      exact Wp.ret (op_ix (by decide) ol_167 15 rfl) rfl K
    · replace K := K.2 c2
      refine Wp.blk (by decide) ol_129 3 3 (pc' := (if (1 : Int32) < v1 then 14 else 10)) (L' := [.int v1, .int (0 : Int32), .int (1 : Int32)]) (S' := []) (h' := h) rfl ?_
      refine Wp.br (fun c3 => ?_) (fun c3 => ?_)
      · replace K := K.1 c3
        refine Wp.blk (by decide) ol_129 8 1 (pc' := 15) (L' := [.int v1, .int (0 : Int32), .int (1 : Int32)]) (S' := [.int (0 : Int32)]) (h' := h) rfl ?_
        refine Wp.ret (op_ix (by decide) ol_129 9 rfl) rfl ⟨_, rfl, ?_⟩
        refine Wp.blk (by decide) ol_167 9 1 (pc' := (if (0 : Int32) = (0 : Int32) then 27 else 19)) (L' := [.ref 23, .int v1]) (S' := []) (h' := h) rfl ?_
        refine Wp.br (fun _ => ?_) (fun hc => absurd (by decide) hc)
        refine Wp.blk (by decide) ol_167 14 1 (pc' := 29) (L' := [.ref 23, .int v1]) (S' := [.int (-102 : Int32)]) (h' := h) rfl ?_
        exact Wp.ret (op_ix (by decide) ol_167 15 rfl) rfl K
      · replace K := K.2 c3
        refine Wp.blk (by decide) ol_129 6 2 (pc' := 15) (L' := [.int v1, .int (0 : Int32), .int (1 : Int32)]) (S' := [.int (1 : Int32)]) (h' := h) rfl ?_
        refine Wp.ret (op_ix (by decide) ol_129 9 rfl) rfl ⟨_, rfl, ?_⟩
        refine Wp.blk (by decide) ol_167 9 1 (pc' := (if (1 : Int32) = (0 : Int32) then 27 else 19)) (L' := [.ref 23, .int v1]) (S' := []) (h' := h) rfl ?_
        refine Wp.br (fun hc => absurd hc (by decide)) (fun _ => ?_)
        refine Wp.blk (by decide) ol_167 10 2 (pc' := 21) (L' := [.ref 23, .int v1]) (S' := [.int v1, .ref 23]) (h' := h) rfl ?_
        refine Wp.callI (op_ix (by decide) ol_167 12 rfl) (act_virt (c2 := 1) rfl (lk1 (kS HS 23 rfl)) rfl) rfl (K.mono ?_)
        rintro _ h4 ⟨x6, rfl, hs5, K⟩
        refine ⟨x6, rfl, ?_⟩
        refine Wp.blk (by decide) ol_167 13 1 (pc' := 29) (L' := [.ref 23, .int v1]) (S' := [.int x6]) (h' := h4) rfl ?_
        exact Wp.ret (op_ix (by decide) ol_167 15 rfl) rfl K
/-- CutsOrFastModel.isMendedBy at 0 (II)Z -/
theorem g168_0 (d : Nat) (v1 : Int32) (v2 : Int32) (h : AH) (HS : Sh h)  (Q : Option Value → AH → Prop) (K : (ixR ((AI h 23 0)) 10 ∧ ixR ((AI ((stI h 24 ((AI h 23 0)).toNatClampNeg v1)) 23 0)) 10 ∧ ixR ((AI ((stI ((stI h 24 ((AI h 23 0)).toNatClampNeg v1)) 25 ((AI ((stI h 24 ((AI h 23 0)).toNatClampNeg v1)) 23 0)).toNatClampNeg v2)) 23 0)) 10 ∧ (Cl d 150 [.ref 23, .int (((AI ((stI ((stI ((stI h 24 ((AI h 23 0)).toNatClampNeg v1)) 25 ((AI ((stI h 24 ((AI h 23 0)).toNatClampNeg v1)) 23 0)).toNatClampNeg v2)) 26 ((AI ((stI ((stI h 24 ((AI h 23 0)).toNatClampNeg v1)) 25 ((AI ((stI h 24 ((AI h 23 0)).toNatClampNeg v1)) 23 0)).toNatClampNeg v2)) 23 0)).toNatClampNeg ((0 : Int32)))) 23 0)) + ((1 : Int32)))] ((stI ((stI ((stI h 24 ((AI h 23 0)).toNatClampNeg v1)) 25 ((AI ((stI h 24 ((AI h 23 0)).toNatClampNeg v1)) 23 0)).toNatClampNeg v2)) 26 ((AI ((stI ((stI h 24 ((AI h 23 0)).toNatClampNeg v1)) 25 ((AI ((stI h 24 ((AI h 23 0)).toNatClampNeg v1)) 23 0)).toNatClampNeg v2)) 23 0)).toNatClampNeg ((0 : Int32)))) (fun r h4 => r = none ∧ Sh h4 ∧ (ixR ((1 : Int32)) 118098 ∧ ((AI h4 40 ((1 : Int32)).toNatClampNeg) = 0 ∨ (AI h4 40 ((1 : Int32)).toNatClampNeg) = 1) ∧ Q (some (.int (AI h4 40 ((1 : Int32)).toNatClampNeg))) h4))))) : Wp (d + 1) 168 0 [.ref 23, .int v1, .int v2] [] h Q := by
  refine Wp.blk (by decide) ol_168 0 1 (pc' := 1) (L' := [.ref 23, .int v1, .int v2]) (S' := [.ref 23]) (h' := h) rfl ?_
  refine Wp.getf (op_ix (by decide) ol_168 1 rfl) (okS HS 23 rfl rfl) (v := .ref 24) (congrArg va_rf (rS HS 23 4 rfl)) rfl ?_
  refine Wp.blk (by decide) ol_168 2 1 (pc' := 5) (L' := [.ref 23, .int v1, .int v2]) (S' := [.ref 23, .ref 24]) (h' := h) rfl ?_
  refine Wp.getf (op_ix (by decide) ol_168 3 rfl) (okS HS 23 rfl rfl) (v := .int (AI h 23 0)) rfl rfl ?_
  refine Wp.blk (by decide) ol_168 4 1 (pc' := 9) (L' := [.ref 23, .int v1, .int v2]) (S' := [.int v1, .int (AI h 23 0), .ref 24]) (h' := h) rfl ?_
  obtain ⟨r1, K⟩ := K
  refine Wp.iast (op_ix (by decide) ol_168 5 rfl) (by decide) (kS HS 24 rfl) (inS HS 24 rfl r1) rfl ?_
  refine Wp.blk (by decide) ol_168 6 1 (pc' := 11) (L' := [.ref 23, .int v1, .int v2]) (S' := [.ref 23]) (h' := (stI h 24 ((AI h 23 0)).toNatClampNeg v1)) rfl ?_
  refine Wp.getf (op_ix (by decide) ol_168 7 rfl) (okS HS 23 rfl rfl) (v := .ref 25) (congrArg va_rf (rS HS 23 5 rfl)) rfl ?_
  refine Wp.blk (by decide) ol_168 8 1 (pc' := 15) (L' := [.ref 23, .int v1, .int v2]) (S' := [.ref 23, .ref 25]) (h' := (stI h 24 ((AI h 23 0)).toNatClampNeg v1)) rfl ?_
  refine Wp.getf (op_ix (by decide) ol_168 9 rfl) (okS HS 23 rfl rfl) (v := .int (AI ((stI h 24 ((AI h 23 0)).toNatClampNeg v1)) 23 0)) rfl rfl ?_
  refine Wp.blk (by decide) ol_168 10 1 (pc' := 19) (L' := [.ref 23, .int v1, .int v2]) (S' := [.int v2, .int (AI ((stI h 24 ((AI h 23 0)).toNatClampNeg v1)) 23 0), .ref 25]) (h' := (stI h 24 ((AI h 23 0)).toNatClampNeg v1)) rfl ?_
  obtain ⟨r2, K⟩ := K
  refine Wp.iast (op_ix (by decide) ol_168 11 rfl) (by decide) (kS HS 25 rfl) (inS HS 25 rfl r2) rfl ?_
  refine Wp.blk (by decide) ol_168 12 1 (pc' := 21) (L' := [.ref 23, .int v1, .int v2]) (S' := [.ref 23]) (h' := (stI ((stI h 24 ((AI h 23 0)).toNatClampNeg v1)) 25 ((AI ((stI h 24 ((AI h 23 0)).toNatClampNeg v1)) 23 0)).toNatClampNeg v2)) rfl ?_
  refine Wp.getf (op_ix (by decide) ol_168 13 rfl) (okS HS 23 rfl rfl) (v := .ref 26) (congrArg va_rf (rS HS 23 6 rfl)) rfl ?_
  refine Wp.blk (by decide) ol_168 14 1 (pc' := 25) (L' := [.ref 23, .int v1, .int v2]) (S' := [.ref 23, .ref 26]) (h' := (stI ((stI h 24 ((AI h 23 0)).toNatClampNeg v1)) 25 ((AI ((stI h 24 ((AI h 23 0)).toNatClampNeg v1)) 23 0)).toNatClampNeg v2)) rfl ?_
  refine Wp.getf (op_ix (by decide) ol_168 15 rfl) (okS HS 23 rfl rfl) (v := .int (AI ((stI ((stI h 24 ((AI h 23 0)).toNatClampNeg v1)) 25 ((AI ((stI h 24 ((AI h 23 0)).toNatClampNeg v1)) 23 0)).toNatClampNeg v2)) 23 0)) rfl rfl ?_
  refine Wp.blk (by decide) ol_168 16 1 (pc' := 29) (L' := [.ref 23, .int v1, .int v2]) (S' := [.int (0 : Int32), .int (AI ((stI ((stI h 24 ((AI h 23 0)).toNatClampNeg v1)) 25 ((AI ((stI h 24 ((AI h 23 0)).toNatClampNeg v1)) 23 0)).toNatClampNeg v2)) 23 0), .ref 26]) (h' := (stI ((stI h 24 ((AI h 23 0)).toNatClampNeg v1)) 25 ((AI ((stI h 24 ((AI h 23 0)).toNatClampNeg v1)) 23 0)).toNatClampNeg v2)) rfl ?_
  obtain ⟨r3, K⟩ := K
  refine Wp.iast (op_ix (by decide) ol_168 17 rfl) (by decide) (kS HS 26 rfl) (inS HS 26 rfl r3) rfl ?_
  refine Wp.blk (by decide) ol_168 18 2 (pc' := 32) (L' := [.ref 23, .int v1, .int v2]) (S' := [.ref 23, .ref 23]) (h' := (stI ((stI ((stI h 24 ((AI h 23 0)).toNatClampNeg v1)) 25 ((AI ((stI h 24 ((AI h 23 0)).toNatClampNeg v1)) 23 0)).toNatClampNeg v2)) 26 ((AI ((stI ((stI h 24 ((AI h 23 0)).toNatClampNeg v1)) 25 ((AI ((stI h 24 ((AI h 23 0)).toNatClampNeg v1)) 23 0)).toNatClampNeg v2)) 23 0)).toNatClampNeg ((0 : Int32)))) rfl ?_
  refine Wp.getf (op_ix (by decide) ol_168 20 rfl) (okS HS 23 rfl rfl) (v := .int (AI ((stI ((stI ((stI h 24 ((AI h 23 0)).toNatClampNeg v1)) 25 ((AI ((stI h 24 ((AI h 23 0)).toNatClampNeg v1)) 23 0)).toNatClampNeg v2)) 26 ((AI ((stI ((stI h 24 ((AI h 23 0)).toNatClampNeg v1)) 25 ((AI ((stI h 24 ((AI h 23 0)).toNatClampNeg v1)) 23 0)).toNatClampNeg v2)) 23 0)).toNatClampNeg ((0 : Int32)))) 23 0)) rfl rfl ?_
  refine Wp.blk (by decide) ol_168 21 2 (pc' := 37) (L' := [.ref 23, .int v1, .int v2]) (S' := [.int (((AI ((stI ((stI ((stI h 24 ((AI h 23 0)).toNatClampNeg v1)) 25 ((AI ((stI h 24 ((AI h 23 0)).toNatClampNeg v1)) 23 0)).toNatClampNeg v2)) 26 ((AI ((stI ((stI h 24 ((AI h 23 0)).toNatClampNeg v1)) 25 ((AI ((stI h 24 ((AI h 23 0)).toNatClampNeg v1)) 23 0)).toNatClampNeg v2)) 23 0)).toNatClampNeg ((0 : Int32)))) 23 0)) + ((1 : Int32))), .ref 23]) (h' := (stI ((stI ((stI h 24 ((AI h 23 0)).toNatClampNeg v1)) 25 ((AI ((stI h 24 ((AI h 23 0)).toNatClampNeg v1)) 23 0)).toNatClampNeg v2)) 26 ((AI ((stI ((stI h 24 ((AI h 23 0)).toNatClampNeg v1)) 25 ((AI ((stI h 24 ((AI h 23 0)).toNatClampNeg v1)) 23 0)).toNatClampNeg v2)) 23 0)).toNatClampNeg ((0 : Int32)))) rfl ?_
  refine Wp.callV (op_ix (by decide) ol_168 23 rfl) (act_virt (c2 := 1) rfl (lk1 (kS HS 23 rfl)) rfl) rfl (K.mono ?_)
  rintro _ h4 ⟨rfl, hs5, K⟩
  refine ⟨rfl, ?_⟩
  refine Wp.blk (by decide) ol_168 24 1 (pc' := 41) (L' := [.ref 23, .int v1, .int v2]) (S' := [.ref 23]) (h' := h4) rfl ?_
  refine Wp.getf (op_ix (by decide) ol_168 25 rfl) (okS hs5 23 rfl rfl) (v := .ref 40) (congrArg va_rf (rS hs5 23 36 rfl)) rfl ?_
  refine Wp.blk (by decide) ol_168 26 1 (pc' := 45) (L' := [.ref 23, .int v1, .int v2]) (S' := [.int (1 : Int32), .ref 40]) (h' := h4) rfl ?_
  obtain ⟨r6, K⟩ := K
  refine Wp.bald (op_ix (by decide) ol_168 27 rfl) (Or.inr (kS hs5 40 rfl)) (inS hs5 40 rfl r6) rfl ?_
  obtain ⟨b7, K⟩ := K
  exact Wp.retB (op_ix (by decide) ol_168 28 rfl) rfl b7 K
/-- CutsOrFastModel.mendNow at 0 (I)I -/
theorem g169_0 (d : Nat) (v1 : Int32) (h : AH) (HS : Sh h)  (Q : Option Value → AH → Prop) (K : (Cl d 150 [.ref 23, .int (AI h 23 0)] h (fun r h1 => r = none ∧ Sh h1 ∧ (ixR ((1 : Int32)) 118098 ∧ (((AI h1 40 ((1 : Int32)).toNatClampNeg) = (0 : Int32) → Wp (d + 1) 169 29 [.ref 23, .int v1, .int (0 : Int32), mk0] [] h1 Q) ∧ (¬ (AI h1 40 ((1 : Int32)).toNatClampNeg) = (0 : Int32) → ((v1 = (0 : Int32) → Q (some (.int (0 : Int32))) h1) ∧ (¬ v1 = (0 : Int32) → Q (some (.int (-1 : Int32))) h1)))))))) : Wp (d + 1) 169 0 [.ref 23, .int v1, mk0, mk0] [] h Q := by
  refine Wp.blk (by decide) ol_169 0 2 (pc' := 2) (L' := [.ref 23, .int v1, mk0, mk0]) (S' := [.ref 23, .ref 23]) (h' := h) rfl ?_
  refine Wp.getf (op_ix (by decide) ol_169 2 rfl) (okS HS 23 rfl rfl) (v := .int (AI h 23 0)) rfl rfl ?_
  refine Wp.callV (op_ix (by decide) ol_169 3 rfl) (act_virt (c2 := 1) rfl (lk1 (kS HS 23 rfl)) rfl) rfl (K.mono ?_)
  rintro _ h1 ⟨rfl, hs2, K⟩
  refine ⟨rfl, ?_⟩
  refine Wp.blk (by decide) ol_169 4 1 (pc' := 9) (L' := [.ref 23, .int v1, mk0, mk0]) (S' := [.ref 23]) (h' := h1) rfl ?_
  refine Wp.getf (op_ix (by decide) ol_169 5 rfl) (okS hs2 23 rfl rfl) (v := .ref 40) (congrArg va_rf (rS hs2 23 36 rfl)) rfl ?_
  refine Wp.blk (by decide) ol_169 6 1 (pc' := 13) (L' := [.ref 23, .int v1, mk0, mk0]) (S' := [.int (1 : Int32), .ref 40]) (h' := h1) rfl ?_
  obtain ⟨r3, K⟩ := K
  refine Wp.bald (op_ix (by decide) ol_169 7 rfl) (Or.inr (kS hs2 40 rfl)) (inS hs2 40 rfl r3) rfl ?_
  refine Wp.blk (by decide) ol_169 8 1 (pc' := (if (AI h1 40 ((1 : Int32)).toNatClampNeg) = (0 : Int32) then 27 else 17)) (L' := [.ref 23, .int v1, mk0, mk0]) (S' := []) (h' := h1) rfl ?_
  refine Wp.br (fun c4 => ?_) (fun c4 => ?_)
  · replace K := K.1 c4
    refine Wp.blk (by decide) ol_169 15 2 (pc' := 29) (L' := [.ref 23, .int v1, .int (0 : Int32), mk0]) (S' := []) (h' := h1) rfl ?_
    exact K
  · replace K := K.2 c4
    refine Wp.blk (by decide) ol_169 9 2 (pc' := (if v1 = (0 : Int32) then 21 else 25)) (L' := [.ref 23, .int v1, mk0, mk0]) (S' := []) (h' := h1) rfl ?_
    refine Wp.br (fun c5 => ?_) (fun c5 => ?_)
    · replace K := K.1 c5
      refine Wp.blk (by decide) ol_169 11 2 (pc' := 26) (L' := [.ref 23, .int v1, mk0, mk0]) (S' := [.int (0 : Int32)]) (h' := h1) rfl ?_
      exact Wp.ret (op_ix (by decide) ol_169 14 rfl) rfl K
    · replace K := K.2 c5
      refine Wp.blk (by decide) ol_169 13 1 (pc' := 26) (L' := [.ref 23, .int v1, mk0, mk0]) (S' := [.int (-1 : Int32)]) (h' := h1) rfl ?_
      exact Wp.ret (op_ix (by decide) ol_169 14 rfl) rfl K
/-- CutsOrFastModel.mendNow at 29 -/
theorem g169_29 (d : Nat) (v1 : Int32) (v2 : Int32) (h : AH) (HS : Sh h)  (Q : Option Value → AH → Prop) (K : ((v2 < (6 : Int32) → Wp d 169 39 [.ref 23, .int v1, .int v2, .int (v2 + ((1 : Int32)))] [] h Q) ∧ (¬ v2 < (6 : Int32) → ((v1 = (0 : Int32) → Q (some (.int (2 : Int32))) h) ∧ (¬ v1 = (0 : Int32) → Q (some (.int (-1 : Int32))) h))))) : Wp d 169 29 [.ref 23, .int v1, .int v2, mk0] [] h Q := by
  refine Wp.blk (by decide) ol_169 17 3 (pc' := (if v2 < (6 : Int32) then 35 else 85)) (L' := [.ref 23, .int v1, .int v2, mk0]) (S' := []) (h' := h) rfl ?_
  refine Wp.br (fun c1 => ?_) (fun c1 => ?_)
  · replace K := K.1 c1
    refine Wp.blk (by decide) ol_169 20 4 (pc' := 39) (L' := [.ref 23, .int v1, .int v2, .int (v2 + ((1 : Int32)))]) (S' := []) (h' := h) rfl ?_
    exact K
  · replace K := K.2 c1
    refine Wp.blk (by decide) ol_169 47 2 (pc' := (if v1 = (0 : Int32) then 89 else 93)) (L' := [.ref 23, .int v1, .int v2, mk0]) (S' := []) (h' := h) rfl ?_
    refine Wp.br (fun c2 => ?_) (fun c2 => ?_)
    · replace K := K.1 c2
      refine Wp.blk (by decide) ol_169 49 2 (pc' := 94) (L' := [.ref 23, .int v1, .int v2, mk0]) (S' := [.int (2 : Int32)]) (h' := h) rfl ?_
      exact Wp.ret (op_ix (by decide) ol_169 52 rfl) rfl K
    · replace K := K.2 c2
      refine Wp.blk (by decide) ol_169 51 1 (pc' := 94) (L' := [.ref 23, .int v1, .int v2, mk0]) (S' := [.int (-1 : Int32)]) (h' := h) rfl ?_
      exact Wp.ret (op_ix (by decide) ol_169 52 rfl) rfl K
/-- CutsOrFastModel.mendNow at 39 -/
theorem g169_39 (d : Nat) (v1 : Int32) (v2 : Int32) (v3 : Int32) (h : AH) (HS : Sh h)  (Q : Option Value → AH → Prop) (K : ((v3 < (6 : Int32) → (Cl d 168 [.ref 23, .int v2, .int v3] h (fun r h2 => ∃ x4 : Int32, r = some (.int x4) ∧ Sh h2 ∧ ((x4 = (0 : Int32) → Wp (d + 1) 169 39 [.ref 23, .int v1, .int v2, .int (v3 + (1 : Int32))] [] h2 Q) ∧ (¬ x4 = (0 : Int32) → ((v1 = (0 : Int32) → Q (some (.int (1 : Int32))) h2) ∧ (¬ v1 = (0 : Int32) → ((v1 = (1 : Int32) → Q (some (.int v2)) h2) ∧ (¬ v1 = (1 : Int32) → Q (some (.int v3)) h2))))))))) ∧ (¬ v3 < (6 : Int32) → Wp (d + 1) 169 29 [.ref 23, .int v1, .int (v2 + (1 : Int32)), mk0] [] h Q))) : Wp (d + 1) 169 39 [.ref 23, .int v1, .int v2, .int v3] [] h Q := by
  refine Wp.blk (by decide) ol_169 24 3 (pc' := (if v3 < (6 : Int32) then 45 else 79)) (L' := [.ref 23, .int v1, .int v2, .int v3]) (S' := []) (h' := h) rfl ?_
  refine Wp.br (fun c1 => ?_) (fun c1 => ?_)
  · replace K := K.1 c1
    refine Wp.blk (by decide) ol_169 27 3 (pc' := 48) (L' := [.ref 23, .int v1, .int v2, .int v3]) (S' := [.int v3, .int v2, .ref 23]) (h' := h) rfl ?_
    refine Wp.callI (op_ix (by decide) ol_169 30 rfl) (act_virt (c2 := 2) rfl (lk1 (kS HS 23 rfl)) rfl) rfl (K.mono ?_)
    rintro _ h2 ⟨x4, rfl, hs3, K⟩
    refine ⟨x4, rfl, ?_⟩
    refine Wp.blk (by decide) ol_169 31 1 (pc' := (if x4 = (0 : Int32) then 73 else 54)) (L' := [.ref 23, .int v1, .int v2, .int v3]) (S' := []) (h' := h2) rfl ?_
    refine Wp.br (fun c5 => ?_) (fun c5 => ?_)
    · replace K := K.1 c5
      refine Wp.blk (by decide) ol_169 43 2 (pc' := 39) (L' := [.ref 23, .int v1, .int v2, .int (v3 + (1 : Int32))]) (S' := []) (h' := h2) rfl ?_
      exact K
    · replace K := K.2 c5
      refine Wp.blk (by decide) ol_169 32 2 (pc' := (if v1 = (0 : Int32) then 58 else 62)) (L' := [.ref 23, .int v1, .int v2, .int v3]) (S' := []) (h' := h2) rfl ?_
      refine Wp.br (fun c6 => ?_) (fun c6 => ?_)
      · replace K := K.1 c6
        refine Wp.blk (by decide) ol_169 34 2 (pc' := 72) (L' := [.ref 23, .int v1, .int v2, .int v3]) (S' := [.int (1 : Int32)]) (h' := h2) rfl ?_
        exact Wp.ret (op_ix (by decide) ol_169 42 rfl) rfl K
      · replace K := K.2 c6
        refine Wp.blk (by decide) ol_169 36 3 (pc' := (if v1 = (1 : Int32) then 67 else 71)) (L' := [.ref 23, .int v1, .int v2, .int v3]) (S' := []) (h' := h2) rfl ?_
        refine Wp.br (fun c7 => ?_) (fun c7 => ?_)
        · replace K := K.1 c7
          refine Wp.blk (by decide) ol_169 39 2 (pc' := 72) (L' := [.ref 23, .int v1, .int v2, .int v3]) (S' := [.int v2]) (h' := h2) rfl ?_
          exact Wp.ret (op_ix (by decide) ol_169 42 rfl) rfl K
        · replace K := K.2 c7
          refine Wp.blk (by decide) ol_169 41 1 (pc' := 72) (L' := [.ref 23, .int v1, .int v2, .int v3]) (S' := [.int v3]) (h' := h2) rfl ?_
          exact Wp.ret (op_ix (by decide) ol_169 42 rfl) rfl K
  · replace K := K.2 c1
    refine Wp.blk (by decide) ol_169 45 2 (pc' := 29) (L' := [.ref 23, .int v1, .int (v2 + (1 : Int32)), .int v3]) (S' := []) (h' := h) rfl ?_
    refine Wp.forget (L := [.ref 23, .int v1, .int (v2 + (1 : Int32)), mk0]) (⟨Or.inr rfl, ⟨Or.inr rfl, ⟨Or.inr rfl, ⟨Or.inl rfl, trivial⟩⟩⟩⟩) ?_
    exact K
/-- CutsOrFastModel.mend at 0 (I)I -/
theorem g170_0 (d : Nat) (v1 : Int32) (h : AH) (HS : Sh h)  (Q : Option Value → AH → Prop) (K : (((AI h 23 0) = (0 : Int32) → Q (some (.int (-103 : Int32))) h) ∧ (¬ (AI h 23 0) = (0 : Int32) → (((AI h 23 13) = (20 : Int32) → Q (some (.int (-103 : Int32))) h) ∧ (¬ (AI h 23 13) = (20 : Int32) → ((v1 < (0 : Int32) → Q (some (.int (-102 : Int32))) h) ∧ (¬ v1 < (0 : Int32) → (((2 : Int32) < v1 → Q (some (.int (-102 : Int32))) h) ∧ (¬ (2 : Int32) < v1 → (Cl d 169 [.ref 23, .int v1] ((stI h 23 13 ((((AI h 23 13)) + ((1 : Int32)))))) (fun r h5 => ∃ x7 : Int32, r = some (.int x7) ∧ Sh h5 ∧ Q (some (.int x7)) h5))))))))))) : Wp (d + 1) 170 0 [.ref 23, .int v1] [] h Q := by
  refine Wp.blk (by decide) ol_170 0 1 (pc' := 1) (L' := [.ref 23, .int v1]) (S' := [.ref 23]) (h' := h) rfl ?_
  refine Wp.getf (op_ix (by decide) ol_170 1 rfl) (okS HS 23 rfl rfl) (v := .int (AI h 23 0)) rfl rfl ?_
  refine Wp.blk (by decide) ol_170 2 1 (pc' := (if (AI h 23 0) = (0 : Int32) then 16 else 7)) (L' := [.ref 23, .int v1]) (S' := []) (h' := h) rfl ?_
  refine Wp.br (fun c1 => ?_) (fun c1 => ?_)
  · replace K := K.1 c1
    refine Wp.blk (by decide) ol_170 7 1 (pc' := 18) (L' := [.ref 23, .int v1]) (S' := [.int (-103 : Int32)]) (h' := h) rfl ?_
    exact Wp.ret (op_ix (by decide) ol_170 8 rfl) rfl K
  · replace K := K.2 c1
    refine Wp.blk (by decide) ol_170 3 1 (pc' := 8) (L' := [.ref 23, .int v1]) (S' := [.ref 23]) (h' := h) rfl ?_
    refine Wp.getf (op_ix (by decide) ol_170 4 rfl) (okS HS 23 rfl rfl) (v := .int (AI h 23 13)) rfl rfl ?_
    refine Wp.blk (by decide) ol_170 5 2 (pc' := (if (AI h 23 13) = (20 : Int32) then 16 else 19)) (L' := [.ref 23, .int v1]) (S' := []) (h' := h) rfl ?_
    refine Wp.br (fun c2 => ?_) (fun c2 => ?_)
    · replace K := K.1 c2
      refine Wp.blk (by decide) ol_170 7 1 (pc' := 18) (L' := [.ref 23, .int v1]) (S' := [.int (-103 : Int32)]) (h' := h) rfl ?_
      exact Wp.ret (op_ix (by decide) ol_170 8 rfl) rfl K
    · replace K := K.2 c2
      refine Wp.blk (by decide) ol_170 9 3 (pc' := 22) (L' := [.ref 23, .int v1]) (S' := [.int (2 : Int32), .int (0 : Int32), .int v1]) (h' := h) rfl ?_
      refine Wp.callI (op_ix (by decide) ol_170 12 rfl) rfl rfl (Cl.enter (L := [.int v1, .int (0 : Int32), .int (2 : Int32)]) rfl ?_)
      refine Wp.blk (by decide) ol_129 0 3 (pc' := (if v1 < (0 : Int32) then 14 else 5)) (L' := [.int v1, .int (0 : Int32), .int (2 : Int32)]) (S' := []) (h' := h) rfl ?_
      refine Wp.br (fun c3 => ?_) (fun c3 => ?_)
      · replace K := K.1 c3
        refine Wp.blk (by decide) ol_129 8 1 (pc' := 15) (L' := [.int v1, .int (0 : Int32), .int (2 : Int32)]) (S' := [.int (0 : Int32)]) (h' := h) rfl ?_
        refine Wp.ret (op_ix (by decide) ol_129 9 rfl) rfl ⟨_, rfl, ?_⟩
        refine Wp.blk (by decide) ol_170 13 1 (pc' := (if (0 : Int32) = (0 : Int32) then 28 else 31)) (L' := [.ref 23, .int v1]) (S' := []) (h' := h) rfl ?_
        refine Wp.br (fun _ => ?_) (fun hc => absurd (by decide) hc)
        refine Wp.blk (by decide) ol_170 14 1 (pc' := 30) (L' := [.ref 23, .int v1]) (S' := [.int (-102 : Int32)]) (h' := h) rfl ?_
        exact Wp.ret (op_ix (by decide) ol_170 15 rfl) rfl K
      · replace K := K.2 c3
        refine Wp.blk (by decide) ol_129 3 3 (pc' := (if (2 : Int32) < v1 then 14 else 10)) (L' := [.int v1, .int (0 : Int32), .int (2 : Int32)]) (S' := []) (h' := h) rfl ?_
        refine Wp.br (fun c4 => ?_) (fun c4 => ?_)
        · replace K := K.1 c4
          refine Wp.blk (by decide) ol_129 8 1 (pc' := 15) (L' := [.int v1, .int (0 : Int32), .int (2 : Int32)]) (S' := [.int (0 : Int32)]) (h' := h) rfl ?_
          refine Wp.ret (op_ix (by decide) ol_129 9 rfl) rfl ⟨_, rfl, ?_⟩
          refine Wp.blk (by decide) ol_170 13 1 (pc' := (if (0 : Int32) = (0 : Int32) then 28 else 31)) (L' := [.ref 23, .int v1]) (S' := []) (h' := h) rfl ?_
          refine Wp.br (fun _ => ?_) (fun hc => absurd (by decide) hc)
          refine Wp.blk (by decide) ol_170 14 1 (pc' := 30) (L' := [.ref 23, .int v1]) (S' := [.int (-102 : Int32)]) (h' := h) rfl ?_
          exact Wp.ret (op_ix (by decide) ol_170 15 rfl) rfl K
        · replace K := K.2 c4
          refine Wp.blk (by decide) ol_129 6 2 (pc' := 15) (L' := [.int v1, .int (0 : Int32), .int (2 : Int32)]) (S' := [.int (1 : Int32)]) (h' := h) rfl ?_
          refine Wp.ret (op_ix (by decide) ol_129 9 rfl) rfl ⟨_, rfl, ?_⟩
          refine Wp.blk (by decide) ol_170 13 1 (pc' := (if (1 : Int32) = (0 : Int32) then 28 else 31)) (L' := [.ref 23, .int v1]) (S' := []) (h' := h) rfl ?_
          refine Wp.br (fun hc => absurd hc (by decide)) (fun _ => ?_)
          refine Wp.blk (by decide) ol_170 16 2 (pc' := 33) (L' := [.ref 23, .int v1]) (S' := [.ref 23, .ref 23]) (h' := h) rfl ?_
          refine Wp.getf (op_ix (by decide) ol_170 18 rfl) (okS HS 23 rfl rfl) (v := .int (AI h 23 13)) rfl rfl ?_
          refine Wp.blk (by decide) ol_170 19 2 (pc' := 38) (L' := [.ref 23, .int v1]) (S' := [.int (((AI h 23 13)) + ((1 : Int32))), .ref 23]) (h' := h) rfl ?_
          refine Wp.putf (op_ix (by decide) ol_170 21 rfl) (by decide) (okS HS 23 rfl rfl) (h' := (stI h 23 13 ((((AI h 23 13)) + ((1 : Int32)))))) rfl rfl ?_
          refine Wp.blk (by decide) ol_170 22 2 (pc' := 43) (L' := [.ref 23, .int v1]) (S' := [.int v1, .ref 23]) (h' := (stI h 23 13 ((((AI h 23 13)) + ((1 : Int32)))))) rfl ?_
          refine Wp.callI (op_ix (by decide) ol_170 24 rfl) (act_virt (c2 := 1) rfl (lk1 (kS HS 23 rfl)) rfl) rfl (K.mono ?_)
          rintro _ h5 ⟨x7, rfl, hs6, K⟩
          refine ⟨x7, rfl, ?_⟩
          exact Wp.ret (op_ix (by decide) ol_170 25 rfl) rfl K
/-- CutsOrFastModel.boughtNow at 0 (I)I -/
theorem g171_0 (d : Nat) (v1 : Int32) (h : AH) (HS : Sh h)  (Q : Option Value → AH → Prop) (K : (Cl d 150 [.ref 23, .int (AI h 23 0)] h (fun r h1 => r = none ∧ Sh h1 ∧ Wp (d + 1) 171 16 [.ref 23, .int v1, .int (-1 : Int32), .int (1048576 : Int32), .int (0 : Int32), mk0, mk0, mk0, mk0] [] h1 Q))) : Wp (d + 1) 171 0 [.ref 23, .int v1, mk0, mk0, mk0, mk0, mk0, mk0, mk0] [] h Q := by
  refine Wp.blk (by decide) ol_171 0 2 (pc' := 2) (L' := [.ref 23, .int v1, mk0, mk0, mk0, mk0, mk0, mk0, mk0]) (S' := [.ref 23, .ref 23]) (h' := h) rfl ?_
  refine Wp.getf (op_ix (by decide) ol_171 2 rfl) (okS HS 23 rfl rfl) (v := .int (AI h 23 0)) rfl rfl ?_
  refine Wp.callV (op_ix (by decide) ol_171 3 rfl) (act_virt (c2 := 1) rfl (lk1 (kS HS 23 rfl)) rfl) rfl (K.mono ?_)
  rintro _ h1 ⟨rfl, hs2, K⟩
  refine ⟨rfl, ?_⟩
  refine Wp.blk (by decide) ol_171 4 6 (pc' := 16) (L' := [.ref 23, .int v1, .int (-1 : Int32), .int (1048576 : Int32), .int (0 : Int32), mk0, mk0, mk0, mk0]) (S' := []) (h' := h1) rfl ?_
  exact K
/-- CutsOrFastModel.boughtNow at 16 -/
theorem g171_16 (d : Nat) (v1 : Int32) (v2 : Int32) (v3 : Int32) (v4 : Int32) (h : AH) (HS : Sh h)  (Q : Option Value → AH → Prop) (K : ((v4 < (((1 : Int32)) <<< (((AI h 23 0)) &&& 31)) → Wp d 171 39 [.ref 23, .int v1, .int v2, .int v3, .int v4, .int (0 : Int32), .int (0 : Int32), .int (1 : Int32), .int (0 : Int32)] [] h Q) ∧ (¬ v4 < (((1 : Int32)) <<< (((AI h 23 0)) &&& 31)) → ((v2 = (-1 : Int32) → Q (some (.int v2)) h) ∧ (¬ v2 = (-1 : Int32) → ((v1 = (1 : Int32) → Q (some (.int v2)) h) ∧ (¬ v1 = (1 : Int32) → Q (some (.int v3)) h))))))) : Wp d 171 16 [.ref 23, .int v1, .int v2, .int v3, .int v4, mk0, mk0, mk0, mk0] [] h Q := by
  refine Wp.blk (by decide) ol_171 10 3 (pc' := 20) (L' := [.ref 23, .int v1, .int v2, .int v3, .int v4, mk0, mk0, mk0, mk0]) (S' := [.ref 23, .int (1 : Int32), .int v4]) (h' := h) rfl ?_
  refine Wp.getf (op_ix (by decide) ol_171 13 rfl) (okS HS 23 rfl rfl) (v := .int (AI h 23 0)) rfl rfl ?_
  refine Wp.blk (by decide) ol_171 14 2 (pc' := (if v4 < (((1 : Int32)) <<< (((AI h 23 0)) &&& 31)) then 27 else 198)) (L' := [.ref 23, .int v1, .int v2, .int v3, .int v4, mk0, mk0, mk0, mk0]) (S' := []) (h' := h) rfl ?_
  refine Wp.br (fun c1 => ?_) (fun c1 => ?_)
  · replace K := K.1 c1
    refine Wp.blk (by decide) ol_171 16 8 (pc' := 39) (L' := [.ref 23, .int v1, .int v2, .int v3, .int v4, .int (0 : Int32), .int (0 : Int32), .int (1 : Int32), .int (0 : Int32)]) (S' := []) (h' := h) rfl ?_
    exact K
  · replace K := K.2 c1
    refine Wp.blk (by decide) ol_171 102 3 (pc' := (if v2 = (-1 : Int32) then 208 else 203)) (L' := [.ref 23, .int v1, .int v2, .int v3, .int v4, mk0, mk0, mk0, mk0]) (S' := []) (h' := h) rfl ?_
    refine Wp.br (fun c2 => ?_) (fun c2 => ?_)
    · replace K := K.1 c2
      refine Wp.blk (by decide) ol_171 108 2 (pc' := 213) (L' := [.ref 23, .int v1, .int v2, .int v3, .int v4, mk0, mk0, mk0, mk0]) (S' := [.int v2]) (h' := h) rfl ?_
      exact Wp.ret (op_ix (by decide) ol_171 111 rfl) rfl K
    · replace K := K.2 c2
      refine Wp.blk (by decide) ol_171 105 3 (pc' := (if v1 = (1 : Int32) then 208 else 212)) (L' := [.ref 23, .int v1, .int v2, .int v3, .int v4, mk0, mk0, mk0, mk0]) (S' := []) (h' := h) rfl ?_
      refine Wp.br (fun c3 => ?_) (fun c3 => ?_)
      · replace K := K.1 c3
        refine Wp.blk (by decide) ol_171 108 2 (pc' := 213) (L' := [.ref 23, .int v1, .int v2, .int v3, .int v4, mk0, mk0, mk0, mk0]) (S' := [.int v2]) (h' := h) rfl ?_
        exact Wp.ret (op_ix (by decide) ol_171 111 rfl) rfl K
      · replace K := K.2 c3
        refine Wp.blk (by decide) ol_171 110 1 (pc' := 213) (L' := [.ref 23, .int v1, .int v2, .int v3, .int v4, mk0, mk0, mk0, mk0]) (S' := [.int v3]) (h' := h) rfl ?_
        exact Wp.ret (op_ix (by decide) ol_171 111 rfl) rfl K
/-- CutsOrFastModel.boughtNow at 39 -/
theorem g171_39 (d : Nat) (v1 : Int32) (v2 : Int32) (v3 : Int32) (v4 : Int32) (v5 : Int32) (v6 : Int32) (v7 : Int32) (v8 : Int32) (h : AH) (HS : Sh h)  (Q : Option Value → AH → Prop) (K : ((v8 < (AI h 23 0) → ((v7 = (0 : Int32) → Wp (d + 1) 171 78 [.ref 23, .int v1, .int v2, .int v3, .int v4, .int v5, .int v6, mk0, .int v8] [.int (0 : Int32)] h Q) ∧ (¬ v7 = (0 : Int32) → (((((v4 >>> (v8 &&& 31))) &&& ((1 : Int32))) = (1 : Int32) → (ixR v8 10 ∧ (((AI h 26 v8.toNatClampNeg) = (0 : Int32) → Wp (d + 1) 171 78 [.ref 23, .int v1, .int v2, .int v3, .int v4, .int v5, .int v6, mk0, .int v8] [.int (1 : Int32)] h Q) ∧ (¬ (AI h 26 v8.toNatClampNeg) = (0 : Int32) → Wp (d + 1) 171 78 [.ref 23, .int v1, .int v2, .int v3, .int v4, .int v5, .int v6, mk0, .int v8] [.int (0 : Int32)] h Q)))) ∧ (¬ (((v4 >>> (v8 &&& 31))) &&& ((1 : Int32))) = (1 : Int32) → Wp (d + 1) 171 78 [.ref 23, .int v1, .int v2, .int v3, .int v4, .int v5, .int v6, mk0, .int v8] [.int (1 : Int32)] h Q))))) ∧ (¬ v8 < (AI h 23 0) → Wp (d + 1) 171 115 [.ref 23, .int v1, .int v2, .int v3, .int v4, .int v5, .int v6, .int v7, .int (0 : Int32)] [] h Q))) : Wp (d + 1) 171 39 [.ref 23, .int v1, .int v2, .int v3, .int v4, .int v5, .int v6, .int v7, .int v8] [] h Q := by
  refine Wp.blk (by decide) ol_171 24 2 (pc' := 42) (L' := [.ref 23, .int v1, .int v2, .int v3, .int v4, .int v5, .int v6, .int v7, .int v8]) (S' := [.ref 23, .int v8]) (h' := h) rfl ?_
  refine Wp.getf (op_ix (by decide) ol_171 26 rfl) (okS HS 23 rfl rfl) (v := .int (AI h 23 0)) rfl rfl ?_
  refine Wp.blk (by decide) ol_171 27 1 (pc' := (if v8 < (AI h 23 0) then 48 else 112)) (L' := [.ref 23, .int v1, .int v2, .int v3, .int v4, .int v5, .int v6, .int v7, .int v8]) (S' := []) (h' := h) rfl ?_
  refine Wp.br (fun c1 => ?_) (fun c1 => ?_)
  · replace K := K.1 c1
    refine Wp.blk (by decide) ol_171 28 2 (pc' := (if v7 = (0 : Int32) then 77 else 53)) (L' := [.ref 23, .int v1, .int v2, .int v3, .int v4, .int v5, .int v6, .int v7, .int v8]) (S' := []) (h' := h) rfl ?_
    refine Wp.br (fun c2 => ?_) (fun c2 => ?_)
    · replace K := K.1 c2
      refine Wp.blk (by decide) ol_171 41 1 (pc' := 78) (L' := [.ref 23, .int v1, .int v2, .int v3, .int v4, .int v5, .int v6, .int v7, .int v8]) (S' := [.int (0 : Int32)]) (h' := h) rfl ?_
      refine Wp.forget (L := [.ref 23, .int v1, .int v2, .int v3, .int v4, .int v5, .int v6, mk0, .int v8]) (⟨Or.inr rfl, ⟨Or.inr rfl, ⟨Or.inr rfl, ⟨Or.inr rfl, ⟨Or.inr rfl, ⟨Or.inr rfl, ⟨Or.inr rfl, ⟨Or.inl rfl, ⟨Or.inr rfl, trivial⟩⟩⟩⟩⟩⟩⟩⟩⟩) ?_
      exact K
    · replace K := K.2 c2
      refine Wp.blk (by decide) ol_171 30 2 (pc' := 57) (L' := [.ref 23, .int v1, .int v2, .int v3, .int v4, .int v5, .int v6, .int v7, .int v8]) (S' := [.int v8, .int v4]) (h' := h) rfl ?_
      refine Wp.callI (op_ix (by decide) ol_171 32 rfl) rfl rfl (Cl.enter (L := [.int v4, .int v8]) rfl ?_)
      refine Wp.blk (by decide) ol_130 0 7 (pc' := (if (((v4 >>> (v8 &&& 31))) &&& ((1 : Int32))) = (1 : Int32) then 9 else 13)) (L' := [.int v4, .int v8]) (S' := []) (h' := h) rfl ?_
      refine Wp.br (fun c3 => ?_) (fun c3 => ?_)
      · replace K := K.1 c3
        refine Wp.blk (by decide) ol_130 7 2 (pc' := 14) (L' := [.int v4, .int v8]) (S' := [.int (1 : Int32)]) (h' := h) rfl ?_
        refine Wp.ret (op_ix (by decide) ol_130 10 rfl) rfl ⟨_, rfl, ?_⟩
        refine Wp.blk (by decide) ol_171 33 1 (pc' := (if (1 : Int32) = (0 : Int32) then 73 else 63)) (L' := [.ref 23, .int v1, .int v2, .int v3, .int v4, .int v5, .int v6, .int v7, .int v8]) (S' := []) (h' := h) rfl ?_
        refine Wp.br (fun hc => absurd hc (by decide)) (fun _ => ?_)
        refine Wp.blk (by decide) ol_171 34 1 (pc' := 64) (L' := [.ref 23, .int v1, .int v2, .int v3, .int v4, .int v5, .int v6, .int v7, .int v8]) (S' := [.ref 23]) (h' := h) rfl ?_
        refine Wp.getf (op_ix (by decide) ol_171 35 rfl) (okS HS 23 rfl rfl) (v := .ref 26) (congrArg va_rf (rS HS 23 6 rfl)) rfl ?_
        refine Wp.blk (by decide) ol_171 36 1 (pc' := 69) (L' := [.ref 23, .int v1, .int v2, .int v3, .int v4, .int v5, .int v6, .int v7, .int v8]) (S' := [.int v8, .ref 26]) (h' := h) rfl ?_
        obtain ⟨r4, K⟩ := K
        refine Wp.iald (op_ix (by decide) ol_171 37 rfl) (kS HS 26 rfl) (inS HS 26 rfl r4) rfl ?_
        refine Wp.blk (by decide) ol_171 38 1 (pc' := (if (AI h 26 v8.toNatClampNeg) = (0 : Int32) then 73 else 77)) (L' := [.ref 23, .int v1, .int v2, .int v3, .int v4, .int v5, .int v6, .int v7, .int v8]) (S' := []) (h' := h) rfl ?_
        refine Wp.br (fun c5 => ?_) (fun c5 => ?_)
        · replace K := K.1 c5
          refine Wp.blk (by decide) ol_171 39 2 (pc' := 78) (L' := [.ref 23, .int v1, .int v2, .int v3, .int v4, .int v5, .int v6, .int v7, .int v8]) (S' := [.int (1 : Int32)]) (h' := h) rfl ?_
          refine Wp.forget (L := [.ref 23, .int v1, .int v2, .int v3, .int v4, .int v5, .int v6, mk0, .int v8]) (⟨Or.inr rfl, ⟨Or.inr rfl, ⟨Or.inr rfl, ⟨Or.inr rfl, ⟨Or.inr rfl, ⟨Or.inr rfl, ⟨Or.inr rfl, ⟨Or.inl rfl, ⟨Or.inr rfl, trivial⟩⟩⟩⟩⟩⟩⟩⟩⟩) ?_
          exact K
        · replace K := K.2 c5
          refine Wp.blk (by decide) ol_171 41 1 (pc' := 78) (L' := [.ref 23, .int v1, .int v2, .int v3, .int v4, .int v5, .int v6, .int v7, .int v8]) (S' := [.int (0 : Int32)]) (h' := h) rfl ?_
          refine Wp.forget (L := [.ref 23, .int v1, .int v2, .int v3, .int v4, .int v5, .int v6, mk0, .int v8]) (⟨Or.inr rfl, ⟨Or.inr rfl, ⟨Or.inr rfl, ⟨Or.inr rfl, ⟨Or.inr rfl, ⟨Or.inr rfl, ⟨Or.inr rfl, ⟨Or.inl rfl, ⟨Or.inr rfl, trivial⟩⟩⟩⟩⟩⟩⟩⟩⟩) ?_
          exact K
      · replace K := K.2 c3
        refine Wp.blk (by decide) ol_130 9 1 (pc' := 14) (L' := [.int v4, .int v8]) (S' := [.int (0 : Int32)]) (h' := h) rfl ?_
        refine Wp.ret (op_ix (by decide) ol_130 10 rfl) rfl ⟨_, rfl, ?_⟩
        refine Wp.blk (by decide) ol_171 33 1 (pc' := (if (0 : Int32) = (0 : Int32) then 73 else 63)) (L' := [.ref 23, .int v1, .int v2, .int v3, .int v4, .int v5, .int v6, .int v7, .int v8]) (S' := []) (h' := h) rfl ?_
        refine Wp.br (fun _ => ?_) (fun hc => absurd (by decide) hc)
        refine Wp.blk (by decide) ol_171 39 2 (pc' := 78) (L' := [.ref 23, .int v1, .int v2, .int v3, .int v4, .int v5, .int v6, .int v7, .int v8]) (S' := [.int (1 : Int32)]) (h' := h) rfl ?_
        refine Wp.forget (L := [.ref 23, .int v1, .int v2, .int v3, .int v4, .int v5, .int v6, mk0, .int v8]) (⟨Or.inr rfl, ⟨Or.inr rfl, ⟨Or.inr rfl, ⟨Or.inr rfl, ⟨Or.inr rfl, ⟨Or.inr rfl, ⟨Or.inr rfl, ⟨Or.inl rfl, ⟨Or.inr rfl, trivial⟩⟩⟩⟩⟩⟩⟩⟩⟩) ?_
        exact K
  · replace K := K.2 c1
    refine Wp.blk (by decide) ol_171 58 2 (pc' := 115) (L' := [.ref 23, .int v1, .int v2, .int v3, .int v4, .int v5, .int v6, .int v7, .int (0 : Int32)]) (S' := []) (h' := h) rfl ?_
    exact K
/-- CutsOrFastModel.boughtNow at 78 -/
theorem g171_78 (d : Nat) (v1 : Int32) (v2 : Int32) (v3 : Int32) (v4 : Int32) (v5 : Int32) (v6 : Int32) (v8 : Int32) (s0 : Int32) (h : AH) (HS : Sh h)  (Q : Option Value → AH → Prop) (K : (((((v4 >>> (v8 &&& 31))) &&& ((1 : Int32))) = (1 : Int32) → (ixR v8 10 ∧ Wp (d + 1) 171 39 [.ref 23, .int v1, .int v2, .int v3, .int v4, .int v5, .int (v6 + ((AI h 27 v8.toNatClampNeg))), .int s0, .int (v8 + (1 : Int32))] [] h Q)) ∧ (¬ (((v4 >>> (v8 &&& 31))) &&& ((1 : Int32))) = (1 : Int32) → Wp (d + 1) 171 39 [.ref 23, .int v1, .int v2, .int v3, .int v4, .int v5, .int (v6 + ((0 : Int32))), .int s0, .int (v8 + (1 : Int32))] [] h Q))) : Wp (d + 1) 171 78 [.ref 23, .int v1, .int v2, .int v3, .int v4, .int v5, .int v6, mk0, .int v8] [.int s0] h Q := by
  refine Wp.blk (by decide) ol_171 42 4 (pc' := 86) (L' := [.ref 23, .int v1, .int v2, .int v3, .int v4, .int v5, .int v6, .int s0, .int v8]) (S' := [.int v8, .int v4, .int v6]) (h' := h) rfl ?_
  refine Wp.callI (op_ix (by decide) ol_171 46 rfl) rfl rfl (Cl.enter (L := [.int v4, .int v8]) rfl ?_)
  refine Wp.blk (by decide) ol_130 0 7 (pc' := (if (((v4 >>> (v8 &&& 31))) &&& ((1 : Int32))) = (1 : Int32) then 9 else 13)) (L' := [.int v4, .int v8]) (S' := []) (h' := h) rfl ?_
  refine Wp.br (fun c1 => ?_) (fun c1 => ?_)
  · replace K := K.1 c1
    refine Wp.blk (by decide) ol_130 7 2 (pc' := 14) (L' := [.int v4, .int v8]) (S' := [.int (1 : Int32)]) (h' := h) rfl ?_
    refine Wp.ret (op_ix (by decide) ol_130 10 rfl) rfl ⟨_, rfl, ?_⟩
    refine Wp.blk (by decide) ol_171 47 1 (pc' := (if (1 : Int32) = (0 : Int32) then 102 else 92)) (L' := [.ref 23, .int v1, .int v2, .int v3, .int v4, .int v5, .int v6, .int s0, .int v8]) (S' := [.int v6]) (h' := h) rfl ?_
    refine Wp.br (fun hc => absurd hc (by decide)) (fun _ => ?_)
    refine Wp.blk (by decide) ol_171 48 1 (pc' := 93) (L' := [.ref 23, .int v1, .int v2, .int v3, .int v4, .int v5, .int v6, .int s0, .int v8]) (S' := [.ref 23, .int v6]) (h' := h) rfl ?_
    refine Wp.getf (op_ix (by decide) ol_171 49 rfl) (okS HS 23 rfl rfl) (v := .ref 27) (congrArg va_rf (rS HS 23 7 rfl)) rfl ?_
    refine Wp.blk (by decide) ol_171 50 1 (pc' := 98) (L' := [.ref 23, .int v1, .int v2, .int v3, .int v4, .int v5, .int v6, .int s0, .int v8]) (S' := [.int v8, .ref 27, .int v6]) (h' := h) rfl ?_
    obtain ⟨r2, K⟩ := K
    refine Wp.iald (op_ix (by decide) ol_171 51 rfl) (kS HS 27 rfl) (inS HS 27 rfl r2) rfl ?_
    refine Wp.blk (by decide) ol_171 52 1 (pc' := 103) (L' := [.ref 23, .int v1, .int v2, .int v3, .int v4, .int v5, .int v6, .int s0, .int v8]) (S' := [.int (AI h 27 v8.toNatClampNeg), .int v6]) (h' := h) rfl ?_
    refine Wp.blk (by decide) ol_171 54 4 (pc' := 39) (L' := [.ref 23, .int v1, .int v2, .int v3, .int v4, .int v5, .int (v6 + ((AI h 27 v8.toNatClampNeg))), .int s0, .int (v8 + (1 : Int32))]) (S' := []) (h' := h) rfl ?_
    exact K
  · replace K := K.2 c1
    refine Wp.blk (by decide) ol_130 9 1 (pc' := 14) (L' := [.int v4, .int v8]) (S' := [.int (0 : Int32)]) (h' := h) rfl ?_
    refine Wp.ret (op_ix (by decide) ol_130 10 rfl) rfl ⟨_, rfl, ?_⟩
    refine Wp.blk (by decide) ol_171 47 1 (pc' := (if (0 : Int32) = (0 : Int32) then 102 else 92)) (L' := [.ref 23, .int v1, .int v2, .int v3, .int v4, .int v5, .int v6, .int s0, .int v8]) (S' := [.int v6]) (h' := h) rfl ?_
    refine Wp.br (fun _ => ?_) (fun hc => absurd (by decide) hc)
    refine Wp.blk (by decide) ol_171 53 5 (pc' := 39) (L' := [.ref 23, .int v1, .int v2, .int v3, .int v4, .int v5, .int (v6 + ((0 : Int32))), .int s0, .int (v8 + (1 : Int32))]) (S' := []) (h' := h) rfl ?_
    exact K
/-- CutsOrFastModel.boughtNow at 115 -/
theorem g171_115 (d : Nat) (v1 : Int32) (v2 : Int32) (v3 : Int32) (v4 : Int32) (v5 : Int32) (v6 : Int32) (v7 : Int32) (v8 : Int32) (h : AH) (HS : Sh h)  (Q : Option Value → AH → Prop) (K : ((v8 < (AI h 23 32) → (ixR v8 10 ∧ (((((v4 >>> (((AI h 38 v8.toNatClampNeg)) &&& 31))) &&& ((1 : Int32))) = (1 : Int32) → (ixR v8 11 ∧ Wp (d + 1) 171 115 [.ref 23, .int v1, .int v2, .int v3, .int v4, .int (v5 + ((AI h 39 v8.toNatClampNeg))), .int v6, .int v7, .int (v8 + (1 : Int32))] [] h Q)) ∧ (¬ (((v4 >>> (((AI h 38 v8.toNatClampNeg)) &&& 31))) &&& ((1 : Int32))) = (1 : Int32) → Wp (d + 1) 171 115 [.ref 23, .int v1, .int v2, .int v3, .int v4, .int (v5 + ((0 : Int32))), .int v6, .int v7, .int (v8 + (1 : Int32))] [] h Q)))) ∧ (¬ v8 < (AI h 23 32) → ((v7 = (0 : Int32) → Wp (d + 1) 171 16 [.ref 23, .int v1, .int v2, .int v3, .int (v4 + (1 : Int32)), mk0, mk0, mk0, mk0] [] h Q) ∧ (¬ v7 = (0 : Int32) → ((v6 < v3 → (ixR ((((((2 : Int32)) * v5)) + ((1 : Int32)))) 118098 ∧ (((AI h 40 ((((((2 : Int32)) * v5)) + ((1 : Int32)))).toNatClampNeg) = (0 : Int32) → Wp (d + 1) 171 16 [.ref 23, .int v1, .int v2, .int v3, .int (v4 + (1 : Int32)), mk0, mk0, mk0, mk0] [] h Q) ∧ (¬ (AI h 40 ((((((2 : Int32)) * v5)) + ((1 : Int32)))).toNatClampNeg) = (0 : Int32) → Wp (d + 1) 171 16 [.ref 23, .int v1, .int v4, .int v6, .int (v4 + (1 : Int32)), mk0, mk0, mk0, mk0] [] h Q)))) ∧ (¬ v6 < v3 → Wp (d + 1) 171 16 [.ref 23, .int v1, .int v2, .int v3, .int (v4 + (1 : Int32)), mk0, mk0, mk0, mk0] [] h Q))))))) : Wp (d + 1) 171 115 [.ref 23, .int v1, .int v2, .int v3, .int v4, .int v5, .int v6, .int v7, .int v8] [] h Q := by
  refine Wp.blk (by decide) ol_171 60 2 (pc' := 118) (L' := [.ref 23, .int v1, .int v2, .int v3, .int v4, .int v5, .int v6, .int v7, .int v8]) (S' := [.ref 23, .int v8]) (h' := h) rfl ?_
  refine Wp.getf (op_ix (by decide) ol_171 62 rfl) (okS HS 23 rfl rfl) (v := .int (AI h 23 32)) rfl rfl ?_
  refine Wp.blk (by decide) ol_171 63 1 (pc' := (if v8 < (AI h 23 32) then 124 else 161)) (L' := [.ref 23, .int v1, .int v2, .int v3, .int v4, .int v5, .int v6, .int v7, .int v8]) (S' := []) (h' := h) rfl ?_
  refine Wp.br (fun c1 => ?_) (fun c1 => ?_)
  · replace K := K.1 c1
    refine Wp.blk (by decide) ol_171 64 3 (pc' := 129) (L' := [.ref 23, .int v1, .int v2, .int v3, .int v4, .int v5, .int v6, .int v7, .int v8]) (S' := [.ref 23, .int v4, .int v5]) (h' := h) rfl ?_
    refine Wp.getf (op_ix (by decide) ol_171 67 rfl) (okS HS 23 rfl rfl) (v := .ref 38) (congrArg va_rf (rS HS 23 33 rfl)) rfl ?_
    refine Wp.blk (by decide) ol_171 68 1 (pc' := 134) (L' := [.ref 23, .int v1, .int v2, .int v3, .int v4, .int v5, .int v6, .int v7, .int v8]) (S' := [.int v8, .ref 38, .int v4, .int v5]) (h' := h) rfl ?_
    obtain ⟨r2, K⟩ := K
    refine Wp.iald (op_ix (by decide) ol_171 69 rfl) (kS HS 38 rfl) (inS HS 38 rfl r2) rfl ?_
    refine Wp.callI (op_ix (by decide) ol_171 70 rfl) rfl rfl (Cl.enter (L := [.int v4, .int (AI h 38 v8.toNatClampNeg)]) rfl ?_)
    refine Wp.blk (by decide) ol_130 0 7 (pc' := (if (((v4 >>> (((AI h 38 v8.toNatClampNeg)) &&& 31))) &&& ((1 : Int32))) = (1 : Int32) then 9 else 13)) (L' := [.int v4, .int (AI h 38 v8.toNatClampNeg)]) (S' := []) (h' := h) rfl ?_
    refine Wp.br (fun c3 => ?_) (fun c3 => ?_)
    · replace K := K.1 c3
      refine Wp.blk (by decide) ol_130 7 2 (pc' := 14) (L' := [.int v4, .int (AI h 38 v8.toNatClampNeg)]) (S' := [.int (1 : Int32)]) (h' := h) rfl ?_
      refine Wp.ret (op_ix (by decide) ol_130 10 rfl) rfl ⟨_, rfl, ?_⟩
      refine Wp.blk (by decide) ol_171 71 1 (pc' := (if (1 : Int32) = (0 : Int32) then 151 else 141)) (L' := [.ref 23, .int v1, .int v2, .int v3, .int v4, .int v5, .int v6, .int v7, .int v8]) (S' := [.int v5]) (h' := h) rfl ?_
      refine Wp.br (fun hc => absurd hc (by decide)) (fun _ => ?_)
      refine Wp.blk (by decide) ol_171 72 1 (pc' := 142) (L' := [.ref 23, .int v1, .int v2, .int v3, .int v4, .int v5, .int v6, .int v7, .int v8]) (S' := [.ref 23, .int v5]) (h' := h) rfl ?_
      refine Wp.getf (op_ix (by decide) ol_171 73 rfl) (okS HS 23 rfl rfl) (v := .ref 39) (congrArg va_rf (rS HS 23 34 rfl)) rfl ?_
      refine Wp.blk (by decide) ol_171 74 1 (pc' := 147) (L' := [.ref 23, .int v1, .int v2, .int v3, .int v4, .int v5, .int v6, .int v7, .int v8]) (S' := [.int v8, .ref 39, .int v5]) (h' := h) rfl ?_
      obtain ⟨r4, K⟩ := K
      refine Wp.iald (op_ix (by decide) ol_171 75 rfl) (kS HS 39 rfl) (inS HS 39 rfl r4) rfl ?_
      refine Wp.blk (by decide) ol_171 76 1 (pc' := 152) (L' := [.ref 23, .int v1, .int v2, .int v3, .int v4, .int v5, .int v6, .int v7, .int v8]) (S' := [.int (AI h 39 v8.toNatClampNeg), .int v5]) (h' := h) rfl ?_
      refine Wp.blk (by decide) ol_171 78 4 (pc' := 115) (L' := [.ref 23, .int v1, .int v2, .int v3, .int v4, .int (v5 + ((AI h 39 v8.toNatClampNeg))), .int v6, .int v7, .int (v8 + (1 : Int32))]) (S' := []) (h' := h) rfl ?_
      exact K
    · replace K := K.2 c3
      refine Wp.blk (by decide) ol_130 9 1 (pc' := 14) (L' := [.int v4, .int (AI h 38 v8.toNatClampNeg)]) (S' := [.int (0 : Int32)]) (h' := h) rfl ?_
      refine Wp.ret (op_ix (by decide) ol_130 10 rfl) rfl ⟨_, rfl, ?_⟩
      refine Wp.blk (by decide) ol_171 71 1 (pc' := (if (0 : Int32) = (0 : Int32) then 151 else 141)) (L' := [.ref 23, .int v1, .int v2, .int v3, .int v4, .int v5, .int v6, .int v7, .int v8]) (S' := [.int v5]) (h' := h) rfl ?_
      refine Wp.br (fun _ => ?_) (fun hc => absurd (by decide) hc)
      refine Wp.blk (by decide) ol_171 77 5 (pc' := 115) (L' := [.ref 23, .int v1, .int v2, .int v3, .int v4, .int (v5 + ((0 : Int32))), .int v6, .int v7, .int (v8 + (1 : Int32))]) (S' := []) (h' := h) rfl ?_
      exact K
  · replace K := K.2 c1
    refine Wp.blk (by decide) ol_171 82 2 (pc' := (if v7 = (0 : Int32) then 192 else 166)) (L' := [.ref 23, .int v1, .int v2, .int v3, .int v4, .int v5, .int v6, .int v7, .int v8]) (S' := []) (h' := h) rfl ?_
    refine Wp.br (fun c5 => ?_) (fun c5 => ?_)
    · replace K := K.1 c5
      refine Wp.blk (by decide) ol_171 100 2 (pc' := 16) (L' := [.ref 23, .int v1, .int v2, .int v3, .int (v4 + (1 : Int32)), .int v5, .int v6, .int v7, .int v8]) (S' := []) (h' := h) rfl ?_
      refine Wp.forget (L := [.ref 23, .int v1, .int v2, .int v3, .int (v4 + (1 : Int32)), mk0, mk0, mk0, mk0]) (⟨Or.inr rfl, ⟨Or.inr rfl, ⟨Or.inr rfl, ⟨Or.inr rfl, ⟨Or.inr rfl, ⟨Or.inl rfl, ⟨Or.inl rfl, ⟨Or.inl rfl, ⟨Or.inl rfl, trivial⟩⟩⟩⟩⟩⟩⟩⟩⟩) ?_
      exact K
    · replace K := K.2 c5
      refine Wp.blk (by decide) ol_171 84 3 (pc' := (if v6 < v3 then 172 else 192)) (L' := [.ref 23, .int v1, .int v2, .int v3, .int v4, .int v5, .int v6, .int v7, .int v8]) (S' := []) (h' := h) rfl ?_
      refine Wp.br (fun c6 => ?_) (fun c6 => ?_)
      · replace K := K.1 c6
        refine Wp.blk (by decide) ol_171 87 1 (pc' := 173) (L' := [.ref 23, .int v1, .int v2, .int v3, .int v4, .int v5, .int v6, .int v7, .int v8]) (S' := [.ref 23]) (h' := h) rfl ?_
        refine Wp.getf (op_ix (by decide) ol_171 88 rfl) (okS HS 23 rfl rfl) (v := .ref 40) (congrArg va_rf (rS HS 23 36 rfl)) rfl ?_
        refine Wp.blk (by decide) ol_171 89 5 (pc' := 182) (L' := [.ref 23, .int v1, .int v2, .int v3, .int v4, .int v5, .int v6, .int v7, .int v8]) (S' := [.int (((((2 : Int32)) * v5)) + ((1 : Int32))), .ref 40]) (h' := h) rfl ?_
        obtain ⟨r7, K⟩ := K
        refine Wp.bald (op_ix (by decide) ol_171 94 rfl) (Or.inr (kS HS 40 rfl)) (inS HS 40 rfl r7) rfl ?_
        refine Wp.blk (by decide) ol_171 95 1 (pc' := (if (AI h 40 ((((((2 : Int32)) * v5)) + ((1 : Int32)))).toNatClampNeg) = (0 : Int32) then 192 else 186)) (L' := [.ref 23, .int v1, .int v2, .int v3, .int v4, .int v5, .int v6, .int v7, .int v8]) (S' := []) (h' := h) rfl ?_
        refine Wp.br (fun c8 => ?_) (fun c8 => ?_)
        · replace K := K.1 c8
          refine Wp.blk (by decide) ol_171 100 2 (pc' := 16) (L' := [.ref 23, .int v1, .int v2, .int v3, .int (v4 + (1 : Int32)), .int v5, .int v6, .int v7, .int v8]) (S' := []) (h' := h) rfl ?_
          refine Wp.forget (L := [.ref 23, .int v1, .int v2, .int v3, .int (v4 + (1 : Int32)), mk0, mk0, mk0, mk0]) (⟨Or.inr rfl, ⟨Or.inr rfl, ⟨Or.inr rfl, ⟨Or.inr rfl, ⟨Or.inr rfl, ⟨Or.inl rfl, ⟨Or.inl rfl, ⟨Or.inl rfl, ⟨Or.inl rfl, trivial⟩⟩⟩⟩⟩⟩⟩⟩⟩) ?_
          exact K
        · replace K := K.2 c8
          refine Wp.blk (by decide) ol_171 96 6 (pc' := 16) (L' := [.ref 23, .int v1, .int v4, .int v6, .int (v4 + (1 : Int32)), .int v5, .int v6, .int v7, .int v8]) (S' := []) (h' := h) rfl ?_
          refine Wp.forget (L := [.ref 23, .int v1, .int v4, .int v6, .int (v4 + (1 : Int32)), mk0, mk0, mk0, mk0]) (⟨Or.inr rfl, ⟨Or.inr rfl, ⟨Or.inr rfl, ⟨Or.inr rfl, ⟨Or.inr rfl, ⟨Or.inl rfl, ⟨Or.inl rfl, ⟨Or.inl rfl, ⟨Or.inl rfl, trivial⟩⟩⟩⟩⟩⟩⟩⟩⟩) ?_
          exact K
      · replace K := K.2 c6
        refine Wp.blk (by decide) ol_171 100 2 (pc' := 16) (L' := [.ref 23, .int v1, .int v2, .int v3, .int (v4 + (1 : Int32)), .int v5, .int v6, .int v7, .int v8]) (S' := []) (h' := h) rfl ?_
        refine Wp.forget (L := [.ref 23, .int v1, .int v2, .int v3, .int (v4 + (1 : Int32)), mk0, mk0, mk0, mk0]) (⟨Or.inr rfl, ⟨Or.inr rfl, ⟨Or.inr rfl, ⟨Or.inr rfl, ⟨Or.inr rfl, ⟨Or.inl rfl, ⟨Or.inl rfl, ⟨Or.inl rfl, ⟨Or.inl rfl, trivial⟩⟩⟩⟩⟩⟩⟩⟩⟩) ?_
        exact K
/-- CutsOrFastModel.bought at 0 (I)I -/
theorem g172_0 (d : Nat) (v1 : Int32) (h : AH) (HS : Sh h)  (Q : Option Value → AH → Prop) (K : (((AI h 23 0) = (0 : Int32) → Q (some (.int (-103 : Int32))) h) ∧ (¬ (AI h 23 0) = (0 : Int32) → ((v1 < (0 : Int32) → Q (some (.int (-102 : Int32))) h) ∧ (¬ v1 < (0 : Int32) → (((1 : Int32) < v1 → Q (some (.int (-102 : Int32))) h) ∧ (¬ (1 : Int32) < v1 → (Cl d 171 [.ref 23, .int v1] h (fun r h4 => ∃ x6 : Int32, r = some (.int x6) ∧ Sh h4 ∧ Q (some (.int x6)) h4))))))))) : Wp (d + 1) 172 0 [.ref 23, .int v1] [] h Q := by
  refine Wp.blk (by decide) ol_172 0 1 (pc' := 1) (L' := [.ref 23, .int v1]) (S' := [.ref 23]) (h' := h) rfl ?_
  refine Wp.getf (op_ix (by decide) ol_172 1 rfl) (okS HS 23 rfl rfl) (v := .int (AI h 23 0)) rfl rfl ?_
  refine Wp.blk (by decide) ol_172 2 1 (pc' := (if (AI h 23 0) = (0 : Int32) then 7 else 10)) (L' := [.ref 23, .int v1]) (S' := []) (h' := h) rfl ?_
  refine Wp.br (fun c1 => ?_) (fun c1 => ?_)
  · replace K := K.1 c1
    refine Wp.blk (by decide) ol_172 3 1 (pc' := 9) (L' := [.ref 23, .int v1]) (S' := [.int (-103 : Int32)]) (h' := h) rfl ?_
    exact Wp.ret (op_ix (by decide) ol_172 4 rfl) rfl K
  · replace K := K.2 c1
    refine Wp.blk (by decide) ol_172 5 3 (pc' := 13) (L' := [.ref 23, .int v1]) (S' := [.int (1 : Int32), .int (0 : Int32), .int v1]) (h' := h) rfl ?_
    refine Wp.callI (op_ix (by decide) ol_172 8 rfl) rfl rfl (Cl.enter (L := [.int v1, .int (0 : Int32), .int (1 : Int32)]) rfl ?_)
    refine Wp.blk (by decide) ol_129 0 3 (pc' := (if v1 < (0 : Int32) then 14 else 5)) (L' := [.int v1, .int (0 : Int32), .int (1 : Int32)]) (S' := []) (h' := h) rfl ?_
    refine Wp.br (fun c2 => ?_) (fun c2 => ?_)
    · replace K := K.1 c2
      refine Wp.blk (by decide) ol_129 8 1 (pc' := 15) (L' := [.int v1, .int (0 : Int32), .int (1 : Int32)]) (S' := [.int (0 : Int32)]) (h' := h) rfl ?_
      refine Wp.ret (op_ix (by decide) ol_129 9 rfl) rfl ⟨_, rfl, ?_⟩
      refine Wp.blk (by decide) ol_172 9 1 (pc' := (if (0 : Int32) = (0 : Int32) then 27 else 19)) (L' := [.ref 23, .int v1]) (S' := []) (h' := h) rfl ?_
      refine Wp.br (fun _ => ?_) (fun hc => absurd (by decide) hc)
      refine Wp.blk (by decide) ol_172 14 1 (pc' := 29) (L' := [.ref 23, .int v1]) (S' := [.int (-102 : Int32)]) (h' := h) rfl ?_
      exact Wp.ret (op_ix (by decide) ol_172 15 rfl) rfl K
    · replace K := K.2 c2
      refine Wp.blk (by decide) ol_129 3 3 (pc' := (if (1 : Int32) < v1 then 14 else 10)) (L' := [.int v1, .int (0 : Int32), .int (1 : Int32)]) (S' := []) (h' := h) rfl ?_
      refine Wp.br (fun c3 => ?_) (fun c3 => ?_)
      · replace K := K.1 c3
        refine Wp.blk (by decide) ol_129 8 1 (pc' := 15) (L' := [.int v1, .int (0 : Int32), .int (1 : Int32)]) (S' := [.int (0 : Int32)]) (h' := h) rfl ?_
        refine Wp.ret (op_ix (by decide) ol_129 9 rfl) rfl ⟨_, rfl, ?_⟩
        refine Wp.blk (by decide) ol_172 9 1 (pc' := (if (0 : Int32) = (0 : Int32) then 27 else 19)) (L' := [.ref 23, .int v1]) (S' := []) (h' := h) rfl ?_
        refine Wp.br (fun _ => ?_) (fun hc => absurd (by decide) hc)
        refine Wp.blk (by decide) ol_172 14 1 (pc' := 29) (L' := [.ref 23, .int v1]) (S' := [.int (-102 : Int32)]) (h' := h) rfl ?_
        exact Wp.ret (op_ix (by decide) ol_172 15 rfl) rfl K
      · replace K := K.2 c3
        refine Wp.blk (by decide) ol_129 6 2 (pc' := 15) (L' := [.int v1, .int (0 : Int32), .int (1 : Int32)]) (S' := [.int (1 : Int32)]) (h' := h) rfl ?_
        refine Wp.ret (op_ix (by decide) ol_129 9 rfl) rfl ⟨_, rfl, ?_⟩
        refine Wp.blk (by decide) ol_172 9 1 (pc' := (if (1 : Int32) = (0 : Int32) then 27 else 19)) (L' := [.ref 23, .int v1]) (S' := []) (h' := h) rfl ?_
        refine Wp.br (fun hc => absurd hc (by decide)) (fun _ => ?_)
        refine Wp.blk (by decide) ol_172 10 2 (pc' := 21) (L' := [.ref 23, .int v1]) (S' := [.int v1, .ref 23]) (h' := h) rfl ?_
        refine Wp.callI (op_ix (by decide) ol_172 12 rfl) (act_virt (c2 := 1) rfl (lk1 (kS HS 23 rfl)) rfl) rfl (K.mono ?_)
        rintro _ h4 ⟨x6, rfl, hs5, K⟩
        refine ⟨x6, rfl, ?_⟩
        refine Wp.blk (by decide) ol_172 13 1 (pc' := 29) (L' := [.ref 23, .int v1]) (S' := [.int x6]) (h' := h4) rfl ?_
        exact Wp.ret (op_ix (by decide) ol_172 15 rfl) rfl K
/-- CutsOrFastModel.isAny at 0 (II)Z -/
theorem g173_0 (d : Nat) (v0 : Int32) (v1 : Int32) (h : AH) (HS : Sh h)  (Q : Option Value → AH → Prop) (K : ((v0 = (2 : Int32) → Q (some (.int (1 : Int32))) h) ∧ (¬ v0 = (2 : Int32) → ((v0 = (0 : Int32) → ((v1 = (1 : Int32) → Q (some (.int (1 : Int32))) h) ∧ (¬ v1 = (1 : Int32) → ((v0 = (1 : Int32) → ((v1 = (0 : Int32) → Q (some (.int (1 : Int32))) h) ∧ (¬ v1 = (0 : Int32) → Q (some (.int (0 : Int32))) h))) ∧ (¬ v0 = (1 : Int32) → Q (some (.int (0 : Int32))) h))))) ∧ (¬ v0 = (0 : Int32) → ((v0 = (1 : Int32) → ((v1 = (0 : Int32) → Q (some (.int (1 : Int32))) h) ∧ (¬ v1 = (0 : Int32) → Q (some (.int (0 : Int32))) h))) ∧ (¬ v0 = (1 : Int32) → Q (some (.int (0 : Int32))) h))))))) : Wp d 173 0 [.int v0, .int v1] [] h Q := by
  refine Wp.blk (by decide) ol_173 0 3 (pc' := (if v0 = (2 : Int32) then 23 else 5)) (L' := [.int v0, .int v1]) (S' := []) (h' := h) rfl ?_
  refine Wp.br (fun c1 => ?_) (fun c1 => ?_)
  · replace K := K.1 c1
    refine Wp.blk (by decide) ol_173 13 2 (pc' := 28) (L' := [.int v0, .int v1]) (S' := [.int (1 : Int32)]) (h' := h) rfl ?_
    exact Wp.ret (op_ix (by decide) ol_173 16 rfl) rfl K
  · replace K := K.2 c1
    refine Wp.blk (by decide) ol_173 3 2 (pc' := (if v0 = (0 : Int32) then 9 else 14)) (L' := [.int v0, .int v1]) (S' := []) (h' := h) rfl ?_
    refine Wp.br (fun c2 => ?_) (fun c2 => ?_)
    · replace K := K.1 c2
      refine Wp.blk (by decide) ol_173 5 3 (pc' := (if v1 = (1 : Int32) then 23 else 14)) (L' := [.int v0, .int v1]) (S' := []) (h' := h) rfl ?_
      refine Wp.br (fun c3 => ?_) (fun c3 => ?_)
      · replace K := K.1 c3
        refine Wp.blk (by decide) ol_173 13 2 (pc' := 28) (L' := [.int v0, .int v1]) (S' := [.int (1 : Int32)]) (h' := h) rfl ?_
        exact Wp.ret (op_ix (by decide) ol_173 16 rfl) rfl K
      · replace K := K.2 c3
        refine Wp.blk (by decide) ol_173 8 3 (pc' := (if v0 = (1 : Int32) then 19 else 27)) (L' := [.int v0, .int v1]) (S' := []) (h' := h) rfl ?_
        refine Wp.br (fun c4 => ?_) (fun c4 => ?_)
        · replace K := K.1 c4
          refine Wp.blk (by decide) ol_173 11 2 (pc' := (if v1 = (0 : Int32) then 23 else 27)) (L' := [.int v0, .int v1]) (S' := []) (h' := h) rfl ?_
          refine Wp.br (fun c5 => ?_) (fun c5 => ?_)
          · replace K := K.1 c5
            refine Wp.blk (by decide) ol_173 13 2 (pc' := 28) (L' := [.int v0, .int v1]) (S' := [.int (1 : Int32)]) (h' := h) rfl ?_
            exact Wp.ret (op_ix (by decide) ol_173 16 rfl) rfl K
          · replace K := K.2 c5
            refine Wp.blk (by decide) ol_173 15 1 (pc' := 28) (L' := [.int v0, .int v1]) (S' := [.int (0 : Int32)]) (h' := h) rfl ?_
            exact Wp.ret (op_ix (by decide) ol_173 16 rfl) rfl K
        · replace K := K.2 c4
          refine Wp.blk (by decide) ol_173 15 1 (pc' := 28) (L' := [.int v0, .int v1]) (S' := [.int (0 : Int32)]) (h' := h) rfl ?_
          exact Wp.ret (op_ix (by decide) ol_173 16 rfl) rfl K
    · replace K := K.2 c2
      refine Wp.blk (by decide) ol_173 8 3 (pc' := (if v0 = (1 : Int32) then 19 else 27)) (L' := [.int v0, .int v1]) (S' := []) (h' := h) rfl ?_
      refine Wp.br (fun c6 => ?_) (fun c6 => ?_)
      · replace K := K.1 c6
        refine Wp.blk (by decide) ol_173 11 2 (pc' := (if v1 = (0 : Int32) then 23 else 27)) (L' := [.int v0, .int v1]) (S' := []) (h' := h) rfl ?_
        refine Wp.br (fun c7 => ?_) (fun c7 => ?_)
        · replace K := K.1 c7
          refine Wp.blk (by decide) ol_173 13 2 (pc' := 28) (L' := [.int v0, .int v1]) (S' := [.int (1 : Int32)]) (h' := h) rfl ?_
          exact Wp.ret (op_ix (by decide) ol_173 16 rfl) rfl K
        · replace K := K.2 c7
          refine Wp.blk (by decide) ol_173 15 1 (pc' := 28) (L' := [.int v0, .int v1]) (S' := [.int (0 : Int32)]) (h' := h) rfl ?_
          exact Wp.ret (op_ix (by decide) ol_173 16 rfl) rfl K
      · replace K := K.2 c6
        refine Wp.blk (by decide) ol_173 15 1 (pc' := 28) (L' := [.int v0, .int v1]) (S' := [.int (0 : Int32)]) (h' := h) rfl ?_
        exact Wp.ret (op_ix (by decide) ol_173 16 rfl) rfl K
/-- CutsOrFastModel.layWholes at 0 (I)V -/
theorem g174_0 (d : Nat) (v1 : Int32) (h : AH) (HS : Sh h)  (Q : Option Value → AH → Prop) (K : (ixR ((0 : Int32)) 20 ∧ ixR ((1 : Int32)) 20 ∧ Wp d 174 16 [.ref 23, .int v1, .int (1 : Int32), mk0] [] (stI ((stI h 42 ((0 : Int32)).toNatClampNeg ((1 : Int32)))) 42 ((1 : Int32)).toNatClampNeg ((1 : Int32))) Q)) : Wp d 174 0 [.ref 23, .int v1, mk0, mk0] [] h Q := by
  refine Wp.blk (by decide) ol_174 0 1 (pc' := 1) (L' := [.ref 23, .int v1, mk0, mk0]) (S' := [.ref 23]) (h' := h) rfl ?_
  refine Wp.getf (op_ix (by decide) ol_174 1 rfl) (okS HS 23 rfl rfl) (v := .ref 42) (congrArg va_rf (rS HS 23 41 rfl)) rfl ?_
  refine Wp.blk (by decide) ol_174 2 2 (pc' := 6) (L' := [.ref 23, .int v1, mk0, mk0]) (S' := [.int (1 : Int32), .int (0 : Int32), .ref 42]) (h' := h) rfl ?_
  obtain ⟨r1, K⟩ := K
  refine Wp.iast (op_ix (by decide) ol_174 4 rfl) (by decide) (kS HS 42 rfl) (inS HS 42 rfl r1) rfl ?_
  refine Wp.blk (by decide) ol_174 5 1 (pc' := 8) (L' := [.ref 23, .int v1, mk0, mk0]) (S' := [.ref 23]) (h' := (stI h 42 ((0 : Int32)).toNatClampNeg ((1 : Int32)))) rfl ?_
  refine Wp.getf (op_ix (by decide) ol_174 6 rfl) (okS HS 23 rfl rfl) (v := .ref 42) (congrArg va_rf (rS HS 23 41 rfl)) rfl ?_
  refine Wp.blk (by decide) ol_174 7 2 (pc' := 13) (L' := [.ref 23, .int v1, mk0, mk0]) (S' := [.int (1 : Int32), .int (1 : Int32), .ref 42]) (h' := (stI h 42 ((0 : Int32)).toNatClampNeg ((1 : Int32)))) rfl ?_
  obtain ⟨r2, K⟩ := K
  refine Wp.iast (op_ix (by decide) ol_174 9 rfl) (by decide) (kS HS 42 rfl) (inS HS 42 rfl r2) rfl ?_
  refine Wp.blk (by decide) ol_174 10 2 (pc' := 16) (L' := [.ref 23, .int v1, .int (1 : Int32), mk0]) (S' := []) (h' := (stI ((stI h 42 ((0 : Int32)).toNatClampNeg ((1 : Int32)))) 42 ((1 : Int32)).toNatClampNeg ((1 : Int32)))) rfl ?_
  exact K
/-- CutsOrFastModel.layWholes at 16 -/
theorem g174_16 (d : Nat) (v1 : Int32) (v2 : Int32) (h : AH) (HS : Sh h)  (Q : Option Value → AH → Prop) (K : (((AI h 23 32) < v2 → Q none h) ∧ (¬ (AI h 23 32) < v2 → Wp d 174 26 [.ref 23, .int v1, .int v2, .int (0 : Int32)] [] h Q))) : Wp d 174 16 [.ref 23, .int v1, .int v2, mk0] [] h Q := by
  refine Wp.blk (by decide) ol_174 12 2 (pc' := 18) (L' := [.ref 23, .int v1, .int v2, mk0]) (S' := [.ref 23, .int v2]) (h' := h) rfl ?_
  refine Wp.getf (op_ix (by decide) ol_174 14 rfl) (okS HS 23 rfl rfl) (v := .int (AI h 23 32)) rfl rfl ?_
  refine Wp.blk (by decide) ol_174 15 1 (pc' := (if (AI h 23 32) < v2 then 81 else 24)) (L' := [.ref 23, .int v1, .int v2, mk0]) (S' := []) (h' := h) rfl ?_
  refine Wp.br (fun c1 => ?_) (fun c1 => ?_)
  · replace K := K.1 c1
    exact Wp.ret (op_ix (by decide) ol_174 53 rfl) rfl K
  · replace K := K.2 c1
    refine Wp.blk (by decide) ol_174 16 2 (pc' := 26) (L' := [.ref 23, .int v1, .int v2, .int (0 : Int32)]) (S' := []) (h' := h) rfl ?_
    exact K
/-- CutsOrFastModel.layWholes at 26 -/
theorem g174_26 (d : Nat) (v1 : Int32) (v2 : Int32) (v3 : Int32) (h : AH) (HS : Sh h)  (Q : Option Value → AH → Prop) (K : ((v3 < (2 : Int32) → (ixR ((((((((2 : Int32)) * ((v2 - ((1 : Int32)))))) + ((1 : Int32)))) - v3)) 20 ∧ (Cl d 173 [.int v1, .int v3] h (fun r h3 => ∃ x5 : Int32, r = some (.int x5) ∧ Sh h3 ∧ ((x5 = (0 : Int32) → (ixR ((((((2 : Int32)) * v2)) + v3)) 20 ∧ Wp (d + 1) 174 26 [.ref 23, .int v1, .int v2, .int (v3 + (1 : Int32))] [] (stI h3 42 ((((((2 : Int32)) * v2)) + v3)).toNatClampNeg ((((AI h 42 ((((((((2 : Int32)) * ((v2 - ((1 : Int32)))))) + ((1 : Int32)))) - v3)).toNatClampNeg)) * ((1 : Int32))))) Q)) ∧ (¬ x5 = (0 : Int32) → (ixR ((((((2 : Int32)) * v2)) + v3)) 20 ∧ Wp (d + 1) 174 26 [.ref 23, .int v1, .int v2, .int (v3 + (1 : Int32))] [] (stI h3 42 ((((((2 : Int32)) * v2)) + v3)).toNatClampNeg ((((AI h 42 ((((((((2 : Int32)) * ((v2 - ((1 : Int32)))))) + ((1 : Int32)))) - v3)).toNatClampNeg)) * v2))) Q))))))) ∧ (¬ v3 < (2 : Int32) → Wp (d + 1) 174 16 [.ref 23, .int v1, .int (v2 + (1 : Int32)), mk0] [] h Q))) : Wp (d + 1) 174 26 [.ref 23, .int v1, .int v2, .int v3] [] h Q := by
  refine Wp.blk (by decide) ol_174 18 3 (pc' := (if v3 < (2 : Int32) then 31 else 75)) (L' := [.ref 23, .int v1, .int v2, .int v3]) (S' := []) (h' := h) rfl ?_
  refine Wp.br (fun c1 => ?_) (fun c1 => ?_)
  · replace K := K.1 c1
    refine Wp.blk (by decide) ol_174 21 1 (pc' := 32) (L' := [.ref 23, .int v1, .int v2, .int v3]) (S' := [.ref 23]) (h' := h) rfl ?_
    refine Wp.getf (op_ix (by decide) ol_174 22 rfl) (okS HS 23 rfl rfl) (v := .ref 42) (congrArg va_rf (rS HS 23 41 rfl)) rfl ?_
    refine Wp.blk (by decide) ol_174 23 6 (pc' := 41) (L' := [.ref 23, .int v1, .int v2, .int v3]) (S' := [.ref 23, .int (((((2 : Int32)) * v2)) + v3), .ref 42]) (h' := h) rfl ?_
    refine Wp.getf (op_ix (by decide) ol_174 29 rfl) (okS HS 23 rfl rfl) (v := .ref 42) (congrArg va_rf (rS HS 23 41 rfl)) rfl ?_
    refine Wp.blk (by decide) ol_174 30 9 (pc' := 53) (L' := [.ref 23, .int v1, .int v2, .int v3]) (S' := [.int (((((((2 : Int32)) * ((v2 - ((1 : Int32)))))) + ((1 : Int32)))) - v3), .ref 42, .int (((((2 : Int32)) * v2)) + v3), .ref 42]) (h' := h) rfl ?_
    obtain ⟨r2, K⟩ := K
    refine Wp.iald (op_ix (by decide) ol_174 39 rfl) (kS HS 42 rfl) (inS HS 42 rfl r2) rfl ?_
    refine Wp.blk (by decide) ol_174 40 2 (pc' := 56) (L' := [.ref 23, .int v1, .int v2, .int v3]) (S' := [.int v3, .int v1, .int (AI h 42 ((((((((2 : Int32)) * ((v2 - ((1 : Int32)))))) + ((1 : Int32)))) - v3)).toNatClampNeg), .int (((((2 : Int32)) * v2)) + v3), .ref 42]) (h' := h) rfl ?_
    refine Wp.callI (op_ix (by decide) ol_174 42 rfl) rfl rfl (K.mono ?_)
    rintro _ h3 ⟨x5, rfl, hs4, K⟩
    refine ⟨x5, rfl, ?_⟩
    refine Wp.blk (by decide) ol_174 43 1 (pc' := (if x5 = (0 : Int32) then 66 else 62)) (L' := [.ref 23, .int v1, .int v2, .int v3]) (S' := [.int (AI h 42 ((((((((2 : Int32)) * ((v2 - ((1 : Int32)))))) + ((1 : Int32)))) - v3)).toNatClampNeg), .int (((((2 : Int32)) * v2)) + v3), .ref 42]) (h' := h3) rfl ?_
    refine Wp.br (fun c6 => ?_) (fun c6 => ?_)
    · replace K := K.1 c6
      refine Wp.blk (by decide) ol_174 46 2 (pc' := 68) (L' := [.ref 23, .int v1, .int v2, .int v3]) (S' := [.int (((AI h 42 ((((((((2 : Int32)) * ((v2 - ((1 : Int32)))))) + ((1 : Int32)))) - v3)).toNatClampNeg)) * ((1 : Int32))), .int (((((2 : Int32)) * v2)) + v3), .ref 42]) (h' := h3) rfl ?_
      obtain ⟨r7, K⟩ := K
      refine Wp.iast (op_ix (by decide) ol_174 48 rfl) (by decide) (kS hs4 42 rfl) (inS hs4 42 rfl r7) rfl ?_
      refine Wp.blk (by decide) ol_174 49 2 (pc' := 26) (L' := [.ref 23, .int v1, .int v2, .int (v3 + (1 : Int32))]) (S' := []) (h' := (stI h3 42 ((((((2 : Int32)) * v2)) + v3)).toNatClampNeg ((((AI h 42 ((((((((2 : Int32)) * ((v2 - ((1 : Int32)))))) + ((1 : Int32)))) - v3)).toNatClampNeg)) * ((1 : Int32)))))) rfl ?_
      exact K
    · replace K := K.2 c6
      refine Wp.blk (by decide) ol_174 44 2 (pc' := 67) (L' := [.ref 23, .int v1, .int v2, .int v3]) (S' := [.int v2, .int (AI h 42 ((((((((2 : Int32)) * ((v2 - ((1 : Int32)))))) + ((1 : Int32)))) - v3)).toNatClampNeg), .int (((((2 : Int32)) * v2)) + v3), .ref 42]) (h' := h3) rfl ?_
      refine Wp.blk (by decide) ol_174 47 1 (pc' := 68) (L' := [.ref 23, .int v1, .int v2, .int v3]) (S' := [.int (((AI h 42 ((((((((2 : Int32)) * ((v2 - ((1 : Int32)))))) + ((1 : Int32)))) - v3)).toNatClampNeg)) * v2), .int (((((2 : Int32)) * v2)) + v3), .ref 42]) (h' := h3) rfl ?_
      obtain ⟨r8, K⟩ := K
      refine Wp.iast (op_ix (by decide) ol_174 48 rfl) (by decide) (kS hs4 42 rfl) (inS hs4 42 rfl r8) rfl ?_
      refine Wp.blk (by decide) ol_174 49 2 (pc' := 26) (L' := [.ref 23, .int v1, .int v2, .int (v3 + (1 : Int32))]) (S' := []) (h' := (stI h3 42 ((((((2 : Int32)) * v2)) + v3)).toNatClampNeg ((((AI h 42 ((((((((2 : Int32)) * ((v2 - ((1 : Int32)))))) + ((1 : Int32)))) - v3)).toNatClampNeg)) * v2)))) rfl ?_
      exact K
  · replace K := K.2 c1
    refine Wp.blk (by decide) ol_174 51 2 (pc' := 16) (L' := [.ref 23, .int v1, .int (v2 + (1 : Int32)), .int v3]) (S' := []) (h' := h) rfl ?_
    refine Wp.forget (L := [.ref 23, .int v1, .int (v2 + (1 : Int32)), mk0]) (⟨Or.inr rfl, ⟨Or.inr rfl, ⟨Or.inr rfl, ⟨Or.inl rfl, trivial⟩⟩⟩⟩) ?_
    exact K
/-- CutsOrFastModel.chanceBy at 0 (III)I -/
theorem g175_0 (d : Nat) (v1 : Int32) (v2 : Int32) (v3 : Int32) (h : AH) (HS : Sh h)  (Q : Option Value → AH → Prop) (K : Wp d 175 13 [.ref 23, .int v1, .int v2, .int v3, .int (0 : Int32), .int (-1 : Int32), .int (1073741824 : Int32), .int (0 : Int32), mk0] [] h Q) : Wp d 175 0 [.ref 23, .int v1, .int v2, .int v3, mk0, mk0, mk0, mk0, mk0] [] h Q := by
  refine Wp.blk (by decide) ol_175 0 8 (pc' := 13) (L' := [.ref 23, .int v1, .int v2, .int v3, .int (0 : Int32), .int (-1 : Int32), .int (1073741824 : Int32), .int (0 : Int32), mk0]) (S' := []) (h' := h) rfl ?_
  exact K
/-- CutsOrFastModel.chanceBy at 13 -/
theorem g175_13 (d : Nat) (v1 : Int32) (v2 : Int32) (v3 : Int32) (v4 : Int32) (v5 : Int32) (v6 : Int32) (v7 : Int32) (h : AH) (HS : Sh h)  (Q : Option Value → AH → Prop) (K : ((v7 < (AI h 23 32) → (ixR v7 11 ∧ ((¬ (AI h 39 v7.toNatClampNeg) = 0) ∧ ((((v1 / (AI h 39 v7.toNatClampNeg)) - (v1 / (AI h 39 v7.toNatClampNeg)) / (3 : Int32) * (3 : Int32)) = (0 : Int32) → ((v2 = (0 : Int32) → Wp (d + 1) 175 51 [.ref 23, .int v1, .int v2, .int v3, .int v4, .int v5, .int v6, .int v7, mk0] [.int (1 : Int32), .int v1, .int (2 : Int32), .ref 41] h Q) ∧ (¬ v2 = (0 : Int32) → Wp (d + 1) 175 51 [.ref 23, .int v1, .int v2, .int v3, .int v4, .int v5, .int v6, .int v7, mk0] [.int (2 : Int32), .int v1, .int (2 : Int32), .ref 41] h Q))) ∧ (¬ ((v1 / (AI h 39 v7.toNatClampNeg)) - (v1 / (AI h 39 v7.toNatClampNeg)) / (3 : Int32) * (3 : Int32)) = (0 : Int32) → Wp (d + 1) 175 13 [.ref 23, .int v1, .int v2, .int v3, .int v4, .int v5, .int v6, .int (v7 + (1 : Int32)), mk0] [] h Q))))) ∧ (¬ v7 < (AI h 23 32) → (Cl d 173 [.int v3, .int v2] h (fun r h6 => ∃ x8 : Int32, r = some (.int x8) ∧ Sh h6 ∧ ((x8 = (0 : Int32) → ((v2 = (0 : Int32) → Q (some (.int v5)) h6) ∧ (¬ v2 = (0 : Int32) → Q (some (.int v6)) h6))) ∧ (¬ x8 = (0 : Int32) → Q (some (.int v4)) h6))))))) : Wp (d + 1) 175 13 [.ref 23, .int v1, .int v2, .int v3, .int v4, .int v5, .int v6, .int v7, mk0] [] h Q := by
  refine Wp.blk (by decide) ol_175 8 2 (pc' := 16) (L' := [.ref 23, .int v1, .int v2, .int v3, .int v4, .int v5, .int v6, .int v7, mk0]) (S' := [.ref 23, .int v7]) (h' := h) rfl ?_
  refine Wp.getf (op_ix (by decide) ol_175 10 rfl) (okS HS 23 rfl rfl) (v := .int (AI h 23 32)) rfl rfl ?_
  refine Wp.blk (by decide) ol_175 11 1 (pc' := (if v7 < (AI h 23 32) then 22 else 113)) (L' := [.ref 23, .int v1, .int v2, .int v3, .int v4, .int v5, .int v6, .int v7, mk0]) (S' := []) (h' := h) rfl ?_
  refine Wp.br (fun c1 => ?_) (fun c1 => ?_)
  · replace K := K.1 c1
    refine Wp.blk (by decide) ol_175 12 2 (pc' := 24) (L' := [.ref 23, .int v1, .int v2, .int v3, .int v4, .int v5, .int v6, .int v7, mk0]) (S' := [.ref 23, .int v1]) (h' := h) rfl ?_
    refine Wp.getf (op_ix (by decide) ol_175 14 rfl) (okS HS 23 rfl rfl) (v := .ref 39) (congrArg va_rf (rS HS 23 34 rfl)) rfl ?_
    refine Wp.blk (by decide) ol_175 15 1 (pc' := 29) (L' := [.ref 23, .int v1, .int v2, .int v3, .int v4, .int v5, .int v6, .int v7, mk0]) (S' := [.int v7, .ref 39, .int v1]) (h' := h) rfl ?_
    obtain ⟨r2, K⟩ := K
    refine Wp.iald (op_ix (by decide) ol_175 16 rfl) (kS HS 39 rfl) (inS HS 39 rfl r2) rfl ?_
    refine Wp.callI (op_ix (by decide) ol_175 17 rfl) rfl rfl (Cl.enter (L := [.int v1, .int (AI h 39 v7.toNatClampNeg)]) rfl ?_)
    refine Wp.blk (by decide) ol_148 0 2 (pc' := 2) (L' := [.int v1, .int (AI h 39 v7.toNatClampNeg)]) (S' := [.int (AI h 39 v7.toNatClampNeg), .int v1]) (h' := h) rfl ?_
    obtain ⟨z3, K⟩ := K
    refine Wp.div (op_ix (by decide) ol_148 2 rfl) z3 rfl ?_
    refine Wp.blk (by decide) ol_148 3 2 (pc' := 5) (L' := [.int v1, .int (AI h 39 v7.toNatClampNeg)]) (S' := [.int ((v1 / (AI h 39 v7.toNatClampNeg)) - (v1 / (AI h 39 v7.toNatClampNeg)) / (3 : Int32) * (3 : Int32))]) (h' := h) rfl ?_
    refine Wp.ret (op_ix (by decide) ol_148 5 rfl) rfl ⟨_, rfl, ?_⟩
    refine Wp.blk (by decide) ol_175 18 1 (pc' := (if ((v1 / (AI h 39 v7.toNatClampNeg)) - (v1 / (AI h 39 v7.toNatClampNeg)) / (3 : Int32) * (3 : Int32)) = (0 : Int32) then 36 else 107)) (L' := [.ref 23, .int v1, .int v2, .int v3, .int v4, .int v5, .int v6, .int v7, mk0]) (S' := []) (h' := h) rfl ?_
    refine Wp.br (fun c4 => ?_) (fun c4 => ?_)
    · replace K := K.1 c4
      refine Wp.blk (by decide) ol_175 19 1 (pc' := 37) (L' := [.ref 23, .int v1, .int v2, .int v3, .int v4, .int v5, .int v6, .int v7, mk0]) (S' := [.ref 23]) (h' := h) rfl ?_
      refine Wp.getf (op_ix (by decide) ol_175 20 rfl) (okS HS 23 rfl rfl) (v := .ref 41) (congrArg va_rf (rS HS 23 40 rfl)) rfl ?_
      refine Wp.blk (by decide) ol_175 21 4 (pc' := (if v2 = (0 : Int32) then 46 else 50)) (L' := [.ref 23, .int v1, .int v2, .int v3, .int v4, .int v5, .int v6, .int v7, mk0]) (S' := [.int v1, .int (2 : Int32), .ref 41]) (h' := h) rfl ?_
      refine Wp.br (fun c5 => ?_) (fun c5 => ?_)
      · replace K := K.1 c5
        refine Wp.blk (by decide) ol_175 25 2 (pc' := 51) (L' := [.ref 23, .int v1, .int v2, .int v3, .int v4, .int v5, .int v6, .int v7, mk0]) (S' := [.int (1 : Int32), .int v1, .int (2 : Int32), .ref 41]) (h' := h) rfl ?_
        exact K
      · replace K := K.2 c5
        refine Wp.blk (by decide) ol_175 27 1 (pc' := 51) (L' := [.ref 23, .int v1, .int v2, .int v3, .int v4, .int v5, .int v6, .int v7, mk0]) (S' := [.int (2 : Int32), .int v1, .int (2 : Int32), .ref 41]) (h' := h) rfl ?_
        exact K
    · replace K := K.2 c4
      refine Wp.blk (by decide) ol_175 59 2 (pc' := 13) (L' := [.ref 23, .int v1, .int v2, .int v3, .int v4, .int v5, .int v6, .int (v7 + (1 : Int32)), mk0]) (S' := []) (h' := h) rfl ?_
      exact K
  · replace K := K.2 c1
    refine Wp.blk (by decide) ol_175 61 2 (pc' := 115) (L' := [.ref 23, .int v1, .int v2, .int v3, .int v4, .int v5, .int v6, .int v7, mk0]) (S' := [.int v2, .int v3]) (h' := h) rfl ?_
    refine Wp.callI (op_ix (by decide) ol_175 63 rfl) rfl rfl (K.mono ?_)
    rintro _ h6 ⟨x8, rfl, hs7, K⟩
    refine ⟨x8, rfl, ?_⟩
    refine Wp.blk (by decide) ol_175 64 1 (pc' := (if x8 = (0 : Int32) then 126 else 121)) (L' := [.ref 23, .int v1, .int v2, .int v3, .int v4, .int v5, .int v6, .int v7, mk0]) (S' := []) (h' := h6) rfl ?_
    refine Wp.br (fun c9 => ?_) (fun c9 => ?_)
    · replace K := K.1 c9
      refine Wp.blk (by decide) ol_175 67 2 (pc' := (if v2 = (0 : Int32) then 130 else 135)) (L' := [.ref 23, .int v1, .int v2, .int v3, .int v4, .int v5, .int v6, .int v7, mk0]) (S' := []) (h' := h6) rfl ?_
      refine Wp.br (fun c10 => ?_) (fun c10 => ?_)
      · replace K := K.1 c10
        refine Wp.blk (by decide) ol_175 69 2 (pc' := 137) (L' := [.ref 23, .int v1, .int v2, .int v3, .int v4, .int v5, .int v6, .int v7, mk0]) (S' := [.int v5]) (h' := h6) rfl ?_
        exact Wp.ret (op_ix (by decide) ol_175 72 rfl) rfl K
      · replace K := K.2 c10
        refine Wp.blk (by decide) ol_175 71 1 (pc' := 137) (L' := [.ref 23, .int v1, .int v2, .int v3, .int v4, .int v5, .int v6, .int v7, mk0]) (S' := [.int v6]) (h' := h6) rfl ?_
        exact Wp.ret (op_ix (by decide) ol_175 72 rfl) rfl K
    · replace K := K.2 c9
      refine Wp.blk (by decide) ol_175 65 2 (pc' := 137) (L' := [.ref 23, .int v1, .int v2, .int v3, .int v4, .int v5, .int v6, .int v7, mk0]) (S' := [.int v4]) (h' := h6) rfl ?_
      exact Wp.ret (op_ix (by decide) ol_175 72 rfl) rfl K
/-- CutsOrFastModel.chanceBy at 51 -/
theorem g175_51 (d : Nat) (v1 : Int32) (v2 : Int32) (v3 : Int32) (v4 : Int32) (v5 : Int32) (v6 : Int32) (v7 : Int32) (s0 : Int32) (s1 : Int32) (s2 : Int32) (s3 : Nat) (h : AH) (HS : Sh h)  (Q : Option Value → AH → Prop) (K : (ixR v7 11 ∧ (AK h s3).1 = 20 ∧ inR h s3 ((((((s2 * ((s1 + ((s0 * ((AI h 39 v7.toNatClampNeg)))))))) + ((1 : Int32)))) - v2)) = true ∧ ((v5 < (AI h s3 ((((((s2 * ((s1 + ((s0 * ((AI h 39 v7.toNatClampNeg)))))))) + ((1 : Int32)))) - v2)).toNatClampNeg) → (((AI h s3 ((((((s2 * ((s1 + ((s0 * ((AI h 39 v7.toNatClampNeg)))))))) + ((1 : Int32)))) - v2)).toNatClampNeg) < v6 → Wp d 175 13 [.ref 23, .int v1, .int v2, .int v3, .int (v4 + ((AI h s3 ((((((s2 * ((s1 + ((s0 * ((AI h 39 v7.toNatClampNeg)))))))) + ((1 : Int32)))) - v2)).toNatClampNeg))), .int (AI h s3 ((((((s2 * ((s1 + ((s0 * ((AI h 39 v7.toNatClampNeg)))))))) + ((1 : Int32)))) - v2)).toNatClampNeg), .int (AI h s3 ((((((s2 * ((s1 + ((s0 * ((AI h 39 v7.toNatClampNeg)))))))) + ((1 : Int32)))) - v2)).toNatClampNeg), .int (v7 + (1 : Int32)), mk0] [] h Q) ∧ (¬ (AI h s3 ((((((s2 * ((s1 + ((s0 * ((AI h 39 v7.toNatClampNeg)))))))) + ((1 : Int32)))) - v2)).toNatClampNeg) < v6 → Wp d 175 13 [.ref 23, .int v1, .int v2, .int v3, .int (v4 + ((AI h s3 ((((((s2 * ((s1 + ((s0 * ((AI h 39 v7.toNatClampNeg)))))))) + ((1 : Int32)))) - v2)).toNatClampNeg))), .int (AI h s3 ((((((s2 * ((s1 + ((s0 * ((AI h 39 v7.toNatClampNeg)))))))) + ((1 : Int32)))) - v2)).toNatClampNeg), .int v6, .int (v7 + (1 : Int32)), mk0] [] h Q))) ∧ (¬ v5 < (AI h s3 ((((((s2 * ((s1 + ((s0 * ((AI h 39 v7.toNatClampNeg)))))))) + ((1 : Int32)))) - v2)).toNatClampNeg) → (((AI h s3 ((((((s2 * ((s1 + ((s0 * ((AI h 39 v7.toNatClampNeg)))))))) + ((1 : Int32)))) - v2)).toNatClampNeg) < v6 → Wp d 175 13 [.ref 23, .int v1, .int v2, .int v3, .int (v4 + ((AI h s3 ((((((s2 * ((s1 + ((s0 * ((AI h 39 v7.toNatClampNeg)))))))) + ((1 : Int32)))) - v2)).toNatClampNeg))), .int v5, .int (AI h s3 ((((((s2 * ((s1 + ((s0 * ((AI h 39 v7.toNatClampNeg)))))))) + ((1 : Int32)))) - v2)).toNatClampNeg), .int (v7 + (1 : Int32)), mk0] [] h Q) ∧ (¬ (AI h s3 ((((((s2 * ((s1 + ((s0 * ((AI h 39 v7.toNatClampNeg)))))))) + ((1 : Int32)))) - v2)).toNatClampNeg) < v6 → Wp d 175 13 [.ref 23, .int v1, .int v2, .int v3, .int (v4 + ((AI h s3 ((((((s2 * ((s1 + ((s0 * ((AI h 39 v7.toNatClampNeg)))))))) + ((1 : Int32)))) - v2)).toNatClampNeg))), .int v5, .int v6, .int (v7 + (1 : Int32)), mk0] [] h Q)))))) : Wp d 175 51 [.ref 23, .int v1, .int v2, .int v3, .int v4, .int v5, .int v6, .int v7, mk0] [.int s0, .int s1, .int s2, .ref s3] h Q := by
  refine Wp.blk (by decide) ol_175 28 1 (pc' := 52) (L' := [.ref 23, .int v1, .int v2, .int v3, .int v4, .int v5, .int v6, .int v7, mk0]) (S' := [.ref 23, .int s0, .int s1, .int s2, .ref s3]) (h' := h) rfl ?_
  refine Wp.getf (op_ix (by decide) ol_175 29 rfl) (okS HS 23 rfl rfl) (v := .ref 39) (congrArg va_rf (rS HS 23 34 rfl)) rfl ?_
  refine Wp.blk (by decide) ol_175 30 1 (pc' := 57) (L' := [.ref 23, .int v1, .int v2, .int v3, .int v4, .int v5, .int v6, .int v7, mk0]) (S' := [.int v7, .ref 39, .int s0, .int s1, .int s2, .ref s3]) (h' := h) rfl ?_
  obtain ⟨r1, K⟩ := K
  refine Wp.iald (op_ix (by decide) ol_175 31 rfl) (kS HS 39 rfl) (inS HS 39 rfl r1) rfl ?_
  refine Wp.blk (by decide) ol_175 32 7 (pc' := 65) (L' := [.ref 23, .int v1, .int v2, .int v3, .int v4, .int v5, .int v6, .int v7, mk0]) (S' := [.int (((((s2 * ((s1 + ((s0 * ((AI h 39 v7.toNatClampNeg)))))))) + ((1 : Int32)))) - v2), .ref s3]) (h' := h) rfl ?_
  obtain ⟨k2, K⟩ := K
  obtain ⟨r3, K⟩ := K
  refine Wp.iald (op_ix (by decide) ol_175 39 rfl) k2 r3 rfl ?_
  refine Wp.blk (by decide) ol_175 40 8 (pc' := (if v5 < (AI h s3 ((((((s2 * ((s1 + ((s0 * ((AI h 39 v7.toNatClampNeg)))))))) + ((1 : Int32)))) - v2)).toNatClampNeg) then 82 else 87)) (L' := [.ref 23, .int v1, .int v2, .int v3, .int (v4 + ((AI h s3 ((((((s2 * ((s1 + ((s0 * ((AI h 39 v7.toNatClampNeg)))))))) + ((1 : Int32)))) - v2)).toNatClampNeg))), .int v5, .int v6, .int v7, .int (AI h s3 ((((((s2 * ((s1 + ((s0 * ((AI h 39 v7.toNatClampNeg)))))))) + ((1 : Int32)))) - v2)).toNatClampNeg)]) (S' := []) (h' := h) rfl ?_
  refine Wp.br (fun c4 => ?_) (fun c4 => ?_)
  · replace K := K.1 c4
    refine Wp.blk (by decide) ol_175 48 2 (pc' := 89) (L' := [.ref 23, .int v1, .int v2, .int v3, .int (v4 + ((AI h s3 ((((((s2 * ((s1 + ((s0 * ((AI h 39 v7.toNatClampNeg)))))))) + ((1 : Int32)))) - v2)).toNatClampNeg))), .int v5, .int v6, .int v7, .int (AI h s3 ((((((s2 * ((s1 + ((s0 * ((AI h 39 v7.toNatClampNeg)))))))) + ((1 : Int32)))) - v2)).toNatClampNeg)]) (S' := [.int (AI h s3 ((((((s2 * ((s1 + ((s0 * ((AI h 39 v7.toNatClampNeg)))))))) + ((1 : Int32)))) - v2)).toNatClampNeg)]) (h' := h) rfl ?_
    refine Wp.blk (by decide) ol_175 51 4 (pc' := (if (AI h s3 ((((((s2 * ((s1 + ((s0 * ((AI h 39 v7.toNatClampNeg)))))))) + ((1 : Int32)))) - v2)).toNatClampNeg) < v6 then 98 else 103)) (L' := [.ref 23, .int v1, .int v2, .int v3, .int (v4 + ((AI h s3 ((((((s2 * ((s1 + ((s0 * ((AI h 39 v7.toNatClampNeg)))))))) + ((1 : Int32)))) - v2)).toNatClampNeg))), .int (AI h s3 ((((((s2 * ((s1 + ((s0 * ((AI h 39 v7.toNatClampNeg)))))))) + ((1 : Int32)))) - v2)).toNatClampNeg), .int v6, .int v7, .int (AI h s3 ((((((s2 * ((s1 + ((s0 * ((AI h 39 v7.toNatClampNeg)))))))) + ((1 : Int32)))) - v2)).toNatClampNeg)]) (S' := []) (h' := h) rfl ?_
    refine Wp.br (fun c5 => ?_) (fun c5 => ?_)
    · replace K := K.1 c5
      refine Wp.blk (by decide) ol_175 55 2 (pc' := 105) (L' := [.ref 23, .int v1, .int v2, .int v3, .int (v4 + ((AI h s3 ((((((s2 * ((s1 + ((s0 * ((AI h 39 v7.toNatClampNeg)))))))) + ((1 : Int32)))) - v2)).toNatClampNeg))), .int (AI h s3 ((((((s2 * ((s1 + ((s0 * ((AI h 39 v7.toNatClampNeg)))))))) + ((1 : Int32)))) - v2)).toNatClampNeg), .int v6, .int v7, .int (AI h s3 ((((((s2 * ((s1 + ((s0 * ((AI h 39 v7.toNatClampNeg)))))))) + ((1 : Int32)))) - v2)).toNatClampNeg)]) (S' := [.int (AI h s3 ((((((s2 * ((s1 + ((s0 * ((AI h 39 v7.toNatClampNeg)))))))) + ((1 : Int32)))) - v2)).toNatClampNeg)]) (h' := h) rfl ?_
      refine Wp.blk (by decide) ol_175 58 3 (pc' := 13) (L' := [.ref 23, .int v1, .int v2, .int v3, .int (v4 + ((AI h s3 ((((((s2 * ((s1 + ((s0 * ((AI h 39 v7.toNatClampNeg)))))))) + ((1 : Int32)))) - v2)).toNatClampNeg))), .int (AI h s3 ((((((s2 * ((s1 + ((s0 * ((AI h 39 v7.toNatClampNeg)))))))) + ((1 : Int32)))) - v2)).toNatClampNeg), .int (AI h s3 ((((((s2 * ((s1 + ((s0 * ((AI h 39 v7.toNatClampNeg)))))))) + ((1 : Int32)))) - v2)).toNatClampNeg), .int (v7 + (1 : Int32)), .int (AI h s3 ((((((s2 * ((s1 + ((s0 * ((AI h 39 v7.toNatClampNeg)))))))) + ((1 : Int32)))) - v2)).toNatClampNeg)]) (S' := []) (h' := h) rfl ?_
      refine Wp.forget (L := [.ref 23, .int v1, .int v2, .int v3, .int (v4 + ((AI h s3 ((((((s2 * ((s1 + ((s0 * ((AI h 39 v7.toNatClampNeg)))))))) + ((1 : Int32)))) - v2)).toNatClampNeg))), .int (AI h s3 ((((((s2 * ((s1 + ((s0 * ((AI h 39 v7.toNatClampNeg)))))))) + ((1 : Int32)))) - v2)).toNatClampNeg), .int (AI h s3 ((((((s2 * ((s1 + ((s0 * ((AI h 39 v7.toNatClampNeg)))))))) + ((1 : Int32)))) - v2)).toNatClampNeg), .int (v7 + (1 : Int32)), mk0]) (⟨Or.inr rfl, ⟨Or.inr rfl, ⟨Or.inr rfl, ⟨Or.inr rfl, ⟨Or.inr rfl, ⟨Or.inr rfl, ⟨Or.inr rfl, ⟨Or.inr rfl, ⟨Or.inl rfl, trivial⟩⟩⟩⟩⟩⟩⟩⟩⟩) ?_
      exact K
    · replace K := K.2 c5
      refine Wp.blk (by decide) ol_175 57 4 (pc' := 13) (L' := [.ref 23, .int v1, .int v2, .int v3, .int (v4 + ((AI h s3 ((((((s2 * ((s1 + ((s0 * ((AI h 39 v7.toNatClampNeg)))))))) + ((1 : Int32)))) - v2)).toNatClampNeg))), .int (AI h s3 ((((((s2 * ((s1 + ((s0 * ((AI h 39 v7.toNatClampNeg)))))))) + ((1 : Int32)))) - v2)).toNatClampNeg), .int v6, .int (v7 + (1 : Int32)), .int (AI h s3 ((((((s2 * ((s1 + ((s0 * ((AI h 39 v7.toNatClampNeg)))))))) + ((1 : Int32)))) - v2)).toNatClampNeg)]) (S' := []) (h' := h) rfl ?_
      refine Wp.forget (L := [.ref 23, .int v1, .int v2, .int v3, .int (v4 + ((AI h s3 ((((((s2 * ((s1 + ((s0 * ((AI h 39 v7.toNatClampNeg)))))))) + ((1 : Int32)))) - v2)).toNatClampNeg))), .int (AI h s3 ((((((s2 * ((s1 + ((s0 * ((AI h 39 v7.toNatClampNeg)))))))) + ((1 : Int32)))) - v2)).toNatClampNeg), .int v6, .int (v7 + (1 : Int32)), mk0]) (⟨Or.inr rfl, ⟨Or.inr rfl, ⟨Or.inr rfl, ⟨Or.inr rfl, ⟨Or.inr rfl, ⟨Or.inr rfl, ⟨Or.inr rfl, ⟨Or.inr rfl, ⟨Or.inl rfl, trivial⟩⟩⟩⟩⟩⟩⟩⟩⟩) ?_
      exact K
  · replace K := K.2 c4
    refine Wp.blk (by decide) ol_175 50 5 (pc' := (if (AI h s3 ((((((s2 * ((s1 + ((s0 * ((AI h 39 v7.toNatClampNeg)))))))) + ((1 : Int32)))) - v2)).toNatClampNeg) < v6 then 98 else 103)) (L' := [.ref 23, .int v1, .int v2, .int v3, .int (v4 + ((AI h s3 ((((((s2 * ((s1 + ((s0 * ((AI h 39 v7.toNatClampNeg)))))))) + ((1 : Int32)))) - v2)).toNatClampNeg))), .int v5, .int v6, .int v7, .int (AI h s3 ((((((s2 * ((s1 + ((s0 * ((AI h 39 v7.toNatClampNeg)))))))) + ((1 : Int32)))) - v2)).toNatClampNeg)]) (S' := []) (h' := h) rfl ?_
    refine Wp.br (fun c6 => ?_) (fun c6 => ?_)
    · replace K := K.1 c6
      refine Wp.blk (by decide) ol_175 55 2 (pc' := 105) (L' := [.ref 23, .int v1, .int v2, .int v3, .int (v4 + ((AI h s3 ((((((s2 * ((s1 + ((s0 * ((AI h 39 v7.toNatClampNeg)))))))) + ((1 : Int32)))) - v2)).toNatClampNeg))), .int v5, .int v6, .int v7, .int (AI h s3 ((((((s2 * ((s1 + ((s0 * ((AI h 39 v7.toNatClampNeg)))))))) + ((1 : Int32)))) - v2)).toNatClampNeg)]) (S' := [.int (AI h s3 ((((((s2 * ((s1 + ((s0 * ((AI h 39 v7.toNatClampNeg)))))))) + ((1 : Int32)))) - v2)).toNatClampNeg)]) (h' := h) rfl ?_
      refine Wp.blk (by decide) ol_175 58 3 (pc' := 13) (L' := [.ref 23, .int v1, .int v2, .int v3, .int (v4 + ((AI h s3 ((((((s2 * ((s1 + ((s0 * ((AI h 39 v7.toNatClampNeg)))))))) + ((1 : Int32)))) - v2)).toNatClampNeg))), .int v5, .int (AI h s3 ((((((s2 * ((s1 + ((s0 * ((AI h 39 v7.toNatClampNeg)))))))) + ((1 : Int32)))) - v2)).toNatClampNeg), .int (v7 + (1 : Int32)), .int (AI h s3 ((((((s2 * ((s1 + ((s0 * ((AI h 39 v7.toNatClampNeg)))))))) + ((1 : Int32)))) - v2)).toNatClampNeg)]) (S' := []) (h' := h) rfl ?_
      refine Wp.forget (L := [.ref 23, .int v1, .int v2, .int v3, .int (v4 + ((AI h s3 ((((((s2 * ((s1 + ((s0 * ((AI h 39 v7.toNatClampNeg)))))))) + ((1 : Int32)))) - v2)).toNatClampNeg))), .int v5, .int (AI h s3 ((((((s2 * ((s1 + ((s0 * ((AI h 39 v7.toNatClampNeg)))))))) + ((1 : Int32)))) - v2)).toNatClampNeg), .int (v7 + (1 : Int32)), mk0]) (⟨Or.inr rfl, ⟨Or.inr rfl, ⟨Or.inr rfl, ⟨Or.inr rfl, ⟨Or.inr rfl, ⟨Or.inr rfl, ⟨Or.inr rfl, ⟨Or.inr rfl, ⟨Or.inl rfl, trivial⟩⟩⟩⟩⟩⟩⟩⟩⟩) ?_
      exact K
    · replace K := K.2 c6
      refine Wp.blk (by decide) ol_175 57 4 (pc' := 13) (L' := [.ref 23, .int v1, .int v2, .int v3, .int (v4 + ((AI h s3 ((((((s2 * ((s1 + ((s0 * ((AI h 39 v7.toNatClampNeg)))))))) + ((1 : Int32)))) - v2)).toNatClampNeg))), .int v5, .int v6, .int (v7 + (1 : Int32)), .int (AI h s3 ((((((s2 * ((s1 + ((s0 * ((AI h 39 v7.toNatClampNeg)))))))) + ((1 : Int32)))) - v2)).toNatClampNeg)]) (S' := []) (h' := h) rfl ?_
      refine Wp.forget (L := [.ref 23, .int v1, .int v2, .int v3, .int (v4 + ((AI h s3 ((((((s2 * ((s1 + ((s0 * ((AI h 39 v7.toNatClampNeg)))))))) + ((1 : Int32)))) - v2)).toNatClampNeg))), .int v5, .int v6, .int (v7 + (1 : Int32)), mk0]) (⟨Or.inr rfl, ⟨Or.inr rfl, ⟨Or.inr rfl, ⟨Or.inr rfl, ⟨Or.inr rfl, ⟨Or.inr rfl, ⟨Or.inr rfl, ⟨Or.inr rfl, ⟨Or.inl rfl, trivial⟩⟩⟩⟩⟩⟩⟩⟩⟩) ?_
      exact K
/-- CutsOrFastModel.lowest at 0 (III)I -/
theorem g176_0 (d : Nat) (v0 : Int32) (v1 : Int32) (v2 : Int32) (h : AH) (HS : Sh h)  (Q : Option Value → AH → Prop) (K : Wp d 176 5 [.int v0, .int v1, .int v2, .int v0, .int v1, mk0] [] h Q) : Wp d 176 0 [.int v0, .int v1, .int v2, mk0, mk0, mk0] [] h Q := by
  refine Wp.blk (by decide) ol_176 0 4 (pc' := 5) (L' := [.int v0, .int v1, .int v2, .int v0, .int v1, mk0]) (S' := []) (h' := h) rfl ?_
  exact K
/-- CutsOrFastModel.lowest at 5 -/
theorem g176_5 (d : Nat) (v0 : Int32) (v1 : Int32) (v2 : Int32) (v3 : Int32) (v4 : Int32) (h : AH) (HS : Sh h)  (Q : Option Value → AH → Prop) (K : ((v4 = (0 : Int32) → ((v2 = (0 : Int32) → ((¬ v3 = 0) ∧ Q (some (.int (v0 / v3))) h)) ∧ (¬ v2 = (0 : Int32) → ((¬ v3 = 0) ∧ Q (some (.int (v1 / v3))) h)))) ∧ (¬ v4 = (0 : Int32) → ((¬ v4 = 0) ∧ Wp d 176 5 [.int v0, .int v1, .int v2, .int v4, .int (v3 - v3 / v4 * v4), mk0] [] h Q)))) : Wp d 176 5 [.int v0, .int v1, .int v2, .int v3, .int v4, mk0] [] h Q := by
  refine Wp.blk (by decide) ol_176 4 2 (pc' := (if v4 = (0 : Int32) then 26 else 10)) (L' := [.int v0, .int v1, .int v2, .int v3, .int v4, mk0]) (S' := []) (h' := h) rfl ?_
  refine Wp.br (fun c1 => ?_) (fun c1 => ?_)
  · replace K := K.1 c1
    refine Wp.blk (by decide) ol_176 15 2 (pc' := (if v2 = (0 : Int32) then 30 else 36)) (L' := [.int v0, .int v1, .int v2, .int v3, .int v4, mk0]) (S' := []) (h' := h) rfl ?_
    refine Wp.br (fun c2 => ?_) (fun c2 => ?_)
    · replace K := K.1 c2
      refine Wp.blk (by decide) ol_176 17 2 (pc' := 32) (L' := [.int v0, .int v1, .int v2, .int v3, .int v4, mk0]) (S' := [.int v3, .int v0]) (h' := h) rfl ?_
      obtain ⟨z3, K⟩ := K
      refine Wp.div (op_ix (by decide) ol_176 19 rfl) z3 rfl ?_
      refine Wp.blk (by decide) ol_176 20 1 (pc' := 39) (L' := [.int v0, .int v1, .int v2, .int v3, .int v4, mk0]) (S' := [.int (v0 / v3)]) (h' := h) rfl ?_
      exact Wp.ret (op_ix (by decide) ol_176 24 rfl) rfl K
    · replace K := K.2 c2
      refine Wp.blk (by decide) ol_176 21 2 (pc' := 38) (L' := [.int v0, .int v1, .int v2, .int v3, .int v4, mk0]) (S' := [.int v3, .int v1]) (h' := h) rfl ?_
      obtain ⟨z4, K⟩ := K
      refine Wp.div (op_ix (by decide) ol_176 23 rfl) z4 rfl ?_
      exact Wp.ret (op_ix (by decide) ol_176 24 rfl) rfl K
  · replace K := K.2 c1
    refine Wp.blk (by decide) ol_176 6 2 (pc' := 13) (L' := [.int v0, .int v1, .int v2, .int v3, .int v4, mk0]) (S' := [.int v4, .int v3]) (h' := h) rfl ?_
    obtain ⟨z5, K⟩ := K
    refine Wp.rem (op_ix (by decide) ol_176 8 rfl) z5 rfl ?_
    refine Wp.blk (by decide) ol_176 9 6 (pc' := 5) (L' := [.int v0, .int v1, .int v2, .int v4, .int (v3 - v3 / v4 * v4), .int (v3 - v3 / v4 * v4)]) (S' := []) (h' := h) rfl ?_
    refine Wp.forget (L := [.int v0, .int v1, .int v2, .int v4, .int (v3 - v3 / v4 * v4), mk0]) (⟨Or.inr rfl, ⟨Or.inr rfl, ⟨Or.inr rfl, ⟨Or.inr rfl, ⟨Or.inr rfl, ⟨Or.inl rfl, trivial⟩⟩⟩⟩⟩⟩) ?_
    exact K
/-- CutsOrFastModel.likelyNow at 0 (II)I -/
theorem g177_0 (d : Nat) (v1 : Int32) (v2 : Int32) (h : AH) (HS : Sh h)  (Q : Option Value → AH → Prop) (K : (Cl d 146 [.ref 23, .int (AI h 23 0)] h (fun r h1 => r = none ∧ Sh h1 ∧ (Cl d 174 [.ref 23, .int v1] h1 (fun r h3 => r = none ∧ Sh h3 ∧ (ixR ((AI h3 23 32)) 11 ∧ Wp (d + 1) 177 25 [.ref 23, .int v1, .int v2, .int (((AI h3 39 ((AI h3 23 32)).toNatClampNeg)) - ((1 : Int32))), mk0, mk0, mk0, mk0] [] h3 Q)))))) : Wp (d + 1) 177 0 [.ref 23, .int v1, .int v2, mk0, mk0, mk0, mk0, mk0] [] h Q := by
  refine Wp.blk (by decide) ol_177 0 2 (pc' := 2) (L' := [.ref 23, .int v1, .int v2, mk0, mk0, mk0, mk0, mk0]) (S' := [.ref 23, .ref 23]) (h' := h) rfl ?_
  refine Wp.getf (op_ix (by decide) ol_177 2 rfl) (okS HS 23 rfl rfl) (v := .int (AI h 23 0)) rfl rfl ?_
  refine Wp.callV (op_ix (by decide) ol_177 3 rfl) (act_virt (c2 := 1) rfl (lk1 (kS HS 23 rfl)) rfl) rfl (K.mono ?_)
  rintro _ h1 ⟨rfl, hs2, K⟩
  refine ⟨rfl, ?_⟩
  refine Wp.blk (by decide) ol_177 4 2 (pc' := 10) (L' := [.ref 23, .int v1, .int v2, mk0, mk0, mk0, mk0, mk0]) (S' := [.int v1, .ref 23]) (h' := h1) rfl ?_
  refine Wp.callV (op_ix (by decide) ol_177 6 rfl) (act_virt (c2 := 1) rfl (lk1 (kS hs2 23 rfl)) rfl) rfl (K.mono ?_)
  rintro _ h3 ⟨rfl, hs4, K⟩
  refine ⟨rfl, ?_⟩
  refine Wp.blk (by decide) ol_177 7 1 (pc' := 14) (L' := [.ref 23, .int v1, .int v2, mk0, mk0, mk0, mk0, mk0]) (S' := [.ref 23]) (h' := h3) rfl ?_
  refine Wp.getf (op_ix (by decide) ol_177 8 rfl) (okS hs4 23 rfl rfl) (v := .ref 39) (congrArg va_rf (rS hs4 23 34 rfl)) rfl ?_
  refine Wp.blk (by decide) ol_177 9 1 (pc' := 18) (L' := [.ref 23, .int v1, .int v2, mk0, mk0, mk0, mk0, mk0]) (S' := [.ref 23, .ref 39]) (h' := h3) rfl ?_
  refine Wp.getf (op_ix (by decide) ol_177 10 rfl) (okS hs4 23 rfl rfl) (v := .int (AI h3 23 32)) rfl rfl ?_
  obtain ⟨r5, K⟩ := K
  refine Wp.iald (op_ix (by decide) ol_177 11 rfl) (kS hs4 39 rfl) (inS hs4 39 rfl r5) rfl ?_
  refine Wp.blk (by decide) ol_177 12 3 (pc' := 25) (L' := [.ref 23, .int v1, .int v2, .int (((AI h3 39 ((AI h3 23 32)).toNatClampNeg)) - ((1 : Int32))), mk0, mk0, mk0, mk0]) (S' := []) (h' := h3) rfl ?_
  exact K
/-- CutsOrFastModel.likelyNow at 25 -/
theorem g177_25 (d : Nat) (v1 : Int32) (v2 : Int32) (v3 : Int32) (h : AH) (HS : Sh h)  (Q : Option Value → AH → Prop) (K : ((v3 < (0 : Int32) → (ixR ((AI h 23 8)) 39366 ∧ ixR ((((((2 : Int32)) * ((AI h 23 32)))) + ((AI h 23 8)))) 20 ∧ (Cl d 176 [.int (AI h 41 ((AI h 23 8)).toNatClampNeg), .int (AI h 42 ((((((2 : Int32)) * ((AI h 23 32)))) + ((AI h 23 8)))).toNatClampNeg), .int v2] h (fun r h4 => ∃ x6 : Int32, r = some (.int x6) ∧ Sh h4 ∧ Q (some (.int x6)) h4)))) ∧ (¬ v3 < (0 : Int32) → (Cl d 147 [.ref 23, .int v3] h (fun r h7 => r = none ∧ Sh h7 ∧ (ixR ((AI h7 23 37)) 1024 ∧ ixR ((AI h7 23 38)) 1024 ∧ (((AI h7 37 ((AI h7 23 38)).toNatClampNeg) = (0 : Int32) → Wp (d + 1) 177 73 [.ref 23, .int v1, .int v2, .int v3, .int (AI h7 37 ((AI h7 23 37)).toNatClampNeg), .int (1 : Int32), .int (AI h7 23 39), .int (0 : Int32)] [] h7 Q) ∧ (¬ (AI h7 37 ((AI h7 23 38)).toNatClampNeg) = (0 : Int32) → Wp (d + 1) 177 73 [.ref 23, .int v1, .int v2, .int v3, .int (AI h7 37 ((AI h7 23 37)).toNatClampNeg), .int (0 : Int32), .int (AI h7 23 39), .int (0 : Int32)] [] h7 Q)))))))) : Wp (d + 1) 177 25 [.ref 23, .int v1, .int v2, .int v3, mk0, mk0, mk0, mk0] [] h Q := by
  refine Wp.blk (by decide) ol_177 15 2 (pc' := (if v3 < (0 : Int32) then 139 else 29)) (L' := [.ref 23, .int v1, .int v2, .int v3, mk0, mk0, mk0, mk0]) (S' := []) (h' := h) rfl ?_
  refine Wp.br (fun c1 => ?_) (fun c1 => ?_)
  · replace K := K.1 c1
    refine Wp.blk (by decide) ol_177 76 1 (pc' := 140) (L' := [.ref 23, .int v1, .int v2, .int v3, mk0, mk0, mk0, mk0]) (S' := [.ref 23]) (h' := h) rfl ?_
    refine Wp.getf (op_ix (by decide) ol_177 77 rfl) (okS HS 23 rfl rfl) (v := .ref 41) (congrArg va_rf (rS HS 23 40 rfl)) rfl ?_
    refine Wp.blk (by decide) ol_177 78 1 (pc' := 144) (L' := [.ref 23, .int v1, .int v2, .int v3, mk0, mk0, mk0, mk0]) (S' := [.ref 23, .ref 41]) (h' := h) rfl ?_
    refine Wp.getf (op_ix (by decide) ol_177 79 rfl) (okS HS 23 rfl rfl) (v := .int (AI h 23 8)) rfl rfl ?_
    obtain ⟨r2, K⟩ := K
    refine Wp.iald (op_ix (by decide) ol_177 80 rfl) (kS HS 41 rfl) (inS HS 41 rfl r2) rfl ?_
    refine Wp.blk (by decide) ol_177 81 1 (pc' := 149) (L' := [.ref 23, .int v1, .int v2, .int v3, mk0, mk0, mk0, mk0]) (S' := [.ref 23, .int (AI h 41 ((AI h 23 8)).toNatClampNeg)]) (h' := h) rfl ?_
    refine Wp.getf (op_ix (by decide) ol_177 82 rfl) (okS HS 23 rfl rfl) (v := .ref 42) (congrArg va_rf (rS HS 23 41 rfl)) rfl ?_
    refine Wp.blk (by decide) ol_177 83 2 (pc' := 154) (L' := [.ref 23, .int v1, .int v2, .int v3, mk0, mk0, mk0, mk0]) (S' := [.ref 23, .int (2 : Int32), .ref 42, .int (AI h 41 ((AI h 23 8)).toNatClampNeg)]) (h' := h) rfl ?_
    refine Wp.getf (op_ix (by decide) ol_177 85 rfl) (okS HS 23 rfl rfl) (v := .int (AI h 23 32)) rfl rfl ?_
    refine Wp.blk (by decide) ol_177 86 2 (pc' := 159) (L' := [.ref 23, .int v1, .int v2, .int v3, mk0, mk0, mk0, mk0]) (S' := [.ref 23, .int (((2 : Int32)) * ((AI h 23 32))), .ref 42, .int (AI h 41 ((AI h 23 8)).toNatClampNeg)]) (h' := h) rfl ?_
    refine Wp.getf (op_ix (by decide) ol_177 88 rfl) (okS HS 23 rfl rfl) (v := .int (AI h 23 8)) rfl rfl ?_
    refine Wp.blk (by decide) ol_177 89 1 (pc' := 163) (L' := [.ref 23, .int v1, .int v2, .int v3, mk0, mk0, mk0, mk0]) (S' := [.int (((((2 : Int32)) * ((AI h 23 32)))) + ((AI h 23 8))), .ref 42, .int (AI h 41 ((AI h 23 8)).toNatClampNeg)]) (h' := h) rfl ?_
    obtain ⟨r3, K⟩ := K
    refine Wp.iald (op_ix (by decide) ol_177 90 rfl) (kS HS 42 rfl) (inS HS 42 rfl r3) rfl ?_
    refine Wp.blk (by decide) ol_177 91 1 (pc' := 165) (L' := [.ref 23, .int v1, .int v2, .int v3, mk0, mk0, mk0, mk0]) (S' := [.int v2, .int (AI h 42 ((((((2 : Int32)) * ((AI h 23 32)))) + ((AI h 23 8)))).toNatClampNeg), .int (AI h 41 ((AI h 23 8)).toNatClampNeg)]) (h' := h) rfl ?_
    refine Wp.callI (op_ix (by decide) ol_177 92 rfl) rfl rfl (K.mono ?_)
    rintro _ h4 ⟨x6, rfl, hs5, K⟩
    refine ⟨x6, rfl, ?_⟩
    exact Wp.ret (op_ix (by decide) ol_177 93 rfl) rfl K
  · replace K := K.2 c1
    refine Wp.blk (by decide) ol_177 17 2 (pc' := 31) (L' := [.ref 23, .int v1, .int v2, .int v3, mk0, mk0, mk0, mk0]) (S' := [.int v3, .ref 23]) (h' := h) rfl ?_
    refine Wp.callV (op_ix (by decide) ol_177 19 rfl) (act_virt (c2 := 1) rfl (lk1 (kS HS 23 rfl)) rfl) rfl (K.mono ?_)
    rintro _ h7 ⟨rfl, hs8, K⟩
    refine ⟨rfl, ?_⟩
    refine Wp.blk (by decide) ol_177 20 1 (pc' := 35) (L' := [.ref 23, .int v1, .int v2, .int v3, mk0, mk0, mk0, mk0]) (S' := [.ref 23]) (h' := h7) rfl ?_
    refine Wp.getf (op_ix (by decide) ol_177 21 rfl) (okS hs8 23 rfl rfl) (v := .ref 37) (congrArg va_rf (rS hs8 23 31 rfl)) rfl ?_
    refine Wp.blk (by decide) ol_177 22 1 (pc' := 39) (L' := [.ref 23, .int v1, .int v2, .int v3, mk0, mk0, mk0, mk0]) (S' := [.ref 23, .ref 37]) (h' := h7) rfl ?_
    refine Wp.getf (op_ix (by decide) ol_177 23 rfl) (okS hs8 23 rfl rfl) (v := .int (AI h7 23 37)) rfl rfl ?_
    obtain ⟨r9, K⟩ := K
    refine Wp.bald (op_ix (by decide) ol_177 24 rfl) (Or.inr (kS hs8 37 rfl)) (inS hs8 37 rfl r9) rfl ?_
    refine Wp.blk (by decide) ol_177 25 2 (pc' := 46) (L' := [.ref 23, .int v1, .int v2, .int v3, .int (AI h7 37 ((AI h7 23 37)).toNatClampNeg), mk0, mk0, mk0]) (S' := [.ref 23]) (h' := h7) rfl ?_
    refine Wp.getf (op_ix (by decide) ol_177 27 rfl) (okS hs8 23 rfl rfl) (v := .ref 37) (congrArg va_rf (rS hs8 23 31 rfl)) rfl ?_
    refine Wp.blk (by decide) ol_177 28 1 (pc' := 50) (L' := [.ref 23, .int v1, .int v2, .int v3, .int (AI h7 37 ((AI h7 23 37)).toNatClampNeg), mk0, mk0, mk0]) (S' := [.ref 23, .ref 37]) (h' := h7) rfl ?_
    refine Wp.getf (op_ix (by decide) ol_177 29 rfl) (okS hs8 23 rfl rfl) (v := .int (AI h7 23 38)) rfl rfl ?_
    obtain ⟨r10, K⟩ := K
    refine Wp.bald (op_ix (by decide) ol_177 30 rfl) (Or.inr (kS hs8 37 rfl)) (inS hs8 37 rfl r10) rfl ?_
    refine Wp.blk (by decide) ol_177 31 1 (pc' := (if (AI h7 37 ((AI h7 23 38)).toNatClampNeg) = (0 : Int32) then 57 else 61)) (L' := [.ref 23, .int v1, .int v2, .int v3, .int (AI h7 37 ((AI h7 23 37)).toNatClampNeg), mk0, mk0, mk0]) (S' := []) (h' := h7) rfl ?_
    refine Wp.br (fun c11 => ?_) (fun c11 => ?_)
    · replace K := K.1 c11
      refine Wp.blk (by decide) ol_177 32 2 (pc' := 62) (L' := [.ref 23, .int v1, .int v2, .int v3, .int (AI h7 37 ((AI h7 23 37)).toNatClampNeg), mk0, mk0, mk0]) (S' := [.int (1 : Int32)]) (h' := h7) rfl ?_
      refine Wp.blk (by decide) ol_177 35 2 (pc' := 65) (L' := [.ref 23, .int v1, .int v2, .int v3, .int (AI h7 37 ((AI h7 23 37)).toNatClampNeg), .int (1 : Int32), mk0, mk0]) (S' := [.ref 23]) (h' := h7) rfl ?_
      refine Wp.getf (op_ix (by decide) ol_177 37 rfl) (okS hs8 23 rfl rfl) (v := .int (AI h7 23 39)) rfl rfl ?_
      refine Wp.blk (by decide) ol_177 38 3 (pc' := 73) (L' := [.ref 23, .int v1, .int v2, .int v3, .int (AI h7 37 ((AI h7 23 37)).toNatClampNeg), .int (1 : Int32), .int (AI h7 23 39), .int (0 : Int32)]) (S' := []) (h' := h7) rfl ?_
      exact K
    · replace K := K.2 c11
      refine Wp.blk (by decide) ol_177 34 3 (pc' := 65) (L' := [.ref 23, .int v1, .int v2, .int v3, .int (AI h7 37 ((AI h7 23 37)).toNatClampNeg), .int (0 : Int32), mk0, mk0]) (S' := [.ref 23]) (h' := h7) rfl ?_
      refine Wp.getf (op_ix (by decide) ol_177 37 rfl) (okS hs8 23 rfl rfl) (v := .int (AI h7 23 39)) rfl rfl ?_
      refine Wp.blk (by decide) ol_177 38 3 (pc' := 73) (L' := [.ref 23, .int v1, .int v2, .int v3, .int (AI h7 37 ((AI h7 23 37)).toNatClampNeg), .int (0 : Int32), .int (AI h7 23 39), .int (0 : Int32)]) (S' := []) (h' := h7) rfl ?_
      exact K
/-- CutsOrFastModel.likelyNow at 73 -/
theorem g177_73 (d : Nat) (v1 : Int32) (v2 : Int32) (v3 : Int32) (v4 : Int32) (v5 : Int32) (v6 : Int32) (v7 : Int32) (h : AH) (HS : Sh h)  (Q : Option Value → AH → Prop) (K : ((v7 < (2 : Int32) → ((v4 = (0 : Int32) → ((v5 = (0 : Int32) → (Cl d 175 [.ref 23, .int v3, .int v7, .int v1] h (fun r h4 => ∃ x6 : Int32, r = some (.int x6) ∧ Sh h4 ∧ (ixR ((((((2 : Int32)) * v3)) + v7)) 39366 ∧ Wp (d + 1) 177 73 [.ref 23, .int v1, .int v2, .int v3, .int v4, .int v5, .int v6, .int (v7 + (1 : Int32))] [] (stI h4 41 ((((((2 : Int32)) * v3)) + v7)).toNatClampNeg x6) Q)))) ∧ (¬ v5 = (0 : Int32) → (ixR ((((((2 : Int32)) * v3)) + v7)) 39366 ∧ Wp (d + 1) 177 73 [.ref 23, .int v1, .int v2, .int v3, .int v4, .int v5, .int v6, .int (v7 + (1 : Int32))] [] (stI h 41 ((((((2 : Int32)) * v3)) + v7)).toNatClampNeg ((0 : Int32))) Q)))) ∧ (¬ v4 = (0 : Int32) → (ixR ((((((2 : Int32)) * v6)) + v7)) 20 ∧ ixR ((((((2 : Int32)) * v3)) + v7)) 39366 ∧ Wp (d + 1) 177 73 [.ref 23, .int v1, .int v2, .int v3, .int v4, .int v5, .int v6, .int (v7 + (1 : Int32))] [] (stI h 41 ((((((2 : Int32)) * v3)) + v7)).toNatClampNeg ((AI h 42 ((((((2 : Int32)) * v6)) + v7)).toNatClampNeg))) Q)))) ∧ (¬ v7 < (2 : Int32) → Wp (d + 1) 177 25 [.ref 23, .int v1, .int v2, .int (v3 + (-1 : Int32)), mk0, mk0, mk0, mk0] [] h Q))) : Wp (d + 1) 177 73 [.ref 23, .int v1, .int v2, .int v3, .int v4, .int v5, .int v6, .int v7] [] h Q := by
  refine Wp.blk (by decide) ol_177 41 3 (pc' := (if v7 < (2 : Int32) then 79 else 133)) (L' := [.ref 23, .int v1, .int v2, .int v3, .int v4, .int v5, .int v6, .int v7]) (S' := []) (h' := h) rfl ?_
  refine Wp.br (fun c1 => ?_) (fun c1 => ?_)
  · replace K := K.1 c1
    refine Wp.blk (by decide) ol_177 44 1 (pc' := 80) (L' := [.ref 23, .int v1, .int v2, .int v3, .int v4, .int v5, .int v6, .int v7]) (S' := [.ref 23]) (h' := h) rfl ?_
    refine Wp.getf (op_ix (by decide) ol_177 45 rfl) (okS HS 23 rfl rfl) (v := .ref 41) (congrArg va_rf (rS HS 23 40 rfl)) rfl ?_
    refine Wp.blk (by decide) ol_177 46 7 (pc' := (if v4 = (0 : Int32) then 109 else 94)) (L' := [.ref 23, .int v1, .int v2, .int v3, .int v4, .int v5, .int v6, .int v7]) (S' := [.int (((((2 : Int32)) * v3)) + v7), .ref 41]) (h' := h) rfl ?_
    refine Wp.br (fun c2 => ?_) (fun c2 => ?_)
    · replace K := K.1 c2
      refine Wp.blk (by decide) ol_177 62 2 (pc' := (if v5 = (0 : Int32) then 118 else 114)) (L' := [.ref 23, .int v1, .int v2, .int v3, .int v4, .int v5, .int v6, .int v7]) (S' := [.int (((((2 : Int32)) * v3)) + v7), .ref 41]) (h' := h) rfl ?_
      refine Wp.br (fun c3 => ?_) (fun c3 => ?_)
      · replace K := K.1 c3
        refine Wp.blk (by decide) ol_177 66 4 (pc' := 123) (L' := [.ref 23, .int v1, .int v2, .int v3, .int v4, .int v5, .int v6, .int v7]) (S' := [.int v1, .int v7, .int v3, .ref 23, .int (((((2 : Int32)) * v3)) + v7), .ref 41]) (h' := h) rfl ?_
        refine Wp.callI (op_ix (by decide) ol_177 70 rfl) (act_virt (c2 := 3) rfl (lk1 (kS HS 23 rfl)) rfl) rfl (K.mono ?_)
        rintro _ h4 ⟨x6, rfl, hs5, K⟩
        refine ⟨x6, rfl, ?_⟩
        obtain ⟨r7, K⟩ := K
        refine Wp.iast (op_ix (by decide) ol_177 71 rfl) (by decide) (kS hs5 41 rfl) (inS hs5 41 rfl r7) rfl ?_
        refine Wp.blk (by decide) ol_177 72 2 (pc' := 73) (L' := [.ref 23, .int v1, .int v2, .int v3, .int v4, .int v5, .int v6, .int (v7 + (1 : Int32))]) (S' := []) (h' := (stI h4 41 ((((((2 : Int32)) * v3)) + v7)).toNatClampNeg x6)) rfl ?_
        exact K
      · replace K := K.2 c3
        refine Wp.blk (by decide) ol_177 64 2 (pc' := 126) (L' := [.ref 23, .int v1, .int v2, .int v3, .int v4, .int v5, .int v6, .int v7]) (S' := [.int (0 : Int32), .int (((((2 : Int32)) * v3)) + v7), .ref 41]) (h' := h) rfl ?_
        obtain ⟨r8, K⟩ := K
        refine Wp.iast (op_ix (by decide) ol_177 71 rfl) (by decide) (kS HS 41 rfl) (inS HS 41 rfl r8) rfl ?_
        refine Wp.blk (by decide) ol_177 72 2 (pc' := 73) (L' := [.ref 23, .int v1, .int v2, .int v3, .int v4, .int v5, .int v6, .int (v7 + (1 : Int32))]) (S' := []) (h' := (stI h 41 ((((((2 : Int32)) * v3)) + v7)).toNatClampNeg ((0 : Int32)))) rfl ?_
        exact K
    · replace K := K.2 c2
      refine Wp.blk (by decide) ol_177 53 1 (pc' := 95) (L' := [.ref 23, .int v1, .int v2, .int v3, .int v4, .int v5, .int v6, .int v7]) (S' := [.ref 23, .int (((((2 : Int32)) * v3)) + v7), .ref 41]) (h' := h) rfl ?_
      refine Wp.getf (op_ix (by decide) ol_177 54 rfl) (okS HS 23 rfl rfl) (v := .ref 42) (congrArg va_rf (rS HS 23 41 rfl)) rfl ?_
      refine Wp.blk (by decide) ol_177 55 5 (pc' := 105) (L' := [.ref 23, .int v1, .int v2, .int v3, .int v4, .int v5, .int v6, .int v7]) (S' := [.int (((((2 : Int32)) * v6)) + v7), .ref 42, .int (((((2 : Int32)) * v3)) + v7), .ref 41]) (h' := h) rfl ?_
      obtain ⟨r9, K⟩ := K
      refine Wp.iald (op_ix (by decide) ol_177 60 rfl) (kS HS 42 rfl) (inS HS 42 rfl r9) rfl ?_
      refine Wp.blk (by decide) ol_177 61 1 (pc' := 126) (L' := [.ref 23, .int v1, .int v2, .int v3, .int v4, .int v5, .int v6, .int v7]) (S' := [.int (AI h 42 ((((((2 : Int32)) * v6)) + v7)).toNatClampNeg), .int (((((2 : Int32)) * v3)) + v7), .ref 41]) (h' := h) rfl ?_
      obtain ⟨r10, K⟩ := K
      refine Wp.iast (op_ix (by decide) ol_177 71 rfl) (by decide) (kS HS 41 rfl) (inS HS 41 rfl r10) rfl ?_
      refine Wp.blk (by decide) ol_177 72 2 (pc' := 73) (L' := [.ref 23, .int v1, .int v2, .int v3, .int v4, .int v5, .int v6, .int (v7 + (1 : Int32))]) (S' := []) (h' := (stI h 41 ((((((2 : Int32)) * v3)) + v7)).toNatClampNeg ((AI h 42 ((((((2 : Int32)) * v6)) + v7)).toNatClampNeg)))) rfl ?_
      exact K
  · replace K := K.2 c1
    refine Wp.blk (by decide) ol_177 74 2 (pc' := 25) (L' := [.ref 23, .int v1, .int v2, .int (v3 + (-1 : Int32)), .int v4, .int v5, .int v6, .int v7]) (S' := []) (h' := h) rfl ?_
    refine Wp.forget (L := [.ref 23, .int v1, .int v2, .int (v3 + (-1 : Int32)), mk0, mk0, mk0, mk0]) (⟨Or.inr rfl, ⟨Or.inr rfl, ⟨Or.inr rfl, ⟨Or.inr rfl, ⟨Or.inl rfl, ⟨Or.inl rfl, ⟨Or.inl rfl, ⟨Or.inl rfl, trivial⟩⟩⟩⟩⟩⟩⟩⟩) ?_
    exact K
/-- CutsOrFastModel.likely at 0 (II)I -/
theorem g178_0 (d : Nat) (v1 : Int32) (v2 : Int32) (h : AH) (HS : Sh h)  (Q : Option Value → AH → Prop) (K : (((AI h 23 0) = (0 : Int32) → Q (some (.int (-103 : Int32))) h) ∧ (¬ (AI h 23 0) = (0 : Int32) → ((v1 < (0 : Int32) → Q (some (.int (-102 : Int32))) h) ∧ (¬ v1 < (0 : Int32) → (((2 : Int32) < v1 → Q (some (.int (-102 : Int32))) h) ∧ (¬ (2 : Int32) < v1 → ((v2 < (0 : Int32) → Q (some (.int (-102 : Int32))) h) ∧ (¬ v2 < (0 : Int32) → (((1 : Int32) < v2 → Q (some (.int (-102 : Int32))) h) ∧ (¬ (1 : Int32) < v2 → (Cl d 177 [.ref 23, .int v1, .int v2] h (fun r h6 => ∃ x8 : Int32, r = some (.int x8) ∧ Sh h6 ∧ Q (some (.int x8)) h6))))))))))))) : Wp (d + 1) 178 0 [.ref 23, .int v1, .int v2] [] h Q := by
  refine Wp.blk (by decide) ol_178 0 1 (pc' := 1) (L' := [.ref 23, .int v1, .int v2]) (S' := [.ref 23]) (h' := h) rfl ?_
  refine Wp.getf (op_ix (by decide) ol_178 1 rfl) (okS HS 23 rfl rfl) (v := .int (AI h 23 0)) rfl rfl ?_
  refine Wp.blk (by decide) ol_178 2 1 (pc' := (if (AI h 23 0) = (0 : Int32) then 7 else 10)) (L' := [.ref 23, .int v1, .int v2]) (S' := []) (h' := h) rfl ?_
  refine Wp.br (fun c1 => ?_) (fun c1 => ?_)
  · replace K := K.1 c1
    refine Wp.blk (by decide) ol_178 3 1 (pc' := 9) (L' := [.ref 23, .int v1, .int v2]) (S' := [.int (-103 : Int32)]) (h' := h) rfl ?_
    exact Wp.ret (op_ix (by decide) ol_178 4 rfl) rfl K
  · replace K := K.2 c1
    refine Wp.blk (by decide) ol_178 5 3 (pc' := 13) (L' := [.ref 23, .int v1, .int v2]) (S' := [.int (2 : Int32), .int (0 : Int32), .int v1]) (h' := h) rfl ?_
    refine Wp.callI (op_ix (by decide) ol_178 8 rfl) rfl rfl (Cl.enter (L := [.int v1, .int (0 : Int32), .int (2 : Int32)]) rfl ?_)
    refine Wp.blk (by decide) ol_129 0 3 (pc' := (if v1 < (0 : Int32) then 14 else 5)) (L' := [.int v1, .int (0 : Int32), .int (2 : Int32)]) (S' := []) (h' := h) rfl ?_
    refine Wp.br (fun c2 => ?_) (fun c2 => ?_)
    · replace K := K.1 c2
      refine Wp.blk (by decide) ol_129 8 1 (pc' := 15) (L' := [.int v1, .int (0 : Int32), .int (2 : Int32)]) (S' := [.int (0 : Int32)]) (h' := h) rfl ?_
      refine Wp.ret (op_ix (by decide) ol_129 9 rfl) rfl ⟨_, rfl, ?_⟩
      refine Wp.blk (by decide) ol_178 9 1 (pc' := (if (0 : Int32) = (0 : Int32) then 37 else 19)) (L' := [.ref 23, .int v1, .int v2]) (S' := []) (h' := h) rfl ?_
      refine Wp.br (fun _ => ?_) (fun hc => absurd (by decide) hc)
      refine Wp.blk (by decide) ol_178 20 1 (pc' := 39) (L' := [.ref 23, .int v1, .int v2]) (S' := [.int (-102 : Int32)]) (h' := h) rfl ?_
      exact Wp.ret (op_ix (by decide) ol_178 21 rfl) rfl K
    · replace K := K.2 c2
      refine Wp.blk (by decide) ol_129 3 3 (pc' := (if (2 : Int32) < v1 then 14 else 10)) (L' := [.int v1, .int (0 : Int32), .int (2 : Int32)]) (S' := []) (h' := h) rfl ?_
      refine Wp.br (fun c3 => ?_) (fun c3 => ?_)
      · replace K := K.1 c3
        refine Wp.blk (by decide) ol_129 8 1 (pc' := 15) (L' := [.int v1, .int (0 : Int32), .int (2 : Int32)]) (S' := [.int (0 : Int32)]) (h' := h) rfl ?_
        refine Wp.ret (op_ix (by decide) ol_129 9 rfl) rfl ⟨_, rfl, ?_⟩
        refine Wp.blk (by decide) ol_178 9 1 (pc' := (if (0 : Int32) = (0 : Int32) then 37 else 19)) (L' := [.ref 23, .int v1, .int v2]) (S' := []) (h' := h) rfl ?_
        refine Wp.br (fun _ => ?_) (fun hc => absurd (by decide) hc)
        refine Wp.blk (by decide) ol_178 20 1 (pc' := 39) (L' := [.ref 23, .int v1, .int v2]) (S' := [.int (-102 : Int32)]) (h' := h) rfl ?_
        exact Wp.ret (op_ix (by decide) ol_178 21 rfl) rfl K
      · replace K := K.2 c3
        refine Wp.blk (by decide) ol_129 6 2 (pc' := 15) (L' := [.int v1, .int (0 : Int32), .int (2 : Int32)]) (S' := [.int (1 : Int32)]) (h' := h) rfl ?_
        refine Wp.ret (op_ix (by decide) ol_129 9 rfl) rfl ⟨_, rfl, ?_⟩
        refine Wp.blk (by decide) ol_178 9 1 (pc' := (if (1 : Int32) = (0 : Int32) then 37 else 19)) (L' := [.ref 23, .int v1, .int v2]) (S' := []) (h' := h) rfl ?_
        refine Wp.br (fun hc => absurd hc (by decide)) (fun _ => ?_)
        refine Wp.blk (by decide) ol_178 10 3 (pc' := 22) (L' := [.ref 23, .int v1, .int v2]) (S' := [.int (1 : Int32), .int (0 : Int32), .int v2]) (h' := h) rfl ?_
        refine Wp.callI (op_ix (by decide) ol_178 13 rfl) rfl rfl (Cl.enter (L := [.int v2, .int (0 : Int32), .int (1 : Int32)]) rfl ?_)
        refine Wp.blk (by decide) ol_129 0 3 (pc' := (if v2 < (0 : Int32) then 14 else 5)) (L' := [.int v2, .int (0 : Int32), .int (1 : Int32)]) (S' := []) (h' := h) rfl ?_
        refine Wp.br (fun c4 => ?_) (fun c4 => ?_)
        · replace K := K.1 c4
          refine Wp.blk (by decide) ol_129 8 1 (pc' := 15) (L' := [.int v2, .int (0 : Int32), .int (1 : Int32)]) (S' := [.int (0 : Int32)]) (h' := h) rfl ?_
          refine Wp.ret (op_ix (by decide) ol_129 9 rfl) rfl ⟨_, rfl, ?_⟩
          refine Wp.blk (by decide) ol_178 14 1 (pc' := (if (0 : Int32) = (0 : Int32) then 37 else 28)) (L' := [.ref 23, .int v1, .int v2]) (S' := []) (h' := h) rfl ?_
          refine Wp.br (fun _ => ?_) (fun hc => absurd (by decide) hc)
          refine Wp.blk (by decide) ol_178 20 1 (pc' := 39) (L' := [.ref 23, .int v1, .int v2]) (S' := [.int (-102 : Int32)]) (h' := h) rfl ?_
          exact Wp.ret (op_ix (by decide) ol_178 21 rfl) rfl K
        · replace K := K.2 c4
          refine Wp.blk (by decide) ol_129 3 3 (pc' := (if (1 : Int32) < v2 then 14 else 10)) (L' := [.int v2, .int (0 : Int32), .int (1 : Int32)]) (S' := []) (h' := h) rfl ?_
          refine Wp.br (fun c5 => ?_) (fun c5 => ?_)
          · replace K := K.1 c5
            refine Wp.blk (by decide) ol_129 8 1 (pc' := 15) (L' := [.int v2, .int (0 : Int32), .int (1 : Int32)]) (S' := [.int (0 : Int32)]) (h' := h) rfl ?_
            refine Wp.ret (op_ix (by decide) ol_129 9 rfl) rfl ⟨_, rfl, ?_⟩
            refine Wp.blk (by decide) ol_178 14 1 (pc' := (if (0 : Int32) = (0 : Int32) then 37 else 28)) (L' := [.ref 23, .int v1, .int v2]) (S' := []) (h' := h) rfl ?_
            refine Wp.br (fun _ => ?_) (fun hc => absurd (by decide) hc)
            refine Wp.blk (by decide) ol_178 20 1 (pc' := 39) (L' := [.ref 23, .int v1, .int v2]) (S' := [.int (-102 : Int32)]) (h' := h) rfl ?_
            exact Wp.ret (op_ix (by decide) ol_178 21 rfl) rfl K
          · replace K := K.2 c5
            refine Wp.blk (by decide) ol_129 6 2 (pc' := 15) (L' := [.int v2, .int (0 : Int32), .int (1 : Int32)]) (S' := [.int (1 : Int32)]) (h' := h) rfl ?_
            refine Wp.ret (op_ix (by decide) ol_129 9 rfl) rfl ⟨_, rfl, ?_⟩
            refine Wp.blk (by decide) ol_178 14 1 (pc' := (if (1 : Int32) = (0 : Int32) then 37 else 28)) (L' := [.ref 23, .int v1, .int v2]) (S' := []) (h' := h) rfl ?_
            refine Wp.br (fun hc => absurd hc (by decide)) (fun _ => ?_)
            refine Wp.blk (by decide) ol_178 15 3 (pc' := 31) (L' := [.ref 23, .int v1, .int v2]) (S' := [.int v2, .int v1, .ref 23]) (h' := h) rfl ?_
            refine Wp.callI (op_ix (by decide) ol_178 18 rfl) (act_virt (c2 := 2) rfl (lk1 (kS HS 23 rfl)) rfl) rfl (K.mono ?_)
            rintro _ h6 ⟨x8, rfl, hs7, K⟩
            refine ⟨x8, rfl, ?_⟩
            refine Wp.blk (by decide) ol_178 19 1 (pc' := 39) (L' := [.ref 23, .int v1, .int v2]) (S' := [.int x8]) (h' := h6) rfl ?_
            exact Wp.ret (op_ix (by decide) ol_178 21 rfl) rfl K
/-- CutsOrFastModel.player at 0 (I)I -/
theorem g179_0 (d : Nat) (v1 : Int32) (h : AH) (HS : Sh h)  (Q : Option Value → AH → Prop) (K : ((v1 < (0 : Int32) → Q (some (.int (-102 : Int32))) h) ∧ (¬ v1 < (0 : Int32) → (((4 : Int32) < v1 → Q (some (.int (-102 : Int32))) h) ∧ (¬ (4 : Int32) < v1 → (((AI h 23 11) = (5 : Int32) → Q (some (.int (-104 : Int32))) h) ∧ (¬ (AI h 23 11) = (5 : Int32) → (ixR ((AI h 23 11)) 5 ∧ Q (some (.int (((AI ((stI ((stI h 29 ((AI h 23 11)).toNatClampNeg v1)) 23 11 ((((AI ((stI h 29 ((AI h 23 11)).toNatClampNeg v1)) 23 11)) + ((1 : Int32)))))) 23 11)) - ((1 : Int32))))) (stI ((stI h 29 ((AI h 23 11)).toNatClampNeg v1)) 23 11 ((((AI ((stI h 29 ((AI h 23 11)).toNatClampNeg v1)) 23 11)) + ((1 : Int32))))))))))))) : Wp (d + 1) 179 0 [.ref 23, .int v1] [] h Q := by
  refine Wp.blk (by decide) ol_179 0 3 (pc' := 3) (L' := [.ref 23, .int v1]) (S' := [.int (4 : Int32), .int (0 : Int32), .int v1]) (h' := h) rfl ?_
  refine Wp.callI (op_ix (by decide) ol_179 3 rfl) rfl rfl (Cl.enter (L := [.int v1, .int (0 : Int32), .int (4 : Int32)]) rfl ?_)
  refine Wp.blk (by decide) ol_129 0 3 (pc' := (if v1 < (0 : Int32) then 14 else 5)) (L' := [.int v1, .int (0 : Int32), .int (4 : Int32)]) (S' := []) (h' := h) rfl ?_
  refine Wp.br (fun c1 => ?_) (fun c1 => ?_)
  · replace K := K.1 c1
    refine Wp.blk (by decide) ol_129 8 1 (pc' := 15) (L' := [.int v1, .int (0 : Int32), .int (4 : Int32)]) (S' := [.int (0 : Int32)]) (h' := h) rfl ?_
    refine Wp.ret (op_ix (by decide) ol_129 9 rfl) rfl ⟨_, rfl, ?_⟩
    refine Wp.blk (by decide) ol_179 4 1 (pc' := (if (0 : Int32) = (0 : Int32) then 9 else 12)) (L' := [.ref 23, .int v1]) (S' := []) (h' := h) rfl ?_
    refine Wp.br (fun _ => ?_) (fun hc => absurd (by decide) hc)
    refine Wp.blk (by decide) ol_179 5 1 (pc' := 11) (L' := [.ref 23, .int v1]) (S' := [.int (-102 : Int32)]) (h' := h) rfl ?_
    exact Wp.ret (op_ix (by decide) ol_179 6 rfl) rfl K
  · replace K := K.2 c1
    refine Wp.blk (by decide) ol_129 3 3 (pc' := (if (4 : Int32) < v1 then 14 else 10)) (L' := [.int v1, .int (0 : Int32), .int (4 : Int32)]) (S' := []) (h' := h) rfl ?_
    refine Wp.br (fun c2 => ?_) (fun c2 => ?_)
    · replace K := K.1 c2
      refine Wp.blk (by decide) ol_129 8 1 (pc' := 15) (L' := [.int v1, .int (0 : Int32), .int (4 : Int32)]) (S' := [.int (0 : Int32)]) (h' := h) rfl ?_
      refine Wp.ret (op_ix (by decide) ol_129 9 rfl) rfl ⟨_, rfl, ?_⟩
      refine Wp.blk (by decide) ol_179 4 1 (pc' := (if (0 : Int32) = (0 : Int32) then 9 else 12)) (L' := [.ref 23, .int v1]) (S' := []) (h' := h) rfl ?_
      refine Wp.br (fun _ => ?_) (fun hc => absurd (by decide) hc)
      refine Wp.blk (by decide) ol_179 5 1 (pc' := 11) (L' := [.ref 23, .int v1]) (S' := [.int (-102 : Int32)]) (h' := h) rfl ?_
      exact Wp.ret (op_ix (by decide) ol_179 6 rfl) rfl K
    · replace K := K.2 c2
      refine Wp.blk (by decide) ol_129 6 2 (pc' := 15) (L' := [.int v1, .int (0 : Int32), .int (4 : Int32)]) (S' := [.int (1 : Int32)]) (h' := h) rfl ?_
      refine Wp.ret (op_ix (by decide) ol_129 9 rfl) rfl ⟨_, rfl, ?_⟩
      refine Wp.blk (by decide) ol_179 4 1 (pc' := (if (1 : Int32) = (0 : Int32) then 9 else 12)) (L' := [.ref 23, .int v1]) (S' := []) (h' := h) rfl ?_
      refine Wp.br (fun hc => absurd hc (by decide)) (fun _ => ?_)
      refine Wp.blk (by decide) ol_179 7 1 (pc' := 13) (L' := [.ref 23, .int v1]) (S' := [.ref 23]) (h' := h) rfl ?_
      refine Wp.getf (op_ix (by decide) ol_179 8 rfl) (okS HS 23 rfl rfl) (v := .int (AI h 23 11)) rfl rfl ?_
      refine Wp.blk (by decide) ol_179 9 2 (pc' := (if (AI h 23 11) = (5 : Int32) then 20 else 23)) (L' := [.ref 23, .int v1]) (S' := []) (h' := h) rfl ?_
      refine Wp.br (fun c3 => ?_) (fun c3 => ?_)
      · replace K := K.1 c3
        refine Wp.blk (by decide) ol_179 11 1 (pc' := 22) (L' := [.ref 23, .int v1]) (S' := [.int (-104 : Int32)]) (h' := h) rfl ?_
        exact Wp.ret (op_ix (by decide) ol_179 12 rfl) rfl K
      · replace K := K.2 c3
        refine Wp.blk (by decide) ol_179 13 1 (pc' := 24) (L' := [.ref 23, .int v1]) (S' := [.ref 23]) (h' := h) rfl ?_
        refine Wp.getf (op_ix (by decide) ol_179 14 rfl) (okS HS 23 rfl rfl) (v := .ref 29) (congrArg va_rf (rS HS 23 12 rfl)) rfl ?_
        refine Wp.blk (by decide) ol_179 15 1 (pc' := 28) (L' := [.ref 23, .int v1]) (S' := [.ref 23, .ref 29]) (h' := h) rfl ?_
        refine Wp.getf (op_ix (by decide) ol_179 16 rfl) (okS HS 23 rfl rfl) (v := .int (AI h 23 11)) rfl rfl ?_
        refine Wp.blk (by decide) ol_179 17 1 (pc' := 32) (L' := [.ref 23, .int v1]) (S' := [.int v1, .int (AI h 23 11), .ref 29]) (h' := h) rfl ?_
        obtain ⟨r4, K⟩ := K
        refine Wp.iast (op_ix (by decide) ol_179 18 rfl) (by decide) (kS HS 29 rfl) (inS HS 29 rfl r4) rfl ?_
        refine Wp.blk (by decide) ol_179 19 2 (pc' := 35) (L' := [.ref 23, .int v1]) (S' := [.ref 23, .ref 23]) (h' := (stI h 29 ((AI h 23 11)).toNatClampNeg v1)) rfl ?_
        refine Wp.getf (op_ix (by decide) ol_179 21 rfl) (okS HS 23 rfl rfl) (v := .int (AI ((stI h 29 ((AI h 23 11)).toNatClampNeg v1)) 23 11)) rfl rfl ?_
        refine Wp.blk (by decide) ol_179 22 2 (pc' := 40) (L' := [.ref 23, .int v1]) (S' := [.int (((AI ((stI h 29 ((AI h 23 11)).toNatClampNeg v1)) 23 11)) + ((1 : Int32))), .ref 23]) (h' := (stI h 29 ((AI h 23 11)).toNatClampNeg v1)) rfl ?_
        refine Wp.putf (op_ix (by decide) ol_179 24 rfl) (by decide) (okS HS 23 rfl rfl) (h' := (stI ((stI h 29 ((AI h 23 11)).toNatClampNeg v1)) 23 11 ((((AI ((stI h 29 ((AI h 23 11)).toNatClampNeg v1)) 23 11)) + ((1 : Int32)))))) rfl rfl ?_
        refine Wp.blk (by decide) ol_179 25 1 (pc' := 44) (L' := [.ref 23, .int v1]) (S' := [.ref 23]) (h' := (stI ((stI h 29 ((AI h 23 11)).toNatClampNeg v1)) 23 11 ((((AI ((stI h 29 ((AI h 23 11)).toNatClampNeg v1)) 23 11)) + ((1 : Int32)))))) rfl ?_
        refine Wp.getf (op_ix (by decide) ol_179 26 rfl) (okS HS 23 rfl rfl) (v := .int (AI ((stI ((stI h 29 ((AI h 23 11)).toNatClampNeg v1)) 23 11 ((((AI ((stI h 29 ((AI h 23 11)).toNatClampNeg v1)) 23 11)) + ((1 : Int32)))))) 23 11)) rfl rfl ?_
        refine Wp.blk (by decide) ol_179 27 2 (pc' := 49) (L' := [.ref 23, .int v1]) (S' := [.int (((AI ((stI ((stI h 29 ((AI h 23 11)).toNatClampNeg v1)) 23 11 ((((AI ((stI h 29 ((AI h 23 11)).toNatClampNeg v1)) 23 11)) + ((1 : Int32)))))) 23 11)) - ((1 : Int32)))]) (h' := (stI ((stI h 29 ((AI h 23 11)).toNatClampNeg v1)) 23 11 ((((AI ((stI h 29 ((AI h 23 11)).toNatClampNeg v1)) 23 11)) + ((1 : Int32)))))) rfl ?_
        exact Wp.ret (op_ix (by decide) ol_179 29 rfl) rfl K
/-- CutsOrFastModel.isPlayer at 0 (I)Z -/
theorem g180_0 (d : Nat) (v1 : Int32) (h : AH) (HS : Sh h)  (Q : Option Value → AH → Prop) (K : ((v1 < (0 : Int32) → Q (some (.int (0 : Int32))) h) ∧ (¬ v1 < (0 : Int32) → (((((AI h 23 11)) - ((1 : Int32))) < v1 → Q (some (.int (0 : Int32))) h) ∧ (¬ (((AI h 23 11)) - ((1 : Int32))) < v1 → Q (some (.int (1 : Int32))) h))))) : Wp (d + 1) 180 0 [.ref 23, .int v1] [] h Q := by
  refine Wp.blk (by decide) ol_180 0 3 (pc' := 3) (L' := [.ref 23, .int v1]) (S' := [.ref 23, .int (0 : Int32), .int v1]) (h' := h) rfl ?_
  refine Wp.getf (op_ix (by decide) ol_180 3 rfl) (okS HS 23 rfl rfl) (v := .int (AI h 23 11)) rfl rfl ?_
  refine Wp.blk (by decide) ol_180 4 2 (pc' := 8) (L' := [.ref 23, .int v1]) (S' := [.int (((AI h 23 11)) - ((1 : Int32))), .int (0 : Int32), .int v1]) (h' := h) rfl ?_
  refine Wp.callI (op_ix (by decide) ol_180 6 rfl) rfl rfl (Cl.enter (L := [.int v1, .int (0 : Int32), .int (((AI h 23 11)) - ((1 : Int32)))]) rfl ?_)
  refine Wp.blk (by decide) ol_129 0 3 (pc' := (if v1 < (0 : Int32) then 14 else 5)) (L' := [.int v1, .int (0 : Int32), .int (((AI h 23 11)) - ((1 : Int32)))]) (S' := []) (h' := h) rfl ?_
  refine Wp.br (fun c1 => ?_) (fun c1 => ?_)
  · replace K := K.1 c1
    refine Wp.blk (by decide) ol_129 8 1 (pc' := 15) (L' := [.int v1, .int (0 : Int32), .int (((AI h 23 11)) - ((1 : Int32)))]) (S' := [.int (0 : Int32)]) (h' := h) rfl ?_
    refine Wp.ret (op_ix (by decide) ol_129 9 rfl) rfl ⟨_, rfl, ?_⟩
    exact Wp.ret (op_ix (by decide) ol_180 7 rfl) rfl K
  · replace K := K.2 c1
    refine Wp.blk (by decide) ol_129 3 3 (pc' := (if (((AI h 23 11)) - ((1 : Int32))) < v1 then 14 else 10)) (L' := [.int v1, .int (0 : Int32), .int (((AI h 23 11)) - ((1 : Int32)))]) (S' := []) (h' := h) rfl ?_
    refine Wp.br (fun c2 => ?_) (fun c2 => ?_)
    · replace K := K.1 c2
      refine Wp.blk (by decide) ol_129 8 1 (pc' := 15) (L' := [.int v1, .int (0 : Int32), .int (((AI h 23 11)) - ((1 : Int32)))]) (S' := [.int (0 : Int32)]) (h' := h) rfl ?_
      refine Wp.ret (op_ix (by decide) ol_129 9 rfl) rfl ⟨_, rfl, ?_⟩
      exact Wp.ret (op_ix (by decide) ol_180 7 rfl) rfl K
    · replace K := K.2 c2
      refine Wp.blk (by decide) ol_129 6 2 (pc' := 15) (L' := [.int v1, .int (0 : Int32), .int (((AI h 23 11)) - ((1 : Int32)))]) (S' := [.int (1 : Int32)]) (h' := h) rfl ?_
      refine Wp.ret (op_ix (by decide) ol_129 9 rfl) rfl ⟨_, rfl, ?_⟩
      exact Wp.ret (op_ix (by decide) ol_180 7 rfl) rfl K
/-- CutsOrFastModel.as at 0 (II)I -/
theorem g181_0 (d : Nat) (v1 : Int32) (v2 : Int32) (h : AH) (HS : Sh h)  (Q : Option Value → AH → Prop) (K : ((v1 < (0 : Int32) → Q (some (.int (-101 : Int32))) h) ∧ (¬ v1 < (0 : Int32) → (((((AI h 23 11)) - ((1 : Int32))) < v1 → Q (some (.int (-101 : Int32))) h) ∧ (¬ (((AI h 23 11)) - ((1 : Int32))) < v1 → ((v2 < (0 : Int32) → Q (some (.int (-102 : Int32))) h) ∧ (¬ v2 < (0 : Int32) → (((4 : Int32) < v2 → Q (some (.int (-102 : Int32))) h) ∧ (¬ (4 : Int32) < v2 → (ixR v1 5 ∧ ((v2 = (0 : Int32) → Q (some (.int v1)) h) ∧ (¬ v2 = (0 : Int32) → (((AI h 29 v1.toNatClampNeg) = v2 → Q (some (.int v1)) h) ∧ (¬ (AI h 29 v1.toNatClampNeg) = v2 → ((v2 = (2 : Int32) → (((AI h 29 v1.toNatClampNeg) = (3 : Int32) → Q (some (.int v1)) h) ∧ (¬ (AI h 29 v1.toNatClampNeg) = (3 : Int32) → Q (some (.int (-1 : Int32))) h))) ∧ (¬ v2 = (2 : Int32) → Q (some (.int (-1 : Int32))) h)))))))))))))))) : Wp (d + 2) 181 0 [.ref 23, .int v1, .int v2, mk0] [] h Q := by
  refine Wp.blk (by decide) ol_181 0 2 (pc' := 2) (L' := [.ref 23, .int v1, .int v2, mk0]) (S' := [.int v1, .ref 23]) (h' := h) rfl ?_
  refine Wp.callI (op_ix (by decide) ol_181 2 rfl) (act_virt (c2 := 1) rfl (lk1 (kS HS 23 rfl)) rfl) rfl (Cl.enter (L := [.ref 23, .int v1]) rfl ?_)
  refine Wp.blk (by decide) ol_180 0 3 (pc' := 3) (L' := [.ref 23, .int v1]) (S' := [.ref 23, .int (0 : Int32), .int v1]) (h' := h) rfl ?_
  refine Wp.getf (op_ix (by decide) ol_180 3 rfl) (okS HS 23 rfl rfl) (v := .int (AI h 23 11)) rfl rfl ?_
  refine Wp.blk (by decide) ol_180 4 2 (pc' := 8) (L' := [.ref 23, .int v1]) (S' := [.int (((AI h 23 11)) - ((1 : Int32))), .int (0 : Int32), .int v1]) (h' := h) rfl ?_
  refine Wp.callI (op_ix (by decide) ol_180 6 rfl) rfl rfl (Cl.enter (L := [.int v1, .int (0 : Int32), .int (((AI h 23 11)) - ((1 : Int32)))]) rfl ?_)
  refine Wp.blk (by decide) ol_129 0 3 (pc' := (if v1 < (0 : Int32) then 14 else 5)) (L' := [.int v1, .int (0 : Int32), .int (((AI h 23 11)) - ((1 : Int32)))]) (S' := []) (h' := h) rfl ?_
  refine Wp.br (fun c1 => ?_) (fun c1 => ?_)
  · replace K := K.1 c1
    refine Wp.blk (by decide) ol_129 8 1 (pc' := 15) (L' := [.int v1, .int (0 : Int32), .int (((AI h 23 11)) - ((1 : Int32)))]) (S' := [.int (0 : Int32)]) (h' := h) rfl ?_
    refine Wp.ret (op_ix (by decide) ol_129 9 rfl) rfl ⟨_, rfl, ?_⟩
    refine Wp.ret (op_ix (by decide) ol_180 7 rfl) rfl ⟨_, rfl, ?_⟩
    refine Wp.blk (by decide) ol_181 3 1 (pc' := (if (0 : Int32) = (0 : Int32) then 8 else 11)) (L' := [.ref 23, .int v1, .int v2, mk0]) (S' := []) (h' := h) rfl ?_
    refine Wp.br (fun _ => ?_) (fun hc => absurd (by decide) hc)
    refine Wp.blk (by decide) ol_181 4 1 (pc' := 10) (L' := [.ref 23, .int v1, .int v2, mk0]) (S' := [.int (-101 : Int32)]) (h' := h) rfl ?_
    exact Wp.ret (op_ix (by decide) ol_181 5 rfl) rfl K
  · replace K := K.2 c1
    refine Wp.blk (by decide) ol_129 3 3 (pc' := (if (((AI h 23 11)) - ((1 : Int32))) < v1 then 14 else 10)) (L' := [.int v1, .int (0 : Int32), .int (((AI h 23 11)) - ((1 : Int32)))]) (S' := []) (h' := h) rfl ?_
    refine Wp.br (fun c2 => ?_) (fun c2 => ?_)
    · replace K := K.1 c2
      refine Wp.blk (by decide) ol_129 8 1 (pc' := 15) (L' := [.int v1, .int (0 : Int32), .int (((AI h 23 11)) - ((1 : Int32)))]) (S' := [.int (0 : Int32)]) (h' := h) rfl ?_
      refine Wp.ret (op_ix (by decide) ol_129 9 rfl) rfl ⟨_, rfl, ?_⟩
      refine Wp.ret (op_ix (by decide) ol_180 7 rfl) rfl ⟨_, rfl, ?_⟩
      refine Wp.blk (by decide) ol_181 3 1 (pc' := (if (0 : Int32) = (0 : Int32) then 8 else 11)) (L' := [.ref 23, .int v1, .int v2, mk0]) (S' := []) (h' := h) rfl ?_
      refine Wp.br (fun _ => ?_) (fun hc => absurd (by decide) hc)
      refine Wp.blk (by decide) ol_181 4 1 (pc' := 10) (L' := [.ref 23, .int v1, .int v2, mk0]) (S' := [.int (-101 : Int32)]) (h' := h) rfl ?_
      exact Wp.ret (op_ix (by decide) ol_181 5 rfl) rfl K
    · replace K := K.2 c2
      refine Wp.blk (by decide) ol_129 6 2 (pc' := 15) (L' := [.int v1, .int (0 : Int32), .int (((AI h 23 11)) - ((1 : Int32)))]) (S' := [.int (1 : Int32)]) (h' := h) rfl ?_
      refine Wp.ret (op_ix (by decide) ol_129 9 rfl) rfl ⟨_, rfl, ?_⟩
      refine Wp.ret (op_ix (by decide) ol_180 7 rfl) rfl ⟨_, rfl, ?_⟩
      refine Wp.blk (by decide) ol_181 3 1 (pc' := (if (1 : Int32) = (0 : Int32) then 8 else 11)) (L' := [.ref 23, .int v1, .int v2, mk0]) (S' := []) (h' := h) rfl ?_
      refine Wp.br (fun hc => absurd hc (by decide)) (fun _ => ?_)
      refine Wp.blk (by decide) ol_181 6 3 (pc' := 14) (L' := [.ref 23, .int v1, .int v2, mk0]) (S' := [.int (4 : Int32), .int (0 : Int32), .int v2]) (h' := h) rfl ?_
      refine Wp.callI (op_ix (by decide) ol_181 9 rfl) rfl rfl (Cl.enter (L := [.int v2, .int (0 : Int32), .int (4 : Int32)]) rfl ?_)
      refine Wp.blk (by decide) ol_129 0 3 (pc' := (if v2 < (0 : Int32) then 14 else 5)) (L' := [.int v2, .int (0 : Int32), .int (4 : Int32)]) (S' := []) (h' := h) rfl ?_
      refine Wp.br (fun c3 => ?_) (fun c3 => ?_)
      · replace K := K.1 c3
        refine Wp.blk (by decide) ol_129 8 1 (pc' := 15) (L' := [.int v2, .int (0 : Int32), .int (4 : Int32)]) (S' := [.int (0 : Int32)]) (h' := h) rfl ?_
        refine Wp.ret (op_ix (by decide) ol_129 9 rfl) rfl ⟨_, rfl, ?_⟩
        refine Wp.blk (by decide) ol_181 10 1 (pc' := (if (0 : Int32) = (0 : Int32) then 20 else 23)) (L' := [.ref 23, .int v1, .int v2, mk0]) (S' := []) (h' := h) rfl ?_
        refine Wp.br (fun _ => ?_) (fun hc => absurd (by decide) hc)
        refine Wp.blk (by decide) ol_181 11 1 (pc' := 22) (L' := [.ref 23, .int v1, .int v2, mk0]) (S' := [.int (-102 : Int32)]) (h' := h) rfl ?_
        exact Wp.ret (op_ix (by decide) ol_181 12 rfl) rfl K
      · replace K := K.2 c3
        refine Wp.blk (by decide) ol_129 3 3 (pc' := (if (4 : Int32) < v2 then 14 else 10)) (L' := [.int v2, .int (0 : Int32), .int (4 : Int32)]) (S' := []) (h' := h) rfl ?_
        refine Wp.br (fun c4 => ?_) (fun c4 => ?_)
        · replace K := K.1 c4
          refine Wp.blk (by decide) ol_129 8 1 (pc' := 15) (L' := [.int v2, .int (0 : Int32), .int (4 : Int32)]) (S' := [.int (0 : Int32)]) (h' := h) rfl ?_
          refine Wp.ret (op_ix (by decide) ol_129 9 rfl) rfl ⟨_, rfl, ?_⟩
          refine Wp.blk (by decide) ol_181 10 1 (pc' := (if (0 : Int32) = (0 : Int32) then 20 else 23)) (L' := [.ref 23, .int v1, .int v2, mk0]) (S' := []) (h' := h) rfl ?_
          refine Wp.br (fun _ => ?_) (fun hc => absurd (by decide) hc)
          refine Wp.blk (by decide) ol_181 11 1 (pc' := 22) (L' := [.ref 23, .int v1, .int v2, mk0]) (S' := [.int (-102 : Int32)]) (h' := h) rfl ?_
          exact Wp.ret (op_ix (by decide) ol_181 12 rfl) rfl K
        · replace K := K.2 c4
          refine Wp.blk (by decide) ol_129 6 2 (pc' := 15) (L' := [.int v2, .int (0 : Int32), .int (4 : Int32)]) (S' := [.int (1 : Int32)]) (h' := h) rfl ?_
          refine Wp.ret (op_ix (by decide) ol_129 9 rfl) rfl ⟨_, rfl, ?_⟩
          refine Wp.blk (by decide) ol_181 10 1 (pc' := (if (1 : Int32) = (0 : Int32) then 20 else 23)) (L' := [.ref 23, .int v1, .int v2, mk0]) (S' := []) (h' := h) rfl ?_
          refine Wp.br (fun hc => absurd hc (by decide)) (fun _ => ?_)
          refine Wp.blk (by decide) ol_181 13 1 (pc' := 24) (L' := [.ref 23, .int v1, .int v2, mk0]) (S' := [.ref 23]) (h' := h) rfl ?_
          refine Wp.getf (op_ix (by decide) ol_181 14 rfl) (okS HS 23 rfl rfl) (v := .ref 29) (congrArg va_rf (rS HS 23 12 rfl)) rfl ?_
          refine Wp.blk (by decide) ol_181 15 1 (pc' := 28) (L' := [.ref 23, .int v1, .int v2, mk0]) (S' := [.int v1, .ref 29]) (h' := h) rfl ?_
          obtain ⟨r5, K⟩ := K
          refine Wp.iald (op_ix (by decide) ol_181 16 rfl) (kS HS 29 rfl) (inS HS 29 rfl r5) rfl ?_
          refine Wp.blk (by decide) ol_181 17 3 (pc' := (if v2 = (0 : Int32) then 49 else 34)) (L' := [.ref 23, .int v1, .int v2, .int (AI h 29 v1.toNatClampNeg)]) (S' := []) (h' := h) rfl ?_
          refine Wp.br (fun c6 => ?_) (fun c6 => ?_)
          · replace K := K.1 c6
            refine Wp.blk (by decide) ol_181 29 2 (pc' := 54) (L' := [.ref 23, .int v1, .int v2, .int (AI h 29 v1.toNatClampNeg)]) (S' := [.int v1]) (h' := h) rfl ?_
            exact Wp.ret (op_ix (by decide) ol_181 32 rfl) rfl K
          · replace K := K.2 c6
            refine Wp.blk (by decide) ol_181 20 3 (pc' := (if (AI h 29 v1.toNatClampNeg) = v2 then 49 else 39)) (L' := [.ref 23, .int v1, .int v2, .int (AI h 29 v1.toNatClampNeg)]) (S' := []) (h' := h) rfl ?_
            refine Wp.br (fun c7 => ?_) (fun c7 => ?_)
            · replace K := K.1 c7
              refine Wp.blk (by decide) ol_181 29 2 (pc' := 54) (L' := [.ref 23, .int v1, .int v2, .int (AI h 29 v1.toNatClampNeg)]) (S' := [.int v1]) (h' := h) rfl ?_
              exact Wp.ret (op_ix (by decide) ol_181 32 rfl) rfl K
            · replace K := K.2 c7
              refine Wp.blk (by decide) ol_181 23 3 (pc' := (if v2 = (2 : Int32) then 44 else 53)) (L' := [.ref 23, .int v1, .int v2, .int (AI h 29 v1.toNatClampNeg)]) (S' := []) (h' := h) rfl ?_
              refine Wp.br (fun c8 => ?_) (fun c8 => ?_)
              · replace K := K.1 c8
                refine Wp.blk (by decide) ol_181 26 3 (pc' := (if (AI h 29 v1.toNatClampNeg) = (3 : Int32) then 49 else 53)) (L' := [.ref 23, .int v1, .int v2, .int (AI h 29 v1.toNatClampNeg)]) (S' := []) (h' := h) rfl ?_
                refine Wp.br (fun c9 => ?_) (fun c9 => ?_)
                · replace K := K.1 c9
                  refine Wp.blk (by decide) ol_181 29 2 (pc' := 54) (L' := [.ref 23, .int v1, .int v2, .int (AI h 29 v1.toNatClampNeg)]) (S' := [.int v1]) (h' := h) rfl ?_
                  exact Wp.ret (op_ix (by decide) ol_181 32 rfl) rfl K
                · replace K := K.2 c9
                  refine Wp.blk (by decide) ol_181 31 1 (pc' := 54) (L' := [.ref 23, .int v1, .int v2, .int (AI h 29 v1.toNatClampNeg)]) (S' := [.int (-1 : Int32)]) (h' := h) rfl ?_
                  exact Wp.ret (op_ix (by decide) ol_181 32 rfl) rfl K
              · replace K := K.2 c8
                refine Wp.blk (by decide) ol_181 31 1 (pc' := 54) (L' := [.ref 23, .int v1, .int v2, .int (AI h 29 v1.toNatClampNeg)]) (S' := [.int (-1 : Int32)]) (h' := h) rfl ?_
                exact Wp.ret (op_ix (by decide) ol_181 32 rfl) rfl K
/-- CutsOrFastModel.draw at 0 (I)I -/
theorem g182_0 (d : Nat) (v1 : Int32) (h : AH) (HS : Sh h)  (Q : Option Value → AH → Prop) (K : ((¬ v1.toInt64 = 0) ∧ Q (some (.int ((((AL ((stL h 23 42 ((((((((1103515245 : Int64)) * ((AL h 23 42)))) + ((12345 : Int64)))) &&& ((2147483647 : Int64)))))) 23 42) / (65536 : Int64)) - ((AL ((stL h 23 42 ((((((((1103515245 : Int64)) * ((AL h 23 42)))) + ((12345 : Int64)))) &&& ((2147483647 : Int64)))))) 23 42) / (65536 : Int64)) / v1.toInt64 * v1.toInt64)).toInt32)) (stL h 23 42 ((((((((1103515245 : Int64)) * ((AL h 23 42)))) + ((12345 : Int64)))) &&& ((2147483647 : Int64))))))) : Wp d 182 0 [.ref 23, .int v1] [] h Q := by
  refine Wp.blk (by decide) ol_182 0 3 (pc' := 5) (L' := [.ref 23, .int v1]) (S' := [.ref 23, .long (1103515245 : Int64), .ref 23]) (h' := h) rfl ?_
  refine Wp.getf (op_ix (by decide) ol_182 3 rfl) (okS HS 23 rfl rfl) (v := .long (AL h 23 42)) rfl rfl ?_
  refine Wp.blk (by decide) ol_182 4 5 (pc' := 17) (L' := [.ref 23, .int v1]) (S' := [.long (((((((1103515245 : Int64)) * ((AL h 23 42)))) + ((12345 : Int64)))) &&& ((2147483647 : Int64))), .ref 23]) (h' := h) rfl ?_
  refine Wp.putf (op_ix (by decide) ol_182 9 rfl) (by decide) (okS HS 23 rfl rfl) (h' := (stL h 23 42 ((((((((1103515245 : Int64)) * ((AL h 23 42)))) + ((12345 : Int64)))) &&& ((2147483647 : Int64)))))) rfl rfl ?_
  refine Wp.blk (by decide) ol_182 10 1 (pc' := 21) (L' := [.ref 23, .int v1]) (S' := [.ref 23]) (h' := (stL h 23 42 ((((((((1103515245 : Int64)) * ((AL h 23 42)))) + ((12345 : Int64)))) &&& ((2147483647 : Int64)))))) rfl ?_
  refine Wp.getf (op_ix (by decide) ol_182 11 rfl) (okS HS 23 rfl rfl) (v := .long (AL ((stL h 23 42 ((((((((1103515245 : Int64)) * ((AL h 23 42)))) + ((12345 : Int64)))) &&& ((2147483647 : Int64)))))) 23 42)) rfl rfl ?_
  refine Wp.blk (by decide) ol_182 12 4 (pc' := 30) (L' := [.ref 23, .int v1]) (S' := [.long v1.toInt64, .long ((AL ((stL h 23 42 ((((((((1103515245 : Int64)) * ((AL h 23 42)))) + ((12345 : Int64)))) &&& ((2147483647 : Int64)))))) 23 42) / (65536 : Int64))]) (h' := (stL h 23 42 ((((((((1103515245 : Int64)) * ((AL h 23 42)))) + ((12345 : Int64)))) &&& ((2147483647 : Int64)))))) rfl ?_
  obtain ⟨z1, K⟩ := K
  refine Wp.remL (op_ix (by decide) ol_182 16 rfl) z1 rfl ?_
  refine Wp.blk (by decide) ol_182 17 1 (pc' := 32) (L' := [.ref 23, .int v1]) (S' := [.int ((((AL ((stL h 23 42 ((((((((1103515245 : Int64)) * ((AL h 23 42)))) + ((12345 : Int64)))) &&& ((2147483647 : Int64)))))) 23 42) / (65536 : Int64)) - ((AL ((stL h 23 42 ((((((((1103515245 : Int64)) * ((AL h 23 42)))) + ((12345 : Int64)))) &&& ((2147483647 : Int64)))))) 23 42) / (65536 : Int64)) / v1.toInt64 * v1.toInt64)).toInt32]) (h' := (stL h 23 42 ((((((((1103515245 : Int64)) * ((AL h 23 42)))) + ((12345 : Int64)))) &&& ((2147483647 : Int64)))))) rfl ?_
  exact Wp.ret (op_ix (by decide) ol_182 18 rfl) rfl K
/-- CutsOrFastModel.nthOpen at 0 (I)I -/
theorem g183_0 (d : Nat) (v1 : Int32) (h : AH) (HS : Sh h)  (Q : Option Value → AH → Prop) (K : Wp d 183 4 [.ref 23, mk0, .int v1, .int (0 : Int32)] [] h Q) : Wp d 183 0 [.ref 23, .int v1, mk0, mk0] [] h Q := by
  refine Wp.blk (by decide) ol_183 0 4 (pc' := 4) (L' := [.ref 23, .int v1, .int v1, .int (0 : Int32)]) (S' := []) (h' := h) rfl ?_
  refine Wp.forget (L := [.ref 23, mk0, .int v1, .int (0 : Int32)]) (⟨Or.inr rfl, ⟨Or.inl rfl, ⟨Or.inr rfl, ⟨Or.inr rfl, trivial⟩⟩⟩⟩) ?_
  exact K
/-- CutsOrFastModel.nthOpen at 4 -/
theorem g183_4 (d : Nat) (v2 : Int32) (v3 : Int32) (h : AH) (HS : Sh h)  (Q : Option Value → AH → Prop) (K : ((v3 < (AI h 23 0) → (ixR v3 10 ∧ (((AI h 26 v3.toNatClampNeg) = (0 : Int32) → ((v2 = (0 : Int32) → Q (some (.int v3)) h) ∧ (¬ v2 = (0 : Int32) → Wp d 183 4 [.ref 23, mk0, .int (v2 + (-1 : Int32)), .int (v3 + (1 : Int32))] [] h Q))) ∧ (¬ (AI h 26 v3.toNatClampNeg) = (0 : Int32) → Wp d 183 4 [.ref 23, mk0, .int v2, .int (v3 + (1 : Int32))] [] h Q)))) ∧ (¬ v3 < (AI h 23 0) → Q (some (.int (-1 : Int32))) h))) : Wp d 183 4 [.ref 23, mk0, .int v2, .int v3] [] h Q := by
  refine Wp.blk (by decide) ol_183 4 2 (pc' := 6) (L' := [.ref 23, mk0, .int v2, .int v3]) (S' := [.ref 23, .int v3]) (h' := h) rfl ?_
  refine Wp.getf (op_ix (by decide) ol_183 6 rfl) (okS HS 23 rfl rfl) (v := .int (AI h 23 0)) rfl rfl ?_
  refine Wp.blk (by decide) ol_183 7 1 (pc' := (if v3 < (AI h 23 0) then 12 else 36)) (L' := [.ref 23, mk0, .int v2, .int v3]) (S' := []) (h' := h) rfl ?_
  refine Wp.br (fun c1 => ?_) (fun c1 => ?_)
  · replace K := K.1 c1
    refine Wp.blk (by decide) ol_183 8 1 (pc' := 13) (L' := [.ref 23, mk0, .int v2, .int v3]) (S' := [.ref 23]) (h' := h) rfl ?_
    refine Wp.getf (op_ix (by decide) ol_183 9 rfl) (okS HS 23 rfl rfl) (v := .ref 26) (congrArg va_rf (rS HS 23 6 rfl)) rfl ?_
    refine Wp.blk (by decide) ol_183 10 1 (pc' := 17) (L' := [.ref 23, mk0, .int v2, .int v3]) (S' := [.int v3, .ref 26]) (h' := h) rfl ?_
    obtain ⟨r2, K⟩ := K
    refine Wp.iald (op_ix (by decide) ol_183 11 rfl) (kS HS 26 rfl) (inS HS 26 rfl r2) rfl ?_
    refine Wp.blk (by decide) ol_183 12 1 (pc' := (if (AI h 26 v3.toNatClampNeg) = (0 : Int32) then 21 else 30)) (L' := [.ref 23, mk0, .int v2, .int v3]) (S' := []) (h' := h) rfl ?_
    refine Wp.br (fun c3 => ?_) (fun c3 => ?_)
    · replace K := K.1 c3
      refine Wp.blk (by decide) ol_183 13 2 (pc' := (if v2 = (0 : Int32) then 25 else 27)) (L' := [.ref 23, mk0, .int v2, .int v3]) (S' := []) (h' := h) rfl ?_
      refine Wp.br (fun c4 => ?_) (fun c4 => ?_)
      · replace K := K.1 c4
        refine Wp.blk (by decide) ol_183 15 1 (pc' := 26) (L' := [.ref 23, mk0, .int v2, .int v3]) (S' := [.int v3]) (h' := h) rfl ?_
        exact Wp.ret (op_ix (by decide) ol_183 16 rfl) rfl K
      · replace K := K.2 c4
        refine Wp.blk (by decide) ol_183 17 3 (pc' := 4) (L' := [.ref 23, mk0, .int (v2 + (-1 : Int32)), .int (v3 + (1 : Int32))]) (S' := []) (h' := h) rfl ?_
        exact K
    · replace K := K.2 c3
      refine Wp.blk (by decide) ol_183 18 2 (pc' := 4) (L' := [.ref 23, mk0, .int v2, .int (v3 + (1 : Int32))]) (S' := []) (h' := h) rfl ?_
      exact K
  · replace K := K.2 c1
    refine Wp.blk (by decide) ol_183 20 1 (pc' := 37) (L' := [.ref 23, mk0, .int v2, .int v3]) (S' := [.int (-1 : Int32)]) (h' := h) rfl ?_
    exact Wp.ret (op_ix (by decide) ol_183 21 rfl) rfl K
/-- CutsOrFastModel.layFar at 0 ()V -/
theorem g184_0 (d : Nat)  (h : AH) (HS : Sh h)  (Q : Option Value → AH → Prop) (K : Wp d 184 2 [.ref 23, .int (0 : Int32), mk0, mk0, mk0, mk0] [] h Q) : Wp d 184 0 [.ref 23, mk0, mk0, mk0, mk0, mk0] [] h Q := by
  refine Wp.blk (by decide) ol_184 0 2 (pc' := 2) (L' := [.ref 23, .int (0 : Int32), mk0, mk0, mk0, mk0]) (S' := []) (h' := h) rfl ?_
  exact K
/-- CutsOrFastModel.layFar at 2 -/
theorem g184_2 (d : Nat) (v1 : Int32) (h : AH) (HS : Sh h)  (Q : Option Value → AH → Prop) (K : ((v1 < (6 : Int32) → ((v1 = (AI h 23 2) → Wp d 184 27 [.ref 23, .int v1, mk0, mk0, mk0, mk0] [.int (0 : Int32), .int v1, .ref 43] h Q) ∧ (¬ v1 = (AI h 23 2) → Wp d 184 27 [.ref 23, .int v1, mk0, mk0, mk0, mk0] [.int (1048576 : Int32), .int v1, .ref 43] h Q))) ∧ (¬ v1 < (6 : Int32) → Wp d 184 56 [.ref 23, .int (0 : Int32), mk0, mk0, mk0, mk0] [] h Q))) : Wp d 184 2 [.ref 23, .int v1, mk0, mk0, mk0, mk0] [] h Q := by
  refine Wp.blk (by decide) ol_184 2 3 (pc' := (if v1 < (6 : Int32) then 8 else 54)) (L' := [.ref 23, .int v1, mk0, mk0, mk0, mk0]) (S' := []) (h' := h) rfl ?_
  refine Wp.br (fun c1 => ?_) (fun c1 => ?_)
  · replace K := K.1 c1
    refine Wp.blk (by decide) ol_184 5 1 (pc' := 9) (L' := [.ref 23, .int v1, mk0, mk0, mk0, mk0]) (S' := [.ref 23]) (h' := h) rfl ?_
    refine Wp.getf (op_ix (by decide) ol_184 6 rfl) (okS HS 23 rfl rfl) (v := .ref 43) (congrArg va_rf (rS HS 23 43 rfl)) rfl ?_
    refine Wp.blk (by decide) ol_184 7 3 (pc' := 15) (L' := [.ref 23, .int v1, mk0, mk0, mk0, mk0]) (S' := [.ref 23, .int v1, .int v1, .ref 43]) (h' := h) rfl ?_
    refine Wp.getf (op_ix (by decide) ol_184 10 rfl) (okS HS 23 rfl rfl) (v := .int (AI h 23 2)) rfl rfl ?_
    refine Wp.blk (by decide) ol_184 11 1 (pc' := (if v1 = (AI h 23 2) then 21 else 25)) (L' := [.ref 23, .int v1, mk0, mk0, mk0, mk0]) (S' := [.int v1, .ref 43]) (h' := h) rfl ?_
    refine Wp.br (fun c2 => ?_) (fun c2 => ?_)
    · replace K := K.1 c2
      refine Wp.blk (by decide) ol_184 12 2 (pc' := 27) (L' := [.ref 23, .int v1, mk0, mk0, mk0, mk0]) (S' := [.int (0 : Int32), .int v1, .ref 43]) (h' := h) rfl ?_
      exact K
    · replace K := K.2 c2
      refine Wp.blk (by decide) ol_184 14 1 (pc' := 27) (L' := [.ref 23, .int v1, mk0, mk0, mk0, mk0]) (S' := [.int (1048576 : Int32), .int v1, .ref 43]) (h' := h) rfl ?_
      exact K
  · replace K := K.2 c1
    refine Wp.blk (by decide) ol_184 29 2 (pc' := 56) (L' := [.ref 23, .int (0 : Int32), mk0, mk0, mk0, mk0]) (S' := []) (h' := h) rfl ?_
    exact K
/-- CutsOrFastModel.layFar at 27 -/
theorem g184_27 (d : Nat) (v1 : Int32) (s0 : Int32) (s1 : Int32) (s2 : Nat) (h : AH) (HS : Sh h)  (Q : Option Value → AH → Prop) (K : ((AK h s2).1 = 20 ∧ inR h s2 s1 = true ∧ 2 ≤ s2 ∧ ((v1 = (AI ((stI h s2 s1.toNatClampNeg s0)) 23 3) → (ixR v1 6 ∧ Wp d 184 2 [.ref 23, .int (v1 + (1 : Int32)), mk0, mk0, mk0, mk0] [] (stI ((stI h s2 s1.toNatClampNeg s0)) 44 v1.toNatClampNeg ((0 : Int32))) Q)) ∧ (¬ v1 = (AI ((stI h s2 s1.toNatClampNeg s0)) 23 3) → (ixR v1 6 ∧ Wp d 184 2 [.ref 23, .int (v1 + (1 : Int32)), mk0, mk0, mk0, mk0] [] (stI ((stI h s2 s1.toNatClampNeg s0)) 44 v1.toNatClampNeg ((1048576 : Int32))) Q))))) : Wp d 184 27 [.ref 23, .int v1, mk0, mk0, mk0, mk0] [.int s0, .int s1, .ref s2] h Q := by
  obtain ⟨k1, K⟩ := K
  obtain ⟨r2, K⟩ := K
  obtain ⟨b3, K⟩ := K
  refine Wp.iast (op_ix (by decide) ol_184 15 rfl) b3 k1 r2 rfl ?_
  refine Wp.blk (by decide) ol_184 16 1 (pc' := 29) (L' := [.ref 23, .int v1, mk0, mk0, mk0, mk0]) (S' := [.ref 23]) (h' := (stI h s2 s1.toNatClampNeg s0)) rfl ?_
  refine Wp.getf (op_ix (by decide) ol_184 17 rfl) (okS HS 23 rfl rfl) (v := .ref 44) (congrArg va_rf (rS HS 23 44 rfl)) rfl ?_
  refine Wp.blk (by decide) ol_184 18 3 (pc' := 35) (L' := [.ref 23, .int v1, mk0, mk0, mk0, mk0]) (S' := [.ref 23, .int v1, .int v1, .ref 44]) (h' := (stI h s2 s1.toNatClampNeg s0)) rfl ?_
  refine Wp.getf (op_ix (by decide) ol_184 21 rfl) (okS HS 23 rfl rfl) (v := .int (AI ((stI h s2 s1.toNatClampNeg s0)) 23 3)) rfl rfl ?_
  refine Wp.blk (by decide) ol_184 22 1 (pc' := (if v1 = (AI ((stI h s2 s1.toNatClampNeg s0)) 23 3) then 41 else 45)) (L' := [.ref 23, .int v1, mk0, mk0, mk0, mk0]) (S' := [.int v1, .ref 44]) (h' := (stI h s2 s1.toNatClampNeg s0)) rfl ?_
  refine Wp.br (fun c4 => ?_) (fun c4 => ?_)
  · replace K := K.1 c4
    refine Wp.blk (by decide) ol_184 23 2 (pc' := 47) (L' := [.ref 23, .int v1, mk0, mk0, mk0, mk0]) (S' := [.int (0 : Int32), .int v1, .ref 44]) (h' := (stI h s2 s1.toNatClampNeg s0)) rfl ?_
    obtain ⟨r5, K⟩ := K
    refine Wp.iast (op_ix (by decide) ol_184 26 rfl) (by decide) (kS HS 44 rfl) (inS HS 44 rfl r5) rfl ?_
    refine Wp.blk (by decide) ol_184 27 2 (pc' := 2) (L' := [.ref 23, .int (v1 + (1 : Int32)), mk0, mk0, mk0, mk0]) (S' := []) (h' := (stI ((stI h s2 s1.toNatClampNeg s0)) 44 v1.toNatClampNeg ((0 : Int32)))) rfl ?_
    exact K
  · replace K := K.2 c4
    refine Wp.blk (by decide) ol_184 25 1 (pc' := 47) (L' := [.ref 23, .int v1, mk0, mk0, mk0, mk0]) (S' := [.int (1048576 : Int32), .int v1, .ref 44]) (h' := (stI h s2 s1.toNatClampNeg s0)) rfl ?_
    obtain ⟨r6, K⟩ := K
    refine Wp.iast (op_ix (by decide) ol_184 26 rfl) (by decide) (kS HS 44 rfl) (inS HS 44 rfl r6) rfl ?_
    refine Wp.blk (by decide) ol_184 27 2 (pc' := 2) (L' := [.ref 23, .int (v1 + (1 : Int32)), mk0, mk0, mk0, mk0]) (S' := []) (h' := (stI ((stI h s2 s1.toNatClampNeg s0)) 44 v1.toNatClampNeg ((1048576 : Int32)))) rfl ?_
    exact K
/-- CutsOrFastModel.layFar at 56 -/
theorem g184_56 (d : Nat) (v1 : Int32) (h : AH) (HS : Sh h)  (Q : Option Value → AH → Prop) (K : ((v1 < (6 : Int32) → Wp d 184 64 [.ref 23, .int v1, .int (0 : Int32), mk0, mk0, mk0] [] h Q) ∧ (¬ v1 < (6 : Int32) → Q none h))) : Wp d 184 56 [.ref 23, .int v1, mk0, mk0, mk0, mk0] [] h Q := by
  refine Wp.blk (by decide) ol_184 31 3 (pc' := (if v1 < (6 : Int32) then 62 else 311)) (L' := [.ref 23, .int v1, mk0, mk0, mk0, mk0]) (S' := []) (h' := h) rfl ?_
  refine Wp.br (fun c1 => ?_) (fun c1 => ?_)
  · replace K := K.1 c1
    refine Wp.blk (by decide) ol_184 34 2 (pc' := 64) (L' := [.ref 23, .int v1, .int (0 : Int32), mk0, mk0, mk0]) (S' := []) (h' := h) rfl ?_
    exact K
  · replace K := K.2 c1
    exact Wp.ret (op_ix (by decide) ol_184 176 rfl) rfl K
/-- CutsOrFastModel.layFar at 64 -/
theorem g184_64 (d : Nat) (v1 : Int32) (v2 : Int32) (h : AH) (HS : Sh h)  (Q : Option Value → AH → Prop) (K : ((v2 < (AI h 23 0) → (ixR v2 10 ∧ (((AI h 26 v2.toNatClampNeg) = (2 : Int32) → Wp d 184 102 [.ref 23, .int v1, .int v2, mk0, mk0, mk0] [.int (1048576 : Int32)] h Q) ∧ (¬ (AI h 26 v2.toNatClampNeg) = (2 : Int32) → (((AI h 26 v2.toNatClampNeg) = (1 : Int32) → Wp d 184 102 [.ref 23, .int v1, .int v2, mk0, mk0, mk0] [.int (0 : Int32)] h Q) ∧ (¬ (AI h 26 v2.toNatClampNeg) = (1 : Int32) → Wp d 184 102 [.ref 23, .int v1, .int v2, mk0, mk0, mk0] [.int (1 : Int32)] h Q)))))) ∧ (¬ v2 < (AI h 23 0) → Wp d 184 56 [.ref 23, .int (v1 + (1 : Int32)), mk0, mk0, mk0, mk0] [] h Q))) : Wp d 184 64 [.ref 23, .int v1, .int v2, mk0, mk0, mk0] [] h Q := by
  refine Wp.blk (by decide) ol_184 36 2 (pc' := 66) (L' := [.ref 23, .int v1, .int v2, mk0, mk0, mk0]) (S' := [.ref 23, .int v2]) (h' := h) rfl ?_
  refine Wp.getf (op_ix (by decide) ol_184 38 rfl) (okS HS 23 rfl rfl) (v := .int (AI h 23 0)) rfl rfl ?_
  refine Wp.blk (by decide) ol_184 39 1 (pc' := (if v2 < (AI h 23 0) then 72 else 305)) (L' := [.ref 23, .int v1, .int v2, mk0, mk0, mk0]) (S' := []) (h' := h) rfl ?_
  refine Wp.br (fun c1 => ?_) (fun c1 => ?_)
  · replace K := K.1 c1
    refine Wp.blk (by decide) ol_184 40 1 (pc' := 73) (L' := [.ref 23, .int v1, .int v2, mk0, mk0, mk0]) (S' := [.ref 23]) (h' := h) rfl ?_
    refine Wp.getf (op_ix (by decide) ol_184 41 rfl) (okS HS 23 rfl rfl) (v := .ref 26) (congrArg va_rf (rS HS 23 6 rfl)) rfl ?_
    refine Wp.blk (by decide) ol_184 42 1 (pc' := 77) (L' := [.ref 23, .int v1, .int v2, mk0, mk0, mk0]) (S' := [.int v2, .ref 26]) (h' := h) rfl ?_
    obtain ⟨r2, K⟩ := K
    refine Wp.iald (op_ix (by decide) ol_184 43 rfl) (kS HS 26 rfl) (inS HS 26 rfl r2) rfl ?_
    refine Wp.blk (by decide) ol_184 44 2 (pc' := (if (AI h 26 v2.toNatClampNeg) = (2 : Int32) then 82 else 87)) (L' := [.ref 23, .int v1, .int v2, mk0, mk0, mk0]) (S' := []) (h' := h) rfl ?_
    refine Wp.br (fun c3 => ?_) (fun c3 => ?_)
    · replace K := K.1 c3
      refine Wp.blk (by decide) ol_184 46 2 (pc' := 102) (L' := [.ref 23, .int v1, .int v2, mk0, mk0, mk0]) (S' := [.int (1048576 : Int32)]) (h' := h) rfl ?_
      exact K
    · replace K := K.2 c3
      refine Wp.blk (by decide) ol_184 48 1 (pc' := 88) (L' := [.ref 23, .int v1, .int v2, mk0, mk0, mk0]) (S' := [.ref 23]) (h' := h) rfl ?_
      refine Wp.getf (op_ix (by decide) ol_184 49 rfl) (okS HS 23 rfl rfl) (v := .ref 26) (congrArg va_rf (rS HS 23 6 rfl)) rfl ?_
      refine Wp.blk (by decide) ol_184 50 1 (pc' := 92) (L' := [.ref 23, .int v1, .int v2, mk0, mk0, mk0]) (S' := [.int v2, .ref 26]) (h' := h) rfl ?_
      refine Wp.iald (op_ix (by decide) ol_184 51 rfl) (kS HS 26 rfl) (inS HS 26 rfl r2) rfl ?_
      refine Wp.blk (by decide) ol_184 52 2 (pc' := (if (AI h 26 v2.toNatClampNeg) = (1 : Int32) then 97 else 101)) (L' := [.ref 23, .int v1, .int v2, mk0, mk0, mk0]) (S' := []) (h' := h) rfl ?_
      refine Wp.br (fun c4 => ?_) (fun c4 => ?_)
      · replace K := K.1 c4
        refine Wp.blk (by decide) ol_184 54 2 (pc' := 102) (L' := [.ref 23, .int v1, .int v2, mk0, mk0, mk0]) (S' := [.int (0 : Int32)]) (h' := h) rfl ?_
        exact K
      · replace K := K.2 c4
        refine Wp.blk (by decide) ol_184 56 1 (pc' := 102) (L' := [.ref 23, .int v1, .int v2, mk0, mk0, mk0]) (S' := [.int (1 : Int32)]) (h' := h) rfl ?_
        exact K
  · replace K := K.2 c1
    refine Wp.blk (by decide) ol_184 174 2 (pc' := 56) (L' := [.ref 23, .int (v1 + (1 : Int32)), .int v2, mk0, mk0, mk0]) (S' := []) (h' := h) rfl ?_
    refine Wp.forget (L := [.ref 23, .int (v1 + (1 : Int32)), mk0, mk0, mk0, mk0]) (⟨Or.inr rfl, ⟨Or.inr rfl, ⟨Or.inl rfl, ⟨Or.inr rfl, ⟨Or.inr rfl, ⟨Or.inr rfl, trivial⟩⟩⟩⟩⟩⟩) ?_
    exact K
/-- CutsOrFastModel.layFar at 102 -/
theorem g184_102 (d : Nat) (v1 : Int32) (v2 : Int32) (s0 : Int32) (h : AH) (HS : Sh h)  (Q : Option Value → AH → Prop) (K : (ixR v2 10 ∧ ixR v2 10 ∧ ixR ((AI h 25 v2.toNatClampNeg)) 6 ∧ ixR ((AI h 24 v2.toNatClampNeg)) 6 ∧ (((((AI h 43 ((AI h 25 v2.toNatClampNeg)).toNatClampNeg)) + s0) < (AI h 43 ((AI h 24 v2.toNatClampNeg)).toNatClampNeg) → Wp d 184 163 [.ref 23, .int v1, .int v2, .int s0, .int (AI h 24 v2.toNatClampNeg), .int (AI h 25 v2.toNatClampNeg)] [.int (((AI h 43 ((AI h 25 v2.toNatClampNeg)).toNatClampNeg)) + s0), .int (AI h 24 v2.toNatClampNeg), .ref 43] h Q) ∧ (¬ (((AI h 43 ((AI h 25 v2.toNatClampNeg)).toNatClampNeg)) + s0) < (AI h 43 ((AI h 24 v2.toNatClampNeg)).toNatClampNeg) → Wp d 184 163 [.ref 23, .int v1, .int v2, .int s0, .int (AI h 24 v2.toNatClampNeg), .int (AI h 25 v2.toNatClampNeg)] [.int (AI h 43 ((AI h 24 v2.toNatClampNeg)).toNatClampNeg), .int (AI h 24 v2.toNatClampNeg), .ref 43] h Q)))) : Wp d 184 102 [.ref 23, .int v1, .int v2, mk0, mk0, mk0] [.int s0] h Q := by
  refine Wp.blk (by decide) ol_184 57 2 (pc' := 104) (L' := [.ref 23, .int v1, .int v2, .int s0, mk0, mk0]) (S' := [.ref 23]) (h' := h) rfl ?_
  refine Wp.getf (op_ix (by decide) ol_184 59 rfl) (okS HS 23 rfl rfl) (v := .ref 24) (congrArg va_rf (rS HS 23 4 rfl)) rfl ?_
  refine Wp.blk (by decide) ol_184 60 1 (pc' := 108) (L' := [.ref 23, .int v1, .int v2, .int s0, mk0, mk0]) (S' := [.int v2, .ref 24]) (h' := h) rfl ?_
  obtain ⟨r1, K⟩ := K
  refine Wp.iald (op_ix (by decide) ol_184 61 rfl) (kS HS 24 rfl) (inS HS 24 rfl r1) rfl ?_
  refine Wp.blk (by decide) ol_184 62 2 (pc' := 112) (L' := [.ref 23, .int v1, .int v2, .int s0, .int (AI h 24 v2.toNatClampNeg), mk0]) (S' := [.ref 23]) (h' := h) rfl ?_
  refine Wp.getf (op_ix (by decide) ol_184 64 rfl) (okS HS 23 rfl rfl) (v := .ref 25) (congrArg va_rf (rS HS 23 5 rfl)) rfl ?_
  refine Wp.blk (by decide) ol_184 65 1 (pc' := 116) (L' := [.ref 23, .int v1, .int v2, .int s0, .int (AI h 24 v2.toNatClampNeg), mk0]) (S' := [.int v2, .ref 25]) (h' := h) rfl ?_
  obtain ⟨r2, K⟩ := K
  refine Wp.iald (op_ix (by decide) ol_184 66 rfl) (kS HS 25 rfl) (inS HS 25 rfl r2) rfl ?_
  refine Wp.blk (by decide) ol_184 67 2 (pc' := 120) (L' := [.ref 23, .int v1, .int v2, .int s0, .int (AI h 24 v2.toNatClampNeg), .int (AI h 25 v2.toNatClampNeg)]) (S' := [.ref 23]) (h' := h) rfl ?_
  refine Wp.getf (op_ix (by decide) ol_184 69 rfl) (okS HS 23 rfl rfl) (v := .ref 43) (congrArg va_rf (rS HS 23 43 rfl)) rfl ?_
  refine Wp.blk (by decide) ol_184 70 2 (pc' := 126) (L' := [.ref 23, .int v1, .int v2, .int s0, .int (AI h 24 v2.toNatClampNeg), .int (AI h 25 v2.toNatClampNeg)]) (S' := [.ref 23, .int (AI h 24 v2.toNatClampNeg), .ref 43]) (h' := h) rfl ?_
  refine Wp.getf (op_ix (by decide) ol_184 72 rfl) (okS HS 23 rfl rfl) (v := .ref 43) (congrArg va_rf (rS HS 23 43 rfl)) rfl ?_
  refine Wp.blk (by decide) ol_184 73 1 (pc' := 131) (L' := [.ref 23, .int v1, .int v2, .int s0, .int (AI h 24 v2.toNatClampNeg), .int (AI h 25 v2.toNatClampNeg)]) (S' := [.int (AI h 25 v2.toNatClampNeg), .ref 43, .int (AI h 24 v2.toNatClampNeg), .ref 43]) (h' := h) rfl ?_
  obtain ⟨r3, K⟩ := K
  refine Wp.iald (op_ix (by decide) ol_184 74 rfl) (kS HS 43 rfl) (inS HS 43 rfl r3) rfl ?_
  refine Wp.blk (by decide) ol_184 75 3 (pc' := 135) (L' := [.ref 23, .int v1, .int v2, .int s0, .int (AI h 24 v2.toNatClampNeg), .int (AI h 25 v2.toNatClampNeg)]) (S' := [.ref 23, .int (((AI h 43 ((AI h 25 v2.toNatClampNeg)).toNatClampNeg)) + s0), .int (AI h 24 v2.toNatClampNeg), .ref 43]) (h' := h) rfl ?_
  refine Wp.getf (op_ix (by decide) ol_184 78 rfl) (okS HS 23 rfl rfl) (v := .ref 43) (congrArg va_rf (rS HS 23 43 rfl)) rfl ?_
  refine Wp.blk (by decide) ol_184 79 1 (pc' := 140) (L' := [.ref 23, .int v1, .int v2, .int s0, .int (AI h 24 v2.toNatClampNeg), .int (AI h 25 v2.toNatClampNeg)]) (S' := [.int (AI h 24 v2.toNatClampNeg), .ref 43, .int (((AI h 43 ((AI h 25 v2.toNatClampNeg)).toNatClampNeg)) + s0), .int (AI h 24 v2.toNatClampNeg), .ref 43]) (h' := h) rfl ?_
  obtain ⟨r4, K⟩ := K
  refine Wp.iald (op_ix (by decide) ol_184 80 rfl) (kS HS 43 rfl) (inS HS 43 rfl r4) rfl ?_
  refine Wp.blk (by decide) ol_184 81 1 (pc' := (if (((AI h 43 ((AI h 25 v2.toNatClampNeg)).toNatClampNeg)) + s0) < (AI h 43 ((AI h 24 v2.toNatClampNeg)).toNatClampNeg) then 144 else 156)) (L' := [.ref 23, .int v1, .int v2, .int s0, .int (AI h 24 v2.toNatClampNeg), .int (AI h 25 v2.toNatClampNeg)]) (S' := [.int (AI h 24 v2.toNatClampNeg), .ref 43]) (h' := h) rfl ?_
  refine Wp.br (fun c5 => ?_) (fun c5 => ?_)
  · replace K := K.1 c5
    refine Wp.blk (by decide) ol_184 82 1 (pc' := 145) (L' := [.ref 23, .int v1, .int v2, .int s0, .int (AI h 24 v2.toNatClampNeg), .int (AI h 25 v2.toNatClampNeg)]) (S' := [.ref 23, .int (AI h 24 v2.toNatClampNeg), .ref 43]) (h' := h) rfl ?_
    refine Wp.getf (op_ix (by decide) ol_184 83 rfl) (okS HS 23 rfl rfl) (v := .ref 43) (congrArg va_rf (rS HS 23 43 rfl)) rfl ?_
    refine Wp.blk (by decide) ol_184 84 1 (pc' := 150) (L' := [.ref 23, .int v1, .int v2, .int s0, .int (AI h 24 v2.toNatClampNeg), .int (AI h 25 v2.toNatClampNeg)]) (S' := [.int (AI h 25 v2.toNatClampNeg), .ref 43, .int (AI h 24 v2.toNatClampNeg), .ref 43]) (h' := h) rfl ?_
    refine Wp.iald (op_ix (by decide) ol_184 85 rfl) (kS HS 43 rfl) (inS HS 43 rfl r3) rfl ?_
    refine Wp.blk (by decide) ol_184 86 3 (pc' := 163) (L' := [.ref 23, .int v1, .int v2, .int s0, .int (AI h 24 v2.toNatClampNeg), .int (AI h 25 v2.toNatClampNeg)]) (S' := [.int (((AI h 43 ((AI h 25 v2.toNatClampNeg)).toNatClampNeg)) + s0), .int (AI h 24 v2.toNatClampNeg), .ref 43]) (h' := h) rfl ?_
    exact K
  · replace K := K.2 c5
    refine Wp.blk (by decide) ol_184 89 1 (pc' := 157) (L' := [.ref 23, .int v1, .int v2, .int s0, .int (AI h 24 v2.toNatClampNeg), .int (AI h 25 v2.toNatClampNeg)]) (S' := [.ref 23, .int (AI h 24 v2.toNatClampNeg), .ref 43]) (h' := h) rfl ?_
    refine Wp.getf (op_ix (by decide) ol_184 90 rfl) (okS HS 23 rfl rfl) (v := .ref 43) (congrArg va_rf (rS HS 23 43 rfl)) rfl ?_
    refine Wp.blk (by decide) ol_184 91 1 (pc' := 162) (L' := [.ref 23, .int v1, .int v2, .int s0, .int (AI h 24 v2.toNatClampNeg), .int (AI h 25 v2.toNatClampNeg)]) (S' := [.int (AI h 24 v2.toNatClampNeg), .ref 43, .int (AI h 24 v2.toNatClampNeg), .ref 43]) (h' := h) rfl ?_
    refine Wp.iald (op_ix (by decide) ol_184 92 rfl) (kS HS 43 rfl) (inS HS 43 rfl r4) rfl ?_
    exact K
/-- CutsOrFastModel.layFar at 163 -/
theorem g184_163 (d : Nat) (v1 : Int32) (v2 : Int32) (v3 : Int32) (v4 : Int32) (v5 : Int32) (s0 : Int32) (s1 : Int32) (s2 : Nat) (h : AH) (HS : Sh h)  (Q : Option Value → AH → Prop) (K : ((AK h s2).1 = 20 ∧ inR h s2 s1 = true ∧ 2 ≤ s2 ∧ ixR v4 6 ∧ ixR v5 6 ∧ (((((AI ((stI h s2 s1.toNatClampNeg s0)) 43 v4.toNatClampNeg)) + v3) < (AI ((stI h s2 s1.toNatClampNeg s0)) 43 v5.toNatClampNeg) → Wp d 184 208 [.ref 23, .int v1, .int v2, .int v3, .int v4, .int v5] [.int (((AI ((stI h s2 s1.toNatClampNeg s0)) 43 v4.toNatClampNeg)) + v3), .int v5, .ref 43] (stI h s2 s1.toNatClampNeg s0) Q) ∧ (¬ (((AI ((stI h s2 s1.toNatClampNeg s0)) 43 v4.toNatClampNeg)) + v3) < (AI ((stI h s2 s1.toNatClampNeg s0)) 43 v5.toNatClampNeg) → Wp d 184 208 [.ref 23, .int v1, .int v2, .int v3, .int v4, .int v5] [.int (AI ((stI h s2 s1.toNatClampNeg s0)) 43 v5.toNatClampNeg), .int v5, .ref 43] (stI h s2 s1.toNatClampNeg s0) Q)))) : Wp d 184 163 [.ref 23, .int v1, .int v2, .int v3, .int v4, .int v5] [.int s0, .int s1, .ref s2] h Q := by
  obtain ⟨k1, K⟩ := K
  obtain ⟨r2, K⟩ := K
  obtain ⟨b3, K⟩ := K
  refine Wp.iast (op_ix (by decide) ol_184 93 rfl) b3 k1 r2 rfl ?_
  refine Wp.blk (by decide) ol_184 94 1 (pc' := 165) (L' := [.ref 23, .int v1, .int v2, .int v3, .int v4, .int v5]) (S' := [.ref 23]) (h' := (stI h s2 s1.toNatClampNeg s0)) rfl ?_
  refine Wp.getf (op_ix (by decide) ol_184 95 rfl) (okS HS 23 rfl rfl) (v := .ref 43) (congrArg va_rf (rS HS 23 43 rfl)) rfl ?_
  refine Wp.blk (by decide) ol_184 96 2 (pc' := 171) (L' := [.ref 23, .int v1, .int v2, .int v3, .int v4, .int v5]) (S' := [.ref 23, .int v5, .ref 43]) (h' := (stI h s2 s1.toNatClampNeg s0)) rfl ?_
  refine Wp.getf (op_ix (by decide) ol_184 98 rfl) (okS HS 23 rfl rfl) (v := .ref 43) (congrArg va_rf (rS HS 23 43 rfl)) rfl ?_
  refine Wp.blk (by decide) ol_184 99 1 (pc' := 176) (L' := [.ref 23, .int v1, .int v2, .int v3, .int v4, .int v5]) (S' := [.int v4, .ref 43, .int v5, .ref 43]) (h' := (stI h s2 s1.toNatClampNeg s0)) rfl ?_
  obtain ⟨r4, K⟩ := K
  refine Wp.iald (op_ix (by decide) ol_184 100 rfl) (kS HS 43 rfl) (inS HS 43 rfl r4) rfl ?_
  refine Wp.blk (by decide) ol_184 101 3 (pc' := 180) (L' := [.ref 23, .int v1, .int v2, .int v3, .int v4, .int v5]) (S' := [.ref 23, .int (((AI ((stI h s2 s1.toNatClampNeg s0)) 43 v4.toNatClampNeg)) + v3), .int v5, .ref 43]) (h' := (stI h s2 s1.toNatClampNeg s0)) rfl ?_
  refine Wp.getf (op_ix (by decide) ol_184 104 rfl) (okS HS 23 rfl rfl) (v := .ref 43) (congrArg va_rf (rS HS 23 43 rfl)) rfl ?_
  refine Wp.blk (by decide) ol_184 105 1 (pc' := 185) (L' := [.ref 23, .int v1, .int v2, .int v3, .int v4, .int v5]) (S' := [.int v5, .ref 43, .int (((AI ((stI h s2 s1.toNatClampNeg s0)) 43 v4.toNatClampNeg)) + v3), .int v5, .ref 43]) (h' := (stI h s2 s1.toNatClampNeg s0)) rfl ?_
  obtain ⟨r5, K⟩ := K
  refine Wp.iald (op_ix (by decide) ol_184 106 rfl) (kS HS 43 rfl) (inS HS 43 rfl r5) rfl ?_
  refine Wp.blk (by decide) ol_184 107 1 (pc' := (if (((AI ((stI h s2 s1.toNatClampNeg s0)) 43 v4.toNatClampNeg)) + v3) < (AI ((stI h s2 s1.toNatClampNeg s0)) 43 v5.toNatClampNeg) then 189 else 201)) (L' := [.ref 23, .int v1, .int v2, .int v3, .int v4, .int v5]) (S' := [.int v5, .ref 43]) (h' := (stI h s2 s1.toNatClampNeg s0)) rfl ?_
  refine Wp.br (fun c6 => ?_) (fun c6 => ?_)
  · replace K := K.1 c6
    refine Wp.blk (by decide) ol_184 108 1 (pc' := 190) (L' := [.ref 23, .int v1, .int v2, .int v3, .int v4, .int v5]) (S' := [.ref 23, .int v5, .ref 43]) (h' := (stI h s2 s1.toNatClampNeg s0)) rfl ?_
    refine Wp.getf (op_ix (by decide) ol_184 109 rfl) (okS HS 23 rfl rfl) (v := .ref 43) (congrArg va_rf (rS HS 23 43 rfl)) rfl ?_
    refine Wp.blk (by decide) ol_184 110 1 (pc' := 195) (L' := [.ref 23, .int v1, .int v2, .int v3, .int v4, .int v5]) (S' := [.int v4, .ref 43, .int v5, .ref 43]) (h' := (stI h s2 s1.toNatClampNeg s0)) rfl ?_
    refine Wp.iald (op_ix (by decide) ol_184 111 rfl) (kS HS 43 rfl) (inS HS 43 rfl r4) rfl ?_
    refine Wp.blk (by decide) ol_184 112 3 (pc' := 208) (L' := [.ref 23, .int v1, .int v2, .int v3, .int v4, .int v5]) (S' := [.int (((AI ((stI h s2 s1.toNatClampNeg s0)) 43 v4.toNatClampNeg)) + v3), .int v5, .ref 43]) (h' := (stI h s2 s1.toNatClampNeg s0)) rfl ?_
    exact K
  · replace K := K.2 c6
    refine Wp.blk (by decide) ol_184 115 1 (pc' := 202) (L' := [.ref 23, .int v1, .int v2, .int v3, .int v4, .int v5]) (S' := [.ref 23, .int v5, .ref 43]) (h' := (stI h s2 s1.toNatClampNeg s0)) rfl ?_
    refine Wp.getf (op_ix (by decide) ol_184 116 rfl) (okS HS 23 rfl rfl) (v := .ref 43) (congrArg va_rf (rS HS 23 43 rfl)) rfl ?_
    refine Wp.blk (by decide) ol_184 117 1 (pc' := 207) (L' := [.ref 23, .int v1, .int v2, .int v3, .int v4, .int v5]) (S' := [.int v5, .ref 43, .int v5, .ref 43]) (h' := (stI h s2 s1.toNatClampNeg s0)) rfl ?_
    refine Wp.iald (op_ix (by decide) ol_184 118 rfl) (kS HS 43 rfl) (inS HS 43 rfl r5) rfl ?_
    exact K
/-- CutsOrFastModel.layFar at 208 -/
theorem g184_208 (d : Nat) (v1 : Int32) (v2 : Int32) (v3 : Int32) (v4 : Int32) (v5 : Int32) (s0 : Int32) (s1 : Int32) (s2 : Nat) (h : AH) (HS : Sh h)  (Q : Option Value → AH → Prop) (K : ((AK h s2).1 = 20 ∧ inR h s2 s1 = true ∧ 2 ≤ s2 ∧ ixR v5 6 ∧ ixR v4 6 ∧ (((((AI ((stI h s2 s1.toNatClampNeg s0)) 44 v5.toNatClampNeg)) + v3) < (AI ((stI h s2 s1.toNatClampNeg s0)) 44 v4.toNatClampNeg) → Wp d 184 253 [.ref 23, .int v1, .int v2, .int v3, .int v4, .int v5] [.int (((AI ((stI h s2 s1.toNatClampNeg s0)) 44 v5.toNatClampNeg)) + v3), .int v4, .ref 44] (stI h s2 s1.toNatClampNeg s0) Q) ∧ (¬ (((AI ((stI h s2 s1.toNatClampNeg s0)) 44 v5.toNatClampNeg)) + v3) < (AI ((stI h s2 s1.toNatClampNeg s0)) 44 v4.toNatClampNeg) → Wp d 184 253 [.ref 23, .int v1, .int v2, .int v3, .int v4, .int v5] [.int (AI ((stI h s2 s1.toNatClampNeg s0)) 44 v4.toNatClampNeg), .int v4, .ref 44] (stI h s2 s1.toNatClampNeg s0) Q)))) : Wp d 184 208 [.ref 23, .int v1, .int v2, .int v3, .int v4, .int v5] [.int s0, .int s1, .ref s2] h Q := by
  obtain ⟨k1, K⟩ := K
  obtain ⟨r2, K⟩ := K
  obtain ⟨b3, K⟩ := K
  refine Wp.iast (op_ix (by decide) ol_184 119 rfl) b3 k1 r2 rfl ?_
  refine Wp.blk (by decide) ol_184 120 1 (pc' := 210) (L' := [.ref 23, .int v1, .int v2, .int v3, .int v4, .int v5]) (S' := [.ref 23]) (h' := (stI h s2 s1.toNatClampNeg s0)) rfl ?_
  refine Wp.getf (op_ix (by decide) ol_184 121 rfl) (okS HS 23 rfl rfl) (v := .ref 44) (congrArg va_rf (rS HS 23 44 rfl)) rfl ?_
  refine Wp.blk (by decide) ol_184 122 2 (pc' := 216) (L' := [.ref 23, .int v1, .int v2, .int v3, .int v4, .int v5]) (S' := [.ref 23, .int v4, .ref 44]) (h' := (stI h s2 s1.toNatClampNeg s0)) rfl ?_
  refine Wp.getf (op_ix (by decide) ol_184 124 rfl) (okS HS 23 rfl rfl) (v := .ref 44) (congrArg va_rf (rS HS 23 44 rfl)) rfl ?_
  refine Wp.blk (by decide) ol_184 125 1 (pc' := 221) (L' := [.ref 23, .int v1, .int v2, .int v3, .int v4, .int v5]) (S' := [.int v5, .ref 44, .int v4, .ref 44]) (h' := (stI h s2 s1.toNatClampNeg s0)) rfl ?_
  obtain ⟨r4, K⟩ := K
  refine Wp.iald (op_ix (by decide) ol_184 126 rfl) (kS HS 44 rfl) (inS HS 44 rfl r4) rfl ?_
  refine Wp.blk (by decide) ol_184 127 3 (pc' := 225) (L' := [.ref 23, .int v1, .int v2, .int v3, .int v4, .int v5]) (S' := [.ref 23, .int (((AI ((stI h s2 s1.toNatClampNeg s0)) 44 v5.toNatClampNeg)) + v3), .int v4, .ref 44]) (h' := (stI h s2 s1.toNatClampNeg s0)) rfl ?_
  refine Wp.getf (op_ix (by decide) ol_184 130 rfl) (okS HS 23 rfl rfl) (v := .ref 44) (congrArg va_rf (rS HS 23 44 rfl)) rfl ?_
  refine Wp.blk (by decide) ol_184 131 1 (pc' := 230) (L' := [.ref 23, .int v1, .int v2, .int v3, .int v4, .int v5]) (S' := [.int v4, .ref 44, .int (((AI ((stI h s2 s1.toNatClampNeg s0)) 44 v5.toNatClampNeg)) + v3), .int v4, .ref 44]) (h' := (stI h s2 s1.toNatClampNeg s0)) rfl ?_
  obtain ⟨r5, K⟩ := K
  refine Wp.iald (op_ix (by decide) ol_184 132 rfl) (kS HS 44 rfl) (inS HS 44 rfl r5) rfl ?_
  refine Wp.blk (by decide) ol_184 133 1 (pc' := (if (((AI ((stI h s2 s1.toNatClampNeg s0)) 44 v5.toNatClampNeg)) + v3) < (AI ((stI h s2 s1.toNatClampNeg s0)) 44 v4.toNatClampNeg) then 234 else 246)) (L' := [.ref 23, .int v1, .int v2, .int v3, .int v4, .int v5]) (S' := [.int v4, .ref 44]) (h' := (stI h s2 s1.toNatClampNeg s0)) rfl ?_
  refine Wp.br (fun c6 => ?_) (fun c6 => ?_)
  · replace K := K.1 c6
    refine Wp.blk (by decide) ol_184 134 1 (pc' := 235) (L' := [.ref 23, .int v1, .int v2, .int v3, .int v4, .int v5]) (S' := [.ref 23, .int v4, .ref 44]) (h' := (stI h s2 s1.toNatClampNeg s0)) rfl ?_
    refine Wp.getf (op_ix (by decide) ol_184 135 rfl) (okS HS 23 rfl rfl) (v := .ref 44) (congrArg va_rf (rS HS 23 44 rfl)) rfl ?_
    refine Wp.blk (by decide) ol_184 136 1 (pc' := 240) (L' := [.ref 23, .int v1, .int v2, .int v3, .int v4, .int v5]) (S' := [.int v5, .ref 44, .int v4, .ref 44]) (h' := (stI h s2 s1.toNatClampNeg s0)) rfl ?_
    refine Wp.iald (op_ix (by decide) ol_184 137 rfl) (kS HS 44 rfl) (inS HS 44 rfl r4) rfl ?_
    refine Wp.blk (by decide) ol_184 138 3 (pc' := 253) (L' := [.ref 23, .int v1, .int v2, .int v3, .int v4, .int v5]) (S' := [.int (((AI ((stI h s2 s1.toNatClampNeg s0)) 44 v5.toNatClampNeg)) + v3), .int v4, .ref 44]) (h' := (stI h s2 s1.toNatClampNeg s0)) rfl ?_
    exact K
  · replace K := K.2 c6
    refine Wp.blk (by decide) ol_184 141 1 (pc' := 247) (L' := [.ref 23, .int v1, .int v2, .int v3, .int v4, .int v5]) (S' := [.ref 23, .int v4, .ref 44]) (h' := (stI h s2 s1.toNatClampNeg s0)) rfl ?_
    refine Wp.getf (op_ix (by decide) ol_184 142 rfl) (okS HS 23 rfl rfl) (v := .ref 44) (congrArg va_rf (rS HS 23 44 rfl)) rfl ?_
    refine Wp.blk (by decide) ol_184 143 1 (pc' := 252) (L' := [.ref 23, .int v1, .int v2, .int v3, .int v4, .int v5]) (S' := [.int v4, .ref 44, .int v4, .ref 44]) (h' := (stI h s2 s1.toNatClampNeg s0)) rfl ?_
    refine Wp.iald (op_ix (by decide) ol_184 144 rfl) (kS HS 44 rfl) (inS HS 44 rfl r5) rfl ?_
    exact K
/-- CutsOrFastModel.layFar at 253 -/
theorem g184_253 (d : Nat) (v1 : Int32) (v2 : Int32) (v3 : Int32) (v4 : Int32) (v5 : Int32) (s0 : Int32) (s1 : Int32) (s2 : Nat) (h : AH) (HS : Sh h)  (Q : Option Value → AH → Prop) (K : ((AK h s2).1 = 20 ∧ inR h s2 s1 = true ∧ 2 ≤ s2 ∧ ixR v4 6 ∧ ixR v5 6 ∧ (((((AI ((stI h s2 s1.toNatClampNeg s0)) 44 v4.toNatClampNeg)) + v3) < (AI ((stI h s2 s1.toNatClampNeg s0)) 44 v5.toNatClampNeg) → Wp d 184 64 [.ref 23, .int v1, .int (v2 + (1 : Int32)), mk0, mk0, mk0] [] (stI ((stI h s2 s1.toNatClampNeg s0)) 44 v5.toNatClampNeg ((((AI ((stI h s2 s1.toNatClampNeg s0)) 44 v4.toNatClampNeg)) + v3))) Q) ∧ (¬ (((AI ((stI h s2 s1.toNatClampNeg s0)) 44 v4.toNatClampNeg)) + v3) < (AI ((stI h s2 s1.toNatClampNeg s0)) 44 v5.toNatClampNeg) → Wp d 184 64 [.ref 23, .int v1, .int (v2 + (1 : Int32)), mk0, mk0, mk0] [] (stI ((stI h s2 s1.toNatClampNeg s0)) 44 v5.toNatClampNeg ((AI ((stI h s2 s1.toNatClampNeg s0)) 44 v5.toNatClampNeg))) Q)))) : Wp d 184 253 [.ref 23, .int v1, .int v2, .int v3, .int v4, .int v5] [.int s0, .int s1, .ref s2] h Q := by
  obtain ⟨k1, K⟩ := K
  obtain ⟨r2, K⟩ := K
  obtain ⟨b3, K⟩ := K
  refine Wp.iast (op_ix (by decide) ol_184 145 rfl) b3 k1 r2 rfl ?_
  refine Wp.blk (by decide) ol_184 146 1 (pc' := 255) (L' := [.ref 23, .int v1, .int v2, .int v3, .int v4, .int v5]) (S' := [.ref 23]) (h' := (stI h s2 s1.toNatClampNeg s0)) rfl ?_
  refine Wp.getf (op_ix (by decide) ol_184 147 rfl) (okS HS 23 rfl rfl) (v := .ref 44) (congrArg va_rf (rS HS 23 44 rfl)) rfl ?_
  refine Wp.blk (by decide) ol_184 148 2 (pc' := 261) (L' := [.ref 23, .int v1, .int v2, .int v3, .int v4, .int v5]) (S' := [.ref 23, .int v5, .ref 44]) (h' := (stI h s2 s1.toNatClampNeg s0)) rfl ?_
  refine Wp.getf (op_ix (by decide) ol_184 150 rfl) (okS HS 23 rfl rfl) (v := .ref 44) (congrArg va_rf (rS HS 23 44 rfl)) rfl ?_
  refine Wp.blk (by decide) ol_184 151 1 (pc' := 266) (L' := [.ref 23, .int v1, .int v2, .int v3, .int v4, .int v5]) (S' := [.int v4, .ref 44, .int v5, .ref 44]) (h' := (stI h s2 s1.toNatClampNeg s0)) rfl ?_
  obtain ⟨r4, K⟩ := K
  refine Wp.iald (op_ix (by decide) ol_184 152 rfl) (kS HS 44 rfl) (inS HS 44 rfl r4) rfl ?_
  refine Wp.blk (by decide) ol_184 153 3 (pc' := 270) (L' := [.ref 23, .int v1, .int v2, .int v3, .int v4, .int v5]) (S' := [.ref 23, .int (((AI ((stI h s2 s1.toNatClampNeg s0)) 44 v4.toNatClampNeg)) + v3), .int v5, .ref 44]) (h' := (stI h s2 s1.toNatClampNeg s0)) rfl ?_
  refine Wp.getf (op_ix (by decide) ol_184 156 rfl) (okS HS 23 rfl rfl) (v := .ref 44) (congrArg va_rf (rS HS 23 44 rfl)) rfl ?_
  refine Wp.blk (by decide) ol_184 157 1 (pc' := 275) (L' := [.ref 23, .int v1, .int v2, .int v3, .int v4, .int v5]) (S' := [.int v5, .ref 44, .int (((AI ((stI h s2 s1.toNatClampNeg s0)) 44 v4.toNatClampNeg)) + v3), .int v5, .ref 44]) (h' := (stI h s2 s1.toNatClampNeg s0)) rfl ?_
  obtain ⟨r5, K⟩ := K
  refine Wp.iald (op_ix (by decide) ol_184 158 rfl) (kS HS 44 rfl) (inS HS 44 rfl r5) rfl ?_
  refine Wp.blk (by decide) ol_184 159 1 (pc' := (if (((AI ((stI h s2 s1.toNatClampNeg s0)) 44 v4.toNatClampNeg)) + v3) < (AI ((stI h s2 s1.toNatClampNeg s0)) 44 v5.toNatClampNeg) then 279 else 291)) (L' := [.ref 23, .int v1, .int v2, .int v3, .int v4, .int v5]) (S' := [.int v5, .ref 44]) (h' := (stI h s2 s1.toNatClampNeg s0)) rfl ?_
  refine Wp.br (fun c6 => ?_) (fun c6 => ?_)
  · replace K := K.1 c6
    refine Wp.blk (by decide) ol_184 160 1 (pc' := 280) (L' := [.ref 23, .int v1, .int v2, .int v3, .int v4, .int v5]) (S' := [.ref 23, .int v5, .ref 44]) (h' := (stI h s2 s1.toNatClampNeg s0)) rfl ?_
    refine Wp.getf (op_ix (by decide) ol_184 161 rfl) (okS HS 23 rfl rfl) (v := .ref 44) (congrArg va_rf (rS HS 23 44 rfl)) rfl ?_
    refine Wp.blk (by decide) ol_184 162 1 (pc' := 285) (L' := [.ref 23, .int v1, .int v2, .int v3, .int v4, .int v5]) (S' := [.int v4, .ref 44, .int v5, .ref 44]) (h' := (stI h s2 s1.toNatClampNeg s0)) rfl ?_
    refine Wp.iald (op_ix (by decide) ol_184 163 rfl) (kS HS 44 rfl) (inS HS 44 rfl r4) rfl ?_
    refine Wp.blk (by decide) ol_184 164 3 (pc' := 298) (L' := [.ref 23, .int v1, .int v2, .int v3, .int v4, .int v5]) (S' := [.int (((AI ((stI h s2 s1.toNatClampNeg s0)) 44 v4.toNatClampNeg)) + v3), .int v5, .ref 44]) (h' := (stI h s2 s1.toNatClampNeg s0)) rfl ?_
    refine Wp.iast (op_ix (by decide) ol_184 171 rfl) (by decide) (kS HS 44 rfl) (inS HS 44 rfl r5) rfl ?_
    refine Wp.blk (by decide) ol_184 172 2 (pc' := 64) (L' := [.ref 23, .int v1, .int (v2 + (1 : Int32)), .int v3, .int v4, .int v5]) (S' := []) (h' := (stI ((stI h s2 s1.toNatClampNeg s0)) 44 v5.toNatClampNeg ((((AI ((stI h s2 s1.toNatClampNeg s0)) 44 v4.toNatClampNeg)) + v3)))) rfl ?_
    refine Wp.forget (L := [.ref 23, .int v1, .int (v2 + (1 : Int32)), mk0, mk0, mk0]) (⟨Or.inr rfl, ⟨Or.inr rfl, ⟨Or.inr rfl, ⟨Or.inl rfl, ⟨Or.inl rfl, ⟨Or.inl rfl, trivial⟩⟩⟩⟩⟩⟩) ?_
    exact K
  · replace K := K.2 c6
    refine Wp.blk (by decide) ol_184 167 1 (pc' := 292) (L' := [.ref 23, .int v1, .int v2, .int v3, .int v4, .int v5]) (S' := [.ref 23, .int v5, .ref 44]) (h' := (stI h s2 s1.toNatClampNeg s0)) rfl ?_
    refine Wp.getf (op_ix (by decide) ol_184 168 rfl) (okS HS 23 rfl rfl) (v := .ref 44) (congrArg va_rf (rS HS 23 44 rfl)) rfl ?_
    refine Wp.blk (by decide) ol_184 169 1 (pc' := 297) (L' := [.ref 23, .int v1, .int v2, .int v3, .int v4, .int v5]) (S' := [.int v5, .ref 44, .int v5, .ref 44]) (h' := (stI h s2 s1.toNatClampNeg s0)) rfl ?_
    refine Wp.iald (op_ix (by decide) ol_184 170 rfl) (kS HS 44 rfl) (inS HS 44 rfl r5) rfl ?_
    refine Wp.iast (op_ix (by decide) ol_184 171 rfl) (by decide) (kS HS 44 rfl) (inS HS 44 rfl r5) rfl ?_
    refine Wp.blk (by decide) ol_184 172 2 (pc' := 64) (L' := [.ref 23, .int v1, .int (v2 + (1 : Int32)), .int v3, .int v4, .int v5]) (S' := []) (h' := (stI ((stI h s2 s1.toNatClampNeg s0)) 44 v5.toNatClampNeg ((AI ((stI h s2 s1.toNatClampNeg s0)) 44 v5.toNatClampNeg)))) rfl ?_
    refine Wp.forget (L := [.ref 23, .int v1, .int (v2 + (1 : Int32)), mk0, mk0, mk0]) (⟨Or.inr rfl, ⟨Or.inr rfl, ⟨Or.inr rfl, ⟨Or.inl rfl, ⟨Or.inl rfl, ⟨Or.inl rfl, trivial⟩⟩⟩⟩⟩⟩) ?_
    exact K
/-- CutsOrFastModel.isNear at 0 (I)Z -/
theorem g185_0 (d : Nat) (v1 : Int32) (h : AH) (HS : Sh h)  (Q : Option Value → AH → Prop) (K : (ixR ((AI h 23 3)) 6 ∧ ixR v1 10 ∧ ixR ((AI h 24 v1.toNatClampNeg)) 6 ∧ ixR v1 10 ∧ ixR ((AI h 25 v1.toNatClampNeg)) 6 ∧ (((((((AI h 43 ((AI h 24 v1.toNatClampNeg)).toNatClampNeg)) + ((1 : Int32)))) + ((AI h 44 ((AI h 25 v1.toNatClampNeg)).toNatClampNeg))) = (AI h 43 ((AI h 23 3)).toNatClampNeg) → Wp d 185 44 [.ref 23, .int v1, .int (AI h 43 ((AI h 23 3)).toNatClampNeg), mk0] [.int (1 : Int32)] h Q) ∧ (¬ (((((AI h 43 ((AI h 24 v1.toNatClampNeg)).toNatClampNeg)) + ((1 : Int32)))) + ((AI h 44 ((AI h 25 v1.toNatClampNeg)).toNatClampNeg))) = (AI h 43 ((AI h 23 3)).toNatClampNeg) → Wp d 185 44 [.ref 23, .int v1, .int (AI h 43 ((AI h 23 3)).toNatClampNeg), mk0] [.int (0 : Int32)] h Q)))) : Wp d 185 0 [.ref 23, .int v1, mk0, mk0] [] h Q := by
  refine Wp.blk (by decide) ol_185 0 1 (pc' := 1) (L' := [.ref 23, .int v1, mk0, mk0]) (S' := [.ref 23]) (h' := h) rfl ?_
  refine Wp.getf (op_ix (by decide) ol_185 1 rfl) (okS HS 23 rfl rfl) (v := .ref 43) (congrArg va_rf (rS HS 23 43 rfl)) rfl ?_
  refine Wp.blk (by decide) ol_185 2 1 (pc' := 5) (L' := [.ref 23, .int v1, mk0, mk0]) (S' := [.ref 23, .ref 43]) (h' := h) rfl ?_
  refine Wp.getf (op_ix (by decide) ol_185 3 rfl) (okS HS 23 rfl rfl) (v := .int (AI h 23 3)) rfl rfl ?_
  obtain ⟨r1, K⟩ := K
  refine Wp.iald (op_ix (by decide) ol_185 4 rfl) (kS HS 43 rfl) (inS HS 43 rfl r1) rfl ?_
  refine Wp.blk (by decide) ol_185 5 2 (pc' := 11) (L' := [.ref 23, .int v1, .int (AI h 43 ((AI h 23 3)).toNatClampNeg), mk0]) (S' := [.ref 23]) (h' := h) rfl ?_
  refine Wp.getf (op_ix (by decide) ol_185 7 rfl) (okS HS 23 rfl rfl) (v := .ref 43) (congrArg va_rf (rS HS 23 43 rfl)) rfl ?_
  refine Wp.blk (by decide) ol_185 8 1 (pc' := 15) (L' := [.ref 23, .int v1, .int (AI h 43 ((AI h 23 3)).toNatClampNeg), mk0]) (S' := [.ref 23, .ref 43]) (h' := h) rfl ?_
  refine Wp.getf (op_ix (by decide) ol_185 9 rfl) (okS HS 23 rfl rfl) (v := .ref 24) (congrArg va_rf (rS HS 23 4 rfl)) rfl ?_
  refine Wp.blk (by decide) ol_185 10 1 (pc' := 19) (L' := [.ref 23, .int v1, .int (AI h 43 ((AI h 23 3)).toNatClampNeg), mk0]) (S' := [.int v1, .ref 24, .ref 43]) (h' := h) rfl ?_
  obtain ⟨r2, K⟩ := K
  refine Wp.iald (op_ix (by decide) ol_185 11 rfl) (kS HS 24 rfl) (inS HS 24 rfl r2) rfl ?_
  obtain ⟨r3, K⟩ := K
  refine Wp.iald (op_ix (by decide) ol_185 12 rfl) (kS HS 43 rfl) (inS HS 43 rfl r3) rfl ?_
  refine Wp.blk (by decide) ol_185 13 3 (pc' := 24) (L' := [.ref 23, .int v1, .int (AI h 43 ((AI h 23 3)).toNatClampNeg), mk0]) (S' := [.ref 23, .int (((AI h 43 ((AI h 24 v1.toNatClampNeg)).toNatClampNeg)) + ((1 : Int32)))]) (h' := h) rfl ?_
  refine Wp.getf (op_ix (by decide) ol_185 16 rfl) (okS HS 23 rfl rfl) (v := .ref 44) (congrArg va_rf (rS HS 23 44 rfl)) rfl ?_
  refine Wp.blk (by decide) ol_185 17 1 (pc' := 28) (L' := [.ref 23, .int v1, .int (AI h 43 ((AI h 23 3)).toNatClampNeg), mk0]) (S' := [.ref 23, .ref 44, .int (((AI h 43 ((AI h 24 v1.toNatClampNeg)).toNatClampNeg)) + ((1 : Int32)))]) (h' := h) rfl ?_
  refine Wp.getf (op_ix (by decide) ol_185 18 rfl) (okS HS 23 rfl rfl) (v := .ref 25) (congrArg va_rf (rS HS 23 5 rfl)) rfl ?_
  refine Wp.blk (by decide) ol_185 19 1 (pc' := 32) (L' := [.ref 23, .int v1, .int (AI h 43 ((AI h 23 3)).toNatClampNeg), mk0]) (S' := [.int v1, .ref 25, .ref 44, .int (((AI h 43 ((AI h 24 v1.toNatClampNeg)).toNatClampNeg)) + ((1 : Int32)))]) (h' := h) rfl ?_
  obtain ⟨r4, K⟩ := K
  refine Wp.iald (op_ix (by decide) ol_185 20 rfl) (kS HS 25 rfl) (inS HS 25 rfl r4) rfl ?_
  obtain ⟨r5, K⟩ := K
  refine Wp.iald (op_ix (by decide) ol_185 21 rfl) (kS HS 44 rfl) (inS HS 44 rfl r5) rfl ?_
  refine Wp.blk (by decide) ol_185 22 3 (pc' := (if (((((AI h 43 ((AI h 24 v1.toNatClampNeg)).toNatClampNeg)) + ((1 : Int32)))) + ((AI h 44 ((AI h 25 v1.toNatClampNeg)).toNatClampNeg))) = (AI h 43 ((AI h 23 3)).toNatClampNeg) then 39 else 43)) (L' := [.ref 23, .int v1, .int (AI h 43 ((AI h 23 3)).toNatClampNeg), mk0]) (S' := []) (h' := h) rfl ?_
  refine Wp.br (fun c6 => ?_) (fun c6 => ?_)
  · replace K := K.1 c6
    refine Wp.blk (by decide) ol_185 25 2 (pc' := 44) (L' := [.ref 23, .int v1, .int (AI h 43 ((AI h 23 3)).toNatClampNeg), mk0]) (S' := [.int (1 : Int32)]) (h' := h) rfl ?_
    exact K
  · replace K := K.2 c6
    refine Wp.blk (by decide) ol_185 27 1 (pc' := 44) (L' := [.ref 23, .int v1, .int (AI h 43 ((AI h 23 3)).toNatClampNeg), mk0]) (S' := [.int (0 : Int32)]) (h' := h) rfl ?_
    exact K
/-- CutsOrFastModel.isNear at 44 -/
theorem g185_44 (d : Nat) (v1 : Int32) (v2 : Int32) (s0 : Int32) (h : AH) (HS : Sh h)  (Q : Option Value → AH → Prop) (K : (ixR v1 10 ∧ (((AI h 26 v1.toNatClampNeg) = (0 : Int32) → ((s0 = (0 : Int32) → (ixR v1 10 ∧ ixR ((AI h 25 v1.toNatClampNeg)) 6 ∧ ixR v1 10 ∧ ixR ((AI h 24 v1.toNatClampNeg)) 6 ∧ (((((((AI h 43 ((AI h 25 v1.toNatClampNeg)).toNatClampNeg)) + ((1 : Int32)))) + ((AI h 44 ((AI h 24 v1.toNatClampNeg)).toNatClampNeg))) = v2 → Q (some (.int (1 : Int32))) h) ∧ (¬ (((((AI h 43 ((AI h 25 v1.toNatClampNeg)).toNatClampNeg)) + ((1 : Int32)))) + ((AI h 44 ((AI h 24 v1.toNatClampNeg)).toNatClampNeg))) = v2 → Q (some (.int (0 : Int32))) h)))) ∧ (¬ s0 = (0 : Int32) → Q (some (.int (1 : Int32))) h))) ∧ (¬ (AI h 26 v1.toNatClampNeg) = (0 : Int32) → Q (some (.int (0 : Int32))) h)))) : Wp d 185 44 [.ref 23, .int v1, .int v2, mk0] [.int s0] h Q := by
  refine Wp.blk (by decide) ol_185 28 2 (pc' := 46) (L' := [.ref 23, .int v1, .int v2, .int s0]) (S' := [.ref 23]) (h' := h) rfl ?_
  refine Wp.getf (op_ix (by decide) ol_185 30 rfl) (okS HS 23 rfl rfl) (v := .ref 26) (congrArg va_rf (rS HS 23 6 rfl)) rfl ?_
  refine Wp.blk (by decide) ol_185 31 1 (pc' := 50) (L' := [.ref 23, .int v1, .int v2, .int s0]) (S' := [.int v1, .ref 26]) (h' := h) rfl ?_
  obtain ⟨r1, K⟩ := K
  refine Wp.iald (op_ix (by decide) ol_185 32 rfl) (kS HS 26 rfl) (inS HS 26 rfl r1) rfl ?_
  refine Wp.blk (by decide) ol_185 33 1 (pc' := (if (AI h 26 v1.toNatClampNeg) = (0 : Int32) then 54 else 91)) (L' := [.ref 23, .int v1, .int v2, .int s0]) (S' := []) (h' := h) rfl ?_
  refine Wp.br (fun c2 => ?_) (fun c2 => ?_)
  · replace K := K.1 c2
    refine Wp.blk (by decide) ol_185 34 2 (pc' := (if s0 = (0 : Int32) then 58 else 87)) (L' := [.ref 23, .int v1, .int v2, .int s0]) (S' := []) (h' := h) rfl ?_
    refine Wp.br (fun c3 => ?_) (fun c3 => ?_)
    · replace K := K.1 c3
      refine Wp.blk (by decide) ol_185 36 1 (pc' := 59) (L' := [.ref 23, .int v1, .int v2, .int s0]) (S' := [.ref 23]) (h' := h) rfl ?_
      refine Wp.getf (op_ix (by decide) ol_185 37 rfl) (okS HS 23 rfl rfl) (v := .ref 43) (congrArg va_rf (rS HS 23 43 rfl)) rfl ?_
      refine Wp.blk (by decide) ol_185 38 1 (pc' := 63) (L' := [.ref 23, .int v1, .int v2, .int s0]) (S' := [.ref 23, .ref 43]) (h' := h) rfl ?_
      refine Wp.getf (op_ix (by decide) ol_185 39 rfl) (okS HS 23 rfl rfl) (v := .ref 25) (congrArg va_rf (rS HS 23 5 rfl)) rfl ?_
      refine Wp.blk (by decide) ol_185 40 1 (pc' := 67) (L' := [.ref 23, .int v1, .int v2, .int s0]) (S' := [.int v1, .ref 25, .ref 43]) (h' := h) rfl ?_
      obtain ⟨r4, K⟩ := K
      refine Wp.iald (op_ix (by decide) ol_185 41 rfl) (kS HS 25 rfl) (inS HS 25 rfl r4) rfl ?_
      obtain ⟨r5, K⟩ := K
      refine Wp.iald (op_ix (by decide) ol_185 42 rfl) (kS HS 43 rfl) (inS HS 43 rfl r5) rfl ?_
      refine Wp.blk (by decide) ol_185 43 3 (pc' := 72) (L' := [.ref 23, .int v1, .int v2, .int s0]) (S' := [.ref 23, .int (((AI h 43 ((AI h 25 v1.toNatClampNeg)).toNatClampNeg)) + ((1 : Int32)))]) (h' := h) rfl ?_
      refine Wp.getf (op_ix (by decide) ol_185 46 rfl) (okS HS 23 rfl rfl) (v := .ref 44) (congrArg va_rf (rS HS 23 44 rfl)) rfl ?_
      refine Wp.blk (by decide) ol_185 47 1 (pc' := 76) (L' := [.ref 23, .int v1, .int v2, .int s0]) (S' := [.ref 23, .ref 44, .int (((AI h 43 ((AI h 25 v1.toNatClampNeg)).toNatClampNeg)) + ((1 : Int32)))]) (h' := h) rfl ?_
      refine Wp.getf (op_ix (by decide) ol_185 48 rfl) (okS HS 23 rfl rfl) (v := .ref 24) (congrArg va_rf (rS HS 23 4 rfl)) rfl ?_
      refine Wp.blk (by decide) ol_185 49 1 (pc' := 80) (L' := [.ref 23, .int v1, .int v2, .int s0]) (S' := [.int v1, .ref 24, .ref 44, .int (((AI h 43 ((AI h 25 v1.toNatClampNeg)).toNatClampNeg)) + ((1 : Int32)))]) (h' := h) rfl ?_
      obtain ⟨r6, K⟩ := K
      refine Wp.iald (op_ix (by decide) ol_185 50 rfl) (kS HS 24 rfl) (inS HS 24 rfl r6) rfl ?_
      obtain ⟨r7, K⟩ := K
      refine Wp.iald (op_ix (by decide) ol_185 51 rfl) (kS HS 44 rfl) (inS HS 44 rfl r7) rfl ?_
      refine Wp.blk (by decide) ol_185 52 3 (pc' := (if (((((AI h 43 ((AI h 25 v1.toNatClampNeg)).toNatClampNeg)) + ((1 : Int32)))) + ((AI h 44 ((AI h 24 v1.toNatClampNeg)).toNatClampNeg))) = v2 then 87 else 91)) (L' := [.ref 23, .int v1, .int v2, .int s0]) (S' := []) (h' := h) rfl ?_
      refine Wp.br (fun c8 => ?_) (fun c8 => ?_)
      · replace K := K.1 c8
        refine Wp.blk (by decide) ol_185 55 2 (pc' := 92) (L' := [.ref 23, .int v1, .int v2, .int s0]) (S' := [.int (1 : Int32)]) (h' := h) rfl ?_
        exact Wp.ret (op_ix (by decide) ol_185 58 rfl) rfl K
      · replace K := K.2 c8
        refine Wp.blk (by decide) ol_185 57 1 (pc' := 92) (L' := [.ref 23, .int v1, .int v2, .int s0]) (S' := [.int (0 : Int32)]) (h' := h) rfl ?_
        exact Wp.ret (op_ix (by decide) ol_185 58 rfl) rfl K
    · replace K := K.2 c3
      refine Wp.blk (by decide) ol_185 55 2 (pc' := 92) (L' := [.ref 23, .int v1, .int v2, .int s0]) (S' := [.int (1 : Int32)]) (h' := h) rfl ?_
      exact Wp.ret (op_ix (by decide) ol_185 58 rfl) rfl K
  · replace K := K.2 c2
    refine Wp.blk (by decide) ol_185 57 1 (pc' := 92) (L' := [.ref 23, .int v1, .int v2, .int s0]) (S' := [.int (0 : Int32)]) (h' := h) rfl ?_
    exact Wp.ret (op_ix (by decide) ol_185 58 rfl) rfl K
/-- CutsOrFastModel.nearest at 0 (Z)I -/
theorem g186_0 (d : Nat) (v1 : Int32) (h : AH) (HS : Sh h)  (Q : Option Value → AH → Prop) (K : (Cl d 184 [.ref 23] h (fun r h1 => r = none ∧ Sh h1 ∧ Wp (d + 1) 186 8 [.ref 23, .int v1, .int (-1 : Int32), .int (0 : Int32), mk0] [] h1 Q))) : Wp (d + 1) 186 0 [.ref 23, .int v1, mk0, mk0, mk0] [] h Q := by
  refine Wp.blk (by decide) ol_186 0 1 (pc' := 1) (L' := [.ref 23, .int v1, mk0, mk0, mk0]) (S' := [.ref 23]) (h' := h) rfl ?_
  refine Wp.callV (op_ix (by decide) ol_186 1 rfl) (act_virt (c2 := 0) rfl (lk1 (kS HS 23 rfl)) rfl) rfl (K.mono ?_)
  rintro _ h1 ⟨rfl, hs2, K⟩
  refine ⟨rfl, ?_⟩
  refine Wp.blk (by decide) ol_186 2 4 (pc' := 8) (L' := [.ref 23, .int v1, .int (-1 : Int32), .int (0 : Int32), mk0]) (S' := []) (h' := h1) rfl ?_
  exact K
/-- CutsOrFastModel.nearest at 8 -/
theorem g186_8 (d : Nat) (v1 : Int32) (v2 : Int32) (v3 : Int32) (h : AH) (HS : Sh h)  (Q : Option Value → AH → Prop) (K : ((v3 < (AI h 23 0) → ((v2 = (-1 : Int32) → Wp d 186 45 [.ref 23, .int v1, .int v2, .int v3, mk0] [.int (1 : Int32)] h Q) ∧ (¬ v2 = (-1 : Int32) → ((v1 = (0 : Int32) → Wp d 186 45 [.ref 23, .int v1, .int v2, .int v3, mk0] [.int (0 : Int32)] h Q) ∧ (¬ v1 = (0 : Int32) → (ixR v3 10 ∧ ixR v2 10 ∧ (((AI h 27 v2.toNatClampNeg) < (AI h 27 v3.toNatClampNeg) → Wp d 186 45 [.ref 23, .int v1, .int v2, .int v3, mk0] [.int (1 : Int32)] h Q) ∧ (¬ (AI h 27 v2.toNatClampNeg) < (AI h 27 v3.toNatClampNeg) → Wp d 186 45 [.ref 23, .int v1, .int v2, .int v3, mk0] [.int (0 : Int32)] h Q)))))))) ∧ (¬ v3 < (AI h 23 0) → Q (some (.int v2)) h))) : Wp d 186 8 [.ref 23, .int v1, .int v2, .int v3, mk0] [] h Q := by
  refine Wp.blk (by decide) ol_186 6 2 (pc' := 10) (L' := [.ref 23, .int v1, .int v2, .int v3, mk0]) (S' := [.ref 23, .int v3]) (h' := h) rfl ?_
  refine Wp.getf (op_ix (by decide) ol_186 8 rfl) (okS HS 23 rfl rfl) (v := .int (AI h 23 0)) rfl rfl ?_
  refine Wp.blk (by decide) ol_186 9 1 (pc' := (if v3 < (AI h 23 0) then 16 else 72)) (L' := [.ref 23, .int v1, .int v2, .int v3, mk0]) (S' := []) (h' := h) rfl ?_
  refine Wp.br (fun c1 => ?_) (fun c1 => ?_)
  · replace K := K.1 c1
    refine Wp.blk (by decide) ol_186 10 3 (pc' := (if v2 = (-1 : Int32) then 40 else 21)) (L' := [.ref 23, .int v1, .int v2, .int v3, mk0]) (S' := []) (h' := h) rfl ?_
    refine Wp.br (fun c2 => ?_) (fun c2 => ?_)
    · replace K := K.1 c2
      refine Wp.blk (by decide) ol_186 24 2 (pc' := 45) (L' := [.ref 23, .int v1, .int v2, .int v3, mk0]) (S' := [.int (1 : Int32)]) (h' := h) rfl ?_
      exact K
    · replace K := K.2 c2
      refine Wp.blk (by decide) ol_186 13 2 (pc' := (if v1 = (0 : Int32) then 44 else 25)) (L' := [.ref 23, .int v1, .int v2, .int v3, mk0]) (S' := []) (h' := h) rfl ?_
      refine Wp.br (fun c3 => ?_) (fun c3 => ?_)
      · replace K := K.1 c3
        refine Wp.blk (by decide) ol_186 26 1 (pc' := 45) (L' := [.ref 23, .int v1, .int v2, .int v3, mk0]) (S' := [.int (0 : Int32)]) (h' := h) rfl ?_
        exact K
      · replace K := K.2 c3
        refine Wp.blk (by decide) ol_186 15 1 (pc' := 26) (L' := [.ref 23, .int v1, .int v2, .int v3, mk0]) (S' := [.ref 23]) (h' := h) rfl ?_
        refine Wp.getf (op_ix (by decide) ol_186 16 rfl) (okS HS 23 rfl rfl) (v := .ref 27) (congrArg va_rf (rS HS 23 7 rfl)) rfl ?_
        refine Wp.blk (by decide) ol_186 17 1 (pc' := 30) (L' := [.ref 23, .int v1, .int v2, .int v3, mk0]) (S' := [.int v3, .ref 27]) (h' := h) rfl ?_
        obtain ⟨r4, K⟩ := K
        refine Wp.iald (op_ix (by decide) ol_186 18 rfl) (kS HS 27 rfl) (inS HS 27 rfl r4) rfl ?_
        refine Wp.blk (by decide) ol_186 19 1 (pc' := 32) (L' := [.ref 23, .int v1, .int v2, .int v3, mk0]) (S' := [.ref 23, .int (AI h 27 v3.toNatClampNeg)]) (h' := h) rfl ?_
        refine Wp.getf (op_ix (by decide) ol_186 20 rfl) (okS HS 23 rfl rfl) (v := .ref 27) (congrArg va_rf (rS HS 23 7 rfl)) rfl ?_
        refine Wp.blk (by decide) ol_186 21 1 (pc' := 36) (L' := [.ref 23, .int v1, .int v2, .int v3, mk0]) (S' := [.int v2, .ref 27, .int (AI h 27 v3.toNatClampNeg)]) (h' := h) rfl ?_
        obtain ⟨r5, K⟩ := K
        refine Wp.iald (op_ix (by decide) ol_186 22 rfl) (kS HS 27 rfl) (inS HS 27 rfl r5) rfl ?_
        refine Wp.blk (by decide) ol_186 23 1 (pc' := (if (AI h 27 v2.toNatClampNeg) < (AI h 27 v3.toNatClampNeg) then 40 else 44)) (L' := [.ref 23, .int v1, .int v2, .int v3, mk0]) (S' := []) (h' := h) rfl ?_
        refine Wp.br (fun c6 => ?_) (fun c6 => ?_)
        · replace K := K.1 c6
          refine Wp.blk (by decide) ol_186 24 2 (pc' := 45) (L' := [.ref 23, .int v1, .int v2, .int v3, mk0]) (S' := [.int (1 : Int32)]) (h' := h) rfl ?_
          exact K
        · replace K := K.2 c6
          refine Wp.blk (by decide) ol_186 26 1 (pc' := 45) (L' := [.ref 23, .int v1, .int v2, .int v3, mk0]) (S' := [.int (0 : Int32)]) (h' := h) rfl ?_
          exact K
  · replace K := K.2 c1
    refine Wp.blk (by decide) ol_186 40 1 (pc' := 73) (L' := [.ref 23, .int v1, .int v2, .int v3, mk0]) (S' := [.int v2]) (h' := h) rfl ?_
    exact Wp.ret (op_ix (by decide) ol_186 41 rfl) rfl K
/-- CutsOrFastModel.nearest at 45 -/
theorem g186_45 (d : Nat) (v1 : Int32) (v2 : Int32) (v3 : Int32) (s0 : Int32) (h : AH) (HS : Sh h)  (Q : Option Value → AH → Prop) (K : (Cl d 185 [.ref 23, .int v3] h (fun r h1 => ∃ x3 : Int32, r = some (.int x3) ∧ Sh h1 ∧ ((x3 = (0 : Int32) → Wp (d + 1) 186 8 [.ref 23, .int v1, .int v2, .int (v3 + (1 : Int32)), mk0] [] h1 Q) ∧ (¬ x3 = (0 : Int32) → ((s0 = (0 : Int32) → Wp (d + 1) 186 8 [.ref 23, .int v1, .int v2, .int (v3 + (1 : Int32)), mk0] [] h1 Q) ∧ (¬ s0 = (0 : Int32) → Wp (d + 1) 186 8 [.ref 23, .int v1, .int v3, .int (v3 + (1 : Int32)), mk0] [] h1 Q))))))) : Wp (d + 1) 186 45 [.ref 23, .int v1, .int v2, .int v3, mk0] [.int s0] h Q := by
  refine Wp.blk (by decide) ol_186 27 3 (pc' := 49) (L' := [.ref 23, .int v1, .int v2, .int v3, .int s0]) (S' := [.int v3, .ref 23]) (h' := h) rfl ?_
  refine Wp.callI (op_ix (by decide) ol_186 30 rfl) (act_virt (c2 := 1) rfl (lk1 (kS HS 23 rfl)) rfl) rfl (K.mono ?_)
  rintro _ h1 ⟨x3, rfl, hs2, K⟩
  refine ⟨x3, rfl, ?_⟩
  refine Wp.blk (by decide) ol_186 31 1 (pc' := (if x3 = (0 : Int32) then 64 else 55)) (L' := [.ref 23, .int v1, .int v2, .int v3, .int s0]) (S' := []) (h' := h1) rfl ?_
  refine Wp.br (fun c4 => ?_) (fun c4 => ?_)
  · replace K := K.1 c4
    refine Wp.blk (by decide) ol_186 36 4 (pc' := 8) (L' := [.ref 23, .int v1, .int v2, .int (v3 + (1 : Int32)), .int s0]) (S' := []) (h' := h1) rfl ?_
    refine Wp.forget (L := [.ref 23, .int v1, .int v2, .int (v3 + (1 : Int32)), mk0]) (⟨Or.inr rfl, ⟨Or.inr rfl, ⟨Or.inr rfl, ⟨Or.inr rfl, ⟨Or.inl rfl, trivial⟩⟩⟩⟩⟩) ?_
    exact K
  · replace K := K.2 c4
    refine Wp.blk (by decide) ol_186 32 2 (pc' := (if s0 = (0 : Int32) then 64 else 60)) (L' := [.ref 23, .int v1, .int v2, .int v3, .int s0]) (S' := []) (h' := h1) rfl ?_
    refine Wp.br (fun c5 => ?_) (fun c5 => ?_)
    · replace K := K.1 c5
      refine Wp.blk (by decide) ol_186 36 4 (pc' := 8) (L' := [.ref 23, .int v1, .int v2, .int (v3 + (1 : Int32)), .int s0]) (S' := []) (h' := h1) rfl ?_
      refine Wp.forget (L := [.ref 23, .int v1, .int v2, .int (v3 + (1 : Int32)), mk0]) (⟨Or.inr rfl, ⟨Or.inr rfl, ⟨Or.inr rfl, ⟨Or.inr rfl, ⟨Or.inl rfl, trivial⟩⟩⟩⟩⟩) ?_
      exact K
    · replace K := K.2 c5
      refine Wp.blk (by decide) ol_186 34 2 (pc' := 65) (L' := [.ref 23, .int v1, .int v2, .int v3, .int s0]) (S' := [.int v3]) (h' := h1) rfl ?_
      refine Wp.blk (by decide) ol_186 37 3 (pc' := 8) (L' := [.ref 23, .int v1, .int v3, .int (v3 + (1 : Int32)), .int s0]) (S' := []) (h' := h1) rfl ?_
      refine Wp.forget (L := [.ref 23, .int v1, .int v3, .int (v3 + (1 : Int32)), mk0]) (⟨Or.inr rfl, ⟨Or.inr rfl, ⟨Or.inr rfl, ⟨Or.inr rfl, ⟨Or.inl rfl, trivial⟩⟩⟩⟩⟩) ?_
      exact K
/-- CutsOrFastModel.openMany at 0 ()I -/
theorem g187_0 (d : Nat)  (h : AH) (HS : Sh h)  (Q : Option Value → AH → Prop) (K : (Cl d 143 [.ref 23, .int (0 : Int32)] h (fun r h1 => ∃ x3 : Int32, r = some (.int x3) ∧ Sh h1 ∧ (Cl d 165 [.int x3] h1 (fun r h4 => ∃ x6 : Int32, r = some (.int x6) ∧ Sh h4 ∧ Q (some (.int x6)) h4))))) : Wp (d + 1) 187 0 [.ref 23] [] h Q := by
  refine Wp.blk (by decide) ol_187 0 2 (pc' := 2) (L' := [.ref 23]) (S' := [.int (0 : Int32), .ref 23]) (h' := h) rfl ?_
  refine Wp.callI (op_ix (by decide) ol_187 2 rfl) (act_virt (c2 := 1) rfl (lk1 (kS HS 23 rfl)) rfl) rfl (K.mono ?_)
  rintro _ h1 ⟨x3, rfl, hs2, K⟩
  refine ⟨x3, rfl, ?_⟩
  refine Wp.callI (op_ix (by decide) ol_187 3 rfl) rfl rfl (K.mono ?_)
  rintro _ h4 ⟨x6, rfl, hs5, K⟩
  refine ⟨x6, rfl, ?_⟩
  exact Wp.ret (op_ix (by decide) ol_187 4 rfl) rfl K
/-- CutsOrFastModel.takes at 0 (II)I -/
theorem g188_0 (d : Nat) (v1 : Int32) (v2 : Int32) (h : AH) (HS : Sh h)  (Q : Option Value → AH → Prop) (K : (ixR v1 5 ∧ (((AI h 29 v1.toNatClampNeg) = Int32.ofNat 1 → (Cl (d + 1) 154 [.ref 23, .int v2] h (fun r h3 => ∃ x5 : Int32, r = some (.int x5) ∧ Sh h3 ∧ ((x5 = (-1 : Int32) → (Cl (d + 1) 183 [.ref 23, .int (0 : Int32)] h3 (fun r h7 => ∃ x9 : Int32, r = some (.int x9) ∧ Sh h7 ∧ Q (some (.int x9)) h7))) ∧ (¬ x5 = (-1 : Int32) → Q (some (.int x5)) h3))))) ∧ (¬ (AI h 29 v1.toNatClampNeg) = Int32.ofNat 1 → (((AI h 29 v1.toNatClampNeg) = Int32.ofNat 2 → (Cl (d + 1) 186 [.ref 23, .int (0 : Int32)] h (fun r h11 => ∃ x13 : Int32, r = some (.int x13) ∧ Sh h11 ∧ Q (some (.int x13)) h11))) ∧ (¬ (AI h 29 v1.toNatClampNeg) = Int32.ofNat 2 → (((AI h 29 v1.toNatClampNeg) = Int32.ofNat 3 → (Cl (d + 1) 186 [.ref 23, .int (1 : Int32)] h (fun r h15 => ∃ x17 : Int32, r = some (.int x17) ∧ Sh h15 ∧ Q (some (.int x17)) h15))) ∧ (¬ (AI h 29 v1.toNatClampNeg) = Int32.ofNat 3 → (((AI h 29 v1.toNatClampNeg) = Int32.ofNat 4 → (Cl d 143 [.ref 23, .int (0 : Int32)] h (fun r h19 => ∃ x21 : Int32, r = some (.int x21) ∧ Sh h19 ∧ (Cl d 165 [.int x21] h19 (fun r h22 => ∃ x24 : Int32, r = some (.int x24) ∧ Sh h22 ∧ (Cl (d + 1) 182 [.ref 23, .int x24] h22 (fun r h25 => ∃ x27 : Int32, r = some (.int x27) ∧ Sh h25 ∧ (Cl (d + 1) 183 [.ref 23, .int x27] h25 (fun r h28 => ∃ x30 : Int32, r = some (.int x30) ∧ Sh h28 ∧ Q (some (.int x30)) h28))))))))) ∧ (¬ (AI h 29 v1.toNatClampNeg) = Int32.ofNat 4 → (Cl (d + 1) 183 [.ref 23, .int (0 : Int32)] h (fun r h31 => ∃ x33 : Int32, r = some (.int x33) ∧ Sh h31 ∧ Q (some (.int x33)) h31)))))))))))) : Wp (d + 2) 188 0 [.ref 23, .int v1, .int v2, mk0] [] h Q := by
  refine Wp.blk (by decide) ol_188 0 1 (pc' := 1) (L' := [.ref 23, .int v1, .int v2, mk0]) (S' := [.ref 23]) (h' := h) rfl ?_
  refine Wp.getf (op_ix (by decide) ol_188 1 rfl) (okS HS 23 rfl rfl) (v := .ref 29) (congrArg va_rf (rS HS 23 12 rfl)) rfl ?_
  refine Wp.blk (by decide) ol_188 2 1 (pc' := 5) (L' := [.ref 23, .int v1, .int v2, mk0]) (S' := [.int v1, .ref 29]) (h' := h) rfl ?_
  obtain ⟨r1, K⟩ := K
  refine Wp.iald (op_ix (by decide) ol_188 3 rfl) (kS HS 29 rfl) (inS HS 29 rfl r1) rfl ?_
  refine Wp.blk (by decide) ol_188 4 1 (pc' := (tsw ((AI h 29 v1.toNatClampNeg)) [(1, 36), (2, 57), (3, 63), (4, 69)] 82)) (L' := [.ref 23, .int v1, .int v2, mk0]) (S' := []) (h' := h) rfl ?_
  refine Wp.tsw (fun c2 => ?_) (fun c2 => ?_)
  · replace K := K.1 c2
    refine Wp.blk (by decide) ol_188 5 2 (pc' := 38) (L' := [.ref 23, .int v1, .int v2, mk0]) (S' := [.int v2, .ref 23]) (h' := h) rfl ?_
    refine Wp.callI (op_ix (by decide) ol_188 7 rfl) (act_virt (c2 := 1) rfl (lk1 (kS HS 23 rfl)) rfl) rfl (K.mono ?_)
    rintro _ h3 ⟨x5, rfl, hs4, K⟩
    refine ⟨x5, rfl, ?_⟩
    refine Wp.blk (by decide) ol_188 8 4 (pc' := (if x5 = (-1 : Int32) then 47 else 55)) (L' := [.ref 23, .int v1, .int v2, .int x5]) (S' := []) (h' := h3) rfl ?_
    refine Wp.br (fun c6 => ?_) (fun c6 => ?_)
    · replace K := K.1 c6
      refine Wp.blk (by decide) ol_188 12 2 (pc' := 49) (L' := [.ref 23, .int v1, .int v2, .int x5]) (S' := [.int (0 : Int32), .ref 23]) (h' := h3) rfl ?_
      refine Wp.callI (op_ix (by decide) ol_188 14 rfl) (act_virt (c2 := 1) rfl (lk1 (kS hs4 23 rfl)) rfl) rfl (K.mono ?_)
      rintro _ h7 ⟨x9, rfl, hs8, K⟩
      refine ⟨x9, rfl, ?_⟩
      refine Wp.blk (by decide) ol_188 15 1 (pc' := 56) (L' := [.ref 23, .int v1, .int v2, .int x5]) (S' := [.int x9]) (h' := h7) rfl ?_
      exact Wp.ret (op_ix (by decide) ol_188 17 rfl) rfl K
    · replace K := K.2 c6
      refine Wp.blk (by decide) ol_188 16 1 (pc' := 56) (L' := [.ref 23, .int v1, .int v2, .int x5]) (S' := [.int x5]) (h' := h3) rfl ?_
      exact Wp.ret (op_ix (by decide) ol_188 17 rfl) rfl K
  replace K := K.2 c2
  refine Wp.tsw (fun c10 => ?_) (fun c10 => ?_)
  · replace K := K.1 c10
    refine Wp.blk (by decide) ol_188 18 2 (pc' := 59) (L' := [.ref 23, .int v1, .int v2, mk0]) (S' := [.int (0 : Int32), .ref 23]) (h' := h) rfl ?_
    refine Wp.callI (op_ix (by decide) ol_188 20 rfl) (act_virt (c2 := 1) rfl (lk1 (kS HS 23 rfl)) rfl) rfl (K.mono ?_)
    rintro _ h11 ⟨x13, rfl, hs12, K⟩
    refine ⟨x13, rfl, ?_⟩
    exact Wp.ret (op_ix (by decide) ol_188 21 rfl) rfl K
  replace K := K.2 c10
  refine Wp.tsw (fun c14 => ?_) (fun c14 => ?_)
  · replace K := K.1 c14
    refine Wp.blk (by decide) ol_188 22 2 (pc' := 65) (L' := [.ref 23, .int v1, .int v2, mk0]) (S' := [.int (1 : Int32), .ref 23]) (h' := h) rfl ?_
    refine Wp.callI (op_ix (by decide) ol_188 24 rfl) (act_virt (c2 := 1) rfl (lk1 (kS HS 23 rfl)) rfl) rfl (K.mono ?_)
    rintro _ h15 ⟨x17, rfl, hs16, K⟩
    refine ⟨x17, rfl, ?_⟩
    exact Wp.ret (op_ix (by decide) ol_188 25 rfl) rfl K
  replace K := K.2 c14
  refine Wp.tsw (fun c18 => ?_) (fun c18 => ?_)
  · replace K := K.1 c18
    refine Wp.blk (by decide) ol_188 26 3 (pc' := 72) (L' := [.ref 23, .int v1, .int v2, mk0]) (S' := [.ref 23, .ref 23, .ref 23]) (h' := h) rfl ?_
    refine Wp.callI (op_ix (by decide) ol_188 29 rfl) (act_virt (c2 := 0) rfl (lk1 (kS HS 23 rfl)) rfl) rfl (Cl.enter (L := [.ref 23]) rfl ?_)
    refine Wp.blk (by decide) ol_187 0 2 (pc' := 2) (L' := [.ref 23]) (S' := [.int (0 : Int32), .ref 23]) (h' := h) rfl ?_
    refine Wp.callI (op_ix (by decide) ol_187 2 rfl) (act_virt (c2 := 1) rfl (lk1 (kS HS 23 rfl)) rfl) rfl (K.mono ?_)
    rintro _ h19 ⟨x21, rfl, hs20, K⟩
    refine ⟨x21, rfl, ?_⟩
    refine Wp.callI (op_ix (by decide) ol_187 3 rfl) rfl rfl (K.mono ?_)
    rintro _ h22 ⟨x24, rfl, hs23, K⟩
    refine ⟨x24, rfl, ?_⟩
    refine Wp.ret (op_ix (by decide) ol_187 4 rfl) rfl ⟨_, rfl, ?_⟩
    refine Wp.callI (op_ix (by decide) ol_188 30 rfl) (act_virt (c2 := 1) rfl (lk1 (kS hs23 23 rfl)) rfl) rfl (K.mono ?_)
    rintro _ h25 ⟨x27, rfl, hs26, K⟩
    refine ⟨x27, rfl, ?_⟩
    refine Wp.callI (op_ix (by decide) ol_188 31 rfl) (act_virt (c2 := 1) rfl (lk1 (kS hs26 23 rfl)) rfl) rfl (K.mono ?_)
    rintro _ h28 ⟨x30, rfl, hs29, K⟩
    refine ⟨x30, rfl, ?_⟩
    exact Wp.ret (op_ix (by decide) ol_188 32 rfl) rfl K
  replace K := K.2 c18
  unfold tsw
  refine Wp.blk (by decide) ol_188 33 2 (pc' := 84) (L' := [.ref 23, .int v1, .int v2, mk0]) (S' := [.int (0 : Int32), .ref 23]) (h' := h) rfl ?_
  refine Wp.callI (op_ix (by decide) ol_188 35 rfl) (act_virt (c2 := 1) rfl (lk1 (kS HS 23 rfl)) rfl) rfl (K.mono ?_)
  rintro _ h31 ⟨x33, rfl, hs32, K⟩
  refine ⟨x33, rfl, ?_⟩
  exact Wp.ret (op_ix (by decide) ol_188 36 rfl) rfl K
/-- CutsOrFastModel.move at 0 (II)I -/
theorem g189_0 (d : Nat) (v1 : Int32) (v2 : Int32) (h : AH) (HS : Sh h)  (Q : Option Value → AH → Prop) (K : ((v1 < (0 : Int32) → Q (some (.int (-101 : Int32))) h) ∧ (¬ v1 < (0 : Int32) → (((((AI h 23 11)) - ((1 : Int32))) < v1 → Q (some (.int (-101 : Int32))) h) ∧ (¬ (((AI h 23 11)) - ((1 : Int32))) < v1 → (((AI h 23 0) = (0 : Int32) → Q (some (.int (-103 : Int32))) h) ∧ (¬ (AI h 23 0) = (0 : Int32) → (Cl (d + 1) 144 [.ref 23] h (fun r h4 => ∃ x6 : Int32, r = some (.int x6) ∧ Sh h4 ∧ ((x6 = (0 : Int32) → ((v2 < (0 : Int32) → Q (some (.int (-102 : Int32))) h4) ∧ (¬ v2 < (0 : Int32) → (Cl (d + 1) 188 [.ref 23, .int v1, .int (AI ((stL h4 23 42 v2.toInt64)) 23 8)] ((stL h4 23 42 v2.toInt64)) (fun r h9 => ∃ x11 : Int32, r = some (.int x11) ∧ Sh h9 ∧ Q (some (.int x11)) h9))))) ∧ (¬ x6 = (0 : Int32) → Q (some (.int (-103 : Int32))) h4))))))))))) : Wp (d + 2) 189 0 [.ref 23, .int v1, .int v2] [] h Q := by
  refine Wp.blk (by decide) ol_189 0 2 (pc' := 2) (L' := [.ref 23, .int v1, .int v2]) (S' := [.int v1, .ref 23]) (h' := h) rfl ?_
  refine Wp.callI (op_ix (by decide) ol_189 2 rfl) (act_virt (c2 := 1) rfl (lk1 (kS HS 23 rfl)) rfl) rfl (Cl.enter (L := [.ref 23, .int v1]) rfl ?_)
  refine Wp.blk (by decide) ol_180 0 3 (pc' := 3) (L' := [.ref 23, .int v1]) (S' := [.ref 23, .int (0 : Int32), .int v1]) (h' := h) rfl ?_
  refine Wp.getf (op_ix (by decide) ol_180 3 rfl) (okS HS 23 rfl rfl) (v := .int (AI h 23 11)) rfl rfl ?_
  refine Wp.blk (by decide) ol_180 4 2 (pc' := 8) (L' := [.ref 23, .int v1]) (S' := [.int (((AI h 23 11)) - ((1 : Int32))), .int (0 : Int32), .int v1]) (h' := h) rfl ?_
  refine Wp.callI (op_ix (by decide) ol_180 6 rfl) rfl rfl (Cl.enter (L := [.int v1, .int (0 : Int32), .int (((AI h 23 11)) - ((1 : Int32)))]) rfl ?_)
  refine Wp.blk (by decide) ol_129 0 3 (pc' := (if v1 < (0 : Int32) then 14 else 5)) (L' := [.int v1, .int (0 : Int32), .int (((AI h 23 11)) - ((1 : Int32)))]) (S' := []) (h' := h) rfl ?_
  refine Wp.br (fun c1 => ?_) (fun c1 => ?_)
  · replace K := K.1 c1
    refine Wp.blk (by decide) ol_129 8 1 (pc' := 15) (L' := [.int v1, .int (0 : Int32), .int (((AI h 23 11)) - ((1 : Int32)))]) (S' := [.int (0 : Int32)]) (h' := h) rfl ?_
    refine Wp.ret (op_ix (by decide) ol_129 9 rfl) rfl ⟨_, rfl, ?_⟩
    refine Wp.ret (op_ix (by decide) ol_180 7 rfl) rfl ⟨_, rfl, ?_⟩
    refine Wp.blk (by decide) ol_189 3 1 (pc' := (if (0 : Int32) = (0 : Int32) then 8 else 11)) (L' := [.ref 23, .int v1, .int v2]) (S' := []) (h' := h) rfl ?_
    refine Wp.br (fun _ => ?_) (fun hc => absurd (by decide) hc)
    refine Wp.blk (by decide) ol_189 4 1 (pc' := 10) (L' := [.ref 23, .int v1, .int v2]) (S' := [.int (-101 : Int32)]) (h' := h) rfl ?_
    exact Wp.ret (op_ix (by decide) ol_189 5 rfl) rfl K
  · replace K := K.2 c1
    refine Wp.blk (by decide) ol_129 3 3 (pc' := (if (((AI h 23 11)) - ((1 : Int32))) < v1 then 14 else 10)) (L' := [.int v1, .int (0 : Int32), .int (((AI h 23 11)) - ((1 : Int32)))]) (S' := []) (h' := h) rfl ?_
    refine Wp.br (fun c2 => ?_) (fun c2 => ?_)
    · replace K := K.1 c2
      refine Wp.blk (by decide) ol_129 8 1 (pc' := 15) (L' := [.int v1, .int (0 : Int32), .int (((AI h 23 11)) - ((1 : Int32)))]) (S' := [.int (0 : Int32)]) (h' := h) rfl ?_
      refine Wp.ret (op_ix (by decide) ol_129 9 rfl) rfl ⟨_, rfl, ?_⟩
      refine Wp.ret (op_ix (by decide) ol_180 7 rfl) rfl ⟨_, rfl, ?_⟩
      refine Wp.blk (by decide) ol_189 3 1 (pc' := (if (0 : Int32) = (0 : Int32) then 8 else 11)) (L' := [.ref 23, .int v1, .int v2]) (S' := []) (h' := h) rfl ?_
      refine Wp.br (fun _ => ?_) (fun hc => absurd (by decide) hc)
      refine Wp.blk (by decide) ol_189 4 1 (pc' := 10) (L' := [.ref 23, .int v1, .int v2]) (S' := [.int (-101 : Int32)]) (h' := h) rfl ?_
      exact Wp.ret (op_ix (by decide) ol_189 5 rfl) rfl K
    · replace K := K.2 c2
      refine Wp.blk (by decide) ol_129 6 2 (pc' := 15) (L' := [.int v1, .int (0 : Int32), .int (((AI h 23 11)) - ((1 : Int32)))]) (S' := [.int (1 : Int32)]) (h' := h) rfl ?_
      refine Wp.ret (op_ix (by decide) ol_129 9 rfl) rfl ⟨_, rfl, ?_⟩
      refine Wp.ret (op_ix (by decide) ol_180 7 rfl) rfl ⟨_, rfl, ?_⟩
      refine Wp.blk (by decide) ol_189 3 1 (pc' := (if (1 : Int32) = (0 : Int32) then 8 else 11)) (L' := [.ref 23, .int v1, .int v2]) (S' := []) (h' := h) rfl ?_
      refine Wp.br (fun hc => absurd hc (by decide)) (fun _ => ?_)
      refine Wp.blk (by decide) ol_189 6 1 (pc' := 12) (L' := [.ref 23, .int v1, .int v2]) (S' := [.ref 23]) (h' := h) rfl ?_
      refine Wp.getf (op_ix (by decide) ol_189 7 rfl) (okS HS 23 rfl rfl) (v := .int (AI h 23 0)) rfl rfl ?_
      refine Wp.blk (by decide) ol_189 8 1 (pc' := (if (AI h 23 0) = (0 : Int32) then 25 else 18)) (L' := [.ref 23, .int v1, .int v2]) (S' := []) (h' := h) rfl ?_
      refine Wp.br (fun c3 => ?_) (fun c3 => ?_)
      · replace K := K.1 c3
        refine Wp.blk (by decide) ol_189 12 1 (pc' := 27) (L' := [.ref 23, .int v1, .int v2]) (S' := [.int (-103 : Int32)]) (h' := h) rfl ?_
        exact Wp.ret (op_ix (by decide) ol_189 13 rfl) rfl K
      · replace K := K.2 c3
        refine Wp.blk (by decide) ol_189 9 1 (pc' := 19) (L' := [.ref 23, .int v1, .int v2]) (S' := [.ref 23]) (h' := h) rfl ?_
        refine Wp.callI (op_ix (by decide) ol_189 10 rfl) (act_virt (c2 := 0) rfl (lk1 (kS HS 23 rfl)) rfl) rfl (K.mono ?_)
        rintro _ h4 ⟨x6, rfl, hs5, K⟩
        refine ⟨x6, rfl, ?_⟩
        refine Wp.blk (by decide) ol_189 11 1 (pc' := (if x6 = (0 : Int32) then 28 else 25)) (L' := [.ref 23, .int v1, .int v2]) (S' := []) (h' := h4) rfl ?_
        refine Wp.br (fun c7 => ?_) (fun c7 => ?_)
        · replace K := K.1 c7
          refine Wp.blk (by decide) ol_189 14 2 (pc' := (if v2 < (0 : Int32) then 32 else 35)) (L' := [.ref 23, .int v1, .int v2]) (S' := []) (h' := h4) rfl ?_
          refine Wp.br (fun c8 => ?_) (fun c8 => ?_)
          · replace K := K.1 c8
            refine Wp.blk (by decide) ol_189 16 1 (pc' := 34) (L' := [.ref 23, .int v1, .int v2]) (S' := [.int (-102 : Int32)]) (h' := h4) rfl ?_
            exact Wp.ret (op_ix (by decide) ol_189 17 rfl) rfl K
          · replace K := K.2 c8
            refine Wp.blk (by decide) ol_189 18 3 (pc' := 38) (L' := [.ref 23, .int v1, .int v2]) (S' := [.long v2.toInt64, .ref 23]) (h' := h4) rfl ?_
            refine Wp.putf (op_ix (by decide) ol_189 21 rfl) (by decide) (okS hs5 23 rfl rfl) (h' := (stL h4 23 42 v2.toInt64)) rfl rfl ?_
            refine Wp.blk (by decide) ol_189 22 3 (pc' := 44) (L' := [.ref 23, .int v1, .int v2]) (S' := [.ref 23, .int v1, .ref 23]) (h' := (stL h4 23 42 v2.toInt64)) rfl ?_
            refine Wp.getf (op_ix (by decide) ol_189 25 rfl) (okS hs5 23 rfl rfl) (v := .int (AI ((stL h4 23 42 v2.toInt64)) 23 8)) rfl rfl ?_
            refine Wp.callI (op_ix (by decide) ol_189 26 rfl) (act_virt (c2 := 2) rfl (lk1 (kS hs5 23 rfl)) rfl) rfl (K.mono ?_)
            rintro _ h9 ⟨x11, rfl, hs10, K⟩
            refine ⟨x11, rfl, ?_⟩
            exact Wp.ret (op_ix (by decide) ol_189 27 rfl) rfl K
        · replace K := K.2 c7
          refine Wp.blk (by decide) ol_189 12 1 (pc' := 27) (L' := [.ref 23, .int v1, .int v2]) (S' := [.int (-103 : Int32)]) (h' := h4) rfl ?_
          exact Wp.ret (op_ix (by decide) ol_189 13 rfl) rfl K
/-- CutsOrFastModel.playOut at 0 (III)I -/
theorem g190_0 (d : Nat) (v1 : Int32) (v2 : Int32) (v3 : Int32) (h : AH) (HS : Sh h)  (Q : Option Value → AH → Prop) (K : Wp d 190 3 [.ref 23, .int v1, .int v2, .int v3, .int (0 : Int32), mk0, mk0, mk0] [] h Q) : Wp d 190 0 [.ref 23, .int v1, .int v2, .int v3, mk0, mk0, mk0, mk0] [] h Q := by
  refine Wp.blk (by decide) ol_190 0 2 (pc' := 3) (L' := [.ref 23, .int v1, .int v2, .int v3, .int (0 : Int32), mk0, mk0, mk0]) (S' := []) (h' := h) rfl ?_
  exact K
/-- CutsOrFastModel.playOut at 3 -/
theorem g190_3 (d : Nat) (v1 : Int32) (v2 : Int32) (v3 : Int32) (v4 : Int32) (h : AH) (HS : Sh h)  (Q : Option Value → AH → Prop) (K : ((v4 < (AI h 23 0) → (ixR v4 10 ∧ ixR v4 9 ∧ Wp d 190 3 [.ref 23, .int v1, .int v2, .int v3, .int (v4 + (1 : Int32)), mk0, mk0, mk0] [] (stI h 45 v4.toNatClampNeg ((AI h 26 v4.toNatClampNeg))) Q)) ∧ (¬ v4 < (AI h 23 0) → Wp d 190 35 [.ref 23, .int v1, .int v2, .int v3, .int (0 : Int32), mk0, mk0, mk0] [] h Q))) : Wp d 190 3 [.ref 23, .int v1, .int v2, .int v3, .int v4, mk0, mk0, mk0] [] h Q := by
  refine Wp.blk (by decide) ol_190 2 2 (pc' := 6) (L' := [.ref 23, .int v1, .int v2, .int v3, .int v4, mk0, mk0, mk0]) (S' := [.ref 23, .int v4]) (h' := h) rfl ?_
  refine Wp.getf (op_ix (by decide) ol_190 4 rfl) (okS HS 23 rfl rfl) (v := .int (AI h 23 0)) rfl rfl ?_
  refine Wp.blk (by decide) ol_190 5 1 (pc' := (if v4 < (AI h 23 0) then 12 else 32)) (L' := [.ref 23, .int v1, .int v2, .int v3, .int v4, mk0, mk0, mk0]) (S' := []) (h' := h) rfl ?_
  refine Wp.br (fun c1 => ?_) (fun c1 => ?_)
  · replace K := K.1 c1
    refine Wp.blk (by decide) ol_190 6 1 (pc' := 13) (L' := [.ref 23, .int v1, .int v2, .int v3, .int v4, mk0, mk0, mk0]) (S' := [.ref 23]) (h' := h) rfl ?_
    refine Wp.getf (op_ix (by decide) ol_190 7 rfl) (okS HS 23 rfl rfl) (v := .ref 45) (congrArg va_rf (rS HS 23 45 rfl)) rfl ?_
    refine Wp.blk (by decide) ol_190 8 2 (pc' := 19) (L' := [.ref 23, .int v1, .int v2, .int v3, .int v4, mk0, mk0, mk0]) (S' := [.ref 23, .int v4, .ref 45]) (h' := h) rfl ?_
    refine Wp.getf (op_ix (by decide) ol_190 10 rfl) (okS HS 23 rfl rfl) (v := .ref 26) (congrArg va_rf (rS HS 23 6 rfl)) rfl ?_
    refine Wp.blk (by decide) ol_190 11 1 (pc' := 24) (L' := [.ref 23, .int v1, .int v2, .int v3, .int v4, mk0, mk0, mk0]) (S' := [.int v4, .ref 26, .int v4, .ref 45]) (h' := h) rfl ?_
    obtain ⟨r2, K⟩ := K
    refine Wp.iald (op_ix (by decide) ol_190 12 rfl) (kS HS 26 rfl) (inS HS 26 rfl r2) rfl ?_
    obtain ⟨r3, K⟩ := K
    refine Wp.iast (op_ix (by decide) ol_190 13 rfl) (by decide) (kS HS 45 rfl) (inS HS 45 rfl r3) rfl ?_
    refine Wp.blk (by decide) ol_190 14 2 (pc' := 3) (L' := [.ref 23, .int v1, .int v2, .int v3, .int (v4 + (1 : Int32)), mk0, mk0, mk0]) (S' := []) (h' := (stI h 45 v4.toNatClampNeg ((AI h 26 v4.toNatClampNeg)))) rfl ?_
    exact K
  · replace K := K.2 c1
    refine Wp.blk (by decide) ol_190 16 2 (pc' := 35) (L' := [.ref 23, .int v1, .int v2, .int v3, .int (0 : Int32), mk0, mk0, mk0]) (S' := []) (h' := h) rfl ?_
    exact K
/-- CutsOrFastModel.playOut at 35 -/
theorem g190_35 (d : Nat) (v1 : Int32) (v2 : Int32) (v3 : Int32) (v4 : Int32) (h : AH) (HS : Sh h)  (Q : Option Value → AH → Prop) (K : (Cl d 144 [.ref 23] h (fun r h1 => ∃ x3 : Int32, r = some (.int x3) ∧ Sh h1 ∧ ((x3 = (0 : Int32) → ((((((AI h1 23 8)) + v4) - (((AI h1 23 8)) + v4) / (2 : Int32) * (2 : Int32)) = (0 : Int32) → Wp (d + 1) 190 64 [.ref 23, .int v1, .int v2, .int v3, .int v4, .int ((((AI h1 23 8)) + v4) - (((AI h1 23 8)) + v4) / (2 : Int32) * (2 : Int32)), mk0, mk0] [.int v1, .ref 23] h1 Q) ∧ (¬ ((((AI h1 23 8)) + v4) - (((AI h1 23 8)) + v4) / (2 : Int32) * (2 : Int32)) = (0 : Int32) → Wp (d + 1) 190 64 [.ref 23, .int v1, .int v2, .int v3, .int v4, .int ((((AI h1 23 8)) + v4) - (((AI h1 23 8)) + v4) / (2 : Int32) * (2 : Int32)), mk0, mk0] [.int v2, .ref 23] h1 Q))) ∧ (¬ x3 = (0 : Int32) → (Cl d 144 [.ref 23] h1 (fun r h6 => ∃ x8 : Int32, r = some (.int x8) ∧ Sh h6 ∧ (Cl d 143 [.ref 23, .int (1 : Int32)] h6 (fun r h9 => ∃ x11 : Int32, r = some (.int x11) ∧ Sh h9 ∧ Wp (d + 1) 190 112 [.ref 23, mk0, mk0, .int v3, .int v4, .int (x8 - ((1 : Int32))), .int x11, .int (0 : Int32)] [] h9 Q))))))))) : Wp (d + 1) 190 35 [.ref 23, .int v1, .int v2, .int v3, .int v4, mk0, mk0, mk0] [] h Q := by
  refine Wp.blk (by decide) ol_190 18 1 (pc' := 36) (L' := [.ref 23, .int v1, .int v2, .int v3, .int v4, mk0, mk0, mk0]) (S' := [.ref 23]) (h' := h) rfl ?_
  refine Wp.callI (op_ix (by decide) ol_190 19 rfl) (act_virt (c2 := 0) rfl (lk1 (kS HS 23 rfl)) rfl) rfl (K.mono ?_)
  rintro _ h1 ⟨x3, rfl, hs2, K⟩
  refine ⟨x3, rfl, ?_⟩
  refine Wp.blk (by decide) ol_190 20 1 (pc' := (if x3 = (0 : Int32) then 42 else 94)) (L' := [.ref 23, .int v1, .int v2, .int v3, .int v4, mk0, mk0, mk0]) (S' := []) (h' := h1) rfl ?_
  refine Wp.br (fun c4 => ?_) (fun c4 => ?_)
  · replace K := K.1 c4
    refine Wp.blk (by decide) ol_190 21 1 (pc' := 43) (L' := [.ref 23, .int v1, .int v2, .int v3, .int v4, mk0, mk0, mk0]) (S' := [.ref 23]) (h' := h1) rfl ?_
    refine Wp.getf (op_ix (by decide) ol_190 22 rfl) (okS hs2 23 rfl rfl) (v := .int (AI h1 23 8)) rfl rfl ?_
    refine Wp.blk (by decide) ol_190 23 8 (pc' := (if ((((AI h1 23 8)) + v4) - (((AI h1 23 8)) + v4) / (2 : Int32) * (2 : Int32)) = (0 : Int32) then 59 else 63)) (L' := [.ref 23, .int v1, .int v2, .int v3, .int v4, .int ((((AI h1 23 8)) + v4) - (((AI h1 23 8)) + v4) / (2 : Int32) * (2 : Int32)), mk0, mk0]) (S' := [.ref 23]) (h' := h1) rfl ?_
    refine Wp.br (fun c5 => ?_) (fun c5 => ?_)
    · replace K := K.1 c5
      refine Wp.blk (by decide) ol_190 31 2 (pc' := 64) (L' := [.ref 23, .int v1, .int v2, .int v3, .int v4, .int ((((AI h1 23 8)) + v4) - (((AI h1 23 8)) + v4) / (2 : Int32) * (2 : Int32)), mk0, mk0]) (S' := [.int v1, .ref 23]) (h' := h1) rfl ?_
      exact K
    · replace K := K.2 c5
      refine Wp.blk (by decide) ol_190 33 1 (pc' := 64) (L' := [.ref 23, .int v1, .int v2, .int v3, .int v4, .int ((((AI h1 23 8)) + v4) - (((AI h1 23 8)) + v4) / (2 : Int32) * (2 : Int32)), mk0, mk0]) (S' := [.int v2, .ref 23]) (h' := h1) rfl ?_
      exact K
  · replace K := K.2 c4
    refine Wp.blk (by decide) ol_190 48 1 (pc' := 95) (L' := [.ref 23, .int v1, .int v2, .int v3, .int v4, mk0, mk0, mk0]) (S' := [.ref 23]) (h' := h1) rfl ?_
    refine Wp.callI (op_ix (by decide) ol_190 49 rfl) (act_virt (c2 := 0) rfl (lk1 (kS hs2 23 rfl)) rfl) rfl (K.mono ?_)
    rintro _ h6 ⟨x8, rfl, hs7, K⟩
    refine ⟨x8, rfl, ?_⟩
    refine Wp.blk (by decide) ol_190 50 5 (pc' := 104) (L' := [.ref 23, .int v1, .int v2, .int v3, .int v4, .int (x8 - ((1 : Int32))), mk0, mk0]) (S' := [.int (1 : Int32), .ref 23]) (h' := h6) rfl ?_
    refine Wp.callI (op_ix (by decide) ol_190 55 rfl) (act_virt (c2 := 1) rfl (lk1 (kS hs7 23 rfl)) rfl) rfl (K.mono ?_)
    rintro _ h9 ⟨x11, rfl, hs10, K⟩
    refine ⟨x11, rfl, ?_⟩
    refine Wp.blk (by decide) ol_190 56 3 (pc' := 112) (L' := [.ref 23, .int v1, .int v2, .int v3, .int v4, .int (x8 - ((1 : Int32))), .int x11, .int (0 : Int32)]) (S' := []) (h' := h9) rfl ?_
    refine Wp.forget (L := [.ref 23, mk0, mk0, .int v3, .int v4, .int (x8 - ((1 : Int32))), .int x11, .int (0 : Int32)]) (⟨Or.inr rfl, ⟨Or.inl rfl, ⟨Or.inl rfl, ⟨Or.inr rfl, ⟨Or.inr rfl, ⟨Or.inr rfl, ⟨Or.inr rfl, ⟨Or.inr rfl, trivial⟩⟩⟩⟩⟩⟩⟩⟩) ?_
    exact K
/-- CutsOrFastModel.playOut at 64 -/
theorem g190_64 (d : Nat) (v1 : Int32) (v2 : Int32) (v3 : Int32) (v4 : Int32) (v5 : Int32) (s0 : Int32) (s1 : Nat) (h : AH) (HS : Sh h)  (Q : Option Value → AH → Prop) (K : ((AK h s1).1 = 12 ∧ (Cl d 188 [.ref s1, .int s0, .int v5] h (fun r h2 => ∃ x4 : Int32, r = some (.int x4) ∧ Sh h2 ∧ ((v5 = (0 : Int32) → (ixR x4 10 ∧ Wp (d + 1) 190 35 [.ref 23, .int v1, .int v2, .int v3, .int (v4 + (1 : Int32)), mk0, mk0, mk0] [] (stI h2 26 x4.toNatClampNeg ((1 : Int32))) Q)) ∧ (¬ v5 = (0 : Int32) → (ixR x4 10 ∧ Wp (d + 1) 190 35 [.ref 23, .int v1, .int v2, .int v3, .int (v4 + (1 : Int32)), mk0, mk0, mk0] [] (stI h2 26 x4.toNatClampNeg ((2 : Int32))) Q))))))) : Wp (d + 1) 190 64 [.ref 23, .int v1, .int v2, .int v3, .int v4, .int v5, mk0, mk0] [.int s0, .ref s1] h Q := by
  refine Wp.blk (by decide) ol_190 34 1 (pc' := 66) (L' := [.ref 23, .int v1, .int v2, .int v3, .int v4, .int v5, mk0, mk0]) (S' := [.int v5, .int s0, .ref s1]) (h' := h) rfl ?_
  obtain ⟨k1, K⟩ := K
  refine Wp.callI (op_ix (by decide) ol_190 35 rfl) (act_virt (c2 := 2) rfl (lk1 k1) rfl) rfl (K.mono ?_)
  rintro _ h2 ⟨x4, rfl, hs3, K⟩
  refine ⟨x4, rfl, ?_⟩
  refine Wp.blk (by decide) ol_190 36 2 (pc' := 72) (L' := [.ref 23, .int v1, .int v2, .int v3, .int v4, .int v5, .int x4, mk0]) (S' := [.ref 23]) (h' := h2) rfl ?_
  refine Wp.getf (op_ix (by decide) ol_190 38 rfl) (okS hs3 23 rfl rfl) (v := .ref 26) (congrArg va_rf (rS hs3 23 6 rfl)) rfl ?_
  refine Wp.blk (by decide) ol_190 39 3 (pc' := (if v5 = (0 : Int32) then 82 else 86)) (L' := [.ref 23, .int v1, .int v2, .int v3, .int v4, .int v5, .int x4, mk0]) (S' := [.int x4, .ref 26]) (h' := h2) rfl ?_
  refine Wp.br (fun c5 => ?_) (fun c5 => ?_)
  · replace K := K.1 c5
    refine Wp.blk (by decide) ol_190 42 2 (pc' := 87) (L' := [.ref 23, .int v1, .int v2, .int v3, .int v4, .int v5, .int x4, mk0]) (S' := [.int (1 : Int32), .int x4, .ref 26]) (h' := h2) rfl ?_
    obtain ⟨r6, K⟩ := K
    refine Wp.iast (op_ix (by decide) ol_190 45 rfl) (by decide) (kS hs3 26 rfl) (inS hs3 26 rfl r6) rfl ?_
    refine Wp.blk (by decide) ol_190 46 2 (pc' := 35) (L' := [.ref 23, .int v1, .int v2, .int v3, .int (v4 + (1 : Int32)), .int v5, .int x4, mk0]) (S' := []) (h' := (stI h2 26 x4.toNatClampNeg ((1 : Int32)))) rfl ?_
    refine Wp.forget (L := [.ref 23, .int v1, .int v2, .int v3, .int (v4 + (1 : Int32)), mk0, mk0, mk0]) (⟨Or.inr rfl, ⟨Or.inr rfl, ⟨Or.inr rfl, ⟨Or.inr rfl, ⟨Or.inr rfl, ⟨Or.inl rfl, ⟨Or.inl rfl, ⟨Or.inr rfl, trivial⟩⟩⟩⟩⟩⟩⟩⟩) ?_
    exact K
  · replace K := K.2 c5
    refine Wp.blk (by decide) ol_190 44 1 (pc' := 87) (L' := [.ref 23, .int v1, .int v2, .int v3, .int v4, .int v5, .int x4, mk0]) (S' := [.int (2 : Int32), .int x4, .ref 26]) (h' := h2) rfl ?_
    obtain ⟨r7, K⟩ := K
    refine Wp.iast (op_ix (by decide) ol_190 45 rfl) (by decide) (kS hs3 26 rfl) (inS hs3 26 rfl r7) rfl ?_
    refine Wp.blk (by decide) ol_190 46 2 (pc' := 35) (L' := [.ref 23, .int v1, .int v2, .int v3, .int (v4 + (1 : Int32)), .int v5, .int x4, mk0]) (S' := []) (h' := (stI h2 26 x4.toNatClampNeg ((2 : Int32)))) rfl ?_
    refine Wp.forget (L := [.ref 23, .int v1, .int v2, .int v3, .int (v4 + (1 : Int32)), mk0, mk0, mk0]) (⟨Or.inr rfl, ⟨Or.inr rfl, ⟨Or.inr rfl, ⟨Or.inr rfl, ⟨Or.inr rfl, ⟨Or.inl rfl, ⟨Or.inl rfl, ⟨Or.inr rfl, trivial⟩⟩⟩⟩⟩⟩⟩⟩) ?_
    exact K
/-- CutsOrFastModel.playOut at 112 -/
theorem g190_112 (d : Nat) (v3 : Int32) (v4 : Int32) (v5 : Int32) (v6 : Int32) (v7 : Int32) (h : AH) (HS : Sh h)  (Q : Option Value → AH → Prop) (K : ((v7 < (AI h 23 0) → (ixR v7 9 ∧ ixR v7 10 ∧ Wp d 190 112 [.ref 23, mk0, mk0, .int v3, .int v4, .int v5, .int v6, .int (v7 + (1 : Int32))] [] (stI h 26 v7.toNatClampNeg ((AI h 45 v7.toNatClampNeg))) Q)) ∧ (¬ v7 < (AI h 23 0) → ((v3 = (0 : Int32) → Q (some (.int v5)) h) ∧ (¬ v3 = (0 : Int32) → ((v3 = (1 : Int32) → Q (some (.int v4)) h) ∧ (¬ v3 = (1 : Int32) → ((v3 = (2 : Int32) → Q (some (.int v6)) h) ∧ (¬ v3 = (2 : Int32) → Q (some (.int ((AL h 23 42)).toInt32)) h))))))))) : Wp d 190 112 [.ref 23, mk0, mk0, .int v3, .int v4, .int v5, .int v6, .int v7] [] h Q := by
  refine Wp.blk (by decide) ol_190 59 2 (pc' := 115) (L' := [.ref 23, mk0, mk0, .int v3, .int v4, .int v5, .int v6, .int v7]) (S' := [.ref 23, .int v7]) (h' := h) rfl ?_
  refine Wp.getf (op_ix (by decide) ol_190 61 rfl) (okS HS 23 rfl rfl) (v := .int (AI h 23 0)) rfl rfl ?_
  refine Wp.blk (by decide) ol_190 62 1 (pc' := (if v7 < (AI h 23 0) then 121 else 141)) (L' := [.ref 23, mk0, mk0, .int v3, .int v4, .int v5, .int v6, .int v7]) (S' := []) (h' := h) rfl ?_
  refine Wp.br (fun c1 => ?_) (fun c1 => ?_)
  · replace K := K.1 c1
    refine Wp.blk (by decide) ol_190 63 1 (pc' := 122) (L' := [.ref 23, mk0, mk0, .int v3, .int v4, .int v5, .int v6, .int v7]) (S' := [.ref 23]) (h' := h) rfl ?_
    refine Wp.getf (op_ix (by decide) ol_190 64 rfl) (okS HS 23 rfl rfl) (v := .ref 26) (congrArg va_rf (rS HS 23 6 rfl)) rfl ?_
    refine Wp.blk (by decide) ol_190 65 2 (pc' := 128) (L' := [.ref 23, mk0, mk0, .int v3, .int v4, .int v5, .int v6, .int v7]) (S' := [.ref 23, .int v7, .ref 26]) (h' := h) rfl ?_
    refine Wp.getf (op_ix (by decide) ol_190 67 rfl) (okS HS 23 rfl rfl) (v := .ref 45) (congrArg va_rf (rS HS 23 45 rfl)) rfl ?_
    refine Wp.blk (by decide) ol_190 68 1 (pc' := 133) (L' := [.ref 23, mk0, mk0, .int v3, .int v4, .int v5, .int v6, .int v7]) (S' := [.int v7, .ref 45, .int v7, .ref 26]) (h' := h) rfl ?_
    obtain ⟨r2, K⟩ := K
    refine Wp.iald (op_ix (by decide) ol_190 69 rfl) (kS HS 45 rfl) (inS HS 45 rfl r2) rfl ?_
    obtain ⟨r3, K⟩ := K
    refine Wp.iast (op_ix (by decide) ol_190 70 rfl) (by decide) (kS HS 26 rfl) (inS HS 26 rfl r3) rfl ?_
    refine Wp.blk (by decide) ol_190 71 2 (pc' := 112) (L' := [.ref 23, mk0, mk0, .int v3, .int v4, .int v5, .int v6, .int (v7 + (1 : Int32))]) (S' := []) (h' := (stI h 26 v7.toNatClampNeg ((AI h 45 v7.toNatClampNeg)))) rfl ?_
    exact K
  · replace K := K.2 c1
    refine Wp.blk (by decide) ol_190 73 2 (pc' := (if v3 = (0 : Int32) then 145 else 150)) (L' := [.ref 23, mk0, mk0, .int v3, .int v4, .int v5, .int v6, .int v7]) (S' := []) (h' := h) rfl ?_
    refine Wp.br (fun c4 => ?_) (fun c4 => ?_)
    · replace K := K.1 c4
      refine Wp.blk (by decide) ol_190 75 2 (pc' := 175) (L' := [.ref 23, mk0, mk0, .int v3, .int v4, .int v5, .int v6, .int v7]) (S' := [.int v5]) (h' := h) rfl ?_
      exact Wp.ret (op_ix (by decide) ol_190 90 rfl) rfl K
    · replace K := K.2 c4
      refine Wp.blk (by decide) ol_190 77 3 (pc' := (if v3 = (1 : Int32) then 155 else 160)) (L' := [.ref 23, mk0, mk0, .int v3, .int v4, .int v5, .int v6, .int v7]) (S' := []) (h' := h) rfl ?_
      refine Wp.br (fun c5 => ?_) (fun c5 => ?_)
      · replace K := K.1 c5
        refine Wp.blk (by decide) ol_190 80 2 (pc' := 175) (L' := [.ref 23, mk0, mk0, .int v3, .int v4, .int v5, .int v6, .int v7]) (S' := [.int v4]) (h' := h) rfl ?_
        exact Wp.ret (op_ix (by decide) ol_190 90 rfl) rfl K
      · replace K := K.2 c5
        refine Wp.blk (by decide) ol_190 82 3 (pc' := (if v3 = (2 : Int32) then 165 else 170)) (L' := [.ref 23, mk0, mk0, .int v3, .int v4, .int v5, .int v6, .int v7]) (S' := []) (h' := h) rfl ?_
        refine Wp.br (fun c6 => ?_) (fun c6 => ?_)
        · replace K := K.1 c6
          refine Wp.blk (by decide) ol_190 85 2 (pc' := 175) (L' := [.ref 23, mk0, mk0, .int v3, .int v4, .int v5, .int v6, .int v7]) (S' := [.int v6]) (h' := h) rfl ?_
          exact Wp.ret (op_ix (by decide) ol_190 90 rfl) rfl K
        · replace K := K.2 c6
          refine Wp.blk (by decide) ol_190 87 1 (pc' := 171) (L' := [.ref 23, mk0, mk0, .int v3, .int v4, .int v5, .int v6, .int v7]) (S' := [.ref 23]) (h' := h) rfl ?_
          refine Wp.getf (op_ix (by decide) ol_190 88 rfl) (okS HS 23 rfl rfl) (v := .long (AL h 23 42)) rfl rfl ?_
          refine Wp.blk (by decide) ol_190 89 1 (pc' := 175) (L' := [.ref 23, mk0, mk0, .int v3, .int v4, .int v5, .int v6, .int v7]) (S' := [.int ((AL h 23 42)).toInt32]) (h' := h) rfl ?_
          exact Wp.ret (op_ix (by decide) ol_190 90 rfl) rfl K
/-- CutsOrFastModel.game at 0 (IIII)I -/
theorem g191_0 (d : Nat) (v1 : Int32) (v2 : Int32) (v3 : Int32) (v4 : Int32) (h : AH) (HS : Sh h)  (Q : Option Value → AH → Prop) (K : ((v1 < (0 : Int32) → Q (some (.int (-101 : Int32))) h) ∧ (¬ v1 < (0 : Int32) → (((((AI h 23 11)) - ((1 : Int32))) < v1 → Q (some (.int (-101 : Int32))) h) ∧ (¬ (((AI h 23 11)) - ((1 : Int32))) < v1 → ((v2 < (0 : Int32) → Q (some (.int (-101 : Int32))) h) ∧ (¬ v2 < (0 : Int32) → (((((AI h 23 11)) - ((1 : Int32))) < v2 → Q (some (.int (-101 : Int32))) h) ∧ (¬ (((AI h 23 11)) - ((1 : Int32))) < v2 → (((AI h 23 0) = (0 : Int32) → Q (some (.int (-103 : Int32))) h) ∧ (¬ (AI h 23 0) = (0 : Int32) → ((v3 < (0 : Int32) → Q (some (.int (-102 : Int32))) h) ∧ (¬ v3 < (0 : Int32) → ((v4 < (0 : Int32) → Q (some (.int (-102 : Int32))) h) ∧ (¬ v4 < (0 : Int32) → (((3 : Int32) < v4 → Q (some (.int (-102 : Int32))) h) ∧ (¬ (3 : Int32) < v4 → (Cl (d + 1) 190 [.ref 23, .int v1, .int v2, .int v4] ((stL h 23 42 v3.toInt64)) (fun r h9 => ∃ x11 : Int32, r = some (.int x11) ∧ Sh h9 ∧ Q (some (.int x11)) h9))))))))))))))))))) : Wp (d + 2) 191 0 [.ref 23, .int v1, .int v2, .int v3, .int v4] [] h Q := by
  refine Wp.blk (by decide) ol_191 0 2 (pc' := 2) (L' := [.ref 23, .int v1, .int v2, .int v3, .int v4]) (S' := [.int v1, .ref 23]) (h' := h) rfl ?_
  refine Wp.callI (op_ix (by decide) ol_191 2 rfl) (act_virt (c2 := 1) rfl (lk1 (kS HS 23 rfl)) rfl) rfl (Cl.enter (L := [.ref 23, .int v1]) rfl ?_)
  refine Wp.blk (by decide) ol_180 0 3 (pc' := 3) (L' := [.ref 23, .int v1]) (S' := [.ref 23, .int (0 : Int32), .int v1]) (h' := h) rfl ?_
  refine Wp.getf (op_ix (by decide) ol_180 3 rfl) (okS HS 23 rfl rfl) (v := .int (AI h 23 11)) rfl rfl ?_
  refine Wp.blk (by decide) ol_180 4 2 (pc' := 8) (L' := [.ref 23, .int v1]) (S' := [.int (((AI h 23 11)) - ((1 : Int32))), .int (0 : Int32), .int v1]) (h' := h) rfl ?_
  refine Wp.callI (op_ix (by decide) ol_180 6 rfl) rfl rfl (Cl.enter (L := [.int v1, .int (0 : Int32), .int (((AI h 23 11)) - ((1 : Int32)))]) rfl ?_)
  refine Wp.blk (by decide) ol_129 0 3 (pc' := (if v1 < (0 : Int32) then 14 else 5)) (L' := [.int v1, .int (0 : Int32), .int (((AI h 23 11)) - ((1 : Int32)))]) (S' := []) (h' := h) rfl ?_
  refine Wp.br (fun c1 => ?_) (fun c1 => ?_)
  · replace K := K.1 c1
    refine Wp.blk (by decide) ol_129 8 1 (pc' := 15) (L' := [.int v1, .int (0 : Int32), .int (((AI h 23 11)) - ((1 : Int32)))]) (S' := [.int (0 : Int32)]) (h' := h) rfl ?_
    refine Wp.ret (op_ix (by decide) ol_129 9 rfl) rfl ⟨_, rfl, ?_⟩
    refine Wp.ret (op_ix (by decide) ol_180 7 rfl) rfl ⟨_, rfl, ?_⟩
    refine Wp.blk (by decide) ol_191 3 1 (pc' := (if (0 : Int32) = (0 : Int32) then 16 else 8)) (L' := [.ref 23, .int v1, .int v2, .int v3, .int v4]) (S' := []) (h' := h) rfl ?_
    refine Wp.br (fun _ => ?_) (fun hc => absurd (by decide) hc)
    refine Wp.blk (by decide) ol_191 8 1 (pc' := 18) (L' := [.ref 23, .int v1, .int v2, .int v3, .int v4]) (S' := [.int (-101 : Int32)]) (h' := h) rfl ?_
    exact Wp.ret (op_ix (by decide) ol_191 9 rfl) rfl K
  · replace K := K.2 c1
    refine Wp.blk (by decide) ol_129 3 3 (pc' := (if (((AI h 23 11)) - ((1 : Int32))) < v1 then 14 else 10)) (L' := [.int v1, .int (0 : Int32), .int (((AI h 23 11)) - ((1 : Int32)))]) (S' := []) (h' := h) rfl ?_
    refine Wp.br (fun c2 => ?_) (fun c2 => ?_)
    · replace K := K.1 c2
      refine Wp.blk (by decide) ol_129 8 1 (pc' := 15) (L' := [.int v1, .int (0 : Int32), .int (((AI h 23 11)) - ((1 : Int32)))]) (S' := [.int (0 : Int32)]) (h' := h) rfl ?_
      refine Wp.ret (op_ix (by decide) ol_129 9 rfl) rfl ⟨_, rfl, ?_⟩
      refine Wp.ret (op_ix (by decide) ol_180 7 rfl) rfl ⟨_, rfl, ?_⟩
      refine Wp.blk (by decide) ol_191 3 1 (pc' := (if (0 : Int32) = (0 : Int32) then 16 else 8)) (L' := [.ref 23, .int v1, .int v2, .int v3, .int v4]) (S' := []) (h' := h) rfl ?_
      refine Wp.br (fun _ => ?_) (fun hc => absurd (by decide) hc)
      refine Wp.blk (by decide) ol_191 8 1 (pc' := 18) (L' := [.ref 23, .int v1, .int v2, .int v3, .int v4]) (S' := [.int (-101 : Int32)]) (h' := h) rfl ?_
      exact Wp.ret (op_ix (by decide) ol_191 9 rfl) rfl K
    · replace K := K.2 c2
      refine Wp.blk (by decide) ol_129 6 2 (pc' := 15) (L' := [.int v1, .int (0 : Int32), .int (((AI h 23 11)) - ((1 : Int32)))]) (S' := [.int (1 : Int32)]) (h' := h) rfl ?_
      refine Wp.ret (op_ix (by decide) ol_129 9 rfl) rfl ⟨_, rfl, ?_⟩
      refine Wp.ret (op_ix (by decide) ol_180 7 rfl) rfl ⟨_, rfl, ?_⟩
      refine Wp.blk (by decide) ol_191 3 1 (pc' := (if (1 : Int32) = (0 : Int32) then 16 else 8)) (L' := [.ref 23, .int v1, .int v2, .int v3, .int v4]) (S' := []) (h' := h) rfl ?_
      refine Wp.br (fun hc => absurd hc (by decide)) (fun _ => ?_)
      refine Wp.blk (by decide) ol_191 4 2 (pc' := 10) (L' := [.ref 23, .int v1, .int v2, .int v3, .int v4]) (S' := [.int v2, .ref 23]) (h' := h) rfl ?_
      refine Wp.callI (op_ix (by decide) ol_191 6 rfl) (act_virt (c2 := 1) rfl (lk1 (kS HS 23 rfl)) rfl) rfl (Cl.enter (L := [.ref 23, .int v2]) rfl ?_)
      refine Wp.blk (by decide) ol_180 0 3 (pc' := 3) (L' := [.ref 23, .int v2]) (S' := [.ref 23, .int (0 : Int32), .int v2]) (h' := h) rfl ?_
      refine Wp.getf (op_ix (by decide) ol_180 3 rfl) (okS HS 23 rfl rfl) (v := .int (AI h 23 11)) rfl rfl ?_
      refine Wp.blk (by decide) ol_180 4 2 (pc' := 8) (L' := [.ref 23, .int v2]) (S' := [.int (((AI h 23 11)) - ((1 : Int32))), .int (0 : Int32), .int v2]) (h' := h) rfl ?_
      refine Wp.callI (op_ix (by decide) ol_180 6 rfl) rfl rfl (Cl.enter (L := [.int v2, .int (0 : Int32), .int (((AI h 23 11)) - ((1 : Int32)))]) rfl ?_)
      refine Wp.blk (by decide) ol_129 0 3 (pc' := (if v2 < (0 : Int32) then 14 else 5)) (L' := [.int v2, .int (0 : Int32), .int (((AI h 23 11)) - ((1 : Int32)))]) (S' := []) (h' := h) rfl ?_
      refine Wp.br (fun c3 => ?_) (fun c3 => ?_)
      · replace K := K.1 c3
        refine Wp.blk (by decide) ol_129 8 1 (pc' := 15) (L' := [.int v2, .int (0 : Int32), .int (((AI h 23 11)) - ((1 : Int32)))]) (S' := [.int (0 : Int32)]) (h' := h) rfl ?_
        refine Wp.ret (op_ix (by decide) ol_129 9 rfl) rfl ⟨_, rfl, ?_⟩
        refine Wp.ret (op_ix (by decide) ol_180 7 rfl) rfl ⟨_, rfl, ?_⟩
        refine Wp.blk (by decide) ol_191 7 1 (pc' := (if (0 : Int32) = (0 : Int32) then 16 else 19)) (L' := [.ref 23, .int v1, .int v2, .int v3, .int v4]) (S' := []) (h' := h) rfl ?_
        refine Wp.br (fun _ => ?_) (fun hc => absurd (by decide) hc)
        refine Wp.blk (by decide) ol_191 8 1 (pc' := 18) (L' := [.ref 23, .int v1, .int v2, .int v3, .int v4]) (S' := [.int (-101 : Int32)]) (h' := h) rfl ?_
        exact Wp.ret (op_ix (by decide) ol_191 9 rfl) rfl K
      · replace K := K.2 c3
        refine Wp.blk (by decide) ol_129 3 3 (pc' := (if (((AI h 23 11)) - ((1 : Int32))) < v2 then 14 else 10)) (L' := [.int v2, .int (0 : Int32), .int (((AI h 23 11)) - ((1 : Int32)))]) (S' := []) (h' := h) rfl ?_
        refine Wp.br (fun c4 => ?_) (fun c4 => ?_)
        · replace K := K.1 c4
          refine Wp.blk (by decide) ol_129 8 1 (pc' := 15) (L' := [.int v2, .int (0 : Int32), .int (((AI h 23 11)) - ((1 : Int32)))]) (S' := [.int (0 : Int32)]) (h' := h) rfl ?_
          refine Wp.ret (op_ix (by decide) ol_129 9 rfl) rfl ⟨_, rfl, ?_⟩
          refine Wp.ret (op_ix (by decide) ol_180 7 rfl) rfl ⟨_, rfl, ?_⟩
          refine Wp.blk (by decide) ol_191 7 1 (pc' := (if (0 : Int32) = (0 : Int32) then 16 else 19)) (L' := [.ref 23, .int v1, .int v2, .int v3, .int v4]) (S' := []) (h' := h) rfl ?_
          refine Wp.br (fun _ => ?_) (fun hc => absurd (by decide) hc)
          refine Wp.blk (by decide) ol_191 8 1 (pc' := 18) (L' := [.ref 23, .int v1, .int v2, .int v3, .int v4]) (S' := [.int (-101 : Int32)]) (h' := h) rfl ?_
          exact Wp.ret (op_ix (by decide) ol_191 9 rfl) rfl K
        · replace K := K.2 c4
          refine Wp.blk (by decide) ol_129 6 2 (pc' := 15) (L' := [.int v2, .int (0 : Int32), .int (((AI h 23 11)) - ((1 : Int32)))]) (S' := [.int (1 : Int32)]) (h' := h) rfl ?_
          refine Wp.ret (op_ix (by decide) ol_129 9 rfl) rfl ⟨_, rfl, ?_⟩
          refine Wp.ret (op_ix (by decide) ol_180 7 rfl) rfl ⟨_, rfl, ?_⟩
          refine Wp.blk (by decide) ol_191 7 1 (pc' := (if (1 : Int32) = (0 : Int32) then 16 else 19)) (L' := [.ref 23, .int v1, .int v2, .int v3, .int v4]) (S' := []) (h' := h) rfl ?_
          refine Wp.br (fun hc => absurd hc (by decide)) (fun _ => ?_)
          refine Wp.blk (by decide) ol_191 10 1 (pc' := 20) (L' := [.ref 23, .int v1, .int v2, .int v3, .int v4]) (S' := [.ref 23]) (h' := h) rfl ?_
          refine Wp.getf (op_ix (by decide) ol_191 11 rfl) (okS HS 23 rfl rfl) (v := .int (AI h 23 0)) rfl rfl ?_
          refine Wp.blk (by decide) ol_191 12 1 (pc' := (if (AI h 23 0) = (0 : Int32) then 26 else 29)) (L' := [.ref 23, .int v1, .int v2, .int v3, .int v4]) (S' := []) (h' := h) rfl ?_
          refine Wp.br (fun c5 => ?_) (fun c5 => ?_)
          · replace K := K.1 c5
            refine Wp.blk (by decide) ol_191 13 1 (pc' := 28) (L' := [.ref 23, .int v1, .int v2, .int v3, .int v4]) (S' := [.int (-103 : Int32)]) (h' := h) rfl ?_
            exact Wp.ret (op_ix (by decide) ol_191 14 rfl) rfl K
          · replace K := K.2 c5
            refine Wp.blk (by decide) ol_191 15 2 (pc' := (if v3 < (0 : Int32) then 43 else 33)) (L' := [.ref 23, .int v1, .int v2, .int v3, .int v4]) (S' := []) (h' := h) rfl ?_
            refine Wp.br (fun c6 => ?_) (fun c6 => ?_)
            · replace K := K.1 c6
              refine Wp.blk (by decide) ol_191 22 1 (pc' := 45) (L' := [.ref 23, .int v1, .int v2, .int v3, .int v4]) (S' := [.int (-102 : Int32)]) (h' := h) rfl ?_
              exact Wp.ret (op_ix (by decide) ol_191 23 rfl) rfl K
            · replace K := K.2 c6
              refine Wp.blk (by decide) ol_191 17 3 (pc' := 37) (L' := [.ref 23, .int v1, .int v2, .int v3, .int v4]) (S' := [.int (3 : Int32), .int (0 : Int32), .int v4]) (h' := h) rfl ?_
              refine Wp.callI (op_ix (by decide) ol_191 20 rfl) rfl rfl (Cl.enter (L := [.int v4, .int (0 : Int32), .int (3 : Int32)]) rfl ?_)
              refine Wp.blk (by decide) ol_129 0 3 (pc' := (if v4 < (0 : Int32) then 14 else 5)) (L' := [.int v4, .int (0 : Int32), .int (3 : Int32)]) (S' := []) (h' := h) rfl ?_
              refine Wp.br (fun c7 => ?_) (fun c7 => ?_)
              · replace K := K.1 c7
                refine Wp.blk (by decide) ol_129 8 1 (pc' := 15) (L' := [.int v4, .int (0 : Int32), .int (3 : Int32)]) (S' := [.int (0 : Int32)]) (h' := h) rfl ?_
                refine Wp.ret (op_ix (by decide) ol_129 9 rfl) rfl ⟨_, rfl, ?_⟩
                refine Wp.blk (by decide) ol_191 21 1 (pc' := (if (0 : Int32) = (0 : Int32) then 43 else 46)) (L' := [.ref 23, .int v1, .int v2, .int v3, .int v4]) (S' := []) (h' := h) rfl ?_
                refine Wp.br (fun _ => ?_) (fun hc => absurd (by decide) hc)
                refine Wp.blk (by decide) ol_191 22 1 (pc' := 45) (L' := [.ref 23, .int v1, .int v2, .int v3, .int v4]) (S' := [.int (-102 : Int32)]) (h' := h) rfl ?_
                exact Wp.ret (op_ix (by decide) ol_191 23 rfl) rfl K
              · replace K := K.2 c7
                refine Wp.blk (by decide) ol_129 3 3 (pc' := (if (3 : Int32) < v4 then 14 else 10)) (L' := [.int v4, .int (0 : Int32), .int (3 : Int32)]) (S' := []) (h' := h) rfl ?_
                refine Wp.br (fun c8 => ?_) (fun c8 => ?_)
                · replace K := K.1 c8
                  refine Wp.blk (by decide) ol_129 8 1 (pc' := 15) (L' := [.int v4, .int (0 : Int32), .int (3 : Int32)]) (S' := [.int (0 : Int32)]) (h' := h) rfl ?_
                  refine Wp.ret (op_ix (by decide) ol_129 9 rfl) rfl ⟨_, rfl, ?_⟩
                  refine Wp.blk (by decide) ol_191 21 1 (pc' := (if (0 : Int32) = (0 : Int32) then 43 else 46)) (L' := [.ref 23, .int v1, .int v2, .int v3, .int v4]) (S' := []) (h' := h) rfl ?_
                  refine Wp.br (fun _ => ?_) (fun hc => absurd (by decide) hc)
                  refine Wp.blk (by decide) ol_191 22 1 (pc' := 45) (L' := [.ref 23, .int v1, .int v2, .int v3, .int v4]) (S' := [.int (-102 : Int32)]) (h' := h) rfl ?_
                  exact Wp.ret (op_ix (by decide) ol_191 23 rfl) rfl K
                · replace K := K.2 c8
                  refine Wp.blk (by decide) ol_129 6 2 (pc' := 15) (L' := [.int v4, .int (0 : Int32), .int (3 : Int32)]) (S' := [.int (1 : Int32)]) (h' := h) rfl ?_
                  refine Wp.ret (op_ix (by decide) ol_129 9 rfl) rfl ⟨_, rfl, ?_⟩
                  refine Wp.blk (by decide) ol_191 21 1 (pc' := (if (1 : Int32) = (0 : Int32) then 43 else 46)) (L' := [.ref 23, .int v1, .int v2, .int v3, .int v4]) (S' := []) (h' := h) rfl ?_
                  refine Wp.br (fun hc => absurd hc (by decide)) (fun _ => ?_)
                  refine Wp.blk (by decide) ol_191 24 3 (pc' := 49) (L' := [.ref 23, .int v1, .int v2, .int v3, .int v4]) (S' := [.long v3.toInt64, .ref 23]) (h' := h) rfl ?_
                  refine Wp.putf (op_ix (by decide) ol_191 27 rfl) (by decide) (okS HS 23 rfl rfl) (h' := (stL h 23 42 v3.toInt64)) rfl rfl ?_
                  refine Wp.blk (by decide) ol_191 28 4 (pc' := 57) (L' := [.ref 23, .int v1, .int v2, .int v3, .int v4]) (S' := [.int v4, .int v2, .int v1, .ref 23]) (h' := (stL h 23 42 v3.toInt64)) rfl ?_
                  refine Wp.callI (op_ix (by decide) ol_191 32 rfl) (act_virt (c2 := 3) rfl (lk1 (kS HS 23 rfl)) rfl) rfl (K.mono ?_)
                  rintro _ h9 ⟨x11, rfl, hs10, K⟩
                  refine ⟨x11, rfl, ?_⟩
                  exact Wp.ret (op_ix (by decide) ol_191 33 rfl) rfl K
/-- CutsOrFastModel.image at 0 ()I -/
theorem g192_0 (d : Nat)  (h : AH) (HS : Sh h)  (Q : Option Value → AH → Prop) (K : (((AI h 23 0) = (0 : Int32) → Q (some (.int (-103 : Int32))) h) ∧ (¬ (AI h 23 0) = (0 : Int32) → Wp d 192 41 [.ref 23, .int (0 : Int32)] [] (stI ((stI ((stI ((stI h 23 16 ((1 : Int32)))) 23 17 ((AI ((stI h 23 16 ((1 : Int32)))) 23 1)))) 23 18 ((AI ((stI ((stI h 23 16 ((1 : Int32)))) 23 17 ((AI ((stI h 23 16 ((1 : Int32)))) 23 1)))) 23 8)))) 23 19 ((AI ((stI ((stI ((stI h 23 16 ((1 : Int32)))) 23 17 ((AI ((stI h 23 16 ((1 : Int32)))) 23 1)))) 23 18 ((AI ((stI ((stI h 23 16 ((1 : Int32)))) 23 17 ((AI ((stI h 23 16 ((1 : Int32)))) 23 1)))) 23 8)))) 23 9))) Q))) : Wp d 192 0 [.ref 23, mk0] [] h Q := by
  refine Wp.blk (by decide) ol_192 0 1 (pc' := 1) (L' := [.ref 23, mk0]) (S' := [.ref 23]) (h' := h) rfl ?_
  refine Wp.getf (op_ix (by decide) ol_192 1 rfl) (okS HS 23 rfl rfl) (v := .int (AI h 23 0)) rfl rfl ?_
  refine Wp.blk (by decide) ol_192 2 1 (pc' := (if (AI h 23 0) = (0 : Int32) then 7 else 10)) (L' := [.ref 23, mk0]) (S' := []) (h' := h) rfl ?_
  refine Wp.br (fun c1 => ?_) (fun c1 => ?_)
  · replace K := K.1 c1
    refine Wp.blk (by decide) ol_192 3 1 (pc' := 9) (L' := [.ref 23, mk0]) (S' := [.int (-103 : Int32)]) (h' := h) rfl ?_
    exact Wp.ret (op_ix (by decide) ol_192 4 rfl) rfl K
  · replace K := K.2 c1
    refine Wp.blk (by decide) ol_192 5 2 (pc' := 12) (L' := [.ref 23, mk0]) (S' := [.int (1 : Int32), .ref 23]) (h' := h) rfl ?_
    refine Wp.putf (op_ix (by decide) ol_192 7 rfl) (by decide) (okS HS 23 rfl rfl) (h' := (stI h 23 16 ((1 : Int32)))) rfl rfl ?_
    refine Wp.blk (by decide) ol_192 8 2 (pc' := 17) (L' := [.ref 23, mk0]) (S' := [.ref 23, .ref 23]) (h' := (stI h 23 16 ((1 : Int32)))) rfl ?_
    refine Wp.getf (op_ix (by decide) ol_192 10 rfl) (okS HS 23 rfl rfl) (v := .int (AI ((stI h 23 16 ((1 : Int32)))) 23 1)) rfl rfl ?_
    refine Wp.putf (op_ix (by decide) ol_192 11 rfl) (by decide) (okS HS 23 rfl rfl) (h' := (stI ((stI h 23 16 ((1 : Int32)))) 23 17 ((AI ((stI h 23 16 ((1 : Int32)))) 23 1)))) rfl rfl ?_
    refine Wp.blk (by decide) ol_192 12 2 (pc' := 25) (L' := [.ref 23, mk0]) (S' := [.ref 23, .ref 23]) (h' := (stI ((stI h 23 16 ((1 : Int32)))) 23 17 ((AI ((stI h 23 16 ((1 : Int32)))) 23 1)))) rfl ?_
    refine Wp.getf (op_ix (by decide) ol_192 14 rfl) (okS HS 23 rfl rfl) (v := .int (AI ((stI ((stI h 23 16 ((1 : Int32)))) 23 17 ((AI ((stI h 23 16 ((1 : Int32)))) 23 1)))) 23 8)) rfl rfl ?_
    refine Wp.putf (op_ix (by decide) ol_192 15 rfl) (by decide) (okS HS 23 rfl rfl) (h' := (stI ((stI ((stI h 23 16 ((1 : Int32)))) 23 17 ((AI ((stI h 23 16 ((1 : Int32)))) 23 1)))) 23 18 ((AI ((stI ((stI h 23 16 ((1 : Int32)))) 23 17 ((AI ((stI h 23 16 ((1 : Int32)))) 23 1)))) 23 8)))) rfl rfl ?_
    refine Wp.blk (by decide) ol_192 16 2 (pc' := 33) (L' := [.ref 23, mk0]) (S' := [.ref 23, .ref 23]) (h' := (stI ((stI ((stI h 23 16 ((1 : Int32)))) 23 17 ((AI ((stI h 23 16 ((1 : Int32)))) 23 1)))) 23 18 ((AI ((stI ((stI h 23 16 ((1 : Int32)))) 23 17 ((AI ((stI h 23 16 ((1 : Int32)))) 23 1)))) 23 8)))) rfl ?_
    refine Wp.getf (op_ix (by decide) ol_192 18 rfl) (okS HS 23 rfl rfl) (v := .int (AI ((stI ((stI ((stI h 23 16 ((1 : Int32)))) 23 17 ((AI ((stI h 23 16 ((1 : Int32)))) 23 1)))) 23 18 ((AI ((stI ((stI h 23 16 ((1 : Int32)))) 23 17 ((AI ((stI h 23 16 ((1 : Int32)))) 23 1)))) 23 8)))) 23 9)) rfl rfl ?_
    refine Wp.putf (op_ix (by decide) ol_192 19 rfl) (by decide) (okS HS 23 rfl rfl) (h' := (stI ((stI ((stI ((stI h 23 16 ((1 : Int32)))) 23 17 ((AI ((stI h 23 16 ((1 : Int32)))) 23 1)))) 23 18 ((AI ((stI ((stI h 23 16 ((1 : Int32)))) 23 17 ((AI ((stI h 23 16 ((1 : Int32)))) 23 1)))) 23 8)))) 23 19 ((AI ((stI ((stI ((stI h 23 16 ((1 : Int32)))) 23 17 ((AI ((stI h 23 16 ((1 : Int32)))) 23 1)))) 23 18 ((AI ((stI ((stI h 23 16 ((1 : Int32)))) 23 17 ((AI ((stI h 23 16 ((1 : Int32)))) 23 1)))) 23 8)))) 23 9)))) rfl rfl ?_
    refine Wp.blk (by decide) ol_192 20 2 (pc' := 41) (L' := [.ref 23, .int (0 : Int32)]) (S' := []) (h' := (stI ((stI ((stI ((stI h 23 16 ((1 : Int32)))) 23 17 ((AI ((stI h 23 16 ((1 : Int32)))) 23 1)))) 23 18 ((AI ((stI ((stI h 23 16 ((1 : Int32)))) 23 17 ((AI ((stI h 23 16 ((1 : Int32)))) 23 1)))) 23 8)))) 23 19 ((AI ((stI ((stI ((stI h 23 16 ((1 : Int32)))) 23 17 ((AI ((stI h 23 16 ((1 : Int32)))) 23 1)))) 23 18 ((AI ((stI ((stI h 23 16 ((1 : Int32)))) 23 17 ((AI ((stI h 23 16 ((1 : Int32)))) 23 1)))) 23 8)))) 23 9)))) rfl ?_
    exact K
/-- CutsOrFastModel.image at 41 -/
theorem g192_41 (d : Nat) (v1 : Int32) (h : AH) (HS : Sh h)  (Q : Option Value → AH → Prop) (K : ((v1 < (9 : Int32) → (ixR v1 10 ∧ ixR v1 9 ∧ ixR v1 9 ∧ ixR v1 9 ∧ Wp d 192 41 [.ref 23, .int (v1 + (1 : Int32))] [] (stI ((stI h 31 v1.toNatClampNeg ((AI h 26 v1.toNatClampNeg)))) 32 v1.toNatClampNeg ((AI ((stI h 31 v1.toNatClampNeg ((AI h 26 v1.toNatClampNeg)))) 28 v1.toNatClampNeg))) Q)) ∧ (¬ v1 < (9 : Int32) → Q (some (.int (AI h 23 9))) h))) : Wp d 192 41 [.ref 23, .int v1] [] h Q := by
  refine Wp.blk (by decide) ol_192 22 3 (pc' := (if v1 < (9 : Int32) then 47 else 77)) (L' := [.ref 23, .int v1]) (S' := []) (h' := h) rfl ?_
  refine Wp.br (fun c1 => ?_) (fun c1 => ?_)
  · replace K := K.1 c1
    refine Wp.blk (by decide) ol_192 25 1 (pc' := 48) (L' := [.ref 23, .int v1]) (S' := [.ref 23]) (h' := h) rfl ?_
    refine Wp.getf (op_ix (by decide) ol_192 26 rfl) (okS HS 23 rfl rfl) (v := .ref 31) (congrArg va_rf (rS HS 23 20 rfl)) rfl ?_
    refine Wp.blk (by decide) ol_192 27 2 (pc' := 53) (L' := [.ref 23, .int v1]) (S' := [.ref 23, .int v1, .ref 31]) (h' := h) rfl ?_
    refine Wp.getf (op_ix (by decide) ol_192 29 rfl) (okS HS 23 rfl rfl) (v := .ref 26) (congrArg va_rf (rS HS 23 6 rfl)) rfl ?_
    refine Wp.blk (by decide) ol_192 30 1 (pc' := 57) (L' := [.ref 23, .int v1]) (S' := [.int v1, .ref 26, .int v1, .ref 31]) (h' := h) rfl ?_
    obtain ⟨r2, K⟩ := K
    refine Wp.iald (op_ix (by decide) ol_192 31 rfl) (kS HS 26 rfl) (inS HS 26 rfl r2) rfl ?_
    obtain ⟨r3, K⟩ := K
    refine Wp.iast (op_ix (by decide) ol_192 32 rfl) (by decide) (kS HS 31 rfl) (inS HS 31 rfl r3) rfl ?_
    refine Wp.blk (by decide) ol_192 33 1 (pc' := 60) (L' := [.ref 23, .int v1]) (S' := [.ref 23]) (h' := (stI h 31 v1.toNatClampNeg ((AI h 26 v1.toNatClampNeg)))) rfl ?_
    refine Wp.getf (op_ix (by decide) ol_192 34 rfl) (okS HS 23 rfl rfl) (v := .ref 32) (congrArg va_rf (rS HS 23 21 rfl)) rfl ?_
    refine Wp.blk (by decide) ol_192 35 2 (pc' := 65) (L' := [.ref 23, .int v1]) (S' := [.ref 23, .int v1, .ref 32]) (h' := (stI h 31 v1.toNatClampNeg ((AI h 26 v1.toNatClampNeg)))) rfl ?_
    refine Wp.getf (op_ix (by decide) ol_192 37 rfl) (okS HS 23 rfl rfl) (v := .ref 28) (congrArg va_rf (rS HS 23 10 rfl)) rfl ?_
    refine Wp.blk (by decide) ol_192 38 1 (pc' := 69) (L' := [.ref 23, .int v1]) (S' := [.int v1, .ref 28, .int v1, .ref 32]) (h' := (stI h 31 v1.toNatClampNeg ((AI h 26 v1.toNatClampNeg)))) rfl ?_
    obtain ⟨r4, K⟩ := K
    refine Wp.iald (op_ix (by decide) ol_192 39 rfl) (kS HS 28 rfl) (inS HS 28 rfl r4) rfl ?_
    obtain ⟨r5, K⟩ := K
    refine Wp.iast (op_ix (by decide) ol_192 40 rfl) (by decide) (kS HS 32 rfl) (inS HS 32 rfl r5) rfl ?_
    refine Wp.blk (by decide) ol_192 41 2 (pc' := 41) (L' := [.ref 23, .int (v1 + (1 : Int32))]) (S' := []) (h' := (stI ((stI h 31 v1.toNatClampNeg ((AI h 26 v1.toNatClampNeg)))) 32 v1.toNatClampNeg ((AI ((stI h 31 v1.toNatClampNeg ((AI h 26 v1.toNatClampNeg)))) 28 v1.toNatClampNeg)))) rfl ?_
    exact K
  · replace K := K.2 c1
    refine Wp.blk (by decide) ol_192 43 1 (pc' := 78) (L' := [.ref 23, .int v1]) (S' := [.ref 23]) (h' := h) rfl ?_
    refine Wp.getf (op_ix (by decide) ol_192 44 rfl) (okS HS 23 rfl rfl) (v := .int (AI h 23 9)) rfl rfl ?_
    exact Wp.ret (op_ix (by decide) ol_192 45 rfl) rfl K
/-- CutsOrFastModel.restore at 0 ()I -/
theorem g193_0 (d : Nat)  (h : AH) (HS : Sh h)  (Q : Option Value → AH → Prop) (K : (((AI h 23 16) = (0 : Int32) → Q (some (.int (-103 : Int32))) h) ∧ (¬ (AI h 23 16) = (0 : Int32) → (((AI h 23 17) = (AI h 23 1) → Wp d 193 39 [.ref 23, .int (0 : Int32)] [] (stI ((stI h 23 8 ((AI h 23 18)))) 23 9 ((AI ((stI h 23 8 ((AI h 23 18)))) 23 19))) Q) ∧ (¬ (AI h 23 17) = (AI h 23 1) → Q (some (.int (-103 : Int32))) h))))) : Wp d 193 0 [.ref 23, mk0] [] h Q := by
  refine Wp.blk (by decide) ol_193 0 1 (pc' := 1) (L' := [.ref 23, mk0]) (S' := [.ref 23]) (h' := h) rfl ?_
  refine Wp.getf (op_ix (by decide) ol_193 1 rfl) (okS HS 23 rfl rfl) (v := .int (AI h 23 16)) rfl rfl ?_
  refine Wp.blk (by decide) ol_193 2 1 (pc' := (if (AI h 23 16) = (0 : Int32) then 18 else 7)) (L' := [.ref 23, mk0]) (S' := []) (h' := h) rfl ?_
  refine Wp.br (fun c1 => ?_) (fun c1 => ?_)
  · replace K := K.1 c1
    refine Wp.blk (by decide) ol_193 8 1 (pc' := 20) (L' := [.ref 23, mk0]) (S' := [.int (-103 : Int32)]) (h' := h) rfl ?_
    exact Wp.ret (op_ix (by decide) ol_193 9 rfl) rfl K
  · replace K := K.2 c1
    refine Wp.blk (by decide) ol_193 3 1 (pc' := 8) (L' := [.ref 23, mk0]) (S' := [.ref 23]) (h' := h) rfl ?_
    refine Wp.getf (op_ix (by decide) ol_193 4 rfl) (okS HS 23 rfl rfl) (v := .int (AI h 23 17)) rfl rfl ?_
    refine Wp.blk (by decide) ol_193 5 1 (pc' := 12) (L' := [.ref 23, mk0]) (S' := [.ref 23, .int (AI h 23 17)]) (h' := h) rfl ?_
    refine Wp.getf (op_ix (by decide) ol_193 6 rfl) (okS HS 23 rfl rfl) (v := .int (AI h 23 1)) rfl rfl ?_
    refine Wp.blk (by decide) ol_193 7 1 (pc' := (if (AI h 23 17) = (AI h 23 1) then 21 else 18)) (L' := [.ref 23, mk0]) (S' := []) (h' := h) rfl ?_
    refine Wp.br (fun c2 => ?_) (fun c2 => ?_)
    · replace K := K.1 c2
      refine Wp.blk (by decide) ol_193 10 2 (pc' := 23) (L' := [.ref 23, mk0]) (S' := [.ref 23, .ref 23]) (h' := h) rfl ?_
      refine Wp.getf (op_ix (by decide) ol_193 12 rfl) (okS HS 23 rfl rfl) (v := .int (AI h 23 18)) rfl rfl ?_
      refine Wp.putf (op_ix (by decide) ol_193 13 rfl) (by decide) (okS HS 23 rfl rfl) (h' := (stI h 23 8 ((AI h 23 18)))) rfl rfl ?_
      refine Wp.blk (by decide) ol_193 14 2 (pc' := 31) (L' := [.ref 23, mk0]) (S' := [.ref 23, .ref 23]) (h' := (stI h 23 8 ((AI h 23 18)))) rfl ?_
      refine Wp.getf (op_ix (by decide) ol_193 16 rfl) (okS HS 23 rfl rfl) (v := .int (AI ((stI h 23 8 ((AI h 23 18)))) 23 19)) rfl rfl ?_
      refine Wp.putf (op_ix (by decide) ol_193 17 rfl) (by decide) (okS HS 23 rfl rfl) (h' := (stI ((stI h 23 8 ((AI h 23 18)))) 23 9 ((AI ((stI h 23 8 ((AI h 23 18)))) 23 19)))) rfl rfl ?_
      refine Wp.blk (by decide) ol_193 18 2 (pc' := 39) (L' := [.ref 23, .int (0 : Int32)]) (S' := []) (h' := (stI ((stI h 23 8 ((AI h 23 18)))) 23 9 ((AI ((stI h 23 8 ((AI h 23 18)))) 23 19)))) rfl ?_
      exact K
    · replace K := K.2 c2
      refine Wp.blk (by decide) ol_193 8 1 (pc' := 20) (L' := [.ref 23, mk0]) (S' := [.int (-103 : Int32)]) (h' := h) rfl ?_
      exact Wp.ret (op_ix (by decide) ol_193 9 rfl) rfl K
/-- CutsOrFastModel.restore at 39 -/
theorem g193_39 (d : Nat) (v1 : Int32) (h : AH) (HS : Sh h)  (Q : Option Value → AH → Prop) (K : ((v1 < (9 : Int32) → (ixR v1 9 ∧ ixR v1 10 ∧ ixR v1 9 ∧ ixR v1 9 ∧ Wp d 193 39 [.ref 23, .int (v1 + (1 : Int32))] [] (stI ((stI h 26 v1.toNatClampNeg ((AI h 31 v1.toNatClampNeg)))) 28 v1.toNatClampNeg ((AI ((stI h 26 v1.toNatClampNeg ((AI h 31 v1.toNatClampNeg)))) 32 v1.toNatClampNeg))) Q)) ∧ (¬ v1 < (9 : Int32) → Q (some (.int (AI h 23 9))) h))) : Wp d 193 39 [.ref 23, .int v1] [] h Q := by
  refine Wp.blk (by decide) ol_193 20 3 (pc' := (if v1 < (9 : Int32) then 45 else 75)) (L' := [.ref 23, .int v1]) (S' := []) (h' := h) rfl ?_
  refine Wp.br (fun c1 => ?_) (fun c1 => ?_)
  · replace K := K.1 c1
    refine Wp.blk (by decide) ol_193 23 1 (pc' := 46) (L' := [.ref 23, .int v1]) (S' := [.ref 23]) (h' := h) rfl ?_
    refine Wp.getf (op_ix (by decide) ol_193 24 rfl) (okS HS 23 rfl rfl) (v := .ref 26) (congrArg va_rf (rS HS 23 6 rfl)) rfl ?_
    refine Wp.blk (by decide) ol_193 25 2 (pc' := 51) (L' := [.ref 23, .int v1]) (S' := [.ref 23, .int v1, .ref 26]) (h' := h) rfl ?_
    refine Wp.getf (op_ix (by decide) ol_193 27 rfl) (okS HS 23 rfl rfl) (v := .ref 31) (congrArg va_rf (rS HS 23 20 rfl)) rfl ?_
    refine Wp.blk (by decide) ol_193 28 1 (pc' := 55) (L' := [.ref 23, .int v1]) (S' := [.int v1, .ref 31, .int v1, .ref 26]) (h' := h) rfl ?_
    obtain ⟨r2, K⟩ := K
    refine Wp.iald (op_ix (by decide) ol_193 29 rfl) (kS HS 31 rfl) (inS HS 31 rfl r2) rfl ?_
    obtain ⟨r3, K⟩ := K
    refine Wp.iast (op_ix (by decide) ol_193 30 rfl) (by decide) (kS HS 26 rfl) (inS HS 26 rfl r3) rfl ?_
    refine Wp.blk (by decide) ol_193 31 1 (pc' := 58) (L' := [.ref 23, .int v1]) (S' := [.ref 23]) (h' := (stI h 26 v1.toNatClampNeg ((AI h 31 v1.toNatClampNeg)))) rfl ?_
    refine Wp.getf (op_ix (by decide) ol_193 32 rfl) (okS HS 23 rfl rfl) (v := .ref 28) (congrArg va_rf (rS HS 23 10 rfl)) rfl ?_
    refine Wp.blk (by decide) ol_193 33 2 (pc' := 63) (L' := [.ref 23, .int v1]) (S' := [.ref 23, .int v1, .ref 28]) (h' := (stI h 26 v1.toNatClampNeg ((AI h 31 v1.toNatClampNeg)))) rfl ?_
    refine Wp.getf (op_ix (by decide) ol_193 35 rfl) (okS HS 23 rfl rfl) (v := .ref 32) (congrArg va_rf (rS HS 23 21 rfl)) rfl ?_
    refine Wp.blk (by decide) ol_193 36 1 (pc' := 67) (L' := [.ref 23, .int v1]) (S' := [.int v1, .ref 32, .int v1, .ref 28]) (h' := (stI h 26 v1.toNatClampNeg ((AI h 31 v1.toNatClampNeg)))) rfl ?_
    obtain ⟨r4, K⟩ := K
    refine Wp.iald (op_ix (by decide) ol_193 37 rfl) (kS HS 32 rfl) (inS HS 32 rfl r4) rfl ?_
    obtain ⟨r5, K⟩ := K
    refine Wp.iast (op_ix (by decide) ol_193 38 rfl) (by decide) (kS HS 28 rfl) (inS HS 28 rfl r5) rfl ?_
    refine Wp.blk (by decide) ol_193 39 2 (pc' := 39) (L' := [.ref 23, .int (v1 + (1 : Int32))]) (S' := []) (h' := (stI ((stI h 26 v1.toNatClampNeg ((AI h 31 v1.toNatClampNeg)))) 28 v1.toNatClampNeg ((AI ((stI h 26 v1.toNatClampNeg ((AI h 31 v1.toNatClampNeg)))) 32 v1.toNatClampNeg)))) rfl ?_
    exact K
  · replace K := K.2 c1
    refine Wp.blk (by decide) ol_193 41 1 (pc' := 76) (L' := [.ref 23, .int v1]) (S' := [.ref 23]) (h' := h) rfl ?_
    refine Wp.getf (op_ix (by decide) ol_193 42 rfl) (okS HS 23 rfl rfl) (v := .int (AI h 23 9)) rfl rfl ?_
    exact Wp.ret (op_ix (by decide) ol_193 43 rfl) rfl K
/-- CutsOrFastModel.howMany at 0 (I)I -/
theorem g194_0 (d : Nat) (v1 : Int32) (h : AH) (HS : Sh h)  (Q : Option Value → AH → Prop) (K : ((v1 = Int32.ofNat 0 → Q (some (.int (AI h 23 0))) h) ∧ (¬ v1 = Int32.ofNat 0 → ((v1 = Int32.ofNat 1 → (Cl d 143 [.ref 23, .int (v1 - ((1 : Int32)))] h (fun r h3 => ∃ x5 : Int32, r = some (.int x5) ∧ Sh h3 ∧ (Cl d 165 [.int x5] h3 (fun r h6 => ∃ x8 : Int32, r = some (.int x8) ∧ Sh h6 ∧ Q (some (.int x8)) h6))))) ∧ (¬ v1 = Int32.ofNat 1 → ((v1 = Int32.ofNat 2 → (Cl d 143 [.ref 23, .int (v1 - ((1 : Int32)))] h (fun r h10 => ∃ x12 : Int32, r = some (.int x12) ∧ Sh h10 ∧ (Cl d 165 [.int x12] h10 (fun r h13 => ∃ x15 : Int32, r = some (.int x15) ∧ Sh h13 ∧ Q (some (.int x15)) h13))))) ∧ (¬ v1 = Int32.ofNat 2 → ((v1 = Int32.ofNat 3 → (Cl d 143 [.ref 23, .int (v1 - ((1 : Int32)))] h (fun r h17 => ∃ x19 : Int32, r = some (.int x19) ∧ Sh h17 ∧ (Cl d 165 [.int x19] h17 (fun r h20 => ∃ x22 : Int32, r = some (.int x22) ∧ Sh h20 ∧ Q (some (.int x22)) h20))))) ∧ (¬ v1 = Int32.ofNat 3 → ((v1 = Int32.ofNat 4 → Q (some (.int (AI h 23 9))) h) ∧ (¬ v1 = Int32.ofNat 4 → ((v1 = Int32.ofNat 5 → Q (some (.int (AI h 23 8))) h) ∧ (¬ v1 = Int32.ofNat 5 → ((v1 = Int32.ofNat 6 → Q (some (.int (AI h 23 11))) h) ∧ (¬ v1 = Int32.ofNat 6 → ((v1 = Int32.ofNat 7 → Q (some (.int (AI h 23 14))) h) ∧ (¬ v1 = Int32.ofNat 7 → ((v1 = Int32.ofNat 8 → Q (some (.int (AI h 23 1))) h) ∧ (¬ v1 = Int32.ofNat 8 → ((v1 = Int32.ofNat 9 → Q (some (.int (AI h 23 13))) h) ∧ (¬ v1 = Int32.ofNat 9 → Q (some (.int (-102 : Int32))) h))))))))))))))))))))) : Wp (d + 1) 194 0 [.ref 23, .int v1] [] h Q := by
  refine Wp.blk (by decide) ol_194 0 2 (pc' := (tsw v1 [(0, 56), (1, 61), (2, 61), (3, 61), (4, 72), (5, 77), (6, 82), (7, 87), (8, 92), (9, 97)] 102)) (L' := [.ref 23, .int v1]) (S' := []) (h' := h) rfl ?_
  refine Wp.tsw (fun c1 => ?_) (fun c1 => ?_)
  · replace K := K.1 c1
    refine Wp.blk (by decide) ol_194 2 1 (pc' := 57) (L' := [.ref 23, .int v1]) (S' := [.ref 23]) (h' := h) rfl ?_
    refine Wp.getf (op_ix (by decide) ol_194 3 rfl) (okS HS 23 rfl rfl) (v := .int (AI h 23 0)) rfl rfl ?_
    exact Wp.ret (op_ix (by decide) ol_194 4 rfl) rfl K
  replace K := K.2 c1
  refine Wp.tsw (fun c2 => ?_) (fun c2 => ?_)
  · replace K := K.1 c2
    refine Wp.blk (by decide) ol_194 5 4 (pc' := 65) (L' := [.ref 23, .int v1]) (S' := [.int (v1 - ((1 : Int32))), .ref 23]) (h' := h) rfl ?_
    refine Wp.callI (op_ix (by decide) ol_194 9 rfl) (act_virt (c2 := 1) rfl (lk1 (kS HS 23 rfl)) rfl) rfl (K.mono ?_)
    rintro _ h3 ⟨x5, rfl, hs4, K⟩
    refine ⟨x5, rfl, ?_⟩
    refine Wp.callI (op_ix (by decide) ol_194 10 rfl) rfl rfl (K.mono ?_)
    rintro _ h6 ⟨x8, rfl, hs7, K⟩
    refine ⟨x8, rfl, ?_⟩
    exact Wp.ret (op_ix (by decide) ol_194 11 rfl) rfl K
  replace K := K.2 c2
  refine Wp.tsw (fun c9 => ?_) (fun c9 => ?_)
  · replace K := K.1 c9
    refine Wp.blk (by decide) ol_194 5 4 (pc' := 65) (L' := [.ref 23, .int v1]) (S' := [.int (v1 - ((1 : Int32))), .ref 23]) (h' := h) rfl ?_
    refine Wp.callI (op_ix (by decide) ol_194 9 rfl) (act_virt (c2 := 1) rfl (lk1 (kS HS 23 rfl)) rfl) rfl (K.mono ?_)
    rintro _ h10 ⟨x12, rfl, hs11, K⟩
    refine ⟨x12, rfl, ?_⟩
    refine Wp.callI (op_ix (by decide) ol_194 10 rfl) rfl rfl (K.mono ?_)
    rintro _ h13 ⟨x15, rfl, hs14, K⟩
    refine ⟨x15, rfl, ?_⟩
    exact Wp.ret (op_ix (by decide) ol_194 11 rfl) rfl K
  replace K := K.2 c9
  refine Wp.tsw (fun c16 => ?_) (fun c16 => ?_)
  · replace K := K.1 c16
    refine Wp.blk (by decide) ol_194 5 4 (pc' := 65) (L' := [.ref 23, .int v1]) (S' := [.int (v1 - ((1 : Int32))), .ref 23]) (h' := h) rfl ?_
    refine Wp.callI (op_ix (by decide) ol_194 9 rfl) (act_virt (c2 := 1) rfl (lk1 (kS HS 23 rfl)) rfl) rfl (K.mono ?_)
    rintro _ h17 ⟨x19, rfl, hs18, K⟩
    refine ⟨x19, rfl, ?_⟩
    refine Wp.callI (op_ix (by decide) ol_194 10 rfl) rfl rfl (K.mono ?_)
    rintro _ h20 ⟨x22, rfl, hs21, K⟩
    refine ⟨x22, rfl, ?_⟩
    exact Wp.ret (op_ix (by decide) ol_194 11 rfl) rfl K
  replace K := K.2 c16
  refine Wp.tsw (fun c23 => ?_) (fun c23 => ?_)
  · replace K := K.1 c23
    refine Wp.blk (by decide) ol_194 12 1 (pc' := 73) (L' := [.ref 23, .int v1]) (S' := [.ref 23]) (h' := h) rfl ?_
    refine Wp.getf (op_ix (by decide) ol_194 13 rfl) (okS HS 23 rfl rfl) (v := .int (AI h 23 9)) rfl rfl ?_
    exact Wp.ret (op_ix (by decide) ol_194 14 rfl) rfl K
  replace K := K.2 c23
  refine Wp.tsw (fun c24 => ?_) (fun c24 => ?_)
  · replace K := K.1 c24
    refine Wp.blk (by decide) ol_194 15 1 (pc' := 78) (L' := [.ref 23, .int v1]) (S' := [.ref 23]) (h' := h) rfl ?_
    refine Wp.getf (op_ix (by decide) ol_194 16 rfl) (okS HS 23 rfl rfl) (v := .int (AI h 23 8)) rfl rfl ?_
    exact Wp.ret (op_ix (by decide) ol_194 17 rfl) rfl K
  replace K := K.2 c24
  refine Wp.tsw (fun c25 => ?_) (fun c25 => ?_)
  · replace K := K.1 c25
    refine Wp.blk (by decide) ol_194 18 1 (pc' := 83) (L' := [.ref 23, .int v1]) (S' := [.ref 23]) (h' := h) rfl ?_
    refine Wp.getf (op_ix (by decide) ol_194 19 rfl) (okS HS 23 rfl rfl) (v := .int (AI h 23 11)) rfl rfl ?_
    exact Wp.ret (op_ix (by decide) ol_194 20 rfl) rfl K
  replace K := K.2 c25
  refine Wp.tsw (fun c26 => ?_) (fun c26 => ?_)
  · replace K := K.1 c26
    refine Wp.blk (by decide) ol_194 21 1 (pc' := 88) (L' := [.ref 23, .int v1]) (S' := [.ref 23]) (h' := h) rfl ?_
    refine Wp.getf (op_ix (by decide) ol_194 22 rfl) (okS HS 23 rfl rfl) (v := .int (AI h 23 14)) rfl rfl ?_
    exact Wp.ret (op_ix (by decide) ol_194 23 rfl) rfl K
  replace K := K.2 c26
  refine Wp.tsw (fun c27 => ?_) (fun c27 => ?_)
  · replace K := K.1 c27
    refine Wp.blk (by decide) ol_194 24 1 (pc' := 93) (L' := [.ref 23, .int v1]) (S' := [.ref 23]) (h' := h) rfl ?_
    refine Wp.getf (op_ix (by decide) ol_194 25 rfl) (okS HS 23 rfl rfl) (v := .int (AI h 23 1)) rfl rfl ?_
    exact Wp.ret (op_ix (by decide) ol_194 26 rfl) rfl K
  replace K := K.2 c27
  refine Wp.tsw (fun c28 => ?_) (fun c28 => ?_)
  · replace K := K.1 c28
    refine Wp.blk (by decide) ol_194 27 1 (pc' := 98) (L' := [.ref 23, .int v1]) (S' := [.ref 23]) (h' := h) rfl ?_
    refine Wp.getf (op_ix (by decide) ol_194 28 rfl) (okS HS 23 rfl rfl) (v := .int (AI h 23 13)) rfl rfl ?_
    exact Wp.ret (op_ix (by decide) ol_194 29 rfl) rfl K
  replace K := K.2 c28
  unfold tsw
  refine Wp.blk (by decide) ol_194 30 1 (pc' := 104) (L' := [.ref 23, .int v1]) (S' := [.int (-102 : Int32)]) (h' := h) rfl ?_
  exact Wp.ret (op_ix (by decide) ol_194 31 rfl) rfl K
/-- CutsOrFastModel.count at 0 (I)I -/
theorem g195_0 (d : Nat) (v1 : Int32) (h : AH) (HS : Sh h)  (Q : Option Value → AH → Prop) (K : (Cl d 194 [.ref 23, .int v1] h (fun r h1 => ∃ x3 : Int32, r = some (.int x3) ∧ Sh h1 ∧ Q (some (.int x3)) h1))) : Wp (d + 1) 195 0 [.ref 23, .int v1] [] h Q := by
  refine Wp.blk (by decide) ol_195 0 2 (pc' := 2) (L' := [.ref 23, .int v1]) (S' := [.int v1, .ref 23]) (h' := h) rfl ?_
  refine Wp.callI (op_ix (by decide) ol_195 2 rfl) (act_virt (c2 := 1) rfl (lk1 (kS HS 23 rfl)) rfl) rfl (K.mono ?_)
  rintro _ h1 ⟨x3, rfl, hs2, K⟩
  refine ⟨x3, rfl, ?_⟩
  exact Wp.ret (op_ix (by decide) ol_195 3 rfl) rfl K
/-- CutsOrFastModel.mix at 0 (J)V -/
theorem g196_0 (d : Nat) (v1 : Int64) (h : AH) (HS : Sh h)  (Q : Option Value → AH → Prop) (K : Q none (stL h 23 46 ((((((31 : Int64)) * ((AL h 23 46)))) + v1)))) : Wp d 196 0 [.ref 23, .long v1, mk0] [] h Q := by
  refine Wp.blk (by decide) ol_196 0 3 (pc' := 5) (L' := [.ref 23, .long v1, mk0]) (S' := [.ref 23, .long (31 : Int64), .ref 23]) (h' := h) rfl ?_
  refine Wp.getf (op_ix (by decide) ol_196 3 rfl) (okS HS 23 rfl rfl) (v := .long (AL h 23 46)) rfl rfl ?_
  refine Wp.blk (by decide) ol_196 4 3 (pc' := 11) (L' := [.ref 23, .long v1, mk0]) (S' := [.long (((((31 : Int64)) * ((AL h 23 46)))) + v1), .ref 23]) (h' := h) rfl ?_
  refine Wp.putf (op_ix (by decide) ol_196 7 rfl) (by decide) (okS HS 23 rfl rfl) (h' := (stL h 23 46 ((((((31 : Int64)) * ((AL h 23 46)))) + v1)))) rfl rfl ?_
  exact Wp.ret (op_ix (by decide) ol_196 8 rfl) rfl K
/-- CutsOrFastModel.mixNet at 0 ()V -/
theorem g197_0 (d : Nat)  (h : AH) (HS : Sh h)  (Q : Option Value → AH → Prop) (K : (Cl d 144 [.ref 23] h (fun r h1 => ∃ x3 : Int32, r = some (.int x3) ∧ Sh h1 ∧ (Cl d 150 [.ref 23, .int (AI ((stL h1 23 46 ((((((31 : Int64)) * ((AL h1 23 46)))) + x3.toInt64)))) 23 0)] ((stL h1 23 46 ((((((31 : Int64)) * ((AL h1 23 46)))) + x3.toInt64)))) (fun r h4 => r = none ∧ Sh h4 ∧ (ixR ((0 : Int32)) 118098 ∧ (((AI h4 40 ((0 : Int32)).toNatClampNeg) = (0 : Int32) → (ixR ((1 : Int32)) 118098 ∧ (((AI ((stL h4 23 46 ((((((31 : Int64)) * ((AL h4 23 46)))) + ((1 : Int64)))))) 40 ((1 : Int32)).toNatClampNeg) = (0 : Int32) → Wp (d + 1) 197 50 [.ref 23, mk0] [.long (1 : Int64), .ref 23] (stL h4 23 46 ((((((31 : Int64)) * ((AL h4 23 46)))) + ((1 : Int64))))) Q) ∧ (¬ (AI ((stL h4 23 46 ((((((31 : Int64)) * ((AL h4 23 46)))) + ((1 : Int64)))))) 40 ((1 : Int32)).toNatClampNeg) = (0 : Int32) → Wp (d + 1) 197 50 [.ref 23, mk0] [.long (0 : Int64), .ref 23] (stL h4 23 46 ((((((31 : Int64)) * ((AL h4 23 46)))) + ((1 : Int64))))) Q)))) ∧ (¬ (AI h4 40 ((0 : Int32)).toNatClampNeg) = (0 : Int32) → (ixR ((1 : Int32)) 118098 ∧ (((AI ((stL h4 23 46 ((((((31 : Int64)) * ((AL h4 23 46)))) + ((0 : Int64)))))) 40 ((1 : Int32)).toNatClampNeg) = (0 : Int32) → Wp (d + 1) 197 50 [.ref 23, mk0] [.long (1 : Int64), .ref 23] (stL h4 23 46 ((((((31 : Int64)) * ((AL h4 23 46)))) + ((0 : Int64))))) Q) ∧ (¬ (AI ((stL h4 23 46 ((((((31 : Int64)) * ((AL h4 23 46)))) + ((0 : Int64)))))) 40 ((1 : Int32)).toNatClampNeg) = (0 : Int32) → Wp (d + 1) 197 50 [.ref 23, mk0] [.long (0 : Int64), .ref 23] (stL h4 23 46 ((((((31 : Int64)) * ((AL h4 23 46)))) + ((0 : Int64))))) Q))))))))))) : Wp (d + 1) 197 0 [.ref 23, mk0] [] h Q := by
  refine Wp.blk (by decide) ol_197 0 2 (pc' := 2) (L' := [.ref 23, mk0]) (S' := [.ref 23, .ref 23]) (h' := h) rfl ?_
  refine Wp.callI (op_ix (by decide) ol_197 2 rfl) (act_virt (c2 := 0) rfl (lk1 (kS HS 23 rfl)) rfl) rfl (K.mono ?_)
  rintro _ h1 ⟨x3, rfl, hs2, K⟩
  refine ⟨x3, rfl, ?_⟩
  refine Wp.blk (by decide) ol_197 3 1 (pc' := 6) (L' := [.ref 23, mk0]) (S' := [.long x3.toInt64, .ref 23]) (h' := h1) rfl ?_
  refine Wp.callV (op_ix (by decide) ol_197 4 rfl) (act_virt (c2 := 1) rfl (lk1 (kS hs2 23 rfl)) rfl) rfl (Cl.enter (L := [.ref 23, .long x3.toInt64, mk0]) rfl ?_)
  refine Wp.blk (by decide) ol_196 0 3 (pc' := 5) (L' := [.ref 23, .long x3.toInt64, mk0]) (S' := [.ref 23, .long (31 : Int64), .ref 23]) (h' := h1) rfl ?_
  refine Wp.getf (op_ix (by decide) ol_196 3 rfl) (okS hs2 23 rfl rfl) (v := .long (AL h1 23 46)) rfl rfl ?_
  refine Wp.blk (by decide) ol_196 4 3 (pc' := 11) (L' := [.ref 23, .long x3.toInt64, mk0]) (S' := [.long (((((31 : Int64)) * ((AL h1 23 46)))) + x3.toInt64), .ref 23]) (h' := h1) rfl ?_
  refine Wp.putf (op_ix (by decide) ol_196 7 rfl) (by decide) (okS hs2 23 rfl rfl) (h' := (stL h1 23 46 ((((((31 : Int64)) * ((AL h1 23 46)))) + x3.toInt64)))) rfl rfl ?_
  refine Wp.ret (op_ix (by decide) ol_196 8 rfl) rfl ⟨rfl, ?_⟩
  refine Wp.blk (by decide) ol_197 5 2 (pc' := 11) (L' := [.ref 23, mk0]) (S' := [.ref 23, .ref 23]) (h' := (stL h1 23 46 ((((((31 : Int64)) * ((AL h1 23 46)))) + x3.toInt64)))) rfl ?_
  refine Wp.getf (op_ix (by decide) ol_197 7 rfl) (okS hs2 23 rfl rfl) (v := .int (AI ((stL h1 23 46 ((((((31 : Int64)) * ((AL h1 23 46)))) + x3.toInt64)))) 23 0)) rfl rfl ?_
  refine Wp.callV (op_ix (by decide) ol_197 8 rfl) (act_virt (c2 := 1) rfl (lk1 (kS hs2 23 rfl)) rfl) rfl (K.mono ?_)
  rintro _ h4 ⟨rfl, hs5, K⟩
  refine ⟨rfl, ?_⟩
  refine Wp.blk (by decide) ol_197 9 2 (pc' := 19) (L' := [.ref 23, mk0]) (S' := [.ref 23, .ref 23]) (h' := h4) rfl ?_
  refine Wp.getf (op_ix (by decide) ol_197 11 rfl) (okS hs5 23 rfl rfl) (v := .ref 40) (congrArg va_rf (rS hs5 23 36 rfl)) rfl ?_
  refine Wp.blk (by decide) ol_197 12 1 (pc' := 23) (L' := [.ref 23, mk0]) (S' := [.int (0 : Int32), .ref 40, .ref 23]) (h' := h4) rfl ?_
  obtain ⟨r6, K⟩ := K
  refine Wp.bald (op_ix (by decide) ol_197 13 rfl) (Or.inr (kS hs5 40 rfl)) (inS hs5 40 rfl r6) rfl ?_
  refine Wp.blk (by decide) ol_197 14 1 (pc' := (if (AI h4 40 ((0 : Int32)).toNatClampNeg) = (0 : Int32) then 31 else 27)) (L' := [.ref 23, mk0]) (S' := [.ref 23]) (h' := h4) rfl ?_
  refine Wp.br (fun c7 => ?_) (fun c7 => ?_)
  · replace K := K.1 c7
    refine Wp.blk (by decide) ol_197 17 1 (pc' := 32) (L' := [.ref 23, mk0]) (S' := [.long (1 : Int64), .ref 23]) (h' := h4) rfl ?_
    refine Wp.callV (op_ix (by decide) ol_197 18 rfl) (act_virt (c2 := 1) rfl (lk1 (kS hs5 23 rfl)) rfl) rfl (Cl.enter (L := [.ref 23, .long (1 : Int64), mk0]) rfl ?_)
    refine Wp.blk (by decide) ol_196 0 3 (pc' := 5) (L' := [.ref 23, .long (1 : Int64), mk0]) (S' := [.ref 23, .long (31 : Int64), .ref 23]) (h' := h4) rfl ?_
    refine Wp.getf (op_ix (by decide) ol_196 3 rfl) (okS hs5 23 rfl rfl) (v := .long (AL h4 23 46)) rfl rfl ?_
    refine Wp.blk (by decide) ol_196 4 3 (pc' := 11) (L' := [.ref 23, .long (1 : Int64), mk0]) (S' := [.long (((((31 : Int64)) * ((AL h4 23 46)))) + ((1 : Int64))), .ref 23]) (h' := h4) rfl ?_
    refine Wp.putf (op_ix (by decide) ol_196 7 rfl) (by decide) (okS hs5 23 rfl rfl) (h' := (stL h4 23 46 ((((((31 : Int64)) * ((AL h4 23 46)))) + ((1 : Int64)))))) rfl rfl ?_
    refine Wp.ret (op_ix (by decide) ol_196 8 rfl) rfl ⟨rfl, ?_⟩
    refine Wp.blk (by decide) ol_197 19 2 (pc' := 37) (L' := [.ref 23, mk0]) (S' := [.ref 23, .ref 23]) (h' := (stL h4 23 46 ((((((31 : Int64)) * ((AL h4 23 46)))) + ((1 : Int64)))))) rfl ?_
    refine Wp.getf (op_ix (by decide) ol_197 21 rfl) (okS hs5 23 rfl rfl) (v := .ref 40) (congrArg va_rf (rS hs5 23 36 rfl)) rfl ?_
    refine Wp.blk (by decide) ol_197 22 1 (pc' := 41) (L' := [.ref 23, mk0]) (S' := [.int (1 : Int32), .ref 40, .ref 23]) (h' := (stL h4 23 46 ((((((31 : Int64)) * ((AL h4 23 46)))) + ((1 : Int64)))))) rfl ?_
    obtain ⟨r8, K⟩ := K
    refine Wp.bald (op_ix (by decide) ol_197 23 rfl) (Or.inr (kS hs5 40 rfl)) (inS hs5 40 rfl r8) rfl ?_
    refine Wp.blk (by decide) ol_197 24 1 (pc' := (if (AI ((stL h4 23 46 ((((((31 : Int64)) * ((AL h4 23 46)))) + ((1 : Int64)))))) 40 ((1 : Int32)).toNatClampNeg) = (0 : Int32) then 49 else 45)) (L' := [.ref 23, mk0]) (S' := [.ref 23]) (h' := (stL h4 23 46 ((((((31 : Int64)) * ((AL h4 23 46)))) + ((1 : Int64)))))) rfl ?_
    refine Wp.br (fun c9 => ?_) (fun c9 => ?_)
    · replace K := K.1 c9
      refine Wp.blk (by decide) ol_197 27 1 (pc' := 50) (L' := [.ref 23, mk0]) (S' := [.long (1 : Int64), .ref 23]) (h' := (stL h4 23 46 ((((((31 : Int64)) * ((AL h4 23 46)))) + ((1 : Int64)))))) rfl ?_
      exact K
    · replace K := K.2 c9
      refine Wp.blk (by decide) ol_197 25 2 (pc' := 50) (L' := [.ref 23, mk0]) (S' := [.long (0 : Int64), .ref 23]) (h' := (stL h4 23 46 ((((((31 : Int64)) * ((AL h4 23 46)))) + ((1 : Int64)))))) rfl ?_
      exact K
  · replace K := K.2 c7
    refine Wp.blk (by decide) ol_197 15 2 (pc' := 32) (L' := [.ref 23, mk0]) (S' := [.long (0 : Int64), .ref 23]) (h' := h4) rfl ?_
    refine Wp.callV (op_ix (by decide) ol_197 18 rfl) (act_virt (c2 := 1) rfl (lk1 (kS hs5 23 rfl)) rfl) rfl (Cl.enter (L := [.ref 23, .long (0 : Int64), mk0]) rfl ?_)
    refine Wp.blk (by decide) ol_196 0 3 (pc' := 5) (L' := [.ref 23, .long (0 : Int64), mk0]) (S' := [.ref 23, .long (31 : Int64), .ref 23]) (h' := h4) rfl ?_
    refine Wp.getf (op_ix (by decide) ol_196 3 rfl) (okS hs5 23 rfl rfl) (v := .long (AL h4 23 46)) rfl rfl ?_
    refine Wp.blk (by decide) ol_196 4 3 (pc' := 11) (L' := [.ref 23, .long (0 : Int64), mk0]) (S' := [.long (((((31 : Int64)) * ((AL h4 23 46)))) + ((0 : Int64))), .ref 23]) (h' := h4) rfl ?_
    refine Wp.putf (op_ix (by decide) ol_196 7 rfl) (by decide) (okS hs5 23 rfl rfl) (h' := (stL h4 23 46 ((((((31 : Int64)) * ((AL h4 23 46)))) + ((0 : Int64)))))) rfl rfl ?_
    refine Wp.ret (op_ix (by decide) ol_196 8 rfl) rfl ⟨rfl, ?_⟩
    refine Wp.blk (by decide) ol_197 19 2 (pc' := 37) (L' := [.ref 23, mk0]) (S' := [.ref 23, .ref 23]) (h' := (stL h4 23 46 ((((((31 : Int64)) * ((AL h4 23 46)))) + ((0 : Int64)))))) rfl ?_
    refine Wp.getf (op_ix (by decide) ol_197 21 rfl) (okS hs5 23 rfl rfl) (v := .ref 40) (congrArg va_rf (rS hs5 23 36 rfl)) rfl ?_
    refine Wp.blk (by decide) ol_197 22 1 (pc' := 41) (L' := [.ref 23, mk0]) (S' := [.int (1 : Int32), .ref 40, .ref 23]) (h' := (stL h4 23 46 ((((((31 : Int64)) * ((AL h4 23 46)))) + ((0 : Int64)))))) rfl ?_
    obtain ⟨r10, K⟩ := K
    refine Wp.bald (op_ix (by decide) ol_197 23 rfl) (Or.inr (kS hs5 40 rfl)) (inS hs5 40 rfl r10) rfl ?_
    refine Wp.blk (by decide) ol_197 24 1 (pc' := (if (AI ((stL h4 23 46 ((((((31 : Int64)) * ((AL h4 23 46)))) + ((0 : Int64)))))) 40 ((1 : Int32)).toNatClampNeg) = (0 : Int32) then 49 else 45)) (L' := [.ref 23, mk0]) (S' := [.ref 23]) (h' := (stL h4 23 46 ((((((31 : Int64)) * ((AL h4 23 46)))) + ((0 : Int64)))))) rfl ?_
    refine Wp.br (fun c11 => ?_) (fun c11 => ?_)
    · replace K := K.1 c11
      refine Wp.blk (by decide) ol_197 27 1 (pc' := 50) (L' := [.ref 23, mk0]) (S' := [.long (1 : Int64), .ref 23]) (h' := (stL h4 23 46 ((((((31 : Int64)) * ((AL h4 23 46)))) + ((0 : Int64)))))) rfl ?_
      exact K
    · replace K := K.2 c11
      refine Wp.blk (by decide) ol_197 25 2 (pc' := 50) (L' := [.ref 23, mk0]) (S' := [.long (0 : Int64), .ref 23]) (h' := (stL h4 23 46 ((((((31 : Int64)) * ((AL h4 23 46)))) + ((0 : Int64)))))) rfl ?_
      exact K
/-- CutsOrFastModel.mixNet at 50 -/
theorem g197_50 (d : Nat) (s0 : Int64) (s1 : Nat) (h : AH) (HS : Sh h)  (Q : Option Value → AH → Prop) (K : ((AK h s1).1 = 12 ∧ (okC 12 (AK h s1).1 = true ∧ 2 ≤ s1 ∧ (Cl d 154 [.ref 23, .int (0 : Int32)] ((stL h s1 46 ((((((31 : Int64)) * ((AL h s1 46)))) + s0)))) (fun r h4 => ∃ x6 : Int32, r = some (.int x6) ∧ Sh h4 ∧ (Cl d 154 [.ref 23, .int (1 : Int32)] ((stL h4 23 46 ((((((31 : Int64)) * ((AL h4 23 46)))) + x6.toInt64)))) (fun r h7 => ∃ x9 : Int32, r = some (.int x9) ∧ Sh h7 ∧ (Cl d 160 [.ref 23] ((stL h7 23 46 ((((((31 : Int64)) * ((AL h7 23 46)))) + x9.toInt64)))) (fun r h10 => ∃ x12 : Int32, r = some (.int x12) ∧ Sh h10 ∧ (Cl d 163 [.ref 23] ((stL h10 23 46 ((((((31 : Int64)) * ((AL h10 23 46)))) + x12.toInt64)))) (fun r h13 => ∃ x15 : Int32, r = some (.int x15) ∧ Sh h13 ∧ (Cl d 166 [.ref 23, .int (0 : Int32)] ((stL h13 23 46 ((((((31 : Int64)) * ((AL h13 23 46)))) + x15.toInt64)))) (fun r h16 => ∃ x18 : Int32, r = some (.int x18) ∧ Sh h16 ∧ (Cl d 166 [.ref 23, .int (1 : Int32)] ((stL h16 23 46 ((((((31 : Int64)) * ((AL h16 23 46)))) + x18.toInt64)))) (fun r h19 => ∃ x21 : Int32, r = some (.int x21) ∧ Sh h19 ∧ (Cl d 171 [.ref 23, .int (0 : Int32)] ((stL h19 23 46 ((((((31 : Int64)) * ((AL h19 23 46)))) + x21.toInt64)))) (fun r h22 => ∃ x24 : Int32, r = some (.int x24) ∧ Sh h22 ∧ (Cl d 171 [.ref 23, .int (1 : Int32)] ((stL h22 23 46 ((((((31 : Int64)) * ((AL h22 23 46)))) + x24.toInt64)))) (fun r h25 => ∃ x27 : Int32, r = some (.int x27) ∧ Sh h25 ∧ Wp (d + 1) 197 133 [.ref 23, .int (0 : Int32)] [] (stL h25 23 46 ((((((31 : Int64)) * ((AL h25 23 46)))) + x27.toInt64))) Q))))))))))))))))))) : Wp (d + 1) 197 50 [.ref 23, mk0] [.long s0, .ref s1] h Q := by
  obtain ⟨k1, K⟩ := K
  refine Wp.callV (op_ix (by decide) ol_197 28 rfl) (act_virt (c2 := 1) rfl (lk1 k1) rfl) rfl (Cl.enter (L := [.ref s1, .long s0, mk0]) rfl ?_)
  refine Wp.blk (by decide) ol_196 0 3 (pc' := 5) (L' := [.ref s1, .long s0, mk0]) (S' := [.ref s1, .long (31 : Int64), .ref s1]) (h' := h) rfl ?_
  obtain ⟨k2, K⟩ := K
  refine Wp.getf (op_ix (by decide) ol_196 3 rfl) k2 (v := .long (AL h s1 46)) rfl rfl ?_
  refine Wp.blk (by decide) ol_196 4 3 (pc' := 11) (L' := [.ref s1, .long s0, mk0]) (S' := [.long (((((31 : Int64)) * ((AL h s1 46)))) + s0), .ref s1]) (h' := h) rfl ?_
  obtain ⟨b3, K⟩ := K
  refine Wp.putf (op_ix (by decide) ol_196 7 rfl) b3 k2 (h' := (stL h s1 46 ((((((31 : Int64)) * ((AL h s1 46)))) + s0)))) rfl rfl ?_
  refine Wp.ret (op_ix (by decide) ol_196 8 rfl) rfl ⟨rfl, ?_⟩
  refine Wp.blk (by decide) ol_197 29 3 (pc' := 56) (L' := [.ref 23, mk0]) (S' := [.int (0 : Int32), .ref 23, .ref 23]) (h' := (stL h s1 46 ((((((31 : Int64)) * ((AL h s1 46)))) + s0)))) rfl ?_
  refine Wp.callI (op_ix (by decide) ol_197 32 rfl) (act_virt (c2 := 1) rfl (lk1 (kS HS 23 rfl)) rfl) rfl (K.mono ?_)
  rintro _ h4 ⟨x6, rfl, hs5, K⟩
  refine ⟨x6, rfl, ?_⟩
  refine Wp.blk (by decide) ol_197 33 1 (pc' := 60) (L' := [.ref 23, mk0]) (S' := [.long x6.toInt64, .ref 23]) (h' := h4) rfl ?_
  refine Wp.callV (op_ix (by decide) ol_197 34 rfl) (act_virt (c2 := 1) rfl (lk1 (kS hs5 23 rfl)) rfl) rfl (Cl.enter (L := [.ref 23, .long x6.toInt64, mk0]) rfl ?_)
  refine Wp.blk (by decide) ol_196 0 3 (pc' := 5) (L' := [.ref 23, .long x6.toInt64, mk0]) (S' := [.ref 23, .long (31 : Int64), .ref 23]) (h' := h4) rfl ?_
  refine Wp.getf (op_ix (by decide) ol_196 3 rfl) (okS hs5 23 rfl rfl) (v := .long (AL h4 23 46)) rfl rfl ?_
  refine Wp.blk (by decide) ol_196 4 3 (pc' := 11) (L' := [.ref 23, .long x6.toInt64, mk0]) (S' := [.long (((((31 : Int64)) * ((AL h4 23 46)))) + x6.toInt64), .ref 23]) (h' := h4) rfl ?_
  refine Wp.putf (op_ix (by decide) ol_196 7 rfl) (by decide) (okS hs5 23 rfl rfl) (h' := (stL h4 23 46 ((((((31 : Int64)) * ((AL h4 23 46)))) + x6.toInt64)))) rfl rfl ?_
  refine Wp.ret (op_ix (by decide) ol_196 8 rfl) rfl ⟨rfl, ?_⟩
  refine Wp.blk (by decide) ol_197 35 3 (pc' := 66) (L' := [.ref 23, mk0]) (S' := [.int (1 : Int32), .ref 23, .ref 23]) (h' := (stL h4 23 46 ((((((31 : Int64)) * ((AL h4 23 46)))) + x6.toInt64)))) rfl ?_
  refine Wp.callI (op_ix (by decide) ol_197 38 rfl) (act_virt (c2 := 1) rfl (lk1 (kS hs5 23 rfl)) rfl) rfl (K.mono ?_)
  rintro _ h7 ⟨x9, rfl, hs8, K⟩
  refine ⟨x9, rfl, ?_⟩
  refine Wp.blk (by decide) ol_197 39 1 (pc' := 70) (L' := [.ref 23, mk0]) (S' := [.long x9.toInt64, .ref 23]) (h' := h7) rfl ?_
  refine Wp.callV (op_ix (by decide) ol_197 40 rfl) (act_virt (c2 := 1) rfl (lk1 (kS hs8 23 rfl)) rfl) rfl (Cl.enter (L := [.ref 23, .long x9.toInt64, mk0]) rfl ?_)
  refine Wp.blk (by decide) ol_196 0 3 (pc' := 5) (L' := [.ref 23, .long x9.toInt64, mk0]) (S' := [.ref 23, .long (31 : Int64), .ref 23]) (h' := h7) rfl ?_
  refine Wp.getf (op_ix (by decide) ol_196 3 rfl) (okS hs8 23 rfl rfl) (v := .long (AL h7 23 46)) rfl rfl ?_
  refine Wp.blk (by decide) ol_196 4 3 (pc' := 11) (L' := [.ref 23, .long x9.toInt64, mk0]) (S' := [.long (((((31 : Int64)) * ((AL h7 23 46)))) + x9.toInt64), .ref 23]) (h' := h7) rfl ?_
  refine Wp.putf (op_ix (by decide) ol_196 7 rfl) (by decide) (okS hs8 23 rfl rfl) (h' := (stL h7 23 46 ((((((31 : Int64)) * ((AL h7 23 46)))) + x9.toInt64)))) rfl rfl ?_
  refine Wp.ret (op_ix (by decide) ol_196 8 rfl) rfl ⟨rfl, ?_⟩
  refine Wp.blk (by decide) ol_197 41 2 (pc' := 75) (L' := [.ref 23, mk0]) (S' := [.ref 23, .ref 23]) (h' := (stL h7 23 46 ((((((31 : Int64)) * ((AL h7 23 46)))) + x9.toInt64)))) rfl ?_
  refine Wp.callI (op_ix (by decide) ol_197 43 rfl) (act_virt (c2 := 0) rfl (lk1 (kS hs8 23 rfl)) rfl) rfl (K.mono ?_)
  rintro _ h10 ⟨x12, rfl, hs11, K⟩
  refine ⟨x12, rfl, ?_⟩
  refine Wp.blk (by decide) ol_197 44 1 (pc' := 79) (L' := [.ref 23, mk0]) (S' := [.long x12.toInt64, .ref 23]) (h' := h10) rfl ?_
  refine Wp.callV (op_ix (by decide) ol_197 45 rfl) (act_virt (c2 := 1) rfl (lk1 (kS hs11 23 rfl)) rfl) rfl (Cl.enter (L := [.ref 23, .long x12.toInt64, mk0]) rfl ?_)
  refine Wp.blk (by decide) ol_196 0 3 (pc' := 5) (L' := [.ref 23, .long x12.toInt64, mk0]) (S' := [.ref 23, .long (31 : Int64), .ref 23]) (h' := h10) rfl ?_
  refine Wp.getf (op_ix (by decide) ol_196 3 rfl) (okS hs11 23 rfl rfl) (v := .long (AL h10 23 46)) rfl rfl ?_
  refine Wp.blk (by decide) ol_196 4 3 (pc' := 11) (L' := [.ref 23, .long x12.toInt64, mk0]) (S' := [.long (((((31 : Int64)) * ((AL h10 23 46)))) + x12.toInt64), .ref 23]) (h' := h10) rfl ?_
  refine Wp.putf (op_ix (by decide) ol_196 7 rfl) (by decide) (okS hs11 23 rfl rfl) (h' := (stL h10 23 46 ((((((31 : Int64)) * ((AL h10 23 46)))) + x12.toInt64)))) rfl rfl ?_
  refine Wp.ret (op_ix (by decide) ol_196 8 rfl) rfl ⟨rfl, ?_⟩
  refine Wp.blk (by decide) ol_197 46 2 (pc' := 84) (L' := [.ref 23, mk0]) (S' := [.ref 23, .ref 23]) (h' := (stL h10 23 46 ((((((31 : Int64)) * ((AL h10 23 46)))) + x12.toInt64)))) rfl ?_
  refine Wp.callI (op_ix (by decide) ol_197 48 rfl) (act_virt (c2 := 0) rfl (lk1 (kS hs11 23 rfl)) rfl) rfl (K.mono ?_)
  rintro _ h13 ⟨x15, rfl, hs14, K⟩
  refine ⟨x15, rfl, ?_⟩
  refine Wp.blk (by decide) ol_197 49 1 (pc' := 88) (L' := [.ref 23, mk0]) (S' := [.long x15.toInt64, .ref 23]) (h' := h13) rfl ?_
  refine Wp.callV (op_ix (by decide) ol_197 50 rfl) (act_virt (c2 := 1) rfl (lk1 (kS hs14 23 rfl)) rfl) rfl (Cl.enter (L := [.ref 23, .long x15.toInt64, mk0]) rfl ?_)
  refine Wp.blk (by decide) ol_196 0 3 (pc' := 5) (L' := [.ref 23, .long x15.toInt64, mk0]) (S' := [.ref 23, .long (31 : Int64), .ref 23]) (h' := h13) rfl ?_
  refine Wp.getf (op_ix (by decide) ol_196 3 rfl) (okS hs14 23 rfl rfl) (v := .long (AL h13 23 46)) rfl rfl ?_
  refine Wp.blk (by decide) ol_196 4 3 (pc' := 11) (L' := [.ref 23, .long x15.toInt64, mk0]) (S' := [.long (((((31 : Int64)) * ((AL h13 23 46)))) + x15.toInt64), .ref 23]) (h' := h13) rfl ?_
  refine Wp.putf (op_ix (by decide) ol_196 7 rfl) (by decide) (okS hs14 23 rfl rfl) (h' := (stL h13 23 46 ((((((31 : Int64)) * ((AL h13 23 46)))) + x15.toInt64)))) rfl rfl ?_
  refine Wp.ret (op_ix (by decide) ol_196 8 rfl) rfl ⟨rfl, ?_⟩
  refine Wp.blk (by decide) ol_197 51 3 (pc' := 94) (L' := [.ref 23, mk0]) (S' := [.int (0 : Int32), .ref 23, .ref 23]) (h' := (stL h13 23 46 ((((((31 : Int64)) * ((AL h13 23 46)))) + x15.toInt64)))) rfl ?_
  refine Wp.callI (op_ix (by decide) ol_197 54 rfl) (act_virt (c2 := 1) rfl (lk1 (kS hs14 23 rfl)) rfl) rfl (K.mono ?_)
  rintro _ h16 ⟨x18, rfl, hs17, K⟩
  refine ⟨x18, rfl, ?_⟩
  refine Wp.blk (by decide) ol_197 55 1 (pc' := 98) (L' := [.ref 23, mk0]) (S' := [.long x18.toInt64, .ref 23]) (h' := h16) rfl ?_
  refine Wp.callV (op_ix (by decide) ol_197 56 rfl) (act_virt (c2 := 1) rfl (lk1 (kS hs17 23 rfl)) rfl) rfl (Cl.enter (L := [.ref 23, .long x18.toInt64, mk0]) rfl ?_)
  refine Wp.blk (by decide) ol_196 0 3 (pc' := 5) (L' := [.ref 23, .long x18.toInt64, mk0]) (S' := [.ref 23, .long (31 : Int64), .ref 23]) (h' := h16) rfl ?_
  refine Wp.getf (op_ix (by decide) ol_196 3 rfl) (okS hs17 23 rfl rfl) (v := .long (AL h16 23 46)) rfl rfl ?_
  refine Wp.blk (by decide) ol_196 4 3 (pc' := 11) (L' := [.ref 23, .long x18.toInt64, mk0]) (S' := [.long (((((31 : Int64)) * ((AL h16 23 46)))) + x18.toInt64), .ref 23]) (h' := h16) rfl ?_
  refine Wp.putf (op_ix (by decide) ol_196 7 rfl) (by decide) (okS hs17 23 rfl rfl) (h' := (stL h16 23 46 ((((((31 : Int64)) * ((AL h16 23 46)))) + x18.toInt64)))) rfl rfl ?_
  refine Wp.ret (op_ix (by decide) ol_196 8 rfl) rfl ⟨rfl, ?_⟩
  refine Wp.blk (by decide) ol_197 57 3 (pc' := 104) (L' := [.ref 23, mk0]) (S' := [.int (1 : Int32), .ref 23, .ref 23]) (h' := (stL h16 23 46 ((((((31 : Int64)) * ((AL h16 23 46)))) + x18.toInt64)))) rfl ?_
  refine Wp.callI (op_ix (by decide) ol_197 60 rfl) (act_virt (c2 := 1) rfl (lk1 (kS hs17 23 rfl)) rfl) rfl (K.mono ?_)
  rintro _ h19 ⟨x21, rfl, hs20, K⟩
  refine ⟨x21, rfl, ?_⟩
  refine Wp.blk (by decide) ol_197 61 1 (pc' := 108) (L' := [.ref 23, mk0]) (S' := [.long x21.toInt64, .ref 23]) (h' := h19) rfl ?_
  refine Wp.callV (op_ix (by decide) ol_197 62 rfl) (act_virt (c2 := 1) rfl (lk1 (kS hs20 23 rfl)) rfl) rfl (Cl.enter (L := [.ref 23, .long x21.toInt64, mk0]) rfl ?_)
  refine Wp.blk (by decide) ol_196 0 3 (pc' := 5) (L' := [.ref 23, .long x21.toInt64, mk0]) (S' := [.ref 23, .long (31 : Int64), .ref 23]) (h' := h19) rfl ?_
  refine Wp.getf (op_ix (by decide) ol_196 3 rfl) (okS hs20 23 rfl rfl) (v := .long (AL h19 23 46)) rfl rfl ?_
  refine Wp.blk (by decide) ol_196 4 3 (pc' := 11) (L' := [.ref 23, .long x21.toInt64, mk0]) (S' := [.long (((((31 : Int64)) * ((AL h19 23 46)))) + x21.toInt64), .ref 23]) (h' := h19) rfl ?_
  refine Wp.putf (op_ix (by decide) ol_196 7 rfl) (by decide) (okS hs20 23 rfl rfl) (h' := (stL h19 23 46 ((((((31 : Int64)) * ((AL h19 23 46)))) + x21.toInt64)))) rfl rfl ?_
  refine Wp.ret (op_ix (by decide) ol_196 8 rfl) rfl ⟨rfl, ?_⟩
  refine Wp.blk (by decide) ol_197 63 3 (pc' := 114) (L' := [.ref 23, mk0]) (S' := [.int (0 : Int32), .ref 23, .ref 23]) (h' := (stL h19 23 46 ((((((31 : Int64)) * ((AL h19 23 46)))) + x21.toInt64)))) rfl ?_
  refine Wp.callI (op_ix (by decide) ol_197 66 rfl) (act_virt (c2 := 1) rfl (lk1 (kS hs20 23 rfl)) rfl) rfl (K.mono ?_)
  rintro _ h22 ⟨x24, rfl, hs23, K⟩
  refine ⟨x24, rfl, ?_⟩
  refine Wp.blk (by decide) ol_197 67 1 (pc' := 118) (L' := [.ref 23, mk0]) (S' := [.long x24.toInt64, .ref 23]) (h' := h22) rfl ?_
  refine Wp.callV (op_ix (by decide) ol_197 68 rfl) (act_virt (c2 := 1) rfl (lk1 (kS hs23 23 rfl)) rfl) rfl (Cl.enter (L := [.ref 23, .long x24.toInt64, mk0]) rfl ?_)
  refine Wp.blk (by decide) ol_196 0 3 (pc' := 5) (L' := [.ref 23, .long x24.toInt64, mk0]) (S' := [.ref 23, .long (31 : Int64), .ref 23]) (h' := h22) rfl ?_
  refine Wp.getf (op_ix (by decide) ol_196 3 rfl) (okS hs23 23 rfl rfl) (v := .long (AL h22 23 46)) rfl rfl ?_
  refine Wp.blk (by decide) ol_196 4 3 (pc' := 11) (L' := [.ref 23, .long x24.toInt64, mk0]) (S' := [.long (((((31 : Int64)) * ((AL h22 23 46)))) + x24.toInt64), .ref 23]) (h' := h22) rfl ?_
  refine Wp.putf (op_ix (by decide) ol_196 7 rfl) (by decide) (okS hs23 23 rfl rfl) (h' := (stL h22 23 46 ((((((31 : Int64)) * ((AL h22 23 46)))) + x24.toInt64)))) rfl rfl ?_
  refine Wp.ret (op_ix (by decide) ol_196 8 rfl) rfl ⟨rfl, ?_⟩
  refine Wp.blk (by decide) ol_197 69 3 (pc' := 124) (L' := [.ref 23, mk0]) (S' := [.int (1 : Int32), .ref 23, .ref 23]) (h' := (stL h22 23 46 ((((((31 : Int64)) * ((AL h22 23 46)))) + x24.toInt64)))) rfl ?_
  refine Wp.callI (op_ix (by decide) ol_197 72 rfl) (act_virt (c2 := 1) rfl (lk1 (kS hs23 23 rfl)) rfl) rfl (K.mono ?_)
  rintro _ h25 ⟨x27, rfl, hs26, K⟩
  refine ⟨x27, rfl, ?_⟩
  refine Wp.blk (by decide) ol_197 73 1 (pc' := 128) (L' := [.ref 23, mk0]) (S' := [.long x27.toInt64, .ref 23]) (h' := h25) rfl ?_
  refine Wp.callV (op_ix (by decide) ol_197 74 rfl) (act_virt (c2 := 1) rfl (lk1 (kS hs26 23 rfl)) rfl) rfl (Cl.enter (L := [.ref 23, .long x27.toInt64, mk0]) rfl ?_)
  refine Wp.blk (by decide) ol_196 0 3 (pc' := 5) (L' := [.ref 23, .long x27.toInt64, mk0]) (S' := [.ref 23, .long (31 : Int64), .ref 23]) (h' := h25) rfl ?_
  refine Wp.getf (op_ix (by decide) ol_196 3 rfl) (okS hs26 23 rfl rfl) (v := .long (AL h25 23 46)) rfl rfl ?_
  refine Wp.blk (by decide) ol_196 4 3 (pc' := 11) (L' := [.ref 23, .long x27.toInt64, mk0]) (S' := [.long (((((31 : Int64)) * ((AL h25 23 46)))) + x27.toInt64), .ref 23]) (h' := h25) rfl ?_
  refine Wp.putf (op_ix (by decide) ol_196 7 rfl) (by decide) (okS hs26 23 rfl rfl) (h' := (stL h25 23 46 ((((((31 : Int64)) * ((AL h25 23 46)))) + x27.toInt64)))) rfl rfl ?_
  refine Wp.ret (op_ix (by decide) ol_196 8 rfl) rfl ⟨rfl, ?_⟩
  refine Wp.blk (by decide) ol_197 75 2 (pc' := 133) (L' := [.ref 23, .int (0 : Int32)]) (S' := []) (h' := (stL h25 23 46 ((((((31 : Int64)) * ((AL h25 23 46)))) + x27.toInt64)))) rfl ?_
  exact K
/-- CutsOrFastModel.mixNet at 133 -/
theorem g197_133 (d : Nat) (v1 : Int32) (h : AH) (HS : Sh h)  (Q : Option Value → AH → Prop) (K : ((v1 < (3 : Int32) → (Cl d 177 [.ref 23, .int v1, .int (0 : Int32)] h (fun r h2 => ∃ x4 : Int32, r = some (.int x4) ∧ Sh h2 ∧ (Cl d 177 [.ref 23, .int v1, .int (1 : Int32)] ((stL h2 23 46 ((((((31 : Int64)) * ((AL h2 23 46)))) + x4.toInt64)))) (fun r h5 => ∃ x7 : Int32, r = some (.int x7) ∧ Sh h5 ∧ Wp (d + 1) 197 133 [.ref 23, .int (v1 + (1 : Int32))] [] (stL h5 23 46 ((((((31 : Int64)) * ((AL h5 23 46)))) + x7.toInt64))) Q))))) ∧ (¬ v1 < (3 : Int32) → Q none h))) : Wp (d + 1) 197 133 [.ref 23, .int v1] [] h Q := by
  refine Wp.blk (by decide) ol_197 77 3 (pc' := (if v1 < (3 : Int32) then 138 else 166)) (L' := [.ref 23, .int v1]) (S' := []) (h' := h) rfl ?_
  refine Wp.br (fun c1 => ?_) (fun c1 => ?_)
  · replace K := K.1 c1
    refine Wp.blk (by decide) ol_197 80 4 (pc' := 142) (L' := [.ref 23, .int v1]) (S' := [.int (0 : Int32), .int v1, .ref 23, .ref 23]) (h' := h) rfl ?_
    refine Wp.callI (op_ix (by decide) ol_197 84 rfl) (act_virt (c2 := 2) rfl (lk1 (kS HS 23 rfl)) rfl) rfl (K.mono ?_)
    rintro _ h2 ⟨x4, rfl, hs3, K⟩
    refine ⟨x4, rfl, ?_⟩
    refine Wp.blk (by decide) ol_197 85 1 (pc' := 146) (L' := [.ref 23, .int v1]) (S' := [.long x4.toInt64, .ref 23]) (h' := h2) rfl ?_
    refine Wp.callV (op_ix (by decide) ol_197 86 rfl) (act_virt (c2 := 1) rfl (lk1 (kS hs3 23 rfl)) rfl) rfl (Cl.enter (L := [.ref 23, .long x4.toInt64, mk0]) rfl ?_)
    refine Wp.blk (by decide) ol_196 0 3 (pc' := 5) (L' := [.ref 23, .long x4.toInt64, mk0]) (S' := [.ref 23, .long (31 : Int64), .ref 23]) (h' := h2) rfl ?_
    refine Wp.getf (op_ix (by decide) ol_196 3 rfl) (okS hs3 23 rfl rfl) (v := .long (AL h2 23 46)) rfl rfl ?_
    refine Wp.blk (by decide) ol_196 4 3 (pc' := 11) (L' := [.ref 23, .long x4.toInt64, mk0]) (S' := [.long (((((31 : Int64)) * ((AL h2 23 46)))) + x4.toInt64), .ref 23]) (h' := h2) rfl ?_
    refine Wp.putf (op_ix (by decide) ol_196 7 rfl) (by decide) (okS hs3 23 rfl rfl) (h' := (stL h2 23 46 ((((((31 : Int64)) * ((AL h2 23 46)))) + x4.toInt64)))) rfl rfl ?_
    refine Wp.ret (op_ix (by decide) ol_196 8 rfl) rfl ⟨rfl, ?_⟩
    refine Wp.blk (by decide) ol_197 87 4 (pc' := 153) (L' := [.ref 23, .int v1]) (S' := [.int (1 : Int32), .int v1, .ref 23, .ref 23]) (h' := (stL h2 23 46 ((((((31 : Int64)) * ((AL h2 23 46)))) + x4.toInt64)))) rfl ?_
    refine Wp.callI (op_ix (by decide) ol_197 91 rfl) (act_virt (c2 := 2) rfl (lk1 (kS hs3 23 rfl)) rfl) rfl (K.mono ?_)
    rintro _ h5 ⟨x7, rfl, hs6, K⟩
    refine ⟨x7, rfl, ?_⟩
    refine Wp.blk (by decide) ol_197 92 1 (pc' := 157) (L' := [.ref 23, .int v1]) (S' := [.long x7.toInt64, .ref 23]) (h' := h5) rfl ?_
    refine Wp.callV (op_ix (by decide) ol_197 93 rfl) (act_virt (c2 := 1) rfl (lk1 (kS hs6 23 rfl)) rfl) rfl (Cl.enter (L := [.ref 23, .long x7.toInt64, mk0]) rfl ?_)
    refine Wp.blk (by decide) ol_196 0 3 (pc' := 5) (L' := [.ref 23, .long x7.toInt64, mk0]) (S' := [.ref 23, .long (31 : Int64), .ref 23]) (h' := h5) rfl ?_
    refine Wp.getf (op_ix (by decide) ol_196 3 rfl) (okS hs6 23 rfl rfl) (v := .long (AL h5 23 46)) rfl rfl ?_
    refine Wp.blk (by decide) ol_196 4 3 (pc' := 11) (L' := [.ref 23, .long x7.toInt64, mk0]) (S' := [.long (((((31 : Int64)) * ((AL h5 23 46)))) + x7.toInt64), .ref 23]) (h' := h5) rfl ?_
    refine Wp.putf (op_ix (by decide) ol_196 7 rfl) (by decide) (okS hs6 23 rfl rfl) (h' := (stL h5 23 46 ((((((31 : Int64)) * ((AL h5 23 46)))) + x7.toInt64)))) rfl rfl ?_
    refine Wp.ret (op_ix (by decide) ol_196 8 rfl) rfl ⟨rfl, ?_⟩
    refine Wp.blk (by decide) ol_197 94 2 (pc' := 133) (L' := [.ref 23, .int (v1 + (1 : Int32))]) (S' := []) (h' := (stL h5 23 46 ((((((31 : Int64)) * ((AL h5 23 46)))) + x7.toInt64)))) rfl ?_
    exact K
  · replace K := K.2 c1
    exact Wp.ret (op_ix (by decide) ol_197 96 rfl) rfl K
/-- CutsOrFastModel.digest at 0 ()J -/
theorem g198_0 (d : Nat)  (h : AH) (HS : Sh h)  (Q : Option Value → AH → Prop) (K : Wp d 198 9 [.ref 23, .int (0 : Int32), mk0] [] (stL h 23 46 ((587 : Int64))) Q) : Wp d 198 0 [.ref 23, mk0, mk0] [] h Q := by
  refine Wp.blk (by decide) ol_198 0 2 (pc' := 4) (L' := [.ref 23, mk0, mk0]) (S' := [.long (587 : Int64), .ref 23]) (h' := h) rfl ?_
  refine Wp.putf (op_ix (by decide) ol_198 2 rfl) (by decide) (okS HS 23 rfl rfl) (h' := (stL h 23 46 ((587 : Int64)))) rfl rfl ?_
  refine Wp.blk (by decide) ol_198 3 2 (pc' := 9) (L' := [.ref 23, .int (0 : Int32), mk0]) (S' := []) (h' := (stL h 23 46 ((587 : Int64)))) rfl ?_
  exact K
/-- CutsOrFastModel.digest at 9 -/
theorem g198_9 (d : Nat) (v1 : Int32) (h : AH) (HS : Sh h)  (Q : Option Value → AH → Prop) (K : ((v1 < (AI h 23 0) → Wp (d + 1) 198 19 [.ref 23, .int v1, .int (0 : Int32)] [] h Q) ∧ (¬ v1 < (AI h 23 0) → (((0 : Int32) < (AI h 23 0) → (Cl d 197 [.ref 23] h (fun r h3 => r = none ∧ Sh h3 ∧ Wp (d + 1) 198 60 [.ref 23, .int (0 : Int32), mk0] [] h3 Q))) ∧ (¬ (0 : Int32) < (AI h 23 0) → Wp (d + 1) 198 60 [.ref 23, .int (0 : Int32), mk0] [] h Q))))) : Wp (d + 1) 198 9 [.ref 23, .int v1, mk0] [] h Q := by
  refine Wp.blk (by decide) ol_198 5 2 (pc' := 11) (L' := [.ref 23, .int v1, mk0]) (S' := [.ref 23, .int v1]) (h' := h) rfl ?_
  refine Wp.getf (op_ix (by decide) ol_198 7 rfl) (okS HS 23 rfl rfl) (v := .int (AI h 23 0)) rfl rfl ?_
  refine Wp.blk (by decide) ol_198 8 1 (pc' := (if v1 < (AI h 23 0) then 17 else 47)) (L' := [.ref 23, .int v1, mk0]) (S' := []) (h' := h) rfl ?_
  refine Wp.br (fun c1 => ?_) (fun c1 => ?_)
  · replace K := K.1 c1
    refine Wp.blk (by decide) ol_198 9 2 (pc' := 19) (L' := [.ref 23, .int v1, .int (0 : Int32)]) (S' := []) (h' := h) rfl ?_
    exact K
  · replace K := K.2 c1
    refine Wp.blk (by decide) ol_198 25 1 (pc' := 48) (L' := [.ref 23, .int v1, mk0]) (S' := [.ref 23]) (h' := h) rfl ?_
    refine Wp.getf (op_ix (by decide) ol_198 26 rfl) (okS HS 23 rfl rfl) (v := .int (AI h 23 0)) rfl rfl ?_
    refine Wp.blk (by decide) ol_198 27 1 (pc' := (if (0 : Int32) < (AI h 23 0) then 54 else 58)) (L' := [.ref 23, .int v1, mk0]) (S' := []) (h' := h) rfl ?_
    refine Wp.br (fun c2 => ?_) (fun c2 => ?_)
    · replace K := K.1 c2
      refine Wp.blk (by decide) ol_198 28 1 (pc' := 55) (L' := [.ref 23, .int v1, mk0]) (S' := [.ref 23]) (h' := h) rfl ?_
      refine Wp.callV (op_ix (by decide) ol_198 29 rfl) (act_virt (c2 := 0) rfl (lk1 (kS HS 23 rfl)) rfl) rfl (K.mono ?_)
      rintro _ h3 ⟨rfl, hs4, K⟩
      refine ⟨rfl, ?_⟩
      refine Wp.blk (by decide) ol_198 30 2 (pc' := 60) (L' := [.ref 23, .int (0 : Int32), mk0]) (S' := []) (h' := h3) rfl ?_
      exact K
    · replace K := K.2 c2
      refine Wp.blk (by decide) ol_198 30 2 (pc' := 60) (L' := [.ref 23, .int (0 : Int32), mk0]) (S' := []) (h' := h) rfl ?_
      exact K
/-- CutsOrFastModel.digest at 19 -/
theorem g198_19 (d : Nat) (v1 : Int32) (v2 : Int32) (h : AH) (HS : Sh h)  (Q : Option Value → AH → Prop) (K : ((v2 < (4 : Int32) → (Cl d 139 [.ref 23, .int v1, .int v2] h (fun r h2 => ∃ x4 : Int32, r = some (.int x4) ∧ Sh h2 ∧ Wp (d + 1) 198 19 [.ref 23, .int v1, .int (v2 + (1 : Int32))] [] (stL h2 23 46 ((((((31 : Int64)) * ((AL h2 23 46)))) + x4.toInt64))) Q))) ∧ (¬ v2 < (4 : Int32) → Wp (d + 1) 198 9 [.ref 23, .int (v1 + (1 : Int32)), mk0] [] h Q))) : Wp (d + 1) 198 19 [.ref 23, .int v1, .int v2] [] h Q := by
  refine Wp.blk (by decide) ol_198 11 3 (pc' := (if v2 < (4 : Int32) then 24 else 41)) (L' := [.ref 23, .int v1, .int v2]) (S' := []) (h' := h) rfl ?_
  refine Wp.br (fun c1 => ?_) (fun c1 => ?_)
  · replace K := K.1 c1
    refine Wp.blk (by decide) ol_198 14 4 (pc' := 28) (L' := [.ref 23, .int v1, .int v2]) (S' := [.int v2, .int v1, .ref 23, .ref 23]) (h' := h) rfl ?_
    refine Wp.callI (op_ix (by decide) ol_198 18 rfl) (act_virt (c2 := 2) rfl (lk1 (kS HS 23 rfl)) rfl) rfl (K.mono ?_)
    rintro _ h2 ⟨x4, rfl, hs3, K⟩
    refine ⟨x4, rfl, ?_⟩
    refine Wp.blk (by decide) ol_198 19 1 (pc' := 32) (L' := [.ref 23, .int v1, .int v2]) (S' := [.long x4.toInt64, .ref 23]) (h' := h2) rfl ?_
    refine Wp.callV (op_ix (by decide) ol_198 20 rfl) (act_virt (c2 := 1) rfl (lk1 (kS hs3 23 rfl)) rfl) rfl (Cl.enter (L := [.ref 23, .long x4.toInt64, mk0]) rfl ?_)
    refine Wp.blk (by decide) ol_196 0 3 (pc' := 5) (L' := [.ref 23, .long x4.toInt64, mk0]) (S' := [.ref 23, .long (31 : Int64), .ref 23]) (h' := h2) rfl ?_
    refine Wp.getf (op_ix (by decide) ol_196 3 rfl) (okS hs3 23 rfl rfl) (v := .long (AL h2 23 46)) rfl rfl ?_
    refine Wp.blk (by decide) ol_196 4 3 (pc' := 11) (L' := [.ref 23, .long x4.toInt64, mk0]) (S' := [.long (((((31 : Int64)) * ((AL h2 23 46)))) + x4.toInt64), .ref 23]) (h' := h2) rfl ?_
    refine Wp.putf (op_ix (by decide) ol_196 7 rfl) (by decide) (okS hs3 23 rfl rfl) (h' := (stL h2 23 46 ((((((31 : Int64)) * ((AL h2 23 46)))) + x4.toInt64)))) rfl rfl ?_
    refine Wp.ret (op_ix (by decide) ol_196 8 rfl) rfl ⟨rfl, ?_⟩
    refine Wp.blk (by decide) ol_198 21 2 (pc' := 19) (L' := [.ref 23, .int v1, .int (v2 + (1 : Int32))]) (S' := []) (h' := (stL h2 23 46 ((((((31 : Int64)) * ((AL h2 23 46)))) + x4.toInt64)))) rfl ?_
    exact K
  · replace K := K.2 c1
    refine Wp.blk (by decide) ol_198 23 2 (pc' := 9) (L' := [.ref 23, .int (v1 + (1 : Int32)), .int v2]) (S' := []) (h' := h) rfl ?_
    refine Wp.forget (L := [.ref 23, .int (v1 + (1 : Int32)), mk0]) (⟨Or.inr rfl, ⟨Or.inr rfl, ⟨Or.inl rfl, trivial⟩⟩⟩) ?_
    exact K
/-- CutsOrFastModel.digest at 60 -/
theorem g198_60 (d : Nat) (v1 : Int32) (h : AH) (HS : Sh h)  (Q : Option Value → AH → Prop) (K : ((v1 < (AI h 23 11) → (ixR v1 5 ∧ Wp (d + 1) 198 60 [.ref 23, .int (v1 + (1 : Int32)), mk0] [] (stL h 23 46 ((((((31 : Int64)) * ((AL h 23 46)))) + (((AI h 29 v1.toNatClampNeg)).toInt64)))) Q)) ∧ (¬ v1 < (AI h 23 11) → Wp (d + 1) 198 87 [.ref 23, .int (0 : Int32), mk0] [] h Q))) : Wp (d + 1) 198 60 [.ref 23, .int v1, mk0] [] h Q := by
  refine Wp.blk (by decide) ol_198 32 2 (pc' := 62) (L' := [.ref 23, .int v1, mk0]) (S' := [.ref 23, .int v1]) (h' := h) rfl ?_
  refine Wp.getf (op_ix (by decide) ol_198 34 rfl) (okS HS 23 rfl rfl) (v := .int (AI h 23 11)) rfl rfl ?_
  refine Wp.blk (by decide) ol_198 35 1 (pc' := (if v1 < (AI h 23 11) then 68 else 85)) (L' := [.ref 23, .int v1, mk0]) (S' := []) (h' := h) rfl ?_
  refine Wp.br (fun c1 => ?_) (fun c1 => ?_)
  · replace K := K.1 c1
    refine Wp.blk (by decide) ol_198 36 2 (pc' := 70) (L' := [.ref 23, .int v1, mk0]) (S' := [.ref 23, .ref 23]) (h' := h) rfl ?_
    refine Wp.getf (op_ix (by decide) ol_198 38 rfl) (okS HS 23 rfl rfl) (v := .ref 29) (congrArg va_rf (rS HS 23 12 rfl)) rfl ?_
    refine Wp.blk (by decide) ol_198 39 1 (pc' := 74) (L' := [.ref 23, .int v1, mk0]) (S' := [.int v1, .ref 29, .ref 23]) (h' := h) rfl ?_
    obtain ⟨r2, K⟩ := K
    refine Wp.iald (op_ix (by decide) ol_198 40 rfl) (kS HS 29 rfl) (inS HS 29 rfl r2) rfl ?_
    refine Wp.blk (by decide) ol_198 41 1 (pc' := 76) (L' := [.ref 23, .int v1, mk0]) (S' := [.long ((AI h 29 v1.toNatClampNeg)).toInt64, .ref 23]) (h' := h) rfl ?_
    refine Wp.callV (op_ix (by decide) ol_198 42 rfl) (act_virt (c2 := 1) rfl (lk1 (kS HS 23 rfl)) rfl) rfl (Cl.enter (L := [.ref 23, .long ((AI h 29 v1.toNatClampNeg)).toInt64, mk0]) rfl ?_)
    refine Wp.blk (by decide) ol_196 0 3 (pc' := 5) (L' := [.ref 23, .long ((AI h 29 v1.toNatClampNeg)).toInt64, mk0]) (S' := [.ref 23, .long (31 : Int64), .ref 23]) (h' := h) rfl ?_
    refine Wp.getf (op_ix (by decide) ol_196 3 rfl) (okS HS 23 rfl rfl) (v := .long (AL h 23 46)) rfl rfl ?_
    refine Wp.blk (by decide) ol_196 4 3 (pc' := 11) (L' := [.ref 23, .long ((AI h 29 v1.toNatClampNeg)).toInt64, mk0]) (S' := [.long (((((31 : Int64)) * ((AL h 23 46)))) + (((AI h 29 v1.toNatClampNeg)).toInt64)), .ref 23]) (h' := h) rfl ?_
    refine Wp.putf (op_ix (by decide) ol_196 7 rfl) (by decide) (okS HS 23 rfl rfl) (h' := (stL h 23 46 ((((((31 : Int64)) * ((AL h 23 46)))) + (((AI h 29 v1.toNatClampNeg)).toInt64))))) rfl rfl ?_
    refine Wp.ret (op_ix (by decide) ol_196 8 rfl) rfl ⟨rfl, ?_⟩
    refine Wp.blk (by decide) ol_198 43 2 (pc' := 60) (L' := [.ref 23, .int (v1 + (1 : Int32)), mk0]) (S' := []) (h' := (stL h 23 46 ((((((31 : Int64)) * ((AL h 23 46)))) + (((AI h 29 v1.toNatClampNeg)).toInt64))))) rfl ?_
    exact K
  · replace K := K.2 c1
    refine Wp.blk (by decide) ol_198 45 2 (pc' := 87) (L' := [.ref 23, .int (0 : Int32), mk0]) (S' := []) (h' := h) rfl ?_
    exact K
/-- CutsOrFastModel.digest at 87 -/
theorem g198_87 (d : Nat) (v1 : Int32) (h : AH) (HS : Sh h)  (Q : Option Value → AH → Prop) (K : ((v1 < (AI h 23 14) → (ixR v1 50 ∧ Wp (d + 1) 198 87 [.ref 23, .int (v1 + (1 : Int32)), mk0] [] (stL h 23 46 ((((((31 : Int64)) * ((AL h 23 46)))) + (((AI h 30 v1.toNatClampNeg)).toInt64)))) Q)) ∧ (¬ v1 < (AI h 23 14) → Wp (d + 1) 198 114 [.ref 23, .int (0 : Int32), mk0] [] h Q))) : Wp (d + 1) 198 87 [.ref 23, .int v1, mk0] [] h Q := by
  refine Wp.blk (by decide) ol_198 47 2 (pc' := 89) (L' := [.ref 23, .int v1, mk0]) (S' := [.ref 23, .int v1]) (h' := h) rfl ?_
  refine Wp.getf (op_ix (by decide) ol_198 49 rfl) (okS HS 23 rfl rfl) (v := .int (AI h 23 14)) rfl rfl ?_
  refine Wp.blk (by decide) ol_198 50 1 (pc' := (if v1 < (AI h 23 14) then 95 else 112)) (L' := [.ref 23, .int v1, mk0]) (S' := []) (h' := h) rfl ?_
  refine Wp.br (fun c1 => ?_) (fun c1 => ?_)
  · replace K := K.1 c1
    refine Wp.blk (by decide) ol_198 51 2 (pc' := 97) (L' := [.ref 23, .int v1, mk0]) (S' := [.ref 23, .ref 23]) (h' := h) rfl ?_
    refine Wp.getf (op_ix (by decide) ol_198 53 rfl) (okS HS 23 rfl rfl) (v := .ref 30) (congrArg va_rf (rS HS 23 15 rfl)) rfl ?_
    refine Wp.blk (by decide) ol_198 54 1 (pc' := 101) (L' := [.ref 23, .int v1, mk0]) (S' := [.int v1, .ref 30, .ref 23]) (h' := h) rfl ?_
    obtain ⟨r2, K⟩ := K
    refine Wp.bald (op_ix (by decide) ol_198 55 rfl) (Or.inl (kS HS 30 rfl)) (inS HS 30 rfl r2) rfl ?_
    refine Wp.blk (by decide) ol_198 56 1 (pc' := 103) (L' := [.ref 23, .int v1, mk0]) (S' := [.long ((AI h 30 v1.toNatClampNeg)).toInt64, .ref 23]) (h' := h) rfl ?_
    refine Wp.callV (op_ix (by decide) ol_198 57 rfl) (act_virt (c2 := 1) rfl (lk1 (kS HS 23 rfl)) rfl) rfl (Cl.enter (L := [.ref 23, .long ((AI h 30 v1.toNatClampNeg)).toInt64, mk0]) rfl ?_)
    refine Wp.blk (by decide) ol_196 0 3 (pc' := 5) (L' := [.ref 23, .long ((AI h 30 v1.toNatClampNeg)).toInt64, mk0]) (S' := [.ref 23, .long (31 : Int64), .ref 23]) (h' := h) rfl ?_
    refine Wp.getf (op_ix (by decide) ol_196 3 rfl) (okS HS 23 rfl rfl) (v := .long (AL h 23 46)) rfl rfl ?_
    refine Wp.blk (by decide) ol_196 4 3 (pc' := 11) (L' := [.ref 23, .long ((AI h 30 v1.toNatClampNeg)).toInt64, mk0]) (S' := [.long (((((31 : Int64)) * ((AL h 23 46)))) + (((AI h 30 v1.toNatClampNeg)).toInt64)), .ref 23]) (h' := h) rfl ?_
    refine Wp.putf (op_ix (by decide) ol_196 7 rfl) (by decide) (okS HS 23 rfl rfl) (h' := (stL h 23 46 ((((((31 : Int64)) * ((AL h 23 46)))) + (((AI h 30 v1.toNatClampNeg)).toInt64))))) rfl rfl ?_
    refine Wp.ret (op_ix (by decide) ol_196 8 rfl) rfl ⟨rfl, ?_⟩
    refine Wp.blk (by decide) ol_198 58 2 (pc' := 87) (L' := [.ref 23, .int (v1 + (1 : Int32)), mk0]) (S' := []) (h' := (stL h 23 46 ((((((31 : Int64)) * ((AL h 23 46)))) + (((AI h 30 v1.toNatClampNeg)).toInt64))))) rfl ?_
    exact K
  · replace K := K.2 c1
    refine Wp.blk (by decide) ol_198 60 2 (pc' := 114) (L' := [.ref 23, .int (0 : Int32), mk0]) (S' := []) (h' := h) rfl ?_
    exact K
/-- CutsOrFastModel.digest at 114 -/
theorem g198_114 (d : Nat) (v1 : Int32) (h : AH) (HS : Sh h)  (Q : Option Value → AH → Prop) (K : ((v1 < (10 : Int32) → (Cl d 194 [.ref 23, .int v1] h (fun r h2 => ∃ x4 : Int32, r = some (.int x4) ∧ Sh h2 ∧ Wp (d + 1) 198 114 [.ref 23, .int (v1 + (1 : Int32)), mk0] [] (stL h2 23 46 ((((((31 : Int64)) * ((AL h2 23 46)))) + x4.toInt64))) Q))) ∧ (¬ v1 < (10 : Int32) → Q (some (.long (AL h 23 46))) h))) : Wp (d + 1) 198 114 [.ref 23, .int v1, mk0] [] h Q := by
  refine Wp.blk (by decide) ol_198 62 3 (pc' := (if v1 < (10 : Int32) then 120 else 136)) (L' := [.ref 23, .int v1, mk0]) (S' := []) (h' := h) rfl ?_
  refine Wp.br (fun c1 => ?_) (fun c1 => ?_)
  · replace K := K.1 c1
    refine Wp.blk (by decide) ol_198 65 3 (pc' := 123) (L' := [.ref 23, .int v1, mk0]) (S' := [.int v1, .ref 23, .ref 23]) (h' := h) rfl ?_
    refine Wp.callI (op_ix (by decide) ol_198 68 rfl) (act_virt (c2 := 1) rfl (lk1 (kS HS 23 rfl)) rfl) rfl (K.mono ?_)
    rintro _ h2 ⟨x4, rfl, hs3, K⟩
    refine ⟨x4, rfl, ?_⟩
    refine Wp.blk (by decide) ol_198 69 1 (pc' := 127) (L' := [.ref 23, .int v1, mk0]) (S' := [.long x4.toInt64, .ref 23]) (h' := h2) rfl ?_
    refine Wp.callV (op_ix (by decide) ol_198 70 rfl) (act_virt (c2 := 1) rfl (lk1 (kS hs3 23 rfl)) rfl) rfl (Cl.enter (L := [.ref 23, .long x4.toInt64, mk0]) rfl ?_)
    refine Wp.blk (by decide) ol_196 0 3 (pc' := 5) (L' := [.ref 23, .long x4.toInt64, mk0]) (S' := [.ref 23, .long (31 : Int64), .ref 23]) (h' := h2) rfl ?_
    refine Wp.getf (op_ix (by decide) ol_196 3 rfl) (okS hs3 23 rfl rfl) (v := .long (AL h2 23 46)) rfl rfl ?_
    refine Wp.blk (by decide) ol_196 4 3 (pc' := 11) (L' := [.ref 23, .long x4.toInt64, mk0]) (S' := [.long (((((31 : Int64)) * ((AL h2 23 46)))) + x4.toInt64), .ref 23]) (h' := h2) rfl ?_
    refine Wp.putf (op_ix (by decide) ol_196 7 rfl) (by decide) (okS hs3 23 rfl rfl) (h' := (stL h2 23 46 ((((((31 : Int64)) * ((AL h2 23 46)))) + x4.toInt64)))) rfl rfl ?_
    refine Wp.ret (op_ix (by decide) ol_196 8 rfl) rfl ⟨rfl, ?_⟩
    refine Wp.blk (by decide) ol_198 71 2 (pc' := 114) (L' := [.ref 23, .int (v1 + (1 : Int32)), mk0]) (S' := []) (h' := (stL h2 23 46 ((((((31 : Int64)) * ((AL h2 23 46)))) + x4.toInt64)))) rfl ?_
    exact K
  · replace K := K.2 c1
    refine Wp.blk (by decide) ol_198 73 1 (pc' := 137) (L' := [.ref 23, .int v1, mk0]) (S' := [.ref 23]) (h' := h) rfl ?_
    refine Wp.getf (op_ix (by decide) ol_198 74 rfl) (okS HS 23 rfl rfl) (v := .long (AL h 23 46)) rfl rfl ?_
    exact Wp.ret (op_ix (by decide) ol_198 75 rfl) rfl K
/-- java/lang/Integer.bitCount at 0 (I)I -/
theorem g199_0 (d : Nat) (v0 : Int32) (h : AH) (HS : Sh h)  (Q : Option Value → AH → Prop) (K : Q (some (.int (((((((((((((((v0 - ((((v0.toUInt32 >>> (((1 : Int32)).toUInt32 &&& Int32.toUInt32 31)).toInt32) &&& ((1431655765 : Int32)))))) &&& ((858993459 : Int32)))) + ((((((v0 - ((((v0.toUInt32 >>> (((1 : Int32)).toUInt32 &&& Int32.toUInt32 31)).toInt32) &&& ((1431655765 : Int32)))))).toUInt32 >>> (((2 : Int32)).toUInt32 &&& Int32.toUInt32 31)).toInt32) &&& ((858993459 : Int32)))))) + ((((((((v0 - ((((v0.toUInt32 >>> (((1 : Int32)).toUInt32 &&& Int32.toUInt32 31)).toInt32) &&& ((1431655765 : Int32)))))) &&& ((858993459 : Int32)))) + ((((((v0 - ((((v0.toUInt32 >>> (((1 : Int32)).toUInt32 &&& Int32.toUInt32 31)).toInt32) &&& ((1431655765 : Int32)))))).toUInt32 >>> (((2 : Int32)).toUInt32 &&& Int32.toUInt32 31)).toInt32) &&& ((858993459 : Int32)))))).toUInt32 >>> (((4 : Int32)).toUInt32 &&& Int32.toUInt32 31)).toInt32))) &&& ((252645135 : Int32)))) + ((((((((((((v0 - ((((v0.toUInt32 >>> (((1 : Int32)).toUInt32 &&& Int32.toUInt32 31)).toInt32) &&& ((1431655765 : Int32)))))) &&& ((858993459 : Int32)))) + ((((((v0 - ((((v0.toUInt32 >>> (((1 : Int32)).toUInt32 &&& Int32.toUInt32 31)).toInt32) &&& ((1431655765 : Int32)))))).toUInt32 >>> (((2 : Int32)).toUInt32 &&& Int32.toUInt32 31)).toInt32) &&& ((858993459 : Int32)))))) + ((((((((v0 - ((((v0.toUInt32 >>> (((1 : Int32)).toUInt32 &&& Int32.toUInt32 31)).toInt32) &&& ((1431655765 : Int32)))))) &&& ((858993459 : Int32)))) + ((((((v0 - ((((v0.toUInt32 >>> (((1 : Int32)).toUInt32 &&& Int32.toUInt32 31)).toInt32) &&& ((1431655765 : Int32)))))).toUInt32 >>> (((2 : Int32)).toUInt32 &&& Int32.toUInt32 31)).toInt32) &&& ((858993459 : Int32)))))).toUInt32 >>> (((4 : Int32)).toUInt32 &&& Int32.toUInt32 31)).toInt32))) &&& ((252645135 : Int32)))).toUInt32 >>> (((8 : Int32)).toUInt32 &&& Int32.toUInt32 31)).toInt32))) + ((((((((((((((v0 - ((((v0.toUInt32 >>> (((1 : Int32)).toUInt32 &&& Int32.toUInt32 31)).toInt32) &&& ((1431655765 : Int32)))))) &&& ((858993459 : Int32)))) + ((((((v0 - ((((v0.toUInt32 >>> (((1 : Int32)).toUInt32 &&& Int32.toUInt32 31)).toInt32) &&& ((1431655765 : Int32)))))).toUInt32 >>> (((2 : Int32)).toUInt32 &&& Int32.toUInt32 31)).toInt32) &&& ((858993459 : Int32)))))) + ((((((((v0 - ((((v0.toUInt32 >>> (((1 : Int32)).toUInt32 &&& Int32.toUInt32 31)).toInt32) &&& ((1431655765 : Int32)))))) &&& ((858993459 : Int32)))) + ((((((v0 - ((((v0.toUInt32 >>> (((1 : Int32)).toUInt32 &&& Int32.toUInt32 31)).toInt32) &&& ((1431655765 : Int32)))))).toUInt32 >>> (((2 : Int32)).toUInt32 &&& Int32.toUInt32 31)).toInt32) &&& ((858993459 : Int32)))))).toUInt32 >>> (((4 : Int32)).toUInt32 &&& Int32.toUInt32 31)).toInt32))) &&& ((252645135 : Int32)))) + ((((((((((((v0 - ((((v0.toUInt32 >>> (((1 : Int32)).toUInt32 &&& Int32.toUInt32 31)).toInt32) &&& ((1431655765 : Int32)))))) &&& ((858993459 : Int32)))) + ((((((v0 - ((((v0.toUInt32 >>> (((1 : Int32)).toUInt32 &&& Int32.toUInt32 31)).toInt32) &&& ((1431655765 : Int32)))))).toUInt32 >>> (((2 : Int32)).toUInt32 &&& Int32.toUInt32 31)).toInt32) &&& ((858993459 : Int32)))))) + ((((((((v0 - ((((v0.toUInt32 >>> (((1 : Int32)).toUInt32 &&& Int32.toUInt32 31)).toInt32) &&& ((1431655765 : Int32)))))) &&& ((858993459 : Int32)))) + ((((((v0 - ((((v0.toUInt32 >>> (((1 : Int32)).toUInt32 &&& Int32.toUInt32 31)).toInt32) &&& ((1431655765 : Int32)))))).toUInt32 >>> (((2 : Int32)).toUInt32 &&& Int32.toUInt32 31)).toInt32) &&& ((858993459 : Int32)))))).toUInt32 >>> (((4 : Int32)).toUInt32 &&& Int32.toUInt32 31)).toInt32))) &&& ((252645135 : Int32)))).toUInt32 >>> (((8 : Int32)).toUInt32 &&& Int32.toUInt32 31)).toInt32))).toUInt32 >>> (((16 : Int32)).toUInt32 &&& Int32.toUInt32 31)).toInt32))) &&& ((63 : Int32))))) h) : Wp d 199 0 [.int v0] [] h Q := by
  refine Wp.blk (by decide) ol_199 0 41 (pc' := 52) (L' := [.int (((((((((((((v0 - ((((v0.toUInt32 >>> (((1 : Int32)).toUInt32 &&& Int32.toUInt32 31)).toInt32) &&& ((1431655765 : Int32)))))) &&& ((858993459 : Int32)))) + ((((((v0 - ((((v0.toUInt32 >>> (((1 : Int32)).toUInt32 &&& Int32.toUInt32 31)).toInt32) &&& ((1431655765 : Int32)))))).toUInt32 >>> (((2 : Int32)).toUInt32 &&& Int32.toUInt32 31)).toInt32) &&& ((858993459 : Int32)))))) + ((((((((v0 - ((((v0.toUInt32 >>> (((1 : Int32)).toUInt32 &&& Int32.toUInt32 31)).toInt32) &&& ((1431655765 : Int32)))))) &&& ((858993459 : Int32)))) + ((((((v0 - ((((v0.toUInt32 >>> (((1 : Int32)).toUInt32 &&& Int32.toUInt32 31)).toInt32) &&& ((1431655765 : Int32)))))).toUInt32 >>> (((2 : Int32)).toUInt32 &&& Int32.toUInt32 31)).toInt32) &&& ((858993459 : Int32)))))).toUInt32 >>> (((4 : Int32)).toUInt32 &&& Int32.toUInt32 31)).toInt32))) &&& ((252645135 : Int32)))) + ((((((((((((v0 - ((((v0.toUInt32 >>> (((1 : Int32)).toUInt32 &&& Int32.toUInt32 31)).toInt32) &&& ((1431655765 : Int32)))))) &&& ((858993459 : Int32)))) + ((((((v0 - ((((v0.toUInt32 >>> (((1 : Int32)).toUInt32 &&& Int32.toUInt32 31)).toInt32) &&& ((1431655765 : Int32)))))).toUInt32 >>> (((2 : Int32)).toUInt32 &&& Int32.toUInt32 31)).toInt32) &&& ((858993459 : Int32)))))) + ((((((((v0 - ((((v0.toUInt32 >>> (((1 : Int32)).toUInt32 &&& Int32.toUInt32 31)).toInt32) &&& ((1431655765 : Int32)))))) &&& ((858993459 : Int32)))) + ((((((v0 - ((((v0.toUInt32 >>> (((1 : Int32)).toUInt32 &&& Int32.toUInt32 31)).toInt32) &&& ((1431655765 : Int32)))))).toUInt32 >>> (((2 : Int32)).toUInt32 &&& Int32.toUInt32 31)).toInt32) &&& ((858993459 : Int32)))))).toUInt32 >>> (((4 : Int32)).toUInt32 &&& Int32.toUInt32 31)).toInt32))) &&& ((252645135 : Int32)))).toUInt32 >>> (((8 : Int32)).toUInt32 &&& Int32.toUInt32 31)).toInt32))) + ((((((((((((((v0 - ((((v0.toUInt32 >>> (((1 : Int32)).toUInt32 &&& Int32.toUInt32 31)).toInt32) &&& ((1431655765 : Int32)))))) &&& ((858993459 : Int32)))) + ((((((v0 - ((((v0.toUInt32 >>> (((1 : Int32)).toUInt32 &&& Int32.toUInt32 31)).toInt32) &&& ((1431655765 : Int32)))))).toUInt32 >>> (((2 : Int32)).toUInt32 &&& Int32.toUInt32 31)).toInt32) &&& ((858993459 : Int32)))))) + ((((((((v0 - ((((v0.toUInt32 >>> (((1 : Int32)).toUInt32 &&& Int32.toUInt32 31)).toInt32) &&& ((1431655765 : Int32)))))) &&& ((858993459 : Int32)))) + ((((((v0 - ((((v0.toUInt32 >>> (((1 : Int32)).toUInt32 &&& Int32.toUInt32 31)).toInt32) &&& ((1431655765 : Int32)))))).toUInt32 >>> (((2 : Int32)).toUInt32 &&& Int32.toUInt32 31)).toInt32) &&& ((858993459 : Int32)))))).toUInt32 >>> (((4 : Int32)).toUInt32 &&& Int32.toUInt32 31)).toInt32))) &&& ((252645135 : Int32)))) + ((((((((((((v0 - ((((v0.toUInt32 >>> (((1 : Int32)).toUInt32 &&& Int32.toUInt32 31)).toInt32) &&& ((1431655765 : Int32)))))) &&& ((858993459 : Int32)))) + ((((((v0 - ((((v0.toUInt32 >>> (((1 : Int32)).toUInt32 &&& Int32.toUInt32 31)).toInt32) &&& ((1431655765 : Int32)))))).toUInt32 >>> (((2 : Int32)).toUInt32 &&& Int32.toUInt32 31)).toInt32) &&& ((858993459 : Int32)))))) + ((((((((v0 - ((((v0.toUInt32 >>> (((1 : Int32)).toUInt32 &&& Int32.toUInt32 31)).toInt32) &&& ((1431655765 : Int32)))))) &&& ((858993459 : Int32)))) + ((((((v0 - ((((v0.toUInt32 >>> (((1 : Int32)).toUInt32 &&& Int32.toUInt32 31)).toInt32) &&& ((1431655765 : Int32)))))).toUInt32 >>> (((2 : Int32)).toUInt32 &&& Int32.toUInt32 31)).toInt32) &&& ((858993459 : Int32)))))).toUInt32 >>> (((4 : Int32)).toUInt32 &&& Int32.toUInt32 31)).toInt32))) &&& ((252645135 : Int32)))).toUInt32 >>> (((8 : Int32)).toUInt32 &&& Int32.toUInt32 31)).toInt32))).toUInt32 >>> (((16 : Int32)).toUInt32 &&& Int32.toUInt32 31)).toInt32))]) (S' := [.int (((((((((((((((v0 - ((((v0.toUInt32 >>> (((1 : Int32)).toUInt32 &&& Int32.toUInt32 31)).toInt32) &&& ((1431655765 : Int32)))))) &&& ((858993459 : Int32)))) + ((((((v0 - ((((v0.toUInt32 >>> (((1 : Int32)).toUInt32 &&& Int32.toUInt32 31)).toInt32) &&& ((1431655765 : Int32)))))).toUInt32 >>> (((2 : Int32)).toUInt32 &&& Int32.toUInt32 31)).toInt32) &&& ((858993459 : Int32)))))) + ((((((((v0 - ((((v0.toUInt32 >>> (((1 : Int32)).toUInt32 &&& Int32.toUInt32 31)).toInt32) &&& ((1431655765 : Int32)))))) &&& ((858993459 : Int32)))) + ((((((v0 - ((((v0.toUInt32 >>> (((1 : Int32)).toUInt32 &&& Int32.toUInt32 31)).toInt32) &&& ((1431655765 : Int32)))))).toUInt32 >>> (((2 : Int32)).toUInt32 &&& Int32.toUInt32 31)).toInt32) &&& ((858993459 : Int32)))))).toUInt32 >>> (((4 : Int32)).toUInt32 &&& Int32.toUInt32 31)).toInt32))) &&& ((252645135 : Int32)))) + ((((((((((((v0 - ((((v0.toUInt32 >>> (((1 : Int32)).toUInt32 &&& Int32.toUInt32 31)).toInt32) &&& ((1431655765 : Int32)))))) &&& ((858993459 : Int32)))) + ((((((v0 - ((((v0.toUInt32 >>> (((1 : Int32)).toUInt32 &&& Int32.toUInt32 31)).toInt32) &&& ((1431655765 : Int32)))))).toUInt32 >>> (((2 : Int32)).toUInt32 &&& Int32.toUInt32 31)).toInt32) &&& ((858993459 : Int32)))))) + ((((((((v0 - ((((v0.toUInt32 >>> (((1 : Int32)).toUInt32 &&& Int32.toUInt32 31)).toInt32) &&& ((1431655765 : Int32)))))) &&& ((858993459 : Int32)))) + ((((((v0 - ((((v0.toUInt32 >>> (((1 : Int32)).toUInt32 &&& Int32.toUInt32 31)).toInt32) &&& ((1431655765 : Int32)))))).toUInt32 >>> (((2 : Int32)).toUInt32 &&& Int32.toUInt32 31)).toInt32) &&& ((858993459 : Int32)))))).toUInt32 >>> (((4 : Int32)).toUInt32 &&& Int32.toUInt32 31)).toInt32))) &&& ((252645135 : Int32)))).toUInt32 >>> (((8 : Int32)).toUInt32 &&& Int32.toUInt32 31)).toInt32))) + ((((((((((((((v0 - ((((v0.toUInt32 >>> (((1 : Int32)).toUInt32 &&& Int32.toUInt32 31)).toInt32) &&& ((1431655765 : Int32)))))) &&& ((858993459 : Int32)))) + ((((((v0 - ((((v0.toUInt32 >>> (((1 : Int32)).toUInt32 &&& Int32.toUInt32 31)).toInt32) &&& ((1431655765 : Int32)))))).toUInt32 >>> (((2 : Int32)).toUInt32 &&& Int32.toUInt32 31)).toInt32) &&& ((858993459 : Int32)))))) + ((((((((v0 - ((((v0.toUInt32 >>> (((1 : Int32)).toUInt32 &&& Int32.toUInt32 31)).toInt32) &&& ((1431655765 : Int32)))))) &&& ((858993459 : Int32)))) + ((((((v0 - ((((v0.toUInt32 >>> (((1 : Int32)).toUInt32 &&& Int32.toUInt32 31)).toInt32) &&& ((1431655765 : Int32)))))).toUInt32 >>> (((2 : Int32)).toUInt32 &&& Int32.toUInt32 31)).toInt32) &&& ((858993459 : Int32)))))).toUInt32 >>> (((4 : Int32)).toUInt32 &&& Int32.toUInt32 31)).toInt32))) &&& ((252645135 : Int32)))) + ((((((((((((v0 - ((((v0.toUInt32 >>> (((1 : Int32)).toUInt32 &&& Int32.toUInt32 31)).toInt32) &&& ((1431655765 : Int32)))))) &&& ((858993459 : Int32)))) + ((((((v0 - ((((v0.toUInt32 >>> (((1 : Int32)).toUInt32 &&& Int32.toUInt32 31)).toInt32) &&& ((1431655765 : Int32)))))).toUInt32 >>> (((2 : Int32)).toUInt32 &&& Int32.toUInt32 31)).toInt32) &&& ((858993459 : Int32)))))) + ((((((((v0 - ((((v0.toUInt32 >>> (((1 : Int32)).toUInt32 &&& Int32.toUInt32 31)).toInt32) &&& ((1431655765 : Int32)))))) &&& ((858993459 : Int32)))) + ((((((v0 - ((((v0.toUInt32 >>> (((1 : Int32)).toUInt32 &&& Int32.toUInt32 31)).toInt32) &&& ((1431655765 : Int32)))))).toUInt32 >>> (((2 : Int32)).toUInt32 &&& Int32.toUInt32 31)).toInt32) &&& ((858993459 : Int32)))))).toUInt32 >>> (((4 : Int32)).toUInt32 &&& Int32.toUInt32 31)).toInt32))) &&& ((252645135 : Int32)))).toUInt32 >>> (((8 : Int32)).toUInt32 &&& Int32.toUInt32 31)).toInt32))).toUInt32 >>> (((16 : Int32)).toUInt32 &&& Int32.toUInt32 31)).toInt32))) &&& ((63 : Int32)))]) (h' := h) rfl ?_
  exact Wp.ret (op_ix (by decide) ol_199 41 rfl) rfl K
/-- CutsOrFastLaw.law at 0 ([I)Z -/
theorem g204_0 (d : Nat) (v0 : Nat) (h : AH)  (Q : Option Value → AH → Prop) (K : (∀ n1, n1 = (NX h) → ∀ h2, h2 = (newO h 11 13) → (Cl d 88 [.ref n1] h2 (fun r h5 => r = none ∧ (∀ n7, n7 = (NX h5) → ∀ h8, h8 = (newO h5 12 47) → (Cl d 128 [.ref n7] h8 (fun r h11 => r = none ∧ Wp (d + 1) 204 18 [.ref v0, .ref n1, .ref n7, .int (0 : Int32)] [] h11 Q))))))) : Wp (d + 1) 204 0 [.ref v0, mk0, mk0, mk0] [] h Q := by
  refine Wp.blk (by decide) ol_204 0 1 (pc' := 3) (L' := [.ref v0, mk0, mk0, mk0]) (S' := [.ref (NX h)]) (h' := (newO h 11 13)) rfl ?_
  obtain ⟨n1, e3⟩ : ∃ x, x = (NX h) := ⟨_, rfl⟩
  obtain ⟨h2, e4⟩ : ∃ x, x = (newO h 11 13) := ⟨_, rfl⟩
  rw [← e4, ← e3]
  replace K := K n1 e3 h2 e4
  refine Wp.blk (by decide) ol_204 1 1 (pc' := 4) (L' := [.ref v0, mk0, mk0, mk0]) (S' := [.ref n1, .ref n1]) (h' := h2) rfl ?_
  refine Wp.callV (op_ix (by decide) ol_204 2 rfl) rfl rfl (K.mono ?_)
  rintro _ h5 ⟨rfl, K⟩
  refine ⟨rfl, ?_⟩
  refine Wp.blk (by decide) ol_204 3 1 (pc' := 8) (L' := [.ref v0, .ref n1, mk0, mk0]) (S' := []) (h' := h5) rfl ?_
  refine Wp.blk (by decide) ol_204 4 1 (pc' := 11) (L' := [.ref v0, .ref n1, mk0, mk0]) (S' := [.ref (NX h5)]) (h' := (newO h5 12 47)) rfl ?_
  obtain ⟨n7, e9⟩ : ∃ x, x = (NX h5) := ⟨_, rfl⟩
  obtain ⟨h8, e10⟩ : ∃ x, x = (newO h5 12 47) := ⟨_, rfl⟩
  rw [← e10, ← e9]
  replace K := K n7 e9 h8 e10
  refine Wp.blk (by decide) ol_204 5 1 (pc' := 12) (L' := [.ref v0, .ref n1, mk0, mk0]) (S' := [.ref n7, .ref n7]) (h' := h8) rfl ?_
  refine Wp.callV (op_ix (by decide) ol_204 6 rfl) rfl rfl (K.mono ?_)
  rintro _ h11 ⟨rfl, K⟩
  refine ⟨rfl, ?_⟩
  refine Wp.blk (by decide) ol_204 7 3 (pc' := 18) (L' := [.ref v0, .ref n1, .ref n7, .int (0 : Int32)]) (S' := []) (h' := h11) rfl ?_
  exact K
/-- CutsOrFastLaw.law at 18 -/
theorem g204_18 (d : Nat) (v3 : Int32) (h : AH) (HS : Sh h)  (Q : Option Value → AH → Prop) (K : (((AK h 0).1 = 20 ∨ (AK h 0).1 = 21 ∨ (AK h 0).1 = 24) ∧ (((((Int32.ofNat (AK h 0).2)) - ((5 : Int32))) < v3 → Q (some (.int (1 : Int32))) h) ∧ (¬ (((Int32.ofNat (AK h 0).2)) - ((5 : Int32))) < v3 → ((AK h 0).1 = 20 ∧ inR h 0 v3 = true ∧ (((((AI h 0 v3.toNatClampNeg)) &&& ((31 : Int32))) = Int32.ofNat 0 → (inR h 0 ((v3 + ((1 : Int32)))) = true ∧ inR h 0 ((v3 + ((2 : Int32)))) = true ∧ (Cl d 89 [.ref 2, .long ((((((AI h 0 ((v3 + ((1 : Int32)))).toNatClampNeg)).toInt64) <<< (((32 : Int32)).toInt64 &&& 63))) ||| (((((AI h 0 ((v3 + ((2 : Int32)))).toNatClampNeg)).toInt64) &&& ((4294967295 : Int64)))))] h (fun r h8 => ∃ x10 : Int32, r = some (.int x10) ∧ Sh h8 ∧ ((AK h8 0).1 = 20 ∧ inR h8 0 ((v3 + ((1 : Int32)))) = true ∧ inR h8 0 ((v3 + ((2 : Int32)))) = true ∧ (Cl d 131 [.ref 23, .long ((((((AI h8 0 ((v3 + ((1 : Int32)))).toNatClampNeg)).toInt64) <<< (((32 : Int32)).toInt64 &&& 63))) ||| (((((AI h8 0 ((v3 + ((2 : Int32)))).toNatClampNeg)).toInt64) &&& ((4294967295 : Int64)))))] h8 (fun r h14 => ∃ x16 : Int32, r = some (.int x16) ∧ Sh h14 ∧ ((x10 = x16 → Wp (d + 1) 204 18 [.ref 0, .ref 2, .ref 23, .int (v3 + (5 : Int32))] [] h14 Q) ∧ (¬ x10 = x16 → Q (some (.int (0 : Int32))) h14))))))))) ∧ (¬ (((AI h 0 v3.toNatClampNeg)) &&& ((31 : Int32))) = Int32.ofNat 0 → (((((AI h 0 v3.toNatClampNeg)) &&& ((31 : Int32))) = Int32.ofNat 1 → (Cl d 90 [.ref 2] h (fun r h19 => ∃ x21 : Int32, r = some (.int x21) ∧ Sh h19 ∧ (Cl d 132 [.ref 23] h19 (fun r h22 => ∃ x24 : Int32, r = some (.int x24) ∧ Sh h22 ∧ ((x21 = x24 → Wp (d + 1) 204 18 [.ref 0, .ref 2, .ref 23, .int (v3 + (5 : Int32))] [] h22 Q) ∧ (¬ x21 = x24 → Q (some (.int (0 : Int32))) h22))))))) ∧ (¬ (((AI h 0 v3.toNatClampNeg)) &&& ((31 : Int32))) = Int32.ofNat 1 → (((((AI h 0 v3.toNatClampNeg)) &&& ((31 : Int32))) = Int32.ofNat 2 → (Cl d 91 [.ref 2] h (fun r h27 => ∃ x29 : Int32, r = some (.int x29) ∧ Sh h27 ∧ (Cl d 136 [.ref 23] h27 (fun r h30 => ∃ x32 : Int32, r = some (.int x32) ∧ Sh h30 ∧ ((x29 = x32 → Wp (d + 1) 204 18 [.ref 0, .ref 2, .ref 23, .int (v3 + (5 : Int32))] [] h30 Q) ∧ (¬ x29 = x32 → Q (some (.int (0 : Int32))) h30))))))) ∧ (¬ (((AI h 0 v3.toNatClampNeg)) &&& ((31 : Int32))) = Int32.ofNat 2 → (((((AI h 0 v3.toNatClampNeg)) &&& ((31 : Int32))) = Int32.ofNat 3 → (Cl d 92 [.ref 2] h (fun r h35 => ∃ x37 : Int32, r = some (.int x37) ∧ Sh h35 ∧ (Cl d 137 [.ref 23] h35 (fun r h38 => ∃ x40 : Int32, r = some (.int x40) ∧ Sh h38 ∧ ((x37 = x40 → Wp (d + 1) 204 18 [.ref 0, .ref 2, .ref 23, .int (v3 + (5 : Int32))] [] h38 Q) ∧ (¬ x37 = x40 → Q (some (.int (0 : Int32))) h38))))))) ∧ (¬ (((AI h 0 v3.toNatClampNeg)) &&& ((31 : Int32))) = Int32.ofNat 3 → (((((AI h 0 v3.toNatClampNeg)) &&& ((31 : Int32))) = Int32.ofNat 4 → (inR h 0 ((v3 + ((1 : Int32)))) = true ∧ inR h 0 ((v3 + ((2 : Int32)))) = true ∧ (Cl d 93 [.ref 2, .int (AI h 0 ((v3 + ((1 : Int32)))).toNatClampNeg), .int (AI h 0 ((v3 + ((2 : Int32)))).toNatClampNeg)] h (fun r h45 => ∃ x47 : Int32, r = some (.int x47) ∧ Sh h45 ∧ ((AK h45 0).1 = 20 ∧ inR h45 0 ((v3 + ((1 : Int32)))) = true ∧ inR h45 0 ((v3 + ((2 : Int32)))) = true ∧ (Cl d 140 [.ref 23, .int (AI h45 0 ((v3 + ((1 : Int32)))).toNatClampNeg), .int (AI h45 0 ((v3 + ((2 : Int32)))).toNatClampNeg)] h45 (fun r h51 => ∃ x53 : Int32, r = some (.int x53) ∧ Sh h51 ∧ ((x47 = x53 → Wp (d + 1) 204 18 [.ref 0, .ref 2, .ref 23, .int (v3 + (5 : Int32))] [] h51 Q) ∧ (¬ x47 = x53 → Q (some (.int (0 : Int32))) h51))))))))) ∧ (¬ (((AI h 0 v3.toNatClampNeg)) &&& ((31 : Int32))) = Int32.ofNat 4 → (((((AI h 0 v3.toNatClampNeg)) &&& ((31 : Int32))) = Int32.ofNat 5 → (Cl d 94 [.ref 2] h (fun r h56 => ∃ x58 : Int32, r = some (.int x58) ∧ Sh h56 ∧ (Cl d 145 [.ref 23] h56 (fun r h59 => ∃ x61 : Int32, r = some (.int x61) ∧ Sh h59 ∧ ((x58 = x61 → Wp (d + 1) 204 18 [.ref 0, .ref 2, .ref 23, .int (v3 + (5 : Int32))] [] h59 Q) ∧ (¬ x58 = x61 → Q (some (.int (0 : Int32))) h59))))))) ∧ (¬ (((AI h 0 v3.toNatClampNeg)) &&& ((31 : Int32))) = Int32.ofNat 5 → (((((AI h 0 v3.toNatClampNeg)) &&& ((31 : Int32))) = Int32.ofNat 6 → (inR h 0 ((v3 + ((1 : Int32)))) = true ∧ (Cl d 95 [.ref 2, .int (AI h 0 ((v3 + ((1 : Int32)))).toNatClampNeg)] h (fun r h65 => ∃ x67 : Int32, r = some (.int x67) ∧ Sh h65 ∧ ((AK h65 0).1 = 20 ∧ inR h65 0 ((v3 + ((1 : Int32)))) = true ∧ (Cl d 156 [.ref 23, .int (AI h65 0 ((v3 + ((1 : Int32)))).toNatClampNeg)] h65 (fun r h70 => ∃ x72 : Int32, r = some (.int x72) ∧ Sh h70 ∧ ((x67 = x72 → Wp (d + 1) 204 18 [.ref 0, .ref 2, .ref 23, .int (v3 + (5 : Int32))] [] h70 Q) ∧ (¬ x67 = x72 → Q (some (.int (0 : Int32))) h70))))))))) ∧ (¬ (((AI h 0 v3.toNatClampNeg)) &&& ((31 : Int32))) = Int32.ofNat 6 → (((((AI h 0 v3.toNatClampNeg)) &&& ((31 : Int32))) = Int32.ofNat 7 → (inR h 0 ((v3 + ((1 : Int32)))) = true ∧ (Cl d 96 [.ref 2, .int (AI h 0 ((v3 + ((1 : Int32)))).toNatClampNeg)] h (fun r h76 => ∃ x78 : Int32, r = some (.int x78) ∧ Sh h76 ∧ ((AK h76 0).1 = 20 ∧ inR h76 0 ((v3 + ((1 : Int32)))) = true ∧ (Cl d 157 [.ref 23, .int (AI h76 0 ((v3 + ((1 : Int32)))).toNatClampNeg)] h76 (fun r h81 => ∃ x83 : Int32, r = some (.int x83) ∧ Sh h81 ∧ ((x78 = x83 → Wp (d + 1) 204 18 [.ref 0, .ref 2, .ref 23, .int (v3 + (5 : Int32))] [] h81 Q) ∧ (¬ x78 = x83 → Q (some (.int (0 : Int32))) h81))))))))) ∧ (¬ (((AI h 0 v3.toNatClampNeg)) &&& ((31 : Int32))) = Int32.ofNat 7 → (((((AI h 0 v3.toNatClampNeg)) &&& ((31 : Int32))) = Int32.ofNat 8 → (Cl d 97 [.ref 2] h (fun r h86 => ∃ x88 : Int32, r = some (.int x88) ∧ Sh h86 ∧ (Cl d 158 [.ref 23] h86 (fun r h89 => ∃ x91 : Int32, r = some (.int x91) ∧ Sh h89 ∧ ((x88 = x91 → Wp (d + 1) 204 18 [.ref 0, .ref 2, .ref 23, .int (v3 + (5 : Int32))] [] h89 Q) ∧ (¬ x88 = x91 → Q (some (.int (0 : Int32))) h89))))))) ∧ (¬ (((AI h 0 v3.toNatClampNeg)) &&& ((31 : Int32))) = Int32.ofNat 8 → (((((AI h 0 v3.toNatClampNeg)) &&& ((31 : Int32))) = Int32.ofNat 9 → (inR h 0 ((v3 + ((1 : Int32)))) = true ∧ (Cl d 98 [.ref 2, .int (AI h 0 ((v3 + ((1 : Int32)))).toNatClampNeg)] h (fun r h95 => ∃ x97 : Int32, r = some (.int x97) ∧ Sh h95 ∧ ((AK h95 0).1 = 20 ∧ inR h95 0 ((v3 + ((1 : Int32)))) = true ∧ (Cl d 152 [.ref 23, .int (AI h95 0 ((v3 + ((1 : Int32)))).toNatClampNeg)] h95 (fun r h100 => ∃ x102 : Int32, r = some (.int x102) ∧ Sh h100 ∧ ((x97 = x102 → Wp (d + 1) 204 18 [.ref 0, .ref 2, .ref 23, .int (v3 + (5 : Int32))] [] h100 Q) ∧ (¬ x97 = x102 → Q (some (.int (0 : Int32))) h100))))))))) ∧ (¬ (((AI h 0 v3.toNatClampNeg)) &&& ((31 : Int32))) = Int32.ofNat 9 → (((((AI h 0 v3.toNatClampNeg)) &&& ((31 : Int32))) = Int32.ofNat 10 → (inR h 0 ((v3 + ((1 : Int32)))) = true ∧ (Cl d 99 [.ref 2, .int (AI h 0 ((v3 + ((1 : Int32)))).toNatClampNeg)] h (fun r h106 => ∃ x108 : Int32, r = some (.int x108) ∧ Sh h106 ∧ ((AK h106 0).1 = 20 ∧ inR h106 0 ((v3 + ((1 : Int32)))) = true ∧ (Cl d 155 [.ref 23, .int (AI h106 0 ((v3 + ((1 : Int32)))).toNatClampNeg)] h106 (fun r h111 => ∃ x113 : Int32, r = some (.int x113) ∧ Sh h111 ∧ ((x108 = x113 → Wp (d + 1) 204 18 [.ref 0, .ref 2, .ref 23, .int (v3 + (5 : Int32))] [] h111 Q) ∧ (¬ x108 = x113 → Q (some (.int (0 : Int32))) h111))))))))) ∧ (¬ (((AI h 0 v3.toNatClampNeg)) &&& ((31 : Int32))) = Int32.ofNat 10 → (((((AI h 0 v3.toNatClampNeg)) &&& ((31 : Int32))) = Int32.ofNat 11 → (inR h 0 ((v3 + ((1 : Int32)))) = true ∧ (Cl d 100 [.ref 2, .int (AI h 0 ((v3 + ((1 : Int32)))).toNatClampNeg)] h (fun r h117 => ∃ x119 : Int32, r = some (.int x119) ∧ Sh h117 ∧ ((AK h117 0).1 = 20 ∧ inR h117 0 ((v3 + ((1 : Int32)))) = true ∧ (Cl d 159 [.ref 23, .int (AI h117 0 ((v3 + ((1 : Int32)))).toNatClampNeg)] h117 (fun r h122 => ∃ x124 : Int32, r = some (.int x124) ∧ Sh h122 ∧ ((x119 = x124 → Wp (d + 1) 204 18 [.ref 0, .ref 2, .ref 23, .int (v3 + (5 : Int32))] [] h122 Q) ∧ (¬ x119 = x124 → Q (some (.int (0 : Int32))) h122))))))))) ∧ (¬ (((AI h 0 v3.toNatClampNeg)) &&& ((31 : Int32))) = Int32.ofNat 11 → (((((AI h 0 v3.toNatClampNeg)) &&& ((31 : Int32))) = Int32.ofNat 12 → (Cl d 101 [.ref 2] h (fun r h127 => ∃ x129 : Int32, r = some (.int x129) ∧ Sh h127 ∧ (Cl d 162 [.ref 23] h127 (fun r h130 => ∃ x132 : Int32, r = some (.int x132) ∧ Sh h130 ∧ ((x129 = x132 → Wp (d + 1) 204 18 [.ref 0, .ref 2, .ref 23, .int (v3 + (5 : Int32))] [] h130 Q) ∧ (¬ x129 = x132 → Q (some (.int (0 : Int32))) h130))))))) ∧ (¬ (((AI h 0 v3.toNatClampNeg)) &&& ((31 : Int32))) = Int32.ofNat 12 → (((((AI h 0 v3.toNatClampNeg)) &&& ((31 : Int32))) = Int32.ofNat 13 → (Cl d 102 [.ref 2] h (fun r h135 => ∃ x137 : Int32, r = some (.int x137) ∧ Sh h135 ∧ (Cl d 164 [.ref 23] h135 (fun r h138 => ∃ x140 : Int32, r = some (.int x140) ∧ Sh h138 ∧ ((x137 = x140 → Wp (d + 1) 204 18 [.ref 0, .ref 2, .ref 23, .int (v3 + (5 : Int32))] [] h138 Q) ∧ (¬ x137 = x140 → Q (some (.int (0 : Int32))) h138))))))) ∧ (¬ (((AI h 0 v3.toNatClampNeg)) &&& ((31 : Int32))) = Int32.ofNat 13 → (((((AI h 0 v3.toNatClampNeg)) &&& ((31 : Int32))) = Int32.ofNat 14 → (inR h 0 ((v3 + ((1 : Int32)))) = true ∧ (Cl d 103 [.ref 2, .int (AI h 0 ((v3 + ((1 : Int32)))).toNatClampNeg)] h (fun r h144 => ∃ x146 : Int32, r = some (.int x146) ∧ Sh h144 ∧ ((AK h144 0).1 = 20 ∧ inR h144 0 ((v3 + ((1 : Int32)))) = true ∧ (Cl d 167 [.ref 23, .int (AI h144 0 ((v3 + ((1 : Int32)))).toNatClampNeg)] h144 (fun r h149 => ∃ x151 : Int32, r = some (.int x151) ∧ Sh h149 ∧ ((x146 = x151 → Wp (d + 1) 204 18 [.ref 0, .ref 2, .ref 23, .int (v3 + (5 : Int32))] [] h149 Q) ∧ (¬ x146 = x151 → Q (some (.int (0 : Int32))) h149))))))))) ∧ (¬ (((AI h 0 v3.toNatClampNeg)) &&& ((31 : Int32))) = Int32.ofNat 14 → (((((AI h 0 v3.toNatClampNeg)) &&& ((31 : Int32))) = Int32.ofNat 15 → (inR h 0 ((v3 + ((1 : Int32)))) = true ∧ (Cl d 104 [.ref 2, .int (AI h 0 ((v3 + ((1 : Int32)))).toNatClampNeg)] h (fun r h155 => ∃ x157 : Int32, r = some (.int x157) ∧ Sh h155 ∧ ((AK h155 0).1 = 20 ∧ inR h155 0 ((v3 + ((1 : Int32)))) = true ∧ (Cl d 170 [.ref 23, .int (AI h155 0 ((v3 + ((1 : Int32)))).toNatClampNeg)] h155 (fun r h160 => ∃ x162 : Int32, r = some (.int x162) ∧ Sh h160 ∧ ((x157 = x162 → Wp (d + 1) 204 18 [.ref 0, .ref 2, .ref 23, .int (v3 + (5 : Int32))] [] h160 Q) ∧ (¬ x157 = x162 → Q (some (.int (0 : Int32))) h160))))))))) ∧ (¬ (((AI h 0 v3.toNatClampNeg)) &&& ((31 : Int32))) = Int32.ofNat 15 → (((((AI h 0 v3.toNatClampNeg)) &&& ((31 : Int32))) = Int32.ofNat 16 → (inR h 0 ((v3 + ((1 : Int32)))) = true ∧ (Cl d 105 [.ref 2, .int (AI h 0 ((v3 + ((1 : Int32)))).toNatClampNeg)] h (fun r h166 => ∃ x168 : Int32, r = some (.int x168) ∧ Sh h166 ∧ ((AK h166 0).1 = 20 ∧ inR h166 0 ((v3 + ((1 : Int32)))) = true ∧ (Cl d 172 [.ref 23, .int (AI h166 0 ((v3 + ((1 : Int32)))).toNatClampNeg)] h166 (fun r h171 => ∃ x173 : Int32, r = some (.int x173) ∧ Sh h171 ∧ ((x168 = x173 → Wp (d + 1) 204 18 [.ref 0, .ref 2, .ref 23, .int (v3 + (5 : Int32))] [] h171 Q) ∧ (¬ x168 = x173 → Q (some (.int (0 : Int32))) h171))))))))) ∧ (¬ (((AI h 0 v3.toNatClampNeg)) &&& ((31 : Int32))) = Int32.ofNat 16 → (((((AI h 0 v3.toNatClampNeg)) &&& ((31 : Int32))) = Int32.ofNat 17 → (inR h 0 ((v3 + ((1 : Int32)))) = true ∧ inR h 0 ((v3 + ((2 : Int32)))) = true ∧ (Cl d 106 [.ref 2, .int (AI h 0 ((v3 + ((1 : Int32)))).toNatClampNeg), .int (AI h 0 ((v3 + ((2 : Int32)))).toNatClampNeg)] h (fun r h178 => ∃ x180 : Int32, r = some (.int x180) ∧ Sh h178 ∧ ((AK h178 0).1 = 20 ∧ inR h178 0 ((v3 + ((1 : Int32)))) = true ∧ inR h178 0 ((v3 + ((2 : Int32)))) = true ∧ (Cl d 178 [.ref 23, .int (AI h178 0 ((v3 + ((1 : Int32)))).toNatClampNeg), .int (AI h178 0 ((v3 + ((2 : Int32)))).toNatClampNeg)] h178 (fun r h184 => ∃ x186 : Int32, r = some (.int x186) ∧ Sh h184 ∧ ((x180 = x186 → Wp (d + 1) 204 18 [.ref 0, .ref 2, .ref 23, .int (v3 + (5 : Int32))] [] h184 Q) ∧ (¬ x180 = x186 → Q (some (.int (0 : Int32))) h184))))))))) ∧ (¬ (((AI h 0 v3.toNatClampNeg)) &&& ((31 : Int32))) = Int32.ofNat 17 → (((((AI h 0 v3.toNatClampNeg)) &&& ((31 : Int32))) = Int32.ofNat 18 → (inR h 0 ((v3 + ((1 : Int32)))) = true ∧ (Cl d 107 [.ref 2, .int (AI h 0 ((v3 + ((1 : Int32)))).toNatClampNeg)] h (fun r h190 => ∃ x192 : Int32, r = some (.int x192) ∧ Sh h190 ∧ ((AK h190 0).1 = 20 ∧ inR h190 0 ((v3 + ((1 : Int32)))) = true ∧ (Cl d 179 [.ref 23, .int (AI h190 0 ((v3 + ((1 : Int32)))).toNatClampNeg)] h190 (fun r h195 => ∃ x197 : Int32, r = some (.int x197) ∧ Sh h195 ∧ ((x192 = x197 → Wp (d + 1) 204 18 [.ref 0, .ref 2, .ref 23, .int (v3 + (5 : Int32))] [] h195 Q) ∧ (¬ x192 = x197 → Q (some (.int (0 : Int32))) h195))))))))) ∧ (¬ (((AI h 0 v3.toNatClampNeg)) &&& ((31 : Int32))) = Int32.ofNat 18 → (((((AI h 0 v3.toNatClampNeg)) &&& ((31 : Int32))) = Int32.ofNat 19 → (inR h 0 ((v3 + ((1 : Int32)))) = true ∧ inR h 0 ((v3 + ((2 : Int32)))) = true ∧ (Cl d 108 [.ref 2, .int (AI h 0 ((v3 + ((1 : Int32)))).toNatClampNeg), .int (AI h 0 ((v3 + ((2 : Int32)))).toNatClampNeg)] h (fun r h202 => ∃ x204 : Int32, r = some (.int x204) ∧ Sh h202 ∧ ((AK h202 0).1 = 20 ∧ inR h202 0 ((v3 + ((1 : Int32)))) = true ∧ inR h202 0 ((v3 + ((2 : Int32)))) = true ∧ (Cl d 181 [.ref 23, .int (AI h202 0 ((v3 + ((1 : Int32)))).toNatClampNeg), .int (AI h202 0 ((v3 + ((2 : Int32)))).toNatClampNeg)] h202 (fun r h208 => ∃ x210 : Int32, r = some (.int x210) ∧ Sh h208 ∧ ((x204 = x210 → Wp (d + 1) 204 18 [.ref 0, .ref 2, .ref 23, .int (v3 + (5 : Int32))] [] h208 Q) ∧ (¬ x204 = x210 → Q (some (.int (0 : Int32))) h208))))))))) ∧ (¬ (((AI h 0 v3.toNatClampNeg)) &&& ((31 : Int32))) = Int32.ofNat 19 → (((((AI h 0 v3.toNatClampNeg)) &&& ((31 : Int32))) = Int32.ofNat 20 → (inR h 0 ((v3 + ((1 : Int32)))) = true ∧ inR h 0 ((v3 + ((2 : Int32)))) = true ∧ (Cl d 109 [.ref 2, .int (AI h 0 ((v3 + ((1 : Int32)))).toNatClampNeg), .int (AI h 0 ((v3 + ((2 : Int32)))).toNatClampNeg)] h (fun r h215 => ∃ x217 : Int32, r = some (.int x217) ∧ Sh h215 ∧ ((AK h215 0).1 = 20 ∧ inR h215 0 ((v3 + ((1 : Int32)))) = true ∧ inR h215 0 ((v3 + ((2 : Int32)))) = true ∧ (Cl d 189 [.ref 23, .int (AI h215 0 ((v3 + ((1 : Int32)))).toNatClampNeg), .int (AI h215 0 ((v3 + ((2 : Int32)))).toNatClampNeg)] h215 (fun r h221 => ∃ x223 : Int32, r = some (.int x223) ∧ Sh h221 ∧ ((x217 = x223 → Wp (d + 1) 204 18 [.ref 0, .ref 2, .ref 23, .int (v3 + (5 : Int32))] [] h221 Q) ∧ (¬ x217 = x223 → Q (some (.int (0 : Int32))) h221))))))))) ∧ (¬ (((AI h 0 v3.toNatClampNeg)) &&& ((31 : Int32))) = Int32.ofNat 20 → (((((AI h 0 v3.toNatClampNeg)) &&& ((31 : Int32))) = Int32.ofNat 21 → (inR h 0 ((v3 + ((1 : Int32)))) = true ∧ inR h 0 ((v3 + ((2 : Int32)))) = true ∧ inR h 0 ((v3 + ((3 : Int32)))) = true ∧ inR h 0 ((v3 + ((4 : Int32)))) = true ∧ (Cl d 110 [.ref 2, .int (AI h 0 ((v3 + ((1 : Int32)))).toNatClampNeg), .int (AI h 0 ((v3 + ((2 : Int32)))).toNatClampNeg), .int (AI h 0 ((v3 + ((3 : Int32)))).toNatClampNeg), .int (AI h 0 ((v3 + ((4 : Int32)))).toNatClampNeg)] h (fun r h230 => ∃ x232 : Int32, r = some (.int x232) ∧ Sh h230 ∧ ((AK h230 0).1 = 20 ∧ inR h230 0 ((v3 + ((1 : Int32)))) = true ∧ inR h230 0 ((v3 + ((2 : Int32)))) = true ∧ inR h230 0 ((v3 + ((3 : Int32)))) = true ∧ inR h230 0 ((v3 + ((4 : Int32)))) = true ∧ (Cl d 191 [.ref 23, .int (AI h230 0 ((v3 + ((1 : Int32)))).toNatClampNeg), .int (AI h230 0 ((v3 + ((2 : Int32)))).toNatClampNeg), .int (AI h230 0 ((v3 + ((3 : Int32)))).toNatClampNeg), .int (AI h230 0 ((v3 + ((4 : Int32)))).toNatClampNeg)] h230 (fun r h238 => ∃ x240 : Int32, r = some (.int x240) ∧ Sh h238 ∧ ((x232 = x240 → Wp (d + 1) 204 18 [.ref 0, .ref 2, .ref 23, .int (v3 + (5 : Int32))] [] h238 Q) ∧ (¬ x232 = x240 → Q (some (.int (0 : Int32))) h238))))))))) ∧ (¬ (((AI h 0 v3.toNatClampNeg)) &&& ((31 : Int32))) = Int32.ofNat 21 → (((((AI h 0 v3.toNatClampNeg)) &&& ((31 : Int32))) = Int32.ofNat 22 → (Cl d 111 [.ref 2] h (fun r h243 => ∃ x245 : Int32, r = some (.int x245) ∧ Sh h243 ∧ (Cl d 192 [.ref 23] h243 (fun r h246 => ∃ x248 : Int32, r = some (.int x248) ∧ Sh h246 ∧ ((x245 = x248 → Wp (d + 1) 204 18 [.ref 0, .ref 2, .ref 23, .int (v3 + (5 : Int32))] [] h246 Q) ∧ (¬ x245 = x248 → Q (some (.int (0 : Int32))) h246))))))) ∧ (¬ (((AI h 0 v3.toNatClampNeg)) &&& ((31 : Int32))) = Int32.ofNat 22 → (((((AI h 0 v3.toNatClampNeg)) &&& ((31 : Int32))) = Int32.ofNat 23 → (Cl d 112 [.ref 2] h (fun r h251 => ∃ x253 : Int32, r = some (.int x253) ∧ Sh h251 ∧ (Cl d 193 [.ref 23] h251 (fun r h254 => ∃ x256 : Int32, r = some (.int x256) ∧ Sh h254 ∧ ((x253 = x256 → Wp (d + 1) 204 18 [.ref 0, .ref 2, .ref 23, .int (v3 + (5 : Int32))] [] h254 Q) ∧ (¬ x253 = x256 → Q (some (.int (0 : Int32))) h254))))))) ∧ (¬ (((AI h 0 v3.toNatClampNeg)) &&& ((31 : Int32))) = Int32.ofNat 23 → (((((AI h 0 v3.toNatClampNeg)) &&& ((31 : Int32))) = Int32.ofNat 24 → (inR h 0 ((v3 + ((1 : Int32)))) = true ∧ (Cl d 113 [.ref 2, .int (AI h 0 ((v3 + ((1 : Int32)))).toNatClampNeg)] h (fun r h260 => ∃ x262 : Int32, r = some (.int x262) ∧ Sh h260 ∧ ((AK h260 0).1 = 20 ∧ inR h260 0 ((v3 + ((1 : Int32)))) = true ∧ (Cl d 195 [.ref 23, .int (AI h260 0 ((v3 + ((1 : Int32)))).toNatClampNeg)] h260 (fun r h265 => ∃ x267 : Int32, r = some (.int x267) ∧ Sh h265 ∧ ((x262 = x267 → Wp (d + 1) 204 18 [.ref 0, .ref 2, .ref 23, .int (v3 + (5 : Int32))] [] h265 Q) ∧ (¬ x262 = x267 → Q (some (.int (0 : Int32))) h265))))))))) ∧ (¬ (((AI h 0 v3.toNatClampNeg)) &&& ((31 : Int32))) = Int32.ofNat 24 → (((((AI h 0 v3.toNatClampNeg)) &&& ((31 : Int32))) = Int32.ofNat 25 → (Cl d 114 [.ref 2] h (fun r h270 => ∃ x272 : Int64, r = some (.long x272) ∧ Sh h270 ∧ (Cl d 198 [.ref 23] h270 (fun r h273 => ∃ x275 : Int64, r = some (.long x275) ∧ Sh h273 ∧ (((lg_cmp x272 x275) = (0 : Int32) → Wp (d + 1) 204 18 [.ref 0, .ref 2, .ref 23, .int (v3 + (5 : Int32))] [] h273 Q) ∧ (¬ (lg_cmp x272 x275) = (0 : Int32) → Q (some (.int (0 : Int32))) h273))))))) ∧ (¬ (((AI h 0 v3.toNatClampNeg)) &&& ((31 : Int32))) = Int32.ofNat 25 → Wp (d + 1) 204 18 [.ref 0, .ref 2, .ref 23, .int (v3 + (5 : Int32))] [] h Q))))))))))))))))))))))))))))))))))))))))))))))))))))))))) : Wp (d + 1) 204 18 [.ref 0, .ref 2, .ref 23, .int v3] [] h Q := by
  refine Wp.blk (by decide) ol_204 10 2 (pc' := 20) (L' := [.ref 0, .ref 2, .ref 23, .int v3]) (S' := [.ref 0, .int v3]) (h' := h) rfl ?_
  obtain ⟨k1, K⟩ := K
  refine Wp.alen (op_ix (by decide) ol_204 12 rfl) k1 rfl ?_
  refine Wp.blk (by decide) ol_204 13 3 (pc' := (if (((Int32.ofNat (AK h 0).2)) - ((5 : Int32))) < v3 then 757 else 26)) (L' := [.ref 0, .ref 2, .ref 23, .int v3]) (S' := []) (h' := h) rfl ?_
  refine Wp.br (fun c2 => ?_) (fun c2 => ?_)
  · replace K := K.1 c2
    refine Wp.blk (by decide) ol_204 461 1 (pc' := 758) (L' := [.ref 0, .ref 2, .ref 23, .int v3]) (S' := [.int (1 : Int32)]) (h' := h) rfl ?_
    exact Wp.ret (op_ix (by decide) ol_204 462 rfl) rfl K
  · replace K := K.2 c2
    refine Wp.blk (by decide) ol_204 16 2 (pc' := 28) (L' := [.ref 0, .ref 2, .ref 23, .int v3]) (S' := [.int v3, .ref 0]) (h' := h) rfl ?_
    obtain ⟨k3, K⟩ := K
    obtain ⟨r4, K⟩ := K
    refine Wp.iald (op_ix (by decide) ol_204 18 rfl) k3 r4 rfl ?_
    refine Wp.blk (by decide) ol_204 19 3 (pc' := (tsw ((((AI h 0 v3.toNatClampNeg)) &&& ((31 : Int32)))) [(0, 152), (1, 205), (2, 218), (3, 231), (4, 244), (5, 277), (6, 290), (7, 313), (8, 336), (9, 349), (10, 372), (11, 395), (12, 418), (13, 431), (14, 444), (15, 467), (16, 490), (17, 513), (18, 546), (19, 569), (20, 602), (21, 635), (22, 688), (23, 701), (24, 714), (25, 737)] 751)) (L' := [.ref 0, .ref 2, .ref 23, .int v3]) (S' := []) (h' := h) rfl ?_
    refine Wp.tsw (fun c5 => ?_) (fun c5 => ?_)
    · replace K := K.1 c5
      refine Wp.blk (by decide) ol_204 22 5 (pc' := 157) (L' := [.ref 0, .ref 2, .ref 23, .int v3]) (S' := [.int (v3 + ((1 : Int32))), .ref 0, .ref 2]) (h' := h) rfl ?_
      obtain ⟨r6, K⟩ := K
      refine Wp.iald (op_ix (by decide) ol_204 27 rfl) k3 r6 rfl ?_
      refine Wp.blk (by decide) ol_204 28 7 (pc' := 166) (L' := [.ref 0, .ref 2, .ref 23, .int v3]) (S' := [.int (v3 + ((2 : Int32))), .ref 0, .long ((((AI h 0 ((v3 + ((1 : Int32)))).toNatClampNeg)).toInt64) <<< (((32 : Int32)).toInt64 &&& 63)), .ref 2]) (h' := h) rfl ?_
      obtain ⟨r7, K⟩ := K
      refine Wp.iald (op_ix (by decide) ol_204 35 rfl) k3 r7 rfl ?_
      refine Wp.blk (by decide) ol_204 36 4 (pc' := 173) (L' := [.ref 0, .ref 2, .ref 23, .int v3]) (S' := [.long ((((((AI h 0 ((v3 + ((1 : Int32)))).toNatClampNeg)).toInt64) <<< (((32 : Int32)).toInt64 &&& 63))) ||| (((((AI h 0 ((v3 + ((2 : Int32)))).toNatClampNeg)).toInt64) &&& ((4294967295 : Int64))))), .ref 2]) (h' := h) rfl ?_
      refine Wp.callI (op_ix (by decide) ol_204 40 rfl) (act_virt (c2 := 1) rfl (lk1 (kS HS 2 rfl)) rfl) rfl (K.mono ?_)
      rintro _ h8 ⟨x10, rfl, hs9, K⟩
      refine ⟨x10, rfl, ?_⟩
      refine Wp.blk (by decide) ol_204 41 5 (pc' := 181) (L' := [.ref 0, .ref 2, .ref 23, .int v3]) (S' := [.int (v3 + ((1 : Int32))), .ref 0, .ref 23, .int x10]) (h' := h8) rfl ?_
      obtain ⟨k11, K⟩ := K
      obtain ⟨r12, K⟩ := K
      refine Wp.iald (op_ix (by decide) ol_204 46 rfl) k11 r12 rfl ?_
      refine Wp.blk (by decide) ol_204 47 7 (pc' := 190) (L' := [.ref 0, .ref 2, .ref 23, .int v3]) (S' := [.int (v3 + ((2 : Int32))), .ref 0, .long ((((AI h8 0 ((v3 + ((1 : Int32)))).toNatClampNeg)).toInt64) <<< (((32 : Int32)).toInt64 &&& 63)), .ref 23, .int x10]) (h' := h8) rfl ?_
      obtain ⟨r13, K⟩ := K
      refine Wp.iald (op_ix (by decide) ol_204 54 rfl) k11 r13 rfl ?_
      refine Wp.blk (by decide) ol_204 55 4 (pc' := 197) (L' := [.ref 0, .ref 2, .ref 23, .int v3]) (S' := [.long ((((((AI h8 0 ((v3 + ((1 : Int32)))).toNatClampNeg)).toInt64) <<< (((32 : Int32)).toInt64 &&& 63))) ||| (((((AI h8 0 ((v3 + ((2 : Int32)))).toNatClampNeg)).toInt64) &&& ((4294967295 : Int64))))), .ref 23, .int x10]) (h' := h8) rfl ?_
      refine Wp.callI (op_ix (by decide) ol_204 59 rfl) (act_virt (c2 := 1) rfl (lk1 (kS hs9 23 rfl)) rfl) rfl (K.mono ?_)
      rintro _ h14 ⟨x16, rfl, hs15, K⟩
      refine ⟨x16, rfl, ?_⟩
      refine Wp.blk (by decide) ol_204 60 1 (pc' := (if x10 = x16 then 751 else 203)) (L' := [.ref 0, .ref 2, .ref 23, .int v3]) (S' := []) (h' := h14) rfl ?_
      refine Wp.br (fun c17 => ?_) (fun c17 => ?_)
      · replace K := K.1 c17
        refine Wp.blk (by decide) ol_204 459 2 (pc' := 18) (L' := [.ref 0, .ref 2, .ref 23, .int (v3 + (5 : Int32))]) (S' := []) (h' := h14) rfl ?_
        exact K
      · replace K := K.2 c17
        refine Wp.blk (by decide) ol_204 61 1 (pc' := 204) (L' := [.ref 0, .ref 2, .ref 23, .int v3]) (S' := [.int (0 : Int32)]) (h' := h14) rfl ?_
        exact Wp.ret (op_ix (by decide) ol_204 62 rfl) rfl K
    replace K := K.2 c5
    refine Wp.tsw (fun c18 => ?_) (fun c18 => ?_)
    · replace K := K.1 c18
      refine Wp.blk (by decide) ol_204 63 1 (pc' := 206) (L' := [.ref 0, .ref 2, .ref 23, .int v3]) (S' := [.ref 2]) (h' := h) rfl ?_
      refine Wp.callI (op_ix (by decide) ol_204 64 rfl) (act_virt (c2 := 0) rfl (lk1 (kS HS 2 rfl)) rfl) rfl (K.mono ?_)
      rintro _ h19 ⟨x21, rfl, hs20, K⟩
      refine ⟨x21, rfl, ?_⟩
      refine Wp.blk (by decide) ol_204 65 1 (pc' := 210) (L' := [.ref 0, .ref 2, .ref 23, .int v3]) (S' := [.ref 23, .int x21]) (h' := h19) rfl ?_
      refine Wp.callI (op_ix (by decide) ol_204 66 rfl) (act_virt (c2 := 0) rfl (lk1 (kS hs20 23 rfl)) rfl) rfl (K.mono ?_)
      rintro _ h22 ⟨x24, rfl, hs23, K⟩
      refine ⟨x24, rfl, ?_⟩
      refine Wp.blk (by decide) ol_204 67 1 (pc' := (if x21 = x24 then 751 else 216)) (L' := [.ref 0, .ref 2, .ref 23, .int v3]) (S' := []) (h' := h22) rfl ?_
      refine Wp.br (fun c25 => ?_) (fun c25 => ?_)
      · replace K := K.1 c25
        refine Wp.blk (by decide) ol_204 459 2 (pc' := 18) (L' := [.ref 0, .ref 2, .ref 23, .int (v3 + (5 : Int32))]) (S' := []) (h' := h22) rfl ?_
        exact K
      · replace K := K.2 c25
        refine Wp.blk (by decide) ol_204 68 1 (pc' := 217) (L' := [.ref 0, .ref 2, .ref 23, .int v3]) (S' := [.int (0 : Int32)]) (h' := h22) rfl ?_
        exact Wp.ret (op_ix (by decide) ol_204 69 rfl) rfl K
    replace K := K.2 c18
    refine Wp.tsw (fun c26 => ?_) (fun c26 => ?_)
    · replace K := K.1 c26
      refine Wp.blk (by decide) ol_204 70 1 (pc' := 219) (L' := [.ref 0, .ref 2, .ref 23, .int v3]) (S' := [.ref 2]) (h' := h) rfl ?_
      refine Wp.callI (op_ix (by decide) ol_204 71 rfl) (act_virt (c2 := 0) rfl (lk1 (kS HS 2 rfl)) rfl) rfl (K.mono ?_)
      rintro _ h27 ⟨x29, rfl, hs28, K⟩
      refine ⟨x29, rfl, ?_⟩
      refine Wp.blk (by decide) ol_204 72 1 (pc' := 223) (L' := [.ref 0, .ref 2, .ref 23, .int v3]) (S' := [.ref 23, .int x29]) (h' := h27) rfl ?_
      refine Wp.callI (op_ix (by decide) ol_204 73 rfl) (act_virt (c2 := 0) rfl (lk1 (kS hs28 23 rfl)) rfl) rfl (K.mono ?_)
      rintro _ h30 ⟨x32, rfl, hs31, K⟩
      refine ⟨x32, rfl, ?_⟩
      refine Wp.blk (by decide) ol_204 74 1 (pc' := (if x29 = x32 then 751 else 229)) (L' := [.ref 0, .ref 2, .ref 23, .int v3]) (S' := []) (h' := h30) rfl ?_
      refine Wp.br (fun c33 => ?_) (fun c33 => ?_)
      · replace K := K.1 c33
        refine Wp.blk (by decide) ol_204 459 2 (pc' := 18) (L' := [.ref 0, .ref 2, .ref 23, .int (v3 + (5 : Int32))]) (S' := []) (h' := h30) rfl ?_
        exact K
      · replace K := K.2 c33
        refine Wp.blk (by decide) ol_204 75 1 (pc' := 230) (L' := [.ref 0, .ref 2, .ref 23, .int v3]) (S' := [.int (0 : Int32)]) (h' := h30) rfl ?_
        exact Wp.ret (op_ix (by decide) ol_204 76 rfl) rfl K
    replace K := K.2 c26
    refine Wp.tsw (fun c34 => ?_) (fun c34 => ?_)
    · replace K := K.1 c34
      refine Wp.blk (by decide) ol_204 77 1 (pc' := 232) (L' := [.ref 0, .ref 2, .ref 23, .int v3]) (S' := [.ref 2]) (h' := h) rfl ?_
      refine Wp.callI (op_ix (by decide) ol_204 78 rfl) (act_virt (c2 := 0) rfl (lk1 (kS HS 2 rfl)) rfl) rfl (K.mono ?_)
      rintro _ h35 ⟨x37, rfl, hs36, K⟩
      refine ⟨x37, rfl, ?_⟩
      refine Wp.blk (by decide) ol_204 79 1 (pc' := 236) (L' := [.ref 0, .ref 2, .ref 23, .int v3]) (S' := [.ref 23, .int x37]) (h' := h35) rfl ?_
      refine Wp.callI (op_ix (by decide) ol_204 80 rfl) (act_virt (c2 := 0) rfl (lk1 (kS hs36 23 rfl)) rfl) rfl (K.mono ?_)
      rintro _ h38 ⟨x40, rfl, hs39, K⟩
      refine ⟨x40, rfl, ?_⟩
      refine Wp.blk (by decide) ol_204 81 1 (pc' := (if x37 = x40 then 751 else 242)) (L' := [.ref 0, .ref 2, .ref 23, .int v3]) (S' := []) (h' := h38) rfl ?_
      refine Wp.br (fun c41 => ?_) (fun c41 => ?_)
      · replace K := K.1 c41
        refine Wp.blk (by decide) ol_204 459 2 (pc' := 18) (L' := [.ref 0, .ref 2, .ref 23, .int (v3 + (5 : Int32))]) (S' := []) (h' := h38) rfl ?_
        exact K
      · replace K := K.2 c41
        refine Wp.blk (by decide) ol_204 82 1 (pc' := 243) (L' := [.ref 0, .ref 2, .ref 23, .int v3]) (S' := [.int (0 : Int32)]) (h' := h38) rfl ?_
        exact Wp.ret (op_ix (by decide) ol_204 83 rfl) rfl K
    replace K := K.2 c34
    refine Wp.tsw (fun c42 => ?_) (fun c42 => ?_)
    · replace K := K.1 c42
      refine Wp.blk (by decide) ol_204 84 5 (pc' := 249) (L' := [.ref 0, .ref 2, .ref 23, .int v3]) (S' := [.int (v3 + ((1 : Int32))), .ref 0, .ref 2]) (h' := h) rfl ?_
      obtain ⟨r43, K⟩ := K
      refine Wp.iald (op_ix (by decide) ol_204 89 rfl) k3 r43 rfl ?_
      refine Wp.blk (by decide) ol_204 90 4 (pc' := 254) (L' := [.ref 0, .ref 2, .ref 23, .int v3]) (S' := [.int (v3 + ((2 : Int32))), .ref 0, .int (AI h 0 ((v3 + ((1 : Int32)))).toNatClampNeg), .ref 2]) (h' := h) rfl ?_
      obtain ⟨r44, K⟩ := K
      refine Wp.iald (op_ix (by decide) ol_204 94 rfl) k3 r44 rfl ?_
      refine Wp.callI (op_ix (by decide) ol_204 95 rfl) (act_virt (c2 := 2) rfl (lk1 (kS HS 2 rfl)) rfl) rfl (K.mono ?_)
      rintro _ h45 ⟨x47, rfl, hs46, K⟩
      refine ⟨x47, rfl, ?_⟩
      refine Wp.blk (by decide) ol_204 96 5 (pc' := 263) (L' := [.ref 0, .ref 2, .ref 23, .int v3]) (S' := [.int (v3 + ((1 : Int32))), .ref 0, .ref 23, .int x47]) (h' := h45) rfl ?_
      obtain ⟨k48, K⟩ := K
      obtain ⟨r49, K⟩ := K
      refine Wp.iald (op_ix (by decide) ol_204 101 rfl) k48 r49 rfl ?_
      refine Wp.blk (by decide) ol_204 102 4 (pc' := 268) (L' := [.ref 0, .ref 2, .ref 23, .int v3]) (S' := [.int (v3 + ((2 : Int32))), .ref 0, .int (AI h45 0 ((v3 + ((1 : Int32)))).toNatClampNeg), .ref 23, .int x47]) (h' := h45) rfl ?_
      obtain ⟨r50, K⟩ := K
      refine Wp.iald (op_ix (by decide) ol_204 106 rfl) k48 r50 rfl ?_
      refine Wp.callI (op_ix (by decide) ol_204 107 rfl) (act_virt (c2 := 2) rfl (lk1 (kS hs46 23 rfl)) rfl) rfl (K.mono ?_)
      rintro _ h51 ⟨x53, rfl, hs52, K⟩
      refine ⟨x53, rfl, ?_⟩
      refine Wp.blk (by decide) ol_204 108 1 (pc' := (if x47 = x53 then 751 else 275)) (L' := [.ref 0, .ref 2, .ref 23, .int v3]) (S' := []) (h' := h51) rfl ?_
      refine Wp.br (fun c54 => ?_) (fun c54 => ?_)
      · replace K := K.1 c54
        refine Wp.blk (by decide) ol_204 459 2 (pc' := 18) (L' := [.ref 0, .ref 2, .ref 23, .int (v3 + (5 : Int32))]) (S' := []) (h' := h51) rfl ?_
        exact K
      · replace K := K.2 c54
        refine Wp.blk (by decide) ol_204 109 1 (pc' := 276) (L' := [.ref 0, .ref 2, .ref 23, .int v3]) (S' := [.int (0 : Int32)]) (h' := h51) rfl ?_
        exact Wp.ret (op_ix (by decide) ol_204 110 rfl) rfl K
    replace K := K.2 c42
    refine Wp.tsw (fun c55 => ?_) (fun c55 => ?_)
    · replace K := K.1 c55
      refine Wp.blk (by decide) ol_204 111 1 (pc' := 278) (L' := [.ref 0, .ref 2, .ref 23, .int v3]) (S' := [.ref 2]) (h' := h) rfl ?_
      refine Wp.callI (op_ix (by decide) ol_204 112 rfl) (act_virt (c2 := 0) rfl (lk1 (kS HS 2 rfl)) rfl) rfl (K.mono ?_)
      rintro _ h56 ⟨x58, rfl, hs57, K⟩
      refine ⟨x58, rfl, ?_⟩
      refine Wp.blk (by decide) ol_204 113 1 (pc' := 282) (L' := [.ref 0, .ref 2, .ref 23, .int v3]) (S' := [.ref 23, .int x58]) (h' := h56) rfl ?_
      refine Wp.callI (op_ix (by decide) ol_204 114 rfl) (act_virt (c2 := 0) rfl (lk1 (kS hs57 23 rfl)) rfl) rfl (K.mono ?_)
      rintro _ h59 ⟨x61, rfl, hs60, K⟩
      refine ⟨x61, rfl, ?_⟩
      refine Wp.blk (by decide) ol_204 115 1 (pc' := (if x58 = x61 then 751 else 288)) (L' := [.ref 0, .ref 2, .ref 23, .int v3]) (S' := []) (h' := h59) rfl ?_
      refine Wp.br (fun c62 => ?_) (fun c62 => ?_)
      · replace K := K.1 c62
        refine Wp.blk (by decide) ol_204 459 2 (pc' := 18) (L' := [.ref 0, .ref 2, .ref 23, .int (v3 + (5 : Int32))]) (S' := []) (h' := h59) rfl ?_
        exact K
      · replace K := K.2 c62
        refine Wp.blk (by decide) ol_204 116 1 (pc' := 289) (L' := [.ref 0, .ref 2, .ref 23, .int v3]) (S' := [.int (0 : Int32)]) (h' := h59) rfl ?_
        exact Wp.ret (op_ix (by decide) ol_204 117 rfl) rfl K
    replace K := K.2 c55
    refine Wp.tsw (fun c63 => ?_) (fun c63 => ?_)
    · replace K := K.1 c63
      refine Wp.blk (by decide) ol_204 118 5 (pc' := 295) (L' := [.ref 0, .ref 2, .ref 23, .int v3]) (S' := [.int (v3 + ((1 : Int32))), .ref 0, .ref 2]) (h' := h) rfl ?_
      obtain ⟨r64, K⟩ := K
      refine Wp.iald (op_ix (by decide) ol_204 123 rfl) k3 r64 rfl ?_
      refine Wp.callI (op_ix (by decide) ol_204 124 rfl) (act_virt (c2 := 1) rfl (lk1 (kS HS 2 rfl)) rfl) rfl (K.mono ?_)
      rintro _ h65 ⟨x67, rfl, hs66, K⟩
      refine ⟨x67, rfl, ?_⟩
      refine Wp.blk (by decide) ol_204 125 5 (pc' := 304) (L' := [.ref 0, .ref 2, .ref 23, .int v3]) (S' := [.int (v3 + ((1 : Int32))), .ref 0, .ref 23, .int x67]) (h' := h65) rfl ?_
      obtain ⟨k68, K⟩ := K
      obtain ⟨r69, K⟩ := K
      refine Wp.iald (op_ix (by decide) ol_204 130 rfl) k68 r69 rfl ?_
      refine Wp.callI (op_ix (by decide) ol_204 131 rfl) (act_virt (c2 := 1) rfl (lk1 (kS hs66 23 rfl)) rfl) rfl (K.mono ?_)
      rintro _ h70 ⟨x72, rfl, hs71, K⟩
      refine ⟨x72, rfl, ?_⟩
      refine Wp.blk (by decide) ol_204 132 1 (pc' := (if x67 = x72 then 751 else 311)) (L' := [.ref 0, .ref 2, .ref 23, .int v3]) (S' := []) (h' := h70) rfl ?_
      refine Wp.br (fun c73 => ?_) (fun c73 => ?_)
      · replace K := K.1 c73
        refine Wp.blk (by decide) ol_204 459 2 (pc' := 18) (L' := [.ref 0, .ref 2, .ref 23, .int (v3 + (5 : Int32))]) (S' := []) (h' := h70) rfl ?_
        exact K
      · replace K := K.2 c73
        refine Wp.blk (by decide) ol_204 133 1 (pc' := 312) (L' := [.ref 0, .ref 2, .ref 23, .int v3]) (S' := [.int (0 : Int32)]) (h' := h70) rfl ?_
        exact Wp.ret (op_ix (by decide) ol_204 134 rfl) rfl K
    replace K := K.2 c63
    refine Wp.tsw (fun c74 => ?_) (fun c74 => ?_)
    · replace K := K.1 c74
      refine Wp.blk (by decide) ol_204 135 5 (pc' := 318) (L' := [.ref 0, .ref 2, .ref 23, .int v3]) (S' := [.int (v3 + ((1 : Int32))), .ref 0, .ref 2]) (h' := h) rfl ?_
      obtain ⟨r75, K⟩ := K
      refine Wp.iald (op_ix (by decide) ol_204 140 rfl) k3 r75 rfl ?_
      refine Wp.callI (op_ix (by decide) ol_204 141 rfl) (act_virt (c2 := 1) rfl (lk1 (kS HS 2 rfl)) rfl) rfl (K.mono ?_)
      rintro _ h76 ⟨x78, rfl, hs77, K⟩
      refine ⟨x78, rfl, ?_⟩
      refine Wp.blk (by decide) ol_204 142 5 (pc' := 327) (L' := [.ref 0, .ref 2, .ref 23, .int v3]) (S' := [.int (v3 + ((1 : Int32))), .ref 0, .ref 23, .int x78]) (h' := h76) rfl ?_
      obtain ⟨k79, K⟩ := K
      obtain ⟨r80, K⟩ := K
      refine Wp.iald (op_ix (by decide) ol_204 147 rfl) k79 r80 rfl ?_
      refine Wp.callI (op_ix (by decide) ol_204 148 rfl) (act_virt (c2 := 1) rfl (lk1 (kS hs77 23 rfl)) rfl) rfl (K.mono ?_)
      rintro _ h81 ⟨x83, rfl, hs82, K⟩
      refine ⟨x83, rfl, ?_⟩
      refine Wp.blk (by decide) ol_204 149 1 (pc' := (if x78 = x83 then 751 else 334)) (L' := [.ref 0, .ref 2, .ref 23, .int v3]) (S' := []) (h' := h81) rfl ?_
      refine Wp.br (fun c84 => ?_) (fun c84 => ?_)
      · replace K := K.1 c84
        refine Wp.blk (by decide) ol_204 459 2 (pc' := 18) (L' := [.ref 0, .ref 2, .ref 23, .int (v3 + (5 : Int32))]) (S' := []) (h' := h81) rfl ?_
        exact K
      · replace K := K.2 c84
        refine Wp.blk (by decide) ol_204 150 1 (pc' := 335) (L' := [.ref 0, .ref 2, .ref 23, .int v3]) (S' := [.int (0 : Int32)]) (h' := h81) rfl ?_
        exact Wp.ret (op_ix (by decide) ol_204 151 rfl) rfl K
    replace K := K.2 c74
    refine Wp.tsw (fun c85 => ?_) (fun c85 => ?_)
    · replace K := K.1 c85
      refine Wp.blk (by decide) ol_204 152 1 (pc' := 337) (L' := [.ref 0, .ref 2, .ref 23, .int v3]) (S' := [.ref 2]) (h' := h) rfl ?_
      refine Wp.callI (op_ix (by decide) ol_204 153 rfl) (act_virt (c2 := 0) rfl (lk1 (kS HS 2 rfl)) rfl) rfl (K.mono ?_)
      rintro _ h86 ⟨x88, rfl, hs87, K⟩
      refine ⟨x88, rfl, ?_⟩
      refine Wp.blk (by decide) ol_204 154 1 (pc' := 341) (L' := [.ref 0, .ref 2, .ref 23, .int v3]) (S' := [.ref 23, .int x88]) (h' := h86) rfl ?_
      refine Wp.callI (op_ix (by decide) ol_204 155 rfl) (act_virt (c2 := 0) rfl (lk1 (kS hs87 23 rfl)) rfl) rfl (K.mono ?_)
      rintro _ h89 ⟨x91, rfl, hs90, K⟩
      refine ⟨x91, rfl, ?_⟩
      refine Wp.blk (by decide) ol_204 156 1 (pc' := (if x88 = x91 then 751 else 347)) (L' := [.ref 0, .ref 2, .ref 23, .int v3]) (S' := []) (h' := h89) rfl ?_
      refine Wp.br (fun c92 => ?_) (fun c92 => ?_)
      · replace K := K.1 c92
        refine Wp.blk (by decide) ol_204 459 2 (pc' := 18) (L' := [.ref 0, .ref 2, .ref 23, .int (v3 + (5 : Int32))]) (S' := []) (h' := h89) rfl ?_
        exact K
      · replace K := K.2 c92
        refine Wp.blk (by decide) ol_204 157 1 (pc' := 348) (L' := [.ref 0, .ref 2, .ref 23, .int v3]) (S' := [.int (0 : Int32)]) (h' := h89) rfl ?_
        exact Wp.ret (op_ix (by decide) ol_204 158 rfl) rfl K
    replace K := K.2 c85
    refine Wp.tsw (fun c93 => ?_) (fun c93 => ?_)
    · replace K := K.1 c93
      refine Wp.blk (by decide) ol_204 159 5 (pc' := 354) (L' := [.ref 0, .ref 2, .ref 23, .int v3]) (S' := [.int (v3 + ((1 : Int32))), .ref 0, .ref 2]) (h' := h) rfl ?_
      obtain ⟨r94, K⟩ := K
      refine Wp.iald (op_ix (by decide) ol_204 164 rfl) k3 r94 rfl ?_
      refine Wp.callI (op_ix (by decide) ol_204 165 rfl) (act_virt (c2 := 1) rfl (lk1 (kS HS 2 rfl)) rfl) rfl (K.mono ?_)
      rintro _ h95 ⟨x97, rfl, hs96, K⟩
      refine ⟨x97, rfl, ?_⟩
      refine Wp.blk (by decide) ol_204 166 5 (pc' := 363) (L' := [.ref 0, .ref 2, .ref 23, .int v3]) (S' := [.int (v3 + ((1 : Int32))), .ref 0, .ref 23, .int x97]) (h' := h95) rfl ?_
      obtain ⟨k98, K⟩ := K
      obtain ⟨r99, K⟩ := K
      refine Wp.iald (op_ix (by decide) ol_204 171 rfl) k98 r99 rfl ?_
      refine Wp.callI (op_ix (by decide) ol_204 172 rfl) (act_virt (c2 := 1) rfl (lk1 (kS hs96 23 rfl)) rfl) rfl (K.mono ?_)
      rintro _ h100 ⟨x102, rfl, hs101, K⟩
      refine ⟨x102, rfl, ?_⟩
      refine Wp.blk (by decide) ol_204 173 1 (pc' := (if x97 = x102 then 751 else 370)) (L' := [.ref 0, .ref 2, .ref 23, .int v3]) (S' := []) (h' := h100) rfl ?_
      refine Wp.br (fun c103 => ?_) (fun c103 => ?_)
      · replace K := K.1 c103
        refine Wp.blk (by decide) ol_204 459 2 (pc' := 18) (L' := [.ref 0, .ref 2, .ref 23, .int (v3 + (5 : Int32))]) (S' := []) (h' := h100) rfl ?_
        exact K
      · replace K := K.2 c103
        refine Wp.blk (by decide) ol_204 174 1 (pc' := 371) (L' := [.ref 0, .ref 2, .ref 23, .int v3]) (S' := [.int (0 : Int32)]) (h' := h100) rfl ?_
        exact Wp.ret (op_ix (by decide) ol_204 175 rfl) rfl K
    replace K := K.2 c93
    refine Wp.tsw (fun c104 => ?_) (fun c104 => ?_)
    · replace K := K.1 c104
      refine Wp.blk (by decide) ol_204 176 5 (pc' := 377) (L' := [.ref 0, .ref 2, .ref 23, .int v3]) (S' := [.int (v3 + ((1 : Int32))), .ref 0, .ref 2]) (h' := h) rfl ?_
      obtain ⟨r105, K⟩ := K
      refine Wp.iald (op_ix (by decide) ol_204 181 rfl) k3 r105 rfl ?_
      refine Wp.callI (op_ix (by decide) ol_204 182 rfl) (act_virt (c2 := 1) rfl (lk1 (kS HS 2 rfl)) rfl) rfl (K.mono ?_)
      rintro _ h106 ⟨x108, rfl, hs107, K⟩
      refine ⟨x108, rfl, ?_⟩
      refine Wp.blk (by decide) ol_204 183 5 (pc' := 386) (L' := [.ref 0, .ref 2, .ref 23, .int v3]) (S' := [.int (v3 + ((1 : Int32))), .ref 0, .ref 23, .int x108]) (h' := h106) rfl ?_
      obtain ⟨k109, K⟩ := K
      obtain ⟨r110, K⟩ := K
      refine Wp.iald (op_ix (by decide) ol_204 188 rfl) k109 r110 rfl ?_
      refine Wp.callI (op_ix (by decide) ol_204 189 rfl) (act_virt (c2 := 1) rfl (lk1 (kS hs107 23 rfl)) rfl) rfl (K.mono ?_)
      rintro _ h111 ⟨x113, rfl, hs112, K⟩
      refine ⟨x113, rfl, ?_⟩
      refine Wp.blk (by decide) ol_204 190 1 (pc' := (if x108 = x113 then 751 else 393)) (L' := [.ref 0, .ref 2, .ref 23, .int v3]) (S' := []) (h' := h111) rfl ?_
      refine Wp.br (fun c114 => ?_) (fun c114 => ?_)
      · replace K := K.1 c114
        refine Wp.blk (by decide) ol_204 459 2 (pc' := 18) (L' := [.ref 0, .ref 2, .ref 23, .int (v3 + (5 : Int32))]) (S' := []) (h' := h111) rfl ?_
        exact K
      · replace K := K.2 c114
        refine Wp.blk (by decide) ol_204 191 1 (pc' := 394) (L' := [.ref 0, .ref 2, .ref 23, .int v3]) (S' := [.int (0 : Int32)]) (h' := h111) rfl ?_
        exact Wp.ret (op_ix (by decide) ol_204 192 rfl) rfl K
    replace K := K.2 c104
    refine Wp.tsw (fun c115 => ?_) (fun c115 => ?_)
    · replace K := K.1 c115
      refine Wp.blk (by decide) ol_204 193 5 (pc' := 400) (L' := [.ref 0, .ref 2, .ref 23, .int v3]) (S' := [.int (v3 + ((1 : Int32))), .ref 0, .ref 2]) (h' := h) rfl ?_
      obtain ⟨r116, K⟩ := K
      refine Wp.iald (op_ix (by decide) ol_204 198 rfl) k3 r116 rfl ?_
      refine Wp.callI (op_ix (by decide) ol_204 199 rfl) (act_virt (c2 := 1) rfl (lk1 (kS HS 2 rfl)) rfl) rfl (K.mono ?_)
      rintro _ h117 ⟨x119, rfl, hs118, K⟩
      refine ⟨x119, rfl, ?_⟩
      refine Wp.blk (by decide) ol_204 200 5 (pc' := 409) (L' := [.ref 0, .ref 2, .ref 23, .int v3]) (S' := [.int (v3 + ((1 : Int32))), .ref 0, .ref 23, .int x119]) (h' := h117) rfl ?_
      obtain ⟨k120, K⟩ := K
      obtain ⟨r121, K⟩ := K
      refine Wp.iald (op_ix (by decide) ol_204 205 rfl) k120 r121 rfl ?_
      refine Wp.callI (op_ix (by decide) ol_204 206 rfl) (act_virt (c2 := 1) rfl (lk1 (kS hs118 23 rfl)) rfl) rfl (K.mono ?_)
      rintro _ h122 ⟨x124, rfl, hs123, K⟩
      refine ⟨x124, rfl, ?_⟩
      refine Wp.blk (by decide) ol_204 207 1 (pc' := (if x119 = x124 then 751 else 416)) (L' := [.ref 0, .ref 2, .ref 23, .int v3]) (S' := []) (h' := h122) rfl ?_
      refine Wp.br (fun c125 => ?_) (fun c125 => ?_)
      · replace K := K.1 c125
        refine Wp.blk (by decide) ol_204 459 2 (pc' := 18) (L' := [.ref 0, .ref 2, .ref 23, .int (v3 + (5 : Int32))]) (S' := []) (h' := h122) rfl ?_
        exact K
      · replace K := K.2 c125
        refine Wp.blk (by decide) ol_204 208 1 (pc' := 417) (L' := [.ref 0, .ref 2, .ref 23, .int v3]) (S' := [.int (0 : Int32)]) (h' := h122) rfl ?_
        exact Wp.ret (op_ix (by decide) ol_204 209 rfl) rfl K
    replace K := K.2 c115
    refine Wp.tsw (fun c126 => ?_) (fun c126 => ?_)
    · replace K := K.1 c126
      refine Wp.blk (by decide) ol_204 210 1 (pc' := 419) (L' := [.ref 0, .ref 2, .ref 23, .int v3]) (S' := [.ref 2]) (h' := h) rfl ?_
      refine Wp.callI (op_ix (by decide) ol_204 211 rfl) (act_virt (c2 := 0) rfl (lk1 (kS HS 2 rfl)) rfl) rfl (K.mono ?_)
      rintro _ h127 ⟨x129, rfl, hs128, K⟩
      refine ⟨x129, rfl, ?_⟩
      refine Wp.blk (by decide) ol_204 212 1 (pc' := 423) (L' := [.ref 0, .ref 2, .ref 23, .int v3]) (S' := [.ref 23, .int x129]) (h' := h127) rfl ?_
      refine Wp.callI (op_ix (by decide) ol_204 213 rfl) (act_virt (c2 := 0) rfl (lk1 (kS hs128 23 rfl)) rfl) rfl (K.mono ?_)
      rintro _ h130 ⟨x132, rfl, hs131, K⟩
      refine ⟨x132, rfl, ?_⟩
      refine Wp.blk (by decide) ol_204 214 1 (pc' := (if x129 = x132 then 751 else 429)) (L' := [.ref 0, .ref 2, .ref 23, .int v3]) (S' := []) (h' := h130) rfl ?_
      refine Wp.br (fun c133 => ?_) (fun c133 => ?_)
      · replace K := K.1 c133
        refine Wp.blk (by decide) ol_204 459 2 (pc' := 18) (L' := [.ref 0, .ref 2, .ref 23, .int (v3 + (5 : Int32))]) (S' := []) (h' := h130) rfl ?_
        exact K
      · replace K := K.2 c133
        refine Wp.blk (by decide) ol_204 215 1 (pc' := 430) (L' := [.ref 0, .ref 2, .ref 23, .int v3]) (S' := [.int (0 : Int32)]) (h' := h130) rfl ?_
        exact Wp.ret (op_ix (by decide) ol_204 216 rfl) rfl K
    replace K := K.2 c126
    refine Wp.tsw (fun c134 => ?_) (fun c134 => ?_)
    · replace K := K.1 c134
      refine Wp.blk (by decide) ol_204 217 1 (pc' := 432) (L' := [.ref 0, .ref 2, .ref 23, .int v3]) (S' := [.ref 2]) (h' := h) rfl ?_
      refine Wp.callI (op_ix (by decide) ol_204 218 rfl) (act_virt (c2 := 0) rfl (lk1 (kS HS 2 rfl)) rfl) rfl (K.mono ?_)
      rintro _ h135 ⟨x137, rfl, hs136, K⟩
      refine ⟨x137, rfl, ?_⟩
      refine Wp.blk (by decide) ol_204 219 1 (pc' := 436) (L' := [.ref 0, .ref 2, .ref 23, .int v3]) (S' := [.ref 23, .int x137]) (h' := h135) rfl ?_
      refine Wp.callI (op_ix (by decide) ol_204 220 rfl) (act_virt (c2 := 0) rfl (lk1 (kS hs136 23 rfl)) rfl) rfl (K.mono ?_)
      rintro _ h138 ⟨x140, rfl, hs139, K⟩
      refine ⟨x140, rfl, ?_⟩
      refine Wp.blk (by decide) ol_204 221 1 (pc' := (if x137 = x140 then 751 else 442)) (L' := [.ref 0, .ref 2, .ref 23, .int v3]) (S' := []) (h' := h138) rfl ?_
      refine Wp.br (fun c141 => ?_) (fun c141 => ?_)
      · replace K := K.1 c141
        refine Wp.blk (by decide) ol_204 459 2 (pc' := 18) (L' := [.ref 0, .ref 2, .ref 23, .int (v3 + (5 : Int32))]) (S' := []) (h' := h138) rfl ?_
        exact K
      · replace K := K.2 c141
        refine Wp.blk (by decide) ol_204 222 1 (pc' := 443) (L' := [.ref 0, .ref 2, .ref 23, .int v3]) (S' := [.int (0 : Int32)]) (h' := h138) rfl ?_
        exact Wp.ret (op_ix (by decide) ol_204 223 rfl) rfl K
    replace K := K.2 c134
    refine Wp.tsw (fun c142 => ?_) (fun c142 => ?_)
    · replace K := K.1 c142
      refine Wp.blk (by decide) ol_204 224 5 (pc' := 449) (L' := [.ref 0, .ref 2, .ref 23, .int v3]) (S' := [.int (v3 + ((1 : Int32))), .ref 0, .ref 2]) (h' := h) rfl ?_
      obtain ⟨r143, K⟩ := K
      refine Wp.iald (op_ix (by decide) ol_204 229 rfl) k3 r143 rfl ?_
      refine Wp.callI (op_ix (by decide) ol_204 230 rfl) (act_virt (c2 := 1) rfl (lk1 (kS HS 2 rfl)) rfl) rfl (K.mono ?_)
      rintro _ h144 ⟨x146, rfl, hs145, K⟩
      refine ⟨x146, rfl, ?_⟩
      refine Wp.blk (by decide) ol_204 231 5 (pc' := 458) (L' := [.ref 0, .ref 2, .ref 23, .int v3]) (S' := [.int (v3 + ((1 : Int32))), .ref 0, .ref 23, .int x146]) (h' := h144) rfl ?_
      obtain ⟨k147, K⟩ := K
      obtain ⟨r148, K⟩ := K
      refine Wp.iald (op_ix (by decide) ol_204 236 rfl) k147 r148 rfl ?_
      refine Wp.callI (op_ix (by decide) ol_204 237 rfl) (act_virt (c2 := 1) rfl (lk1 (kS hs145 23 rfl)) rfl) rfl (K.mono ?_)
      rintro _ h149 ⟨x151, rfl, hs150, K⟩
      refine ⟨x151, rfl, ?_⟩
      refine Wp.blk (by decide) ol_204 238 1 (pc' := (if x146 = x151 then 751 else 465)) (L' := [.ref 0, .ref 2, .ref 23, .int v3]) (S' := []) (h' := h149) rfl ?_
      refine Wp.br (fun c152 => ?_) (fun c152 => ?_)
      · replace K := K.1 c152
        refine Wp.blk (by decide) ol_204 459 2 (pc' := 18) (L' := [.ref 0, .ref 2, .ref 23, .int (v3 + (5 : Int32))]) (S' := []) (h' := h149) rfl ?_
        exact K
      · replace K := K.2 c152
        refine Wp.blk (by decide) ol_204 239 1 (pc' := 466) (L' := [.ref 0, .ref 2, .ref 23, .int v3]) (S' := [.int (0 : Int32)]) (h' := h149) rfl ?_
        exact Wp.ret (op_ix (by decide) ol_204 240 rfl) rfl K
    replace K := K.2 c142
    refine Wp.tsw (fun c153 => ?_) (fun c153 => ?_)
    · replace K := K.1 c153
      refine Wp.blk (by decide) ol_204 241 5 (pc' := 472) (L' := [.ref 0, .ref 2, .ref 23, .int v3]) (S' := [.int (v3 + ((1 : Int32))), .ref 0, .ref 2]) (h' := h) rfl ?_
      obtain ⟨r154, K⟩ := K
      refine Wp.iald (op_ix (by decide) ol_204 246 rfl) k3 r154 rfl ?_
      refine Wp.callI (op_ix (by decide) ol_204 247 rfl) (act_virt (c2 := 1) rfl (lk1 (kS HS 2 rfl)) rfl) rfl (K.mono ?_)
      rintro _ h155 ⟨x157, rfl, hs156, K⟩
      refine ⟨x157, rfl, ?_⟩
      refine Wp.blk (by decide) ol_204 248 5 (pc' := 481) (L' := [.ref 0, .ref 2, .ref 23, .int v3]) (S' := [.int (v3 + ((1 : Int32))), .ref 0, .ref 23, .int x157]) (h' := h155) rfl ?_
      obtain ⟨k158, K⟩ := K
      obtain ⟨r159, K⟩ := K
      refine Wp.iald (op_ix (by decide) ol_204 253 rfl) k158 r159 rfl ?_
      refine Wp.callI (op_ix (by decide) ol_204 254 rfl) (act_virt (c2 := 1) rfl (lk1 (kS hs156 23 rfl)) rfl) rfl (K.mono ?_)
      rintro _ h160 ⟨x162, rfl, hs161, K⟩
      refine ⟨x162, rfl, ?_⟩
      refine Wp.blk (by decide) ol_204 255 1 (pc' := (if x157 = x162 then 751 else 488)) (L' := [.ref 0, .ref 2, .ref 23, .int v3]) (S' := []) (h' := h160) rfl ?_
      refine Wp.br (fun c163 => ?_) (fun c163 => ?_)
      · replace K := K.1 c163
        refine Wp.blk (by decide) ol_204 459 2 (pc' := 18) (L' := [.ref 0, .ref 2, .ref 23, .int (v3 + (5 : Int32))]) (S' := []) (h' := h160) rfl ?_
        exact K
      · replace K := K.2 c163
        refine Wp.blk (by decide) ol_204 256 1 (pc' := 489) (L' := [.ref 0, .ref 2, .ref 23, .int v3]) (S' := [.int (0 : Int32)]) (h' := h160) rfl ?_
        exact Wp.ret (op_ix (by decide) ol_204 257 rfl) rfl K
    replace K := K.2 c153
    refine Wp.tsw (fun c164 => ?_) (fun c164 => ?_)
    · replace K := K.1 c164
      refine Wp.blk (by decide) ol_204 258 5 (pc' := 495) (L' := [.ref 0, .ref 2, .ref 23, .int v3]) (S' := [.int (v3 + ((1 : Int32))), .ref 0, .ref 2]) (h' := h) rfl ?_
      obtain ⟨r165, K⟩ := K
      refine Wp.iald (op_ix (by decide) ol_204 263 rfl) k3 r165 rfl ?_
      refine Wp.callI (op_ix (by decide) ol_204 264 rfl) (act_virt (c2 := 1) rfl (lk1 (kS HS 2 rfl)) rfl) rfl (K.mono ?_)
      rintro _ h166 ⟨x168, rfl, hs167, K⟩
      refine ⟨x168, rfl, ?_⟩
      refine Wp.blk (by decide) ol_204 265 5 (pc' := 504) (L' := [.ref 0, .ref 2, .ref 23, .int v3]) (S' := [.int (v3 + ((1 : Int32))), .ref 0, .ref 23, .int x168]) (h' := h166) rfl ?_
      obtain ⟨k169, K⟩ := K
      obtain ⟨r170, K⟩ := K
      refine Wp.iald (op_ix (by decide) ol_204 270 rfl) k169 r170 rfl ?_
      refine Wp.callI (op_ix (by decide) ol_204 271 rfl) (act_virt (c2 := 1) rfl (lk1 (kS hs167 23 rfl)) rfl) rfl (K.mono ?_)
      rintro _ h171 ⟨x173, rfl, hs172, K⟩
      refine ⟨x173, rfl, ?_⟩
      refine Wp.blk (by decide) ol_204 272 1 (pc' := (if x168 = x173 then 751 else 511)) (L' := [.ref 0, .ref 2, .ref 23, .int v3]) (S' := []) (h' := h171) rfl ?_
      refine Wp.br (fun c174 => ?_) (fun c174 => ?_)
      · replace K := K.1 c174
        refine Wp.blk (by decide) ol_204 459 2 (pc' := 18) (L' := [.ref 0, .ref 2, .ref 23, .int (v3 + (5 : Int32))]) (S' := []) (h' := h171) rfl ?_
        exact K
      · replace K := K.2 c174
        refine Wp.blk (by decide) ol_204 273 1 (pc' := 512) (L' := [.ref 0, .ref 2, .ref 23, .int v3]) (S' := [.int (0 : Int32)]) (h' := h171) rfl ?_
        exact Wp.ret (op_ix (by decide) ol_204 274 rfl) rfl K
    replace K := K.2 c164
    refine Wp.tsw (fun c175 => ?_) (fun c175 => ?_)
    · replace K := K.1 c175
      refine Wp.blk (by decide) ol_204 275 5 (pc' := 518) (L' := [.ref 0, .ref 2, .ref 23, .int v3]) (S' := [.int (v3 + ((1 : Int32))), .ref 0, .ref 2]) (h' := h) rfl ?_
      obtain ⟨r176, K⟩ := K
      refine Wp.iald (op_ix (by decide) ol_204 280 rfl) k3 r176 rfl ?_
      refine Wp.blk (by decide) ol_204 281 4 (pc' := 523) (L' := [.ref 0, .ref 2, .ref 23, .int v3]) (S' := [.int (v3 + ((2 : Int32))), .ref 0, .int (AI h 0 ((v3 + ((1 : Int32)))).toNatClampNeg), .ref 2]) (h' := h) rfl ?_
      obtain ⟨r177, K⟩ := K
      refine Wp.iald (op_ix (by decide) ol_204 285 rfl) k3 r177 rfl ?_
      refine Wp.callI (op_ix (by decide) ol_204 286 rfl) (act_virt (c2 := 2) rfl (lk1 (kS HS 2 rfl)) rfl) rfl (K.mono ?_)
      rintro _ h178 ⟨x180, rfl, hs179, K⟩
      refine ⟨x180, rfl, ?_⟩
      refine Wp.blk (by decide) ol_204 287 5 (pc' := 532) (L' := [.ref 0, .ref 2, .ref 23, .int v3]) (S' := [.int (v3 + ((1 : Int32))), .ref 0, .ref 23, .int x180]) (h' := h178) rfl ?_
      obtain ⟨k181, K⟩ := K
      obtain ⟨r182, K⟩ := K
      refine Wp.iald (op_ix (by decide) ol_204 292 rfl) k181 r182 rfl ?_
      refine Wp.blk (by decide) ol_204 293 4 (pc' := 537) (L' := [.ref 0, .ref 2, .ref 23, .int v3]) (S' := [.int (v3 + ((2 : Int32))), .ref 0, .int (AI h178 0 ((v3 + ((1 : Int32)))).toNatClampNeg), .ref 23, .int x180]) (h' := h178) rfl ?_
      obtain ⟨r183, K⟩ := K
      refine Wp.iald (op_ix (by decide) ol_204 297 rfl) k181 r183 rfl ?_
      refine Wp.callI (op_ix (by decide) ol_204 298 rfl) (act_virt (c2 := 2) rfl (lk1 (kS hs179 23 rfl)) rfl) rfl (K.mono ?_)
      rintro _ h184 ⟨x186, rfl, hs185, K⟩
      refine ⟨x186, rfl, ?_⟩
      refine Wp.blk (by decide) ol_204 299 1 (pc' := (if x180 = x186 then 751 else 544)) (L' := [.ref 0, .ref 2, .ref 23, .int v3]) (S' := []) (h' := h184) rfl ?_
      refine Wp.br (fun c187 => ?_) (fun c187 => ?_)
      · replace K := K.1 c187
        refine Wp.blk (by decide) ol_204 459 2 (pc' := 18) (L' := [.ref 0, .ref 2, .ref 23, .int (v3 + (5 : Int32))]) (S' := []) (h' := h184) rfl ?_
        exact K
      · replace K := K.2 c187
        refine Wp.blk (by decide) ol_204 300 1 (pc' := 545) (L' := [.ref 0, .ref 2, .ref 23, .int v3]) (S' := [.int (0 : Int32)]) (h' := h184) rfl ?_
        exact Wp.ret (op_ix (by decide) ol_204 301 rfl) rfl K
    replace K := K.2 c175
    refine Wp.tsw (fun c188 => ?_) (fun c188 => ?_)
    · replace K := K.1 c188
      refine Wp.blk (by decide) ol_204 302 5 (pc' := 551) (L' := [.ref 0, .ref 2, .ref 23, .int v3]) (S' := [.int (v3 + ((1 : Int32))), .ref 0, .ref 2]) (h' := h) rfl ?_
      obtain ⟨r189, K⟩ := K
      refine Wp.iald (op_ix (by decide) ol_204 307 rfl) k3 r189 rfl ?_
      refine Wp.callI (op_ix (by decide) ol_204 308 rfl) (act_virt (c2 := 1) rfl (lk1 (kS HS 2 rfl)) rfl) rfl (K.mono ?_)
      rintro _ h190 ⟨x192, rfl, hs191, K⟩
      refine ⟨x192, rfl, ?_⟩
      refine Wp.blk (by decide) ol_204 309 5 (pc' := 560) (L' := [.ref 0, .ref 2, .ref 23, .int v3]) (S' := [.int (v3 + ((1 : Int32))), .ref 0, .ref 23, .int x192]) (h' := h190) rfl ?_
      obtain ⟨k193, K⟩ := K
      obtain ⟨r194, K⟩ := K
      refine Wp.iald (op_ix (by decide) ol_204 314 rfl) k193 r194 rfl ?_
      refine Wp.callI (op_ix (by decide) ol_204 315 rfl) (act_virt (c2 := 1) rfl (lk1 (kS hs191 23 rfl)) rfl) rfl (K.mono ?_)
      rintro _ h195 ⟨x197, rfl, hs196, K⟩
      refine ⟨x197, rfl, ?_⟩
      refine Wp.blk (by decide) ol_204 316 1 (pc' := (if x192 = x197 then 751 else 567)) (L' := [.ref 0, .ref 2, .ref 23, .int v3]) (S' := []) (h' := h195) rfl ?_
      refine Wp.br (fun c198 => ?_) (fun c198 => ?_)
      · replace K := K.1 c198
        refine Wp.blk (by decide) ol_204 459 2 (pc' := 18) (L' := [.ref 0, .ref 2, .ref 23, .int (v3 + (5 : Int32))]) (S' := []) (h' := h195) rfl ?_
        exact K
      · replace K := K.2 c198
        refine Wp.blk (by decide) ol_204 317 1 (pc' := 568) (L' := [.ref 0, .ref 2, .ref 23, .int v3]) (S' := [.int (0 : Int32)]) (h' := h195) rfl ?_
        exact Wp.ret (op_ix (by decide) ol_204 318 rfl) rfl K
    replace K := K.2 c188
    refine Wp.tsw (fun c199 => ?_) (fun c199 => ?_)
    · replace K := K.1 c199
      refine Wp.blk (by decide) ol_204 319 5 (pc' := 574) (L' := [.ref 0, .ref 2, .ref 23, .int v3]) (S' := [.int (v3 + ((1 : Int32))), .ref 0, .ref 2]) (h' := h) rfl ?_
      obtain ⟨r200, K⟩ := K
      refine Wp.iald (op_ix (by decide) ol_204 324 rfl) k3 r200 rfl ?_
      refine Wp.blk (by decide) ol_204 325 4 (pc' := 579) (L' := [.ref 0, .ref 2, .ref 23, .int v3]) (S' := [.int (v3 + ((2 : Int32))), .ref 0, .int (AI h 0 ((v3 + ((1 : Int32)))).toNatClampNeg), .ref 2]) (h' := h) rfl ?_
      obtain ⟨r201, K⟩ := K
      refine Wp.iald (op_ix (by decide) ol_204 329 rfl) k3 r201 rfl ?_
      refine Wp.callI (op_ix (by decide) ol_204 330 rfl) (act_virt (c2 := 2) rfl (lk1 (kS HS 2 rfl)) rfl) rfl (K.mono ?_)
      rintro _ h202 ⟨x204, rfl, hs203, K⟩
      refine ⟨x204, rfl, ?_⟩
      refine Wp.blk (by decide) ol_204 331 5 (pc' := 588) (L' := [.ref 0, .ref 2, .ref 23, .int v3]) (S' := [.int (v3 + ((1 : Int32))), .ref 0, .ref 23, .int x204]) (h' := h202) rfl ?_
      obtain ⟨k205, K⟩ := K
      obtain ⟨r206, K⟩ := K
      refine Wp.iald (op_ix (by decide) ol_204 336 rfl) k205 r206 rfl ?_
      refine Wp.blk (by decide) ol_204 337 4 (pc' := 593) (L' := [.ref 0, .ref 2, .ref 23, .int v3]) (S' := [.int (v3 + ((2 : Int32))), .ref 0, .int (AI h202 0 ((v3 + ((1 : Int32)))).toNatClampNeg), .ref 23, .int x204]) (h' := h202) rfl ?_
      obtain ⟨r207, K⟩ := K
      refine Wp.iald (op_ix (by decide) ol_204 341 rfl) k205 r207 rfl ?_
      refine Wp.callI (op_ix (by decide) ol_204 342 rfl) (act_virt (c2 := 2) rfl (lk1 (kS hs203 23 rfl)) rfl) rfl (K.mono ?_)
      rintro _ h208 ⟨x210, rfl, hs209, K⟩
      refine ⟨x210, rfl, ?_⟩
      refine Wp.blk (by decide) ol_204 343 1 (pc' := (if x204 = x210 then 751 else 600)) (L' := [.ref 0, .ref 2, .ref 23, .int v3]) (S' := []) (h' := h208) rfl ?_
      refine Wp.br (fun c211 => ?_) (fun c211 => ?_)
      · replace K := K.1 c211
        refine Wp.blk (by decide) ol_204 459 2 (pc' := 18) (L' := [.ref 0, .ref 2, .ref 23, .int (v3 + (5 : Int32))]) (S' := []) (h' := h208) rfl ?_
        exact K
      · replace K := K.2 c211
        refine Wp.blk (by decide) ol_204 344 1 (pc' := 601) (L' := [.ref 0, .ref 2, .ref 23, .int v3]) (S' := [.int (0 : Int32)]) (h' := h208) rfl ?_
        exact Wp.ret (op_ix (by decide) ol_204 345 rfl) rfl K
    replace K := K.2 c199
    refine Wp.tsw (fun c212 => ?_) (fun c212 => ?_)
    · replace K := K.1 c212
      refine Wp.blk (by decide) ol_204 346 5 (pc' := 607) (L' := [.ref 0, .ref 2, .ref 23, .int v3]) (S' := [.int (v3 + ((1 : Int32))), .ref 0, .ref 2]) (h' := h) rfl ?_
      obtain ⟨r213, K⟩ := K
      refine Wp.iald (op_ix (by decide) ol_204 351 rfl) k3 r213 rfl ?_
      refine Wp.blk (by decide) ol_204 352 4 (pc' := 612) (L' := [.ref 0, .ref 2, .ref 23, .int v3]) (S' := [.int (v3 + ((2 : Int32))), .ref 0, .int (AI h 0 ((v3 + ((1 : Int32)))).toNatClampNeg), .ref 2]) (h' := h) rfl ?_
      obtain ⟨r214, K⟩ := K
      refine Wp.iald (op_ix (by decide) ol_204 356 rfl) k3 r214 rfl ?_
      refine Wp.callI (op_ix (by decide) ol_204 357 rfl) (act_virt (c2 := 2) rfl (lk1 (kS HS 2 rfl)) rfl) rfl (K.mono ?_)
      rintro _ h215 ⟨x217, rfl, hs216, K⟩
      refine ⟨x217, rfl, ?_⟩
      refine Wp.blk (by decide) ol_204 358 5 (pc' := 621) (L' := [.ref 0, .ref 2, .ref 23, .int v3]) (S' := [.int (v3 + ((1 : Int32))), .ref 0, .ref 23, .int x217]) (h' := h215) rfl ?_
      obtain ⟨k218, K⟩ := K
      obtain ⟨r219, K⟩ := K
      refine Wp.iald (op_ix (by decide) ol_204 363 rfl) k218 r219 rfl ?_
      refine Wp.blk (by decide) ol_204 364 4 (pc' := 626) (L' := [.ref 0, .ref 2, .ref 23, .int v3]) (S' := [.int (v3 + ((2 : Int32))), .ref 0, .int (AI h215 0 ((v3 + ((1 : Int32)))).toNatClampNeg), .ref 23, .int x217]) (h' := h215) rfl ?_
      obtain ⟨r220, K⟩ := K
      refine Wp.iald (op_ix (by decide) ol_204 368 rfl) k218 r220 rfl ?_
      refine Wp.callI (op_ix (by decide) ol_204 369 rfl) (act_virt (c2 := 2) rfl (lk1 (kS hs216 23 rfl)) rfl) rfl (K.mono ?_)
      rintro _ h221 ⟨x223, rfl, hs222, K⟩
      refine ⟨x223, rfl, ?_⟩
      refine Wp.blk (by decide) ol_204 370 1 (pc' := (if x217 = x223 then 751 else 633)) (L' := [.ref 0, .ref 2, .ref 23, .int v3]) (S' := []) (h' := h221) rfl ?_
      refine Wp.br (fun c224 => ?_) (fun c224 => ?_)
      · replace K := K.1 c224
        refine Wp.blk (by decide) ol_204 459 2 (pc' := 18) (L' := [.ref 0, .ref 2, .ref 23, .int (v3 + (5 : Int32))]) (S' := []) (h' := h221) rfl ?_
        exact K
      · replace K := K.2 c224
        refine Wp.blk (by decide) ol_204 371 1 (pc' := 634) (L' := [.ref 0, .ref 2, .ref 23, .int v3]) (S' := [.int (0 : Int32)]) (h' := h221) rfl ?_
        exact Wp.ret (op_ix (by decide) ol_204 372 rfl) rfl K
    replace K := K.2 c212
    refine Wp.tsw (fun c225 => ?_) (fun c225 => ?_)
    · replace K := K.1 c225
      refine Wp.blk (by decide) ol_204 373 5 (pc' := 640) (L' := [.ref 0, .ref 2, .ref 23, .int v3]) (S' := [.int (v3 + ((1 : Int32))), .ref 0, .ref 2]) (h' := h) rfl ?_
      obtain ⟨r226, K⟩ := K
      refine Wp.iald (op_ix (by decide) ol_204 378 rfl) k3 r226 rfl ?_
      refine Wp.blk (by decide) ol_204 379 4 (pc' := 645) (L' := [.ref 0, .ref 2, .ref 23, .int v3]) (S' := [.int (v3 + ((2 : Int32))), .ref 0, .int (AI h 0 ((v3 + ((1 : Int32)))).toNatClampNeg), .ref 2]) (h' := h) rfl ?_
      obtain ⟨r227, K⟩ := K
      refine Wp.iald (op_ix (by decide) ol_204 383 rfl) k3 r227 rfl ?_
      refine Wp.blk (by decide) ol_204 384 4 (pc' := 650) (L' := [.ref 0, .ref 2, .ref 23, .int v3]) (S' := [.int (v3 + ((3 : Int32))), .ref 0, .int (AI h 0 ((v3 + ((2 : Int32)))).toNatClampNeg), .int (AI h 0 ((v3 + ((1 : Int32)))).toNatClampNeg), .ref 2]) (h' := h) rfl ?_
      obtain ⟨r228, K⟩ := K
      refine Wp.iald (op_ix (by decide) ol_204 388 rfl) k3 r228 rfl ?_
      refine Wp.blk (by decide) ol_204 389 4 (pc' := 655) (L' := [.ref 0, .ref 2, .ref 23, .int v3]) (S' := [.int (v3 + ((4 : Int32))), .ref 0, .int (AI h 0 ((v3 + ((3 : Int32)))).toNatClampNeg), .int (AI h 0 ((v3 + ((2 : Int32)))).toNatClampNeg), .int (AI h 0 ((v3 + ((1 : Int32)))).toNatClampNeg), .ref 2]) (h' := h) rfl ?_
      obtain ⟨r229, K⟩ := K
      refine Wp.iald (op_ix (by decide) ol_204 393 rfl) k3 r229 rfl ?_
      refine Wp.callI (op_ix (by decide) ol_204 394 rfl) (act_virt (c2 := 4) rfl (lk1 (kS HS 2 rfl)) rfl) rfl (K.mono ?_)
      rintro _ h230 ⟨x232, rfl, hs231, K⟩
      refine ⟨x232, rfl, ?_⟩
      refine Wp.blk (by decide) ol_204 395 5 (pc' := 664) (L' := [.ref 0, .ref 2, .ref 23, .int v3]) (S' := [.int (v3 + ((1 : Int32))), .ref 0, .ref 23, .int x232]) (h' := h230) rfl ?_
      obtain ⟨k233, K⟩ := K
      obtain ⟨r234, K⟩ := K
      refine Wp.iald (op_ix (by decide) ol_204 400 rfl) k233 r234 rfl ?_
      refine Wp.blk (by decide) ol_204 401 4 (pc' := 669) (L' := [.ref 0, .ref 2, .ref 23, .int v3]) (S' := [.int (v3 + ((2 : Int32))), .ref 0, .int (AI h230 0 ((v3 + ((1 : Int32)))).toNatClampNeg), .ref 23, .int x232]) (h' := h230) rfl ?_
      obtain ⟨r235, K⟩ := K
      refine Wp.iald (op_ix (by decide) ol_204 405 rfl) k233 r235 rfl ?_
      refine Wp.blk (by decide) ol_204 406 4 (pc' := 674) (L' := [.ref 0, .ref 2, .ref 23, .int v3]) (S' := [.int (v3 + ((3 : Int32))), .ref 0, .int (AI h230 0 ((v3 + ((2 : Int32)))).toNatClampNeg), .int (AI h230 0 ((v3 + ((1 : Int32)))).toNatClampNeg), .ref 23, .int x232]) (h' := h230) rfl ?_
      obtain ⟨r236, K⟩ := K
      refine Wp.iald (op_ix (by decide) ol_204 410 rfl) k233 r236 rfl ?_
      refine Wp.blk (by decide) ol_204 411 4 (pc' := 679) (L' := [.ref 0, .ref 2, .ref 23, .int v3]) (S' := [.int (v3 + ((4 : Int32))), .ref 0, .int (AI h230 0 ((v3 + ((3 : Int32)))).toNatClampNeg), .int (AI h230 0 ((v3 + ((2 : Int32)))).toNatClampNeg), .int (AI h230 0 ((v3 + ((1 : Int32)))).toNatClampNeg), .ref 23, .int x232]) (h' := h230) rfl ?_
      obtain ⟨r237, K⟩ := K
      refine Wp.iald (op_ix (by decide) ol_204 415 rfl) k233 r237 rfl ?_
      refine Wp.callI (op_ix (by decide) ol_204 416 rfl) (act_virt (c2 := 4) rfl (lk1 (kS hs231 23 rfl)) rfl) rfl (K.mono ?_)
      rintro _ h238 ⟨x240, rfl, hs239, K⟩
      refine ⟨x240, rfl, ?_⟩
      refine Wp.blk (by decide) ol_204 417 1 (pc' := (if x232 = x240 then 751 else 686)) (L' := [.ref 0, .ref 2, .ref 23, .int v3]) (S' := []) (h' := h238) rfl ?_
      refine Wp.br (fun c241 => ?_) (fun c241 => ?_)
      · replace K := K.1 c241
        refine Wp.blk (by decide) ol_204 459 2 (pc' := 18) (L' := [.ref 0, .ref 2, .ref 23, .int (v3 + (5 : Int32))]) (S' := []) (h' := h238) rfl ?_
        exact K
      · replace K := K.2 c241
        refine Wp.blk (by decide) ol_204 418 1 (pc' := 687) (L' := [.ref 0, .ref 2, .ref 23, .int v3]) (S' := [.int (0 : Int32)]) (h' := h238) rfl ?_
        exact Wp.ret (op_ix (by decide) ol_204 419 rfl) rfl K
    replace K := K.2 c225
    refine Wp.tsw (fun c242 => ?_) (fun c242 => ?_)
    · replace K := K.1 c242
      refine Wp.blk (by decide) ol_204 420 1 (pc' := 689) (L' := [.ref 0, .ref 2, .ref 23, .int v3]) (S' := [.ref 2]) (h' := h) rfl ?_
      refine Wp.callI (op_ix (by decide) ol_204 421 rfl) (act_virt (c2 := 0) rfl (lk1 (kS HS 2 rfl)) rfl) rfl (K.mono ?_)
      rintro _ h243 ⟨x245, rfl, hs244, K⟩
      refine ⟨x245, rfl, ?_⟩
      refine Wp.blk (by decide) ol_204 422 1 (pc' := 693) (L' := [.ref 0, .ref 2, .ref 23, .int v3]) (S' := [.ref 23, .int x245]) (h' := h243) rfl ?_
      refine Wp.callI (op_ix (by decide) ol_204 423 rfl) (act_virt (c2 := 0) rfl (lk1 (kS hs244 23 rfl)) rfl) rfl (K.mono ?_)
      rintro _ h246 ⟨x248, rfl, hs247, K⟩
      refine ⟨x248, rfl, ?_⟩
      refine Wp.blk (by decide) ol_204 424 1 (pc' := (if x245 = x248 then 751 else 699)) (L' := [.ref 0, .ref 2, .ref 23, .int v3]) (S' := []) (h' := h246) rfl ?_
      refine Wp.br (fun c249 => ?_) (fun c249 => ?_)
      · replace K := K.1 c249
        refine Wp.blk (by decide) ol_204 459 2 (pc' := 18) (L' := [.ref 0, .ref 2, .ref 23, .int (v3 + (5 : Int32))]) (S' := []) (h' := h246) rfl ?_
        exact K
      · replace K := K.2 c249
        refine Wp.blk (by decide) ol_204 425 1 (pc' := 700) (L' := [.ref 0, .ref 2, .ref 23, .int v3]) (S' := [.int (0 : Int32)]) (h' := h246) rfl ?_
        exact Wp.ret (op_ix (by decide) ol_204 426 rfl) rfl K
    replace K := K.2 c242
    refine Wp.tsw (fun c250 => ?_) (fun c250 => ?_)
    · replace K := K.1 c250
      refine Wp.blk (by decide) ol_204 427 1 (pc' := 702) (L' := [.ref 0, .ref 2, .ref 23, .int v3]) (S' := [.ref 2]) (h' := h) rfl ?_
      refine Wp.callI (op_ix (by decide) ol_204 428 rfl) (act_virt (c2 := 0) rfl (lk1 (kS HS 2 rfl)) rfl) rfl (K.mono ?_)
      rintro _ h251 ⟨x253, rfl, hs252, K⟩
      refine ⟨x253, rfl, ?_⟩
      refine Wp.blk (by decide) ol_204 429 1 (pc' := 706) (L' := [.ref 0, .ref 2, .ref 23, .int v3]) (S' := [.ref 23, .int x253]) (h' := h251) rfl ?_
      refine Wp.callI (op_ix (by decide) ol_204 430 rfl) (act_virt (c2 := 0) rfl (lk1 (kS hs252 23 rfl)) rfl) rfl (K.mono ?_)
      rintro _ h254 ⟨x256, rfl, hs255, K⟩
      refine ⟨x256, rfl, ?_⟩
      refine Wp.blk (by decide) ol_204 431 1 (pc' := (if x253 = x256 then 751 else 712)) (L' := [.ref 0, .ref 2, .ref 23, .int v3]) (S' := []) (h' := h254) rfl ?_
      refine Wp.br (fun c257 => ?_) (fun c257 => ?_)
      · replace K := K.1 c257
        refine Wp.blk (by decide) ol_204 459 2 (pc' := 18) (L' := [.ref 0, .ref 2, .ref 23, .int (v3 + (5 : Int32))]) (S' := []) (h' := h254) rfl ?_
        exact K
      · replace K := K.2 c257
        refine Wp.blk (by decide) ol_204 432 1 (pc' := 713) (L' := [.ref 0, .ref 2, .ref 23, .int v3]) (S' := [.int (0 : Int32)]) (h' := h254) rfl ?_
        exact Wp.ret (op_ix (by decide) ol_204 433 rfl) rfl K
    replace K := K.2 c250
    refine Wp.tsw (fun c258 => ?_) (fun c258 => ?_)
    · replace K := K.1 c258
      refine Wp.blk (by decide) ol_204 434 5 (pc' := 719) (L' := [.ref 0, .ref 2, .ref 23, .int v3]) (S' := [.int (v3 + ((1 : Int32))), .ref 0, .ref 2]) (h' := h) rfl ?_
      obtain ⟨r259, K⟩ := K
      refine Wp.iald (op_ix (by decide) ol_204 439 rfl) k3 r259 rfl ?_
      refine Wp.callI (op_ix (by decide) ol_204 440 rfl) (act_virt (c2 := 1) rfl (lk1 (kS HS 2 rfl)) rfl) rfl (K.mono ?_)
      rintro _ h260 ⟨x262, rfl, hs261, K⟩
      refine ⟨x262, rfl, ?_⟩
      refine Wp.blk (by decide) ol_204 441 5 (pc' := 728) (L' := [.ref 0, .ref 2, .ref 23, .int v3]) (S' := [.int (v3 + ((1 : Int32))), .ref 0, .ref 23, .int x262]) (h' := h260) rfl ?_
      obtain ⟨k263, K⟩ := K
      obtain ⟨r264, K⟩ := K
      refine Wp.iald (op_ix (by decide) ol_204 446 rfl) k263 r264 rfl ?_
      refine Wp.callI (op_ix (by decide) ol_204 447 rfl) (act_virt (c2 := 1) rfl (lk1 (kS hs261 23 rfl)) rfl) rfl (K.mono ?_)
      rintro _ h265 ⟨x267, rfl, hs266, K⟩
      refine ⟨x267, rfl, ?_⟩
      refine Wp.blk (by decide) ol_204 448 1 (pc' := (if x262 = x267 then 751 else 735)) (L' := [.ref 0, .ref 2, .ref 23, .int v3]) (S' := []) (h' := h265) rfl ?_
      refine Wp.br (fun c268 => ?_) (fun c268 => ?_)
      · replace K := K.1 c268
        refine Wp.blk (by decide) ol_204 459 2 (pc' := 18) (L' := [.ref 0, .ref 2, .ref 23, .int (v3 + (5 : Int32))]) (S' := []) (h' := h265) rfl ?_
        exact K
      · replace K := K.2 c268
        refine Wp.blk (by decide) ol_204 449 1 (pc' := 736) (L' := [.ref 0, .ref 2, .ref 23, .int v3]) (S' := [.int (0 : Int32)]) (h' := h265) rfl ?_
        exact Wp.ret (op_ix (by decide) ol_204 450 rfl) rfl K
    replace K := K.2 c258
    refine Wp.tsw (fun c269 => ?_) (fun c269 => ?_)
    · replace K := K.1 c269
      refine Wp.blk (by decide) ol_204 451 1 (pc' := 738) (L' := [.ref 0, .ref 2, .ref 23, .int v3]) (S' := [.ref 2]) (h' := h) rfl ?_
      refine Wp.callL (op_ix (by decide) ol_204 452 rfl) (act_virt (c2 := 0) rfl (lk1 (kS HS 2 rfl)) rfl) rfl (K.mono ?_)
      rintro _ h270 ⟨x272, rfl, hs271, K⟩
      refine ⟨x272, rfl, ?_⟩
      refine Wp.blk (by decide) ol_204 453 1 (pc' := 742) (L' := [.ref 0, .ref 2, .ref 23, .int v3]) (S' := [.ref 23, .long x272]) (h' := h270) rfl ?_
      refine Wp.callL (op_ix (by decide) ol_204 454 rfl) (act_virt (c2 := 0) rfl (lk1 (kS hs271 23 rfl)) rfl) rfl (K.mono ?_)
      rintro _ h273 ⟨x275, rfl, hs274, K⟩
      refine ⟨x275, rfl, ?_⟩
      refine Wp.blk (by decide) ol_204 455 2 (pc' := (if (lg_cmp x272 x275) = (0 : Int32) then 751 else 749)) (L' := [.ref 0, .ref 2, .ref 23, .int v3]) (S' := []) (h' := h273) rfl ?_
      refine Wp.br (fun c276 => ?_) (fun c276 => ?_)
      · replace K := K.1 c276
        refine Wp.blk (by decide) ol_204 459 2 (pc' := 18) (L' := [.ref 0, .ref 2, .ref 23, .int (v3 + (5 : Int32))]) (S' := []) (h' := h273) rfl ?_
        exact K
      · replace K := K.2 c276
        refine Wp.blk (by decide) ol_204 457 1 (pc' := 750) (L' := [.ref 0, .ref 2, .ref 23, .int v3]) (S' := [.int (0 : Int32)]) (h' := h273) rfl ?_
        exact Wp.ret (op_ix (by decide) ol_204 458 rfl) rfl K
    replace K := K.2 c269
    unfold tsw
    refine Wp.blk (by decide) ol_204 459 2 (pc' := 18) (L' := [.ref 0, .ref 2, .ref 23, .int (v3 + (5 : Int32))]) (S' := []) (h' := h) rfl ?_
    exact K
