/-- CutsOrFast$Best.<init> at 0 ()V -/
theorem g0_0 (d : Nat) (v0 : Nat) (h : AH)  (Q : Option Value → AH → Prop) (K : (Cl d 51 [.ref v0] h (fun r h1 => r = none ∧ Q none h1))) : Wp (d + 1) 0 0 [.ref v0] [] h Q := by
  refine Wp.blk (by decide) ol_0 0 1 (pc' := 1) (L' := [.ref v0]) (S' := [.ref v0]) (h' := h) rfl ?_
  refine Wp.callV (op_ix (by decide) ol_0 1 rfl) rfl rfl (K.mono ?_)
  rintro _ h1 ⟨rfl, K⟩
  refine ⟨rfl, ?_⟩
  exact Wp.ret (op_ix (by decide) ol_0 2 rfl) rfl K
/-- CutsOrFast$Best.kind at 0 ()I -/
theorem g1_0 (d : Nat) (v0 : Nat) (h : AH) (HS : Sh h)  (Q : Option Value → AH → Prop) (K : Q (some (.int (1 : Int32))) h) : Wp d 1 0 [.ref v0] [] h Q := by
  refine Wp.blk (by decide) ol_1 0 1 (pc' := 1) (L' := [.ref v0]) (S' := [.int (1 : Int32)]) (h' := h) rfl ?_
  exact Wp.ret (op_ix (by decide) ol_1 1 rfl) rfl K
/-- CutsOrFast$Best.choose at 0 (LCutsOrFast$Stand;LCutsOrFast$Search;LCutsOrFast$Draws;)I -/
theorem g2_0 (d : Nat) (v0 : Nat) (v1 : Nat) (h : AH) (HS : Sh h) (t1 : St3 v1) (Q : Option Value → AH → Prop) (K : (Cl d 59 [.ref 17, .int (AI h v1 3), .int (AI h v1 4), .int (AI h v1 5)] h (fun r h1 => ∃ x3 : Int32, r = some (.int x3) ∧ Sh h1 ∧ ((x3 = (-1 : Int32) → (Cl d 87 [.ref v1, .int (0 : Int32)] h1 (fun r h5 => ∃ x7 : Int32, r = some (.int x7) ∧ Sh h5 ∧ Q (some (.int x7)) h5))) ∧ (¬ x3 = (-1 : Int32) → Q (some (.int x3)) h1))))) : Wp (d + 1) 2 0 [.ref v0, .ref v1, .ref 17, .ref 21, mk0] [] h Q := by
  refine Wp.blk (by decide) ol_2 0 2 (pc' := 2) (L' := [.ref v0, .ref v1, .ref 17, .ref 21, mk0]) (S' := [.ref v1, .ref 17]) (h' := h) rfl ?_
  refine Wp.callI (op_ix (by decide) ol_2 2 rfl) (act_virt (c2 := 0) rfl (lk1 (kT HS t1)) rfl) rfl (Cl.enter (L := [.ref v1]) rfl ?_)
  refine Wp.blk (by decide) ol_84 0 1 (pc' := 1) (L' := [.ref v1]) (S' := [.ref v1]) (h' := h) rfl ?_
  refine Wp.getf (op_ix (by decide) ol_84 1 rfl) (okT HS t1) (v := .int (AI h v1 3)) rfl rfl ?_
  refine Wp.ret (op_ix (by decide) ol_84 2 rfl) rfl ⟨_, rfl, ?_⟩
  refine Wp.blk (by decide) ol_2 3 1 (pc' := 6) (L' := [.ref v0, .ref v1, .ref 17, .ref 21, mk0]) (S' := [.ref v1, .int (AI h v1 3), .ref 17]) (h' := h) rfl ?_
  refine Wp.callI (op_ix (by decide) ol_2 4 rfl) (act_virt (c2 := 0) rfl (lk1 (kT HS t1)) rfl) rfl (Cl.enter (L := [.ref v1]) rfl ?_)
  refine Wp.blk (by decide) ol_85 0 1 (pc' := 1) (L' := [.ref v1]) (S' := [.ref v1]) (h' := h) rfl ?_
  refine Wp.getf (op_ix (by decide) ol_85 1 rfl) (okT HS t1) (v := .int (AI h v1 4)) rfl rfl ?_
  refine Wp.ret (op_ix (by decide) ol_85 2 rfl) rfl ⟨_, rfl, ?_⟩
  refine Wp.blk (by decide) ol_2 5 1 (pc' := 10) (L' := [.ref v0, .ref v1, .ref 17, .ref 21, mk0]) (S' := [.ref v1, .int (AI h v1 4), .int (AI h v1 3), .ref 17]) (h' := h) rfl ?_
  refine Wp.callI (op_ix (by decide) ol_2 6 rfl) (act_virt (c2 := 0) rfl (lk1 (kT HS t1)) rfl) rfl (Cl.enter (L := [.ref v1]) rfl ?_)
  refine Wp.blk (by decide) ol_82 0 1 (pc' := 1) (L' := [.ref v1]) (S' := [.ref v1]) (h' := h) rfl ?_
  refine Wp.getf (op_ix (by decide) ol_82 1 rfl) (okT HS t1) (v := .int (AI h v1 5)) rfl rfl ?_
  refine Wp.ret (op_ix (by decide) ol_82 2 rfl) rfl ⟨_, rfl, ?_⟩
  refine Wp.callI (op_ix (by decide) ol_2 7 rfl) (act_virt (c2 := 3) rfl (lk1 (kS HS 17 rfl)) rfl) rfl (K.mono ?_)
  rintro _ h1 ⟨x3, rfl, hs2, K⟩
  refine ⟨x3, rfl, ?_⟩
  refine Wp.blk (by decide) ol_2 8 4 (pc' := (if x3 = (-1 : Int32) then 24 else 32)) (L' := [.ref v0, .ref v1, .ref 17, .ref 21, .int x3]) (S' := []) (h' := h1) rfl ?_
  refine Wp.br (fun c4 => ?_) (fun c4 => ?_)
  · replace K := K.1 c4
    refine Wp.blk (by decide) ol_2 12 2 (pc' := 26) (L' := [.ref v0, .ref v1, .ref 17, .ref 21, .int x3]) (S' := [.int (0 : Int32), .ref v1]) (h' := h1) rfl ?_
    refine Wp.callI (op_ix (by decide) ol_2 14 rfl) (act_virt (c2 := 1) rfl (lk1 (kT hs2 t1)) rfl) rfl (K.mono ?_)
    rintro _ h5 ⟨x7, rfl, hs6, K⟩
    refine ⟨x7, rfl, ?_⟩
    refine Wp.blk (by decide) ol_2 15 1 (pc' := 34) (L' := [.ref v0, .ref v1, .ref 17, .ref 21, .int x3]) (S' := [.int x7]) (h' := h5) rfl ?_
    exact Wp.ret (op_ix (by decide) ol_2 17 rfl) rfl K
  · replace K := K.2 c4
    refine Wp.blk (by decide) ol_2 16 1 (pc' := 34) (L' := [.ref v0, .ref v1, .ref 17, .ref 21, .int x3]) (S' := [.int x3]) (h' := h1) rfl ?_
    exact Wp.ret (op_ix (by decide) ol_2 17 rfl) rfl K
/-- CutsOrFast$Chance.<init> at 0 ()V -/
theorem g3_0 (d : Nat) (v0 : Nat) (h : AH)  (Q : Option Value → AH → Prop) (K : (Cl d 51 [.ref v0] h (fun r h1 => r = none ∧ Q none h1))) : Wp (d + 1) 3 0 [.ref v0] [] h Q := by
  refine Wp.blk (by decide) ol_3 0 1 (pc' := 1) (L' := [.ref v0]) (S' := [.ref v0]) (h' := h) rfl ?_
  refine Wp.callV (op_ix (by decide) ol_3 1 rfl) rfl rfl (K.mono ?_)
  rintro _ h1 ⟨rfl, K⟩
  refine ⟨rfl, ?_⟩
  exact Wp.ret (op_ix (by decide) ol_3 2 rfl) rfl K
/-- CutsOrFast$Chance.kind at 0 ()I -/
theorem g4_0 (d : Nat) (v0 : Nat) (h : AH) (HS : Sh h)  (Q : Option Value → AH → Prop) (K : Q (some (.int (4 : Int32))) h) : Wp d 4 0 [.ref v0] [] h Q := by
  refine Wp.blk (by decide) ol_4 0 1 (pc' := 1) (L' := [.ref v0]) (S' := [.int (4 : Int32)]) (h' := h) rfl ?_
  exact Wp.ret (op_ix (by decide) ol_4 1 rfl) rfl K
/-- CutsOrFast$Chance.choose at 0 (LCutsOrFast$Stand;LCutsOrFast$Search;LCutsOrFast$Draws;)I -/
theorem g5_0 (d : Nat) (v0 : Nat) (v1 : Nat) (h : AH) (HS : Sh h) (t1 : St3 v1) (Q : Option Value → AH → Prop) (K : (Cl (d + 1) 199 [.int (((((((((1 : Int32)) <<< (((AI h 5 5)) &&& 31))) - ((1 : Int32)))) &&& ((((AI h v1 3)) ^^^ ((-1 : Int32)))))) &&& ((((AI h v1 4)) ^^^ ((-1 : Int32)))))] h (fun r h1 => ∃ x3 : Int32, r = some (.int x3) ∧ Sh h1 ∧ (Cl (d + 1) 11 [.ref 21, .int x3] h1 (fun r h4 => ∃ x6 : Int32, r = some (.int x6) ∧ Sh h4 ∧ (Cl (d + 1) 87 [.ref v1, .int x6] h4 (fun r h7 => ∃ x9 : Int32, r = some (.int x9) ∧ Sh h7 ∧ Q (some (.int x9)) h7))))))) : Wp (d + 2) 5 0 [.ref v0, .ref v1, .ref 17, .ref 21] [] h Q := by
  refine Wp.blk (by decide) ol_5 0 3 (pc' := 3) (L' := [.ref v0, .ref v1, .ref 17, .ref 21]) (S' := [.ref v1, .ref 21, .ref v1]) (h' := h) rfl ?_
  refine Wp.callI (op_ix (by decide) ol_5 3 rfl) (act_virt (c2 := 0) rfl (lk1 (kT HS t1)) rfl) rfl (Cl.enter (L := [.ref v1]) rfl ?_)
  refine Wp.blk (by decide) ol_86 0 1 (pc' := 1) (L' := [.ref v1]) (S' := [.ref v1]) (h' := h) rfl ?_
  refine Wp.getf (op_ix (by decide) ol_86 1 rfl) (okT HS t1) (v := .ref 5) (congrArg va_rf (rT0 HS t1)) rfl ?_
  refine Wp.callI (op_ix (by decide) ol_86 2 rfl) (act_virt (c2 := 0) rfl (lk1 (kS HS 5 rfl)) rfl) rfl (Cl.enter (L := [.ref 5]) rfl ?_)
  refine Wp.blk (by decide) ol_27 0 2 (pc' := 2) (L' := [.ref 5]) (S' := [.ref 5, .int (1 : Int32)]) (h' := h) rfl ?_
  refine Wp.getf (op_ix (by decide) ol_27 2 rfl) (okS HS 5 rfl rfl) (v := .int (AI h 5 5)) rfl rfl ?_
  refine Wp.blk (by decide) ol_27 3 3 (pc' := 8) (L' := [.ref 5]) (S' := [.int (((((1 : Int32)) <<< (((AI h 5 5)) &&& 31))) - ((1 : Int32)))]) (h' := h) rfl ?_
  refine Wp.ret (op_ix (by decide) ol_27 6 rfl) rfl ⟨_, rfl, ?_⟩
  refine Wp.blk (by decide) ol_86 3 1 (pc' := 8) (L' := [.ref v1]) (S' := [.ref v1, .int (((((1 : Int32)) <<< (((AI h 5 5)) &&& 31))) - ((1 : Int32)))]) (h' := h) rfl ?_
  refine Wp.getf (op_ix (by decide) ol_86 4 rfl) (okT HS t1) (v := .int (AI h v1 3)) rfl rfl ?_
  refine Wp.blk (by decide) ol_86 5 4 (pc' := 15) (L' := [.ref v1]) (S' := [.ref v1, .int (((((((1 : Int32)) <<< (((AI h 5 5)) &&& 31))) - ((1 : Int32)))) &&& ((((AI h v1 3)) ^^^ ((-1 : Int32)))))]) (h' := h) rfl ?_
  refine Wp.getf (op_ix (by decide) ol_86 9 rfl) (okT HS t1) (v := .int (AI h v1 4)) rfl rfl ?_
  refine Wp.blk (by decide) ol_86 10 3 (pc' := 21) (L' := [.ref v1]) (S' := [.int (((((((((1 : Int32)) <<< (((AI h 5 5)) &&& 31))) - ((1 : Int32)))) &&& ((((AI h v1 3)) ^^^ ((-1 : Int32)))))) &&& ((((AI h v1 4)) ^^^ ((-1 : Int32)))))]) (h' := h) rfl ?_
  refine Wp.ret (op_ix (by decide) ol_86 13 rfl) rfl ⟨_, rfl, ?_⟩
  refine Wp.callI (op_ix (by decide) ol_5 4 rfl) rfl rfl (K.mono ?_)
  rintro _ h1 ⟨x3, rfl, hs2, K⟩
  refine ⟨x3, rfl, ?_⟩
  refine Wp.callI (op_ix (by decide) ol_5 5 rfl) (act_virt (c2 := 1) rfl (lk1 (kS hs2 21 rfl)) rfl) rfl (K.mono ?_)
  rintro _ h4 ⟨x6, rfl, hs5, K⟩
  refine ⟨x6, rfl, ?_⟩
  refine Wp.callI (op_ix (by decide) ol_5 6 rfl) (act_virt (c2 := 1) rfl (lk1 (kT hs5 t1)) rfl) rfl (K.mono ?_)
  rintro _ h7 ⟨x9, rfl, hs8, K⟩
  refine ⟨x9, rfl, ?_⟩
  exact Wp.ret (op_ix (by decide) ol_5 7 rfl) rfl K
/-- CutsOrFast$Dear.<init> at 0 ()V -/
theorem g6_0 (d : Nat) (v0 : Nat) (h : AH)  (Q : Option Value → AH → Prop) (K : (Cl d 13 [.ref v0] h (fun r h1 => r = none ∧ Q none h1))) : Wp (d + 1) 6 0 [.ref v0] [] h Q := by
  refine Wp.blk (by decide) ol_6 0 1 (pc' := 1) (L' := [.ref v0]) (S' := [.ref v0]) (h' := h) rfl ?_
  refine Wp.callV (op_ix (by decide) ol_6 1 rfl) rfl rfl (K.mono ?_)
  rintro _ h1 ⟨rfl, K⟩
  refine ⟨rfl, ?_⟩
  exact Wp.ret (op_ix (by decide) ol_6 2 rfl) rfl K
/-- CutsOrFast$Dear.kind at 0 ()I -/
theorem g7_0 (d : Nat) (v0 : Nat) (h : AH) (HS : Sh h)  (Q : Option Value → AH → Prop) (K : Q (some (.int (3 : Int32))) h) : Wp d 7 0 [.ref v0] [] h Q := by
  refine Wp.blk (by decide) ol_7 0 1 (pc' := 1) (L' := [.ref v0]) (S' := [.int (3 : Int32)]) (h' := h) rfl ?_
  exact Wp.ret (op_ix (by decide) ol_7 1 rfl) rfl K
/-- CutsOrFast$Dear.isRather at 0 (LCutsOrFast$Net;II)Z -/
theorem g8_0 (d : Nat) (v0 : Nat) (v2 : Int32) (v3 : Int32) (h : AH) (HS : Sh h)  (Q : Option Value → AH → Prop) (K : (((atv h 8 v3) < (atv h 8 v2) → Q (some (.int (1 : Int32))) h) ∧ (¬ (atv h 8 v3) < (atv h 8 v2) → Q (some (.int (0 : Int32))) h))) : Wp (d + 2) 8 0 [.ref v0, .ref 5, .int v2, .int v3] [] h Q := by
  refine Wp.blk (by decide) ol_8 0 2 (pc' := 2) (L' := [.ref v0, .ref 5, .int v2, .int v3]) (S' := [.int v2, .ref 5]) (h' := h) rfl ?_
  refine Wp.callI (op_ix (by decide) ol_8 2 rfl) (act_virt (c2 := 1) rfl (lk1 (kS HS 5 rfl)) rfl) rfl (Cl.enter (L := [.ref 5, .int v2]) rfl ?_)
  refine Wp.blk (by decide) ol_32 0 1 (pc' := 1) (L' := [.ref 5, .int v2]) (S' := [.ref 5]) (h' := h) rfl ?_
  refine Wp.getf (op_ix (by decide) ol_32 1 rfl) (okS HS 5 rfl rfl) (v := .ref 8) (congrArg va_rf (rS HS 5 2 rfl)) rfl ?_
  refine Wp.blk (by decide) ol_32 2 1 (pc' := 5) (L' := [.ref 5, .int v2]) (S' := [.int v2, .ref 8]) (h' := h) rfl ?_
  refine Wp.callI (op_ix (by decide) ol_32 3 rfl) rfl rfl (sp_at (kS HS 8 rfl) (nS HS 8 rfl) ?_)
  refine ⟨_, rfl, ?_⟩
  refine Wp.ret (op_ix (by decide) ol_32 4 rfl) rfl ⟨_, rfl, ?_⟩
  refine Wp.blk (by decide) ol_8 3 2 (pc' := 7) (L' := [.ref v0, .ref 5, .int v2, .int v3]) (S' := [.int v3, .ref 5, .int (atv h 8 v2)]) (h' := h) rfl ?_
  refine Wp.callI (op_ix (by decide) ol_8 5 rfl) (act_virt (c2 := 1) rfl (lk1 (kS HS 5 rfl)) rfl) rfl (Cl.enter (L := [.ref 5, .int v3]) rfl ?_)
  refine Wp.blk (by decide) ol_32 0 1 (pc' := 1) (L' := [.ref 5, .int v3]) (S' := [.ref 5]) (h' := h) rfl ?_
  refine Wp.getf (op_ix (by decide) ol_32 1 rfl) (okS HS 5 rfl rfl) (v := .ref 8) (congrArg va_rf (rS HS 5 2 rfl)) rfl ?_
  refine Wp.blk (by decide) ol_32 2 1 (pc' := 5) (L' := [.ref 5, .int v3]) (S' := [.int v3, .ref 8]) (h' := h) rfl ?_
  refine Wp.callI (op_ix (by decide) ol_32 3 rfl) rfl rfl (sp_at (kS HS 8 rfl) (nS HS 8 rfl) ?_)
  refine ⟨_, rfl, ?_⟩
  refine Wp.ret (op_ix (by decide) ol_32 4 rfl) rfl ⟨_, rfl, ?_⟩
  refine Wp.blk (by decide) ol_8 6 1 (pc' := (if (atv h 8 v3) < (atv h 8 v2) then 13 else 17)) (L' := [.ref v0, .ref 5, .int v2, .int v3]) (S' := []) (h' := h) rfl ?_
  refine Wp.br (fun c1 => ?_) (fun c1 => ?_)
  · replace K := K.1 c1
    refine Wp.blk (by decide) ol_8 7 2 (pc' := 18) (L' := [.ref v0, .ref 5, .int v2, .int v3]) (S' := [.int (1 : Int32)]) (h' := h) rfl ?_
    exact Wp.ret (op_ix (by decide) ol_8 10 rfl) rfl K
  · replace K := K.2 c1
    refine Wp.blk (by decide) ol_8 9 1 (pc' := 18) (L' := [.ref v0, .ref 5, .int v2, .int v3]) (S' := [.int (0 : Int32)]) (h' := h) rfl ?_
    exact Wp.ret (op_ix (by decide) ol_8 10 rfl) rfl K
/-- CutsOrFast$Draws.<init> at 0 ()V -/
theorem g9_0 (d : Nat) (v0 : Nat) (h : AH)  (Q : Option Value → AH → Prop) (K : Q none h) : Wp d 9 0 [.ref v0] [] h Q := by
  refine Wp.blk (by decide) ol_9 0 2 (pc' := 4) (L' := [.ref v0]) (S' := []) (h' := h) rfl ?_
  exact Wp.ret (op_ix (by decide) ol_9 2 rfl) rfl K
/-- CutsOrFast$Draws.start at 0 (I)V -/
theorem g10_0 (d : Nat) (v1 : Int32) (h : AH) (HS : Sh h)  (Q : Option Value → AH → Prop) (K : Q none (stL h 21 0 v1.toInt64)) : Wp d 10 0 [.ref 21, .int v1] [] h Q := by
  refine Wp.blk (by decide) ol_10 0 3 (pc' := 3) (L' := [.ref 21, .int v1]) (S' := [.long v1.toInt64, .ref 21]) (h' := h) rfl ?_
  refine Wp.putf (op_ix (by decide) ol_10 3 rfl) (by decide) (okS HS 21 rfl rfl) (h' := (stL h 21 0 v1.toInt64)) rfl rfl ?_
  exact Wp.ret (op_ix (by decide) ol_10 4 rfl) rfl K
/-- CutsOrFast$Draws.next at 0 (I)I -/
theorem g11_0 (d : Nat) (v1 : Int32) (h : AH) (HS : Sh h)  (Q : Option Value → AH → Prop) (K : (((0 : Int32) < v1 → ((¬ v1.toInt64 = 0) ∧ Q (some (.int ((((AL ((stL h 21 0 ((((((((1103515245 : Int64)) * ((AL h 21 0)))) + ((12345 : Int64)))) &&& ((2147483647 : Int64)))))) 21 0) / (65536 : Int64)) - ((AL ((stL h 21 0 ((((((((1103515245 : Int64)) * ((AL h 21 0)))) + ((12345 : Int64)))) &&& ((2147483647 : Int64)))))) 21 0) / (65536 : Int64)) / v1.toInt64 * v1.toInt64)).toInt32)) (stL h 21 0 ((((((((1103515245 : Int64)) * ((AL h 21 0)))) + ((12345 : Int64)))) &&& ((2147483647 : Int64))))))) ∧ (¬ (0 : Int32) < v1 → Q (some (.int (0 : Int32))) (stL h 21 0 ((((((((1103515245 : Int64)) * ((AL h 21 0)))) + ((12345 : Int64)))) &&& ((2147483647 : Int64)))))))) : Wp d 11 0 [.ref 21, .int v1] [] h Q := by
  refine Wp.blk (by decide) ol_11 0 3 (pc' := 5) (L' := [.ref 21, .int v1]) (S' := [.ref 21, .long (1103515245 : Int64), .ref 21]) (h' := h) rfl ?_
  refine Wp.getf (op_ix (by decide) ol_11 3 rfl) (okS HS 21 rfl rfl) (v := .long (AL h 21 0)) rfl rfl ?_
  refine Wp.blk (by decide) ol_11 4 5 (pc' := 17) (L' := [.ref 21, .int v1]) (S' := [.long (((((((1103515245 : Int64)) * ((AL h 21 0)))) + ((12345 : Int64)))) &&& ((2147483647 : Int64))), .ref 21]) (h' := h) rfl ?_
  refine Wp.putf (op_ix (by decide) ol_11 9 rfl) (by decide) (okS HS 21 rfl rfl) (h' := (stL h 21 0 ((((((((1103515245 : Int64)) * ((AL h 21 0)))) + ((12345 : Int64)))) &&& ((2147483647 : Int64)))))) rfl rfl ?_
  refine Wp.blk (by decide) ol_11 10 2 (pc' := (if (0 : Int32) < v1 then 24 else 39)) (L' := [.ref 21, .int v1]) (S' := []) (h' := (stL h 21 0 ((((((((1103515245 : Int64)) * ((AL h 21 0)))) + ((12345 : Int64)))) &&& ((2147483647 : Int64)))))) rfl ?_
  refine Wp.br (fun c1 => ?_) (fun c1 => ?_)
  · replace K := K.1 c1
    refine Wp.blk (by decide) ol_11 12 1 (pc' := 25) (L' := [.ref 21, .int v1]) (S' := [.ref 21]) (h' := (stL h 21 0 ((((((((1103515245 : Int64)) * ((AL h 21 0)))) + ((12345 : Int64)))) &&& ((2147483647 : Int64)))))) rfl ?_
    refine Wp.getf (op_ix (by decide) ol_11 13 rfl) (okS HS 21 rfl rfl) (v := .long (AL ((stL h 21 0 ((((((((1103515245 : Int64)) * ((AL h 21 0)))) + ((12345 : Int64)))) &&& ((2147483647 : Int64)))))) 21 0)) rfl rfl ?_
    refine Wp.blk (by decide) ol_11 14 4 (pc' := 34) (L' := [.ref 21, .int v1]) (S' := [.long v1.toInt64, .long ((AL ((stL h 21 0 ((((((((1103515245 : Int64)) * ((AL h 21 0)))) + ((12345 : Int64)))) &&& ((2147483647 : Int64)))))) 21 0) / (65536 : Int64))]) (h' := (stL h 21 0 ((((((((1103515245 : Int64)) * ((AL h 21 0)))) + ((12345 : Int64)))) &&& ((2147483647 : Int64)))))) rfl ?_
    obtain ⟨z2, K⟩ := K
    refine Wp.remL (op_ix (by decide) ol_11 18 rfl) z2 rfl ?_
    refine Wp.blk (by decide) ol_11 19 2 (pc' := 40) (L' := [.ref 21, .int v1]) (S' := [.int ((((AL ((stL h 21 0 ((((((((1103515245 : Int64)) * ((AL h 21 0)))) + ((12345 : Int64)))) &&& ((2147483647 : Int64)))))) 21 0) / (65536 : Int64)) - ((AL ((stL h 21 0 ((((((((1103515245 : Int64)) * ((AL h 21 0)))) + ((12345 : Int64)))) &&& ((2147483647 : Int64)))))) 21 0) / (65536 : Int64)) / v1.toInt64 * v1.toInt64)).toInt32]) (h' := (stL h 21 0 ((((((((1103515245 : Int64)) * ((AL h 21 0)))) + ((12345 : Int64)))) &&& ((2147483647 : Int64)))))) rfl ?_
    exact Wp.ret (op_ix (by decide) ol_11 22 rfl) rfl K
  · replace K := K.2 c1
    refine Wp.blk (by decide) ol_11 21 1 (pc' := 40) (L' := [.ref 21, .int v1]) (S' := [.int (0 : Int32)]) (h' := (stL h 21 0 ((((((((1103515245 : Int64)) * ((AL h 21 0)))) + ((12345 : Int64)))) &&& ((2147483647 : Int64)))))) rfl ?_
    exact Wp.ret (op_ix (by decide) ol_11 22 rfl) rfl K
/-- CutsOrFast$Draws.seedNow at 0 ()I -/
theorem g12_0 (d : Nat)  (h : AH) (HS : Sh h)  (Q : Option Value → AH → Prop) (K : Q (some (.int ((AL h 21 0)).toInt32)) h) : Wp d 12 0 [.ref 21] [] h Q := by
  refine Wp.blk (by decide) ol_12 0 1 (pc' := 1) (L' := [.ref 21]) (S' := [.ref 21]) (h' := h) rfl ?_
  refine Wp.getf (op_ix (by decide) ol_12 1 rfl) (okS HS 21 rfl rfl) (v := .long (AL h 21 0)) rfl rfl ?_
  refine Wp.blk (by decide) ol_12 2 1 (pc' := 5) (L' := [.ref 21]) (S' := [.int ((AL h 21 0)).toInt32]) (h' := h) rfl ?_
  exact Wp.ret (op_ix (by decide) ol_12 3 rfl) rfl K
/-- CutsOrFast$Near.<init> at 0 ()V -/
theorem g13_0 (d : Nat) (v0 : Nat) (h : AH)  (Q : Option Value → AH → Prop) (K : (Cl d 51 [.ref v0] h (fun r h1 => r = none ∧ (∀ n3, n3 = (NX h1) → ∀ h4, h4 = (newO h1 20 6) → (okC 4 (AK h4 v0).1 = true ∧ 2 ≤ v0 ∧ (∀ n9, n9 = (NX ((stR h4 v0 0 (some n3)))) → ∀ h10, h10 = (newO ((stR h4 v0 0 (some n3))) 20 6) → (okC 4 (AK h10 v0).1 = true ∧ Q none (stR h10 v0 1 (some n9))))))))) : Wp (d + 1) 13 0 [.ref v0] [] h Q := by
  refine Wp.blk (by decide) ol_13 0 1 (pc' := 1) (L' := [.ref v0]) (S' := [.ref v0]) (h' := h) rfl ?_
  refine Wp.callV (op_ix (by decide) ol_13 1 rfl) rfl rfl (K.mono ?_)
  rintro _ h1 ⟨rfl, K⟩
  refine ⟨rfl, ?_⟩
  refine Wp.blk (by decide) ol_13 2 2 (pc' := 7) (L' := [.ref v0]) (S' := [.int (6 : Int32), .ref v0]) (h' := h1) rfl ?_
  refine Wp.blk (by decide) ol_13 4 1 (pc' := 9) (L' := [.ref v0]) (S' := [.ref (NX h1), .ref v0]) (h' := (newO h1 20 6)) rfl ?_
  obtain ⟨n3, e5⟩ : ∃ x, x = (NX h1) := ⟨_, rfl⟩
  obtain ⟨h4, e6⟩ : ∃ x, x = (newO h1 20 6) := ⟨_, rfl⟩
  rw [← e6, ← e5]
  replace K := K n3 e5 h4 e6
  obtain ⟨k7, K⟩ := K
  obtain ⟨b8, K⟩ := K
  refine Wp.putf (op_ix (by decide) ol_13 5 rfl) b8 k7 (h' := (stR h4 v0 0 (some n3))) rfl rfl ?_
  refine Wp.blk (by decide) ol_13 6 2 (pc' := 15) (L' := [.ref v0]) (S' := [.int (6 : Int32), .ref v0]) (h' := (stR h4 v0 0 (some n3))) rfl ?_
  refine Wp.blk (by decide) ol_13 8 1 (pc' := 17) (L' := [.ref v0]) (S' := [.ref (NX ((stR h4 v0 0 (some n3)))), .ref v0]) (h' := (newO ((stR h4 v0 0 (some n3))) 20 6)) rfl ?_
  obtain ⟨n9, e11⟩ : ∃ x, x = (NX ((stR h4 v0 0 (some n3)))) := ⟨_, rfl⟩
  obtain ⟨h10, e12⟩ : ∃ x, x = (newO ((stR h4 v0 0 (some n3))) 20 6) := ⟨_, rfl⟩
  rw [← e12, ← e11]
  replace K := K n9 e11 h10 e12
  obtain ⟨k13, K⟩ := K
  refine Wp.putf (op_ix (by decide) ol_13 9 rfl) b8 k13 (h' := (stR h10 v0 1 (some n9))) rfl rfl ?_
  exact Wp.ret (op_ix (by decide) ol_13 10 rfl) rfl K
/-- CutsOrFast$Near.kind at 0 ()I -/
theorem g14_0 (d : Nat) (v0 : Nat) (h : AH) (HS : Sh h)  (Q : Option Value → AH → Prop) (K : Q (some (.int (2 : Int32))) h) : Wp d 14 0 [.ref v0] [] h Q := by
  refine Wp.blk (by decide) ol_14 0 1 (pc' := 1) (L' := [.ref v0]) (S' := [.int (2 : Int32)]) (h' := h) rfl ?_
  exact Wp.ret (op_ix (by decide) ol_14 1 rfl) rfl K
/-- CutsOrFast$Near.choose at 0 (LCutsOrFast$Stand;LCutsOrFast$Search;LCutsOrFast$Draws;)I -/
theorem g15_0 (d : Nat) (v0 : Nat) (v1 : Nat) (h : AH) (HS : Sh h) (t1 : St3 v1) (Q : Option Value → AH → Prop) (K : (okC 4 (AK h v0).1 = true ∧ ∃ i2 : Nat, AR h v0 0 = some i2 ∧ (Cl d 18 [.ref i2, .int (AI h 5 6), .ref v1] h (fun r h4 => r = none ∧ Sh h4 ∧ (okC 4 (AK h4 v0).1 = true ∧ ∃ i7 : Nat, AR h4 v0 1 = some i7 ∧ (Cl d 18 [.ref i7, .int (AI h4 5 7), .ref v1] h4 (fun r h9 => r = none ∧ Sh h9 ∧ (okC 4 (AK h9 v0).1 = true ∧ ∃ i12 : Nat, AR h9 v0 0 = some i12 ∧ ((AK h9 i12).1 = 20 ∧ (AK h9 i12).2 < 2147483648 ∧ Wp (d + 1) 15 52 [.ref v0, .ref v1, mk0, mk0, .ref 5, .int (atv h9 i12 ((AI h9 5 7))), .int (-1 : Int32), .int (0 : Int32)] [] h9 Q))))))))) : Wp (d + 1) 15 0 [.ref v0, .ref v1, .ref 17, .ref 21, mk0, mk0, mk0, mk0] [] h Q := by
  refine Wp.blk (by decide) ol_15 0 1 (pc' := 1) (L' := [.ref v0, .ref v1, .ref 17, .ref 21, mk0, mk0, mk0, mk0]) (S' := [.ref v1]) (h' := h) rfl ?_
  refine Wp.callR (op_ix (by decide) ol_15 1 rfl) (act_virt (c2 := 0) rfl (lk1 (kT HS t1)) rfl) rfl (Cl.enter (L := [.ref v1]) rfl ?_)
  refine Wp.blk (by decide) ol_79 0 1 (pc' := 1) (L' := [.ref v1]) (S' := [.ref v1]) (h' := h) rfl ?_
  refine Wp.getf (op_ix (by decide) ol_79 1 rfl) (okT HS t1) (v := .ref 5) (congrArg va_rf (rT0 HS t1)) rfl ?_
  refine Wp.ret (op_ix (by decide) ol_79 2 rfl) rfl (Or.inl ⟨_, rfl, ?_⟩)
  refine Wp.blk (by decide) ol_15 2 2 (pc' := 7) (L' := [.ref v0, .ref v1, .ref 17, .ref 21, .ref 5, mk0, mk0, mk0]) (S' := [.ref v0]) (h' := h) rfl ?_
  obtain ⟨k1, K⟩ := K
  obtain ⟨i2, q3, K⟩ := K
  refine Wp.getf (op_ix (by decide) ol_15 4 rfl) k1 (v := .ref i2) (congrArg va_rf q3) rfl ?_
  refine Wp.blk (by decide) ol_15 5 1 (pc' := 12) (L' := [.ref v0, .ref v1, .ref 17, .ref 21, .ref 5, mk0, mk0, mk0]) (S' := [.ref 5, .ref i2]) (h' := h) rfl ?_
  refine Wp.callI (op_ix (by decide) ol_15 6 rfl) (act_virt (c2 := 0) rfl (lk1 (kS HS 5 rfl)) rfl) rfl (Cl.enter (L := [.ref 5]) rfl ?_)
  refine Wp.blk (by decide) ol_28 0 1 (pc' := 1) (L' := [.ref 5]) (S' := [.ref 5]) (h' := h) rfl ?_
  refine Wp.getf (op_ix (by decide) ol_28 1 rfl) (okS HS 5 rfl rfl) (v := .int (AI h 5 6)) rfl rfl ?_
  refine Wp.ret (op_ix (by decide) ol_28 2 rfl) rfl ⟨_, rfl, ?_⟩
  refine Wp.blk (by decide) ol_15 7 1 (pc' := 16) (L' := [.ref v0, .ref v1, .ref 17, .ref 21, .ref 5, mk0, mk0, mk0]) (S' := [.ref v1, .int (AI h 5 6), .ref i2]) (h' := h) rfl ?_
  refine Wp.callV (op_ix (by decide) ol_15 8 rfl) rfl rfl (K.mono ?_)
  rintro _ h4 ⟨rfl, hs5, K⟩
  refine ⟨rfl, ?_⟩
  refine Wp.blk (by decide) ol_15 9 1 (pc' := 20) (L' := [.ref v0, .ref v1, .ref 17, .ref 21, .ref 5, mk0, mk0, mk0]) (S' := [.ref v0]) (h' := h4) rfl ?_
  obtain ⟨k6, K⟩ := K
  obtain ⟨i7, q8, K⟩ := K
  refine Wp.getf (op_ix (by decide) ol_15 10 rfl) k6 (v := .ref i7) (congrArg va_rf q8) rfl ?_
  refine Wp.blk (by decide) ol_15 11 1 (pc' := 25) (L' := [.ref v0, .ref v1, .ref 17, .ref 21, .ref 5, mk0, mk0, mk0]) (S' := [.ref 5, .ref i7]) (h' := h4) rfl ?_
  refine Wp.callI (op_ix (by decide) ol_15 12 rfl) (act_virt (c2 := 0) rfl (lk1 (kS hs5 5 rfl)) rfl) rfl (Cl.enter (L := [.ref 5]) rfl ?_)
  refine Wp.blk (by decide) ol_29 0 1 (pc' := 1) (L' := [.ref 5]) (S' := [.ref 5]) (h' := h4) rfl ?_
  refine Wp.getf (op_ix (by decide) ol_29 1 rfl) (okS hs5 5 rfl rfl) (v := .int (AI h4 5 7)) rfl rfl ?_
  refine Wp.ret (op_ix (by decide) ol_29 2 rfl) rfl ⟨_, rfl, ?_⟩
  refine Wp.blk (by decide) ol_15 13 1 (pc' := 29) (L' := [.ref v0, .ref v1, .ref 17, .ref 21, .ref 5, mk0, mk0, mk0]) (S' := [.ref v1, .int (AI h4 5 7), .ref i7]) (h' := h4) rfl ?_
  refine Wp.callV (op_ix (by decide) ol_15 14 rfl) rfl rfl (K.mono ?_)
  rintro _ h9 ⟨rfl, hs10, K⟩
  refine ⟨rfl, ?_⟩
  refine Wp.blk (by decide) ol_15 15 1 (pc' := 33) (L' := [.ref v0, .ref v1, .ref 17, .ref 21, .ref 5, mk0, mk0, mk0]) (S' := [.ref v0]) (h' := h9) rfl ?_
  obtain ⟨k11, K⟩ := K
  obtain ⟨i12, q13, K⟩ := K
  refine Wp.getf (op_ix (by decide) ol_15 16 rfl) k11 (v := .ref i12) (congrArg va_rf q13) rfl ?_
  refine Wp.blk (by decide) ol_15 17 1 (pc' := 38) (L' := [.ref v0, .ref v1, .ref 17, .ref 21, .ref 5, mk0, mk0, mk0]) (S' := [.ref 5, .ref i12]) (h' := h9) rfl ?_
  refine Wp.callI (op_ix (by decide) ol_15 18 rfl) (act_virt (c2 := 0) rfl (lk1 (kS hs10 5 rfl)) rfl) rfl (Cl.enter (L := [.ref 5]) rfl ?_)
  refine Wp.blk (by decide) ol_29 0 1 (pc' := 1) (L' := [.ref 5]) (S' := [.ref 5]) (h' := h9) rfl ?_
  refine Wp.getf (op_ix (by decide) ol_29 1 rfl) (okS hs10 5 rfl rfl) (v := .int (AI h9 5 7)) rfl rfl ?_
  refine Wp.ret (op_ix (by decide) ol_29 2 rfl) rfl ⟨_, rfl, ?_⟩
  obtain ⟨k14, K⟩ := K
  obtain ⟨l15, K⟩ := K
  refine Wp.callI (op_ix (by decide) ol_15 19 rfl) rfl rfl (sp_at k14 l15 ?_)
  refine ⟨_, rfl, ?_⟩
  refine Wp.blk (by decide) ol_15 20 5 (pc' := 52) (L' := [.ref v0, .ref v1, .ref 17, .ref 21, .ref 5, .int (atv h9 i12 ((AI h9 5 7))), .int (-1 : Int32), .int (0 : Int32)]) (S' := []) (h' := h9) rfl ?_
  refine Wp.forget (L := [.ref v0, .ref v1, mk0, mk0, .ref 5, .int (atv h9 i12 ((AI h9 5 7))), .int (-1 : Int32), .int (0 : Int32)]) (⟨Or.inr rfl, ⟨Or.inr rfl, ⟨Or.inl rfl, ⟨Or.inl rfl, ⟨Or.inr rfl, ⟨Or.inr rfl, ⟨Or.inr rfl, ⟨Or.inr rfl, trivial⟩⟩⟩⟩⟩⟩⟩⟩) ?_
  exact K
/-- CutsOrFast$Near.choose at 52 -/
theorem g15_52 (d : Nat) (v0 : Nat) (v1 : Nat) (v4 : Nat) (v5 : Int32) (v6 : Int32) (v7 : Int32) (h : AH) (HS : Sh h) (t1 : St3 v1) (Q : Option Value → AH → Prop) (K : ((AK h v4).1 = 5 ∧ (okC 5 (AK h v4).1 = true ∧ ((v7 < (AI h v4 5) → (Cl d 78 [.ref v1, .int v7] h (fun r h4 => ∃ x6 : Int32, r = some (.int x6) ∧ Sh h4 ∧ ((x6 = (0 : Int32) → (∃ j8 : Nat, ([(4, 17), (2, 17)] : List (Nat × Nat)).lookup (AK h4 v0).1 = some j8 ∧ (exL [.ref v0, .ref v4, .int v7]).length ≤ mMax j8 ∧ (Cl d j8 [.ref v0, .ref v4, .int v7] h4 (fun r h11 => ∃ x13 : Int32, r = some (.int x13) ∧ Sh h11 ∧ ((x13 = v5 → ((v6 = (-1 : Int32) → Wp (d + 1) 15 52 [.ref v0, .ref v1, mk0, mk0, .ref v4, .int v5, .int v7, .int (v7 + (1 : Int32))] [] h11 Q) ∧ (¬ v6 = (-1 : Int32) → (∃ j16 : Nat, ([(4, 16), (2, 8)] : List (Nat × Nat)).lookup (AK h11 v0).1 = some j16 ∧ (exL [.ref v0, .ref v4, .int v7, .int v6]).length ≤ mMax j16 ∧ (Cl d j16 [.ref v0, .ref v4, .int v7, .int v6] h11 (fun r h19 => ∃ x21 : Int32, r = some (.int x21) ∧ Sh h19 ∧ ((x21 = (0 : Int32) → Wp (d + 1) 15 52 [.ref v0, .ref v1, mk0, mk0, .ref v4, .int v5, .int v6, .int (v7 + (1 : Int32))] [] h19 Q) ∧ (¬ x21 = (0 : Int32) → Wp (d + 1) 15 52 [.ref v0, .ref v1, mk0, mk0, .ref v4, .int v5, .int v7, .int (v7 + (1 : Int32))] [] h19 Q)))))))) ∧ (¬ x13 = v5 → Wp (d + 1) 15 52 [.ref v0, .ref v1, mk0, mk0, .ref v4, .int v5, .int v6, .int (v7 + (1 : Int32))] [] h11 Q)))))) ∧ (¬ x6 = (0 : Int32) → Wp (d + 1) 15 52 [.ref v0, .ref v1, mk0, mk0, .ref v4, .int v5, .int v6, .int (v7 + (1 : Int32))] [] h4 Q))))) ∧ (¬ v7 < (AI h v4 5) → ((v6 = (-1 : Int32) → (Cl d 87 [.ref v1, .int (0 : Int32)] h (fun r h24 => ∃ x26 : Int32, r = some (.int x26) ∧ Sh h24 ∧ Q (some (.int x26)) h24))) ∧ (¬ v6 = (-1 : Int32) → Q (some (.int v6)) h))))))) : Wp (d + 1) 15 52 [.ref v0, .ref v1, mk0, mk0, .ref v4, .int v5, .int v6, .int v7] [] h Q := by
  refine Wp.blk (by decide) ol_15 25 2 (pc' := 56) (L' := [.ref v0, .ref v1, mk0, mk0, .ref v4, .int v5, .int v6, .int v7]) (S' := [.ref v4, .int v7]) (h' := h) rfl ?_
  obtain ⟨k1, K⟩ := K
  refine Wp.callI (op_ix (by decide) ol_15 27 rfl) (act_virt (c2 := 0) rfl (lk1 k1) rfl) rfl (Cl.enter (L := [.ref v4]) rfl ?_)
  refine Wp.blk (by decide) ol_26 0 1 (pc' := 1) (L' := [.ref v4]) (S' := [.ref v4]) (h' := h) rfl ?_
  obtain ⟨k2, K⟩ := K
  refine Wp.getf (op_ix (by decide) ol_26 1 rfl) k2 (v := .int (AI h v4 5)) rfl rfl ?_
  refine Wp.ret (op_ix (by decide) ol_26 2 rfl) rfl ⟨_, rfl, ?_⟩
  refine Wp.blk (by decide) ol_15 28 1 (pc' := (if v7 < (AI h v4 5) then 62 else 113)) (L' := [.ref v0, .ref v1, mk0, mk0, .ref v4, .int v5, .int v6, .int v7]) (S' := []) (h' := h) rfl ?_
  refine Wp.br (fun c3 => ?_) (fun c3 => ?_)
  · replace K := K.1 c3
    refine Wp.blk (by decide) ol_15 29 2 (pc' := 65) (L' := [.ref v0, .ref v1, mk0, mk0, .ref v4, .int v5, .int v6, .int v7]) (S' := [.int v7, .ref v1]) (h' := h) rfl ?_
    refine Wp.callI (op_ix (by decide) ol_15 31 rfl) (act_virt (c2 := 1) rfl (lk1 (kT HS t1)) rfl) rfl (K.mono ?_)
    rintro _ h4 ⟨x6, rfl, hs5, K⟩
    refine ⟨x6, rfl, ?_⟩
    refine Wp.blk (by decide) ol_15 32 1 (pc' := (if x6 = (0 : Int32) then 71 else 107)) (L' := [.ref v0, .ref v1, mk0, mk0, .ref v4, .int v5, .int v6, .int v7]) (S' := []) (h' := h4) rfl ?_
    refine Wp.br (fun c7 => ?_) (fun c7 => ?_)
    · replace K := K.1 c7
      refine Wp.blk (by decide) ol_15 33 3 (pc' := 76) (L' := [.ref v0, .ref v1, mk0, mk0, .ref v4, .int v5, .int v6, .int v7]) (S' := [.int v7, .ref v4, .ref v0]) (h' := h4) rfl ?_
      obtain ⟨j8, q9, q10, K⟩ := K
      refine Wp.callI (op_ix (by decide) ol_15 36 rfl) (act_virt (c2 := 2) rfl q9 (cal_ok rfl q10)) rfl (K.mono ?_)
      rintro _ h11 ⟨x13, rfl, hs12, K⟩
      refine ⟨x13, rfl, ?_⟩
      refine Wp.blk (by decide) ol_15 37 2 (pc' := (if x13 = v5 then 84 else 107)) (L' := [.ref v0, .ref v1, mk0, mk0, .ref v4, .int v5, .int v6, .int v7]) (S' := []) (h' := h11) rfl ?_
      refine Wp.br (fun c14 => ?_) (fun c14 => ?_)
      · replace K := K.1 c14
        refine Wp.blk (by decide) ol_15 39 3 (pc' := (if v6 = (-1 : Int32) then 103 else 90)) (L' := [.ref v0, .ref v1, mk0, mk0, .ref v4, .int v5, .int v6, .int v7]) (S' := []) (h' := h11) rfl ?_
        refine Wp.br (fun c15 => ?_) (fun c15 => ?_)
        · replace K := K.1 c15
          refine Wp.blk (by decide) ol_15 48 4 (pc' := 52) (L' := [.ref v0, .ref v1, mk0, mk0, .ref v4, .int v5, .int v7, .int (v7 + (1 : Int32))]) (S' := []) (h' := h11) rfl ?_
          exact K
        · replace K := K.2 c15
          refine Wp.blk (by decide) ol_15 42 4 (pc' := 97) (L' := [.ref v0, .ref v1, mk0, mk0, .ref v4, .int v5, .int v6, .int v7]) (S' := [.int v6, .int v7, .ref v4, .ref v0]) (h' := h11) rfl ?_
          obtain ⟨j16, q17, q18, K⟩ := K
          refine Wp.callI (op_ix (by decide) ol_15 46 rfl) (act_virt (c2 := 3) rfl q17 (cal_ok rfl q18)) rfl (K.mono ?_)
          rintro _ h19 ⟨x21, rfl, hs20, K⟩
          refine ⟨x21, rfl, ?_⟩
          refine Wp.blk (by decide) ol_15 47 1 (pc' := (if x21 = (0 : Int32) then 107 else 103)) (L' := [.ref v0, .ref v1, mk0, mk0, .ref v4, .int v5, .int v6, .int v7]) (S' := []) (h' := h19) rfl ?_
          refine Wp.br (fun c22 => ?_) (fun c22 => ?_)
          · replace K := K.1 c22
            refine Wp.blk (by decide) ol_15 50 2 (pc' := 52) (L' := [.ref v0, .ref v1, mk0, mk0, .ref v4, .int v5, .int v6, .int (v7 + (1 : Int32))]) (S' := []) (h' := h19) rfl ?_
            exact K
          · replace K := K.2 c22
            refine Wp.blk (by decide) ol_15 48 4 (pc' := 52) (L' := [.ref v0, .ref v1, mk0, mk0, .ref v4, .int v5, .int v7, .int (v7 + (1 : Int32))]) (S' := []) (h' := h19) rfl ?_
            exact K
      · replace K := K.2 c14
        refine Wp.blk (by decide) ol_15 50 2 (pc' := 52) (L' := [.ref v0, .ref v1, mk0, mk0, .ref v4, .int v5, .int v6, .int (v7 + (1 : Int32))]) (S' := []) (h' := h11) rfl ?_
        exact K
    · replace K := K.2 c7
      refine Wp.blk (by decide) ol_15 50 2 (pc' := 52) (L' := [.ref v0, .ref v1, mk0, mk0, .ref v4, .int v5, .int v6, .int (v7 + (1 : Int32))]) (S' := []) (h' := h4) rfl ?_
      exact K
  · replace K := K.2 c3
    refine Wp.blk (by decide) ol_15 52 3 (pc' := (if v6 = (-1 : Int32) then 119 else 127)) (L' := [.ref v0, .ref v1, mk0, mk0, .ref v4, .int v5, .int v6, .int v7]) (S' := []) (h' := h) rfl ?_
    refine Wp.br (fun c23 => ?_) (fun c23 => ?_)
    · replace K := K.1 c23
      refine Wp.blk (by decide) ol_15 55 2 (pc' := 121) (L' := [.ref v0, .ref v1, mk0, mk0, .ref v4, .int v5, .int v6, .int v7]) (S' := [.int (0 : Int32), .ref v1]) (h' := h) rfl ?_
      refine Wp.callI (op_ix (by decide) ol_15 57 rfl) (act_virt (c2 := 1) rfl (lk1 (kT HS t1)) rfl) rfl (K.mono ?_)
      rintro _ h24 ⟨x26, rfl, hs25, K⟩
      refine ⟨x26, rfl, ?_⟩
      refine Wp.blk (by decide) ol_15 58 1 (pc' := 129) (L' := [.ref v0, .ref v1, mk0, mk0, .ref v4, .int v5, .int v6, .int v7]) (S' := [.int x26]) (h' := h24) rfl ?_
      exact Wp.ret (op_ix (by decide) ol_15 60 rfl) rfl K
    · replace K := K.2 c23
      refine Wp.blk (by decide) ol_15 59 1 (pc' := 129) (L' := [.ref v0, .ref v1, mk0, mk0, .ref v4, .int v5, .int v6, .int v7]) (S' := [.int v6]) (h' := h) rfl ?_
      exact Wp.ret (op_ix (by decide) ol_15 60 rfl) rfl K
/-- CutsOrFast$Near.isRather at 0 (LCutsOrFast$Net;II)Z -/
theorem g16_0 (d : Nat) (v0 : Nat) (v2 : Int32) (v3 : Int32) (h : AH) (HS : Sh h)  (Q : Option Value → AH → Prop) (K : Q (some (.int (0 : Int32))) h) : Wp d 16 0 [.ref v0, .ref 5, .int v2, .int v3] [] h Q := by
  refine Wp.blk (by decide) ol_16 0 1 (pc' := 1) (L' := [.ref v0, .ref 5, .int v2, .int v3]) (S' := [.int (0 : Int32)]) (h' := h) rfl ?_
  exact Wp.ret (op_ix (by decide) ol_16 1 rfl) rfl K
/-- CutsOrFast$Near.lengthOver at 0 (LCutsOrFast$Net;I)I -/
theorem g17_0 (d : Nat) (v0 : Nat) (v2 : Int32) (h : AH) (HS : Sh h)  (Q : Option Value → AH → Prop) (K : (okC 4 (AK h v0).1 = true ∧ ∃ i2 : Nat, AR h v0 0 = some i2 ∧ (AK h i2).1 = 20 ∧ (AK h i2).2 < 2147483648 ∧ ∃ i6 : Nat, AR h v0 1 = some i6 ∧ (AK h i6).1 = 20 ∧ (AK h i6).2 < 2147483648 ∧ ∃ i10 : Nat, AR h v0 0 = some i10 ∧ (AK h i10).1 = 20 ∧ (AK h i10).2 < 2147483648 ∧ ∃ i14 : Nat, AR h v0 1 = some i14 ∧ (AK h i14).1 = 20 ∧ (AK h i14).2 < 2147483648 ∧ Q (some (.int (if (((((atv h i10 ((atv h 7 v2)))) + ((1 : Int32)))) + ((atv h i14 ((atv h 6 v2))))) < (((((atv h i2 ((atv h 6 v2)))) + ((1 : Int32)))) + ((atv h i6 ((atv h 7 v2))))) then (((((atv h i10 ((atv h 7 v2)))) + ((1 : Int32)))) + ((atv h i14 ((atv h 6 v2))))) else (((((atv h i2 ((atv h 6 v2)))) + ((1 : Int32)))) + ((atv h i6 ((atv h 7 v2)))))))) h)) : Wp (d + 2) 17 0 [.ref v0, .ref 5, .int v2, mk0, mk0, mk0, mk0] [] h Q := by
  refine Wp.blk (by decide) ol_17 0 2 (pc' := 2) (L' := [.ref v0, .ref 5, .int v2, mk0, mk0, mk0, mk0]) (S' := [.int v2, .ref 5]) (h' := h) rfl ?_
  refine Wp.callI (op_ix (by decide) ol_17 2 rfl) (act_virt (c2 := 1) rfl (lk1 (kS HS 5 rfl)) rfl) rfl (Cl.enter (L := [.ref 5, .int v2]) rfl ?_)
  refine Wp.blk (by decide) ol_30 0 1 (pc' := 1) (L' := [.ref 5, .int v2]) (S' := [.ref 5]) (h' := h) rfl ?_
  refine Wp.getf (op_ix (by decide) ol_30 1 rfl) (okS HS 5 rfl rfl) (v := .ref 6) (congrArg va_rf (rS HS 5 0 rfl)) rfl ?_
  refine Wp.blk (by decide) ol_30 2 1 (pc' := 5) (L' := [.ref 5, .int v2]) (S' := [.int v2, .ref 6]) (h' := h) rfl ?_
  refine Wp.callI (op_ix (by decide) ol_30 3 rfl) rfl rfl (sp_at (kS HS 6 rfl) (nS HS 6 rfl) ?_)
  refine ⟨_, rfl, ?_⟩
  refine Wp.ret (op_ix (by decide) ol_30 4 rfl) rfl ⟨_, rfl, ?_⟩
  refine Wp.blk (by decide) ol_17 3 3 (pc' := 8) (L' := [.ref v0, .ref 5, .int v2, .int (atv h 6 v2), mk0, mk0, mk0]) (S' := [.int v2, .ref 5]) (h' := h) rfl ?_
  refine Wp.callI (op_ix (by decide) ol_17 6 rfl) (act_virt (c2 := 1) rfl (lk1 (kS HS 5 rfl)) rfl) rfl (Cl.enter (L := [.ref 5, .int v2]) rfl ?_)
  refine Wp.blk (by decide) ol_31 0 1 (pc' := 1) (L' := [.ref 5, .int v2]) (S' := [.ref 5]) (h' := h) rfl ?_
  refine Wp.getf (op_ix (by decide) ol_31 1 rfl) (okS HS 5 rfl rfl) (v := .ref 7) (congrArg va_rf (rS HS 5 1 rfl)) rfl ?_
  refine Wp.blk (by decide) ol_31 2 1 (pc' := 5) (L' := [.ref 5, .int v2]) (S' := [.int v2, .ref 7]) (h' := h) rfl ?_
  refine Wp.callI (op_ix (by decide) ol_31 3 rfl) rfl rfl (sp_at (kS HS 7 rfl) (nS HS 7 rfl) ?_)
  refine ⟨_, rfl, ?_⟩
  refine Wp.ret (op_ix (by decide) ol_31 4 rfl) rfl ⟨_, rfl, ?_⟩
  refine Wp.blk (by decide) ol_17 7 2 (pc' := 14) (L' := [.ref v0, .ref 5, .int v2, .int (atv h 6 v2), .int (atv h 7 v2), mk0, mk0]) (S' := [.ref v0]) (h' := h) rfl ?_
  obtain ⟨k1, K⟩ := K
  obtain ⟨i2, q3, K⟩ := K
  refine Wp.getf (op_ix (by decide) ol_17 9 rfl) k1 (v := .ref i2) (congrArg va_rf q3) rfl ?_
  refine Wp.blk (by decide) ol_17 10 1 (pc' := 18) (L' := [.ref v0, .ref 5, .int v2, .int (atv h 6 v2), .int (atv h 7 v2), mk0, mk0]) (S' := [.int (atv h 6 v2), .ref i2]) (h' := h) rfl ?_
  obtain ⟨k4, K⟩ := K
  obtain ⟨l5, K⟩ := K
  refine Wp.callI (op_ix (by decide) ol_17 11 rfl) rfl rfl (sp_at k4 l5 ?_)
  refine ⟨_, rfl, ?_⟩
  refine Wp.blk (by decide) ol_17 12 3 (pc' := 24) (L' := [.ref v0, .ref 5, .int v2, .int (atv h 6 v2), .int (atv h 7 v2), mk0, mk0]) (S' := [.ref v0, .int (((atv h i2 ((atv h 6 v2)))) + ((1 : Int32)))]) (h' := h) rfl ?_
  obtain ⟨i6, q7, K⟩ := K
  refine Wp.getf (op_ix (by decide) ol_17 15 rfl) k1 (v := .ref i6) (congrArg va_rf q7) rfl ?_
  refine Wp.blk (by decide) ol_17 16 1 (pc' := 29) (L' := [.ref v0, .ref 5, .int v2, .int (atv h 6 v2), .int (atv h 7 v2), mk0, mk0]) (S' := [.int (atv h 7 v2), .ref i6, .int (((atv h i2 ((atv h 6 v2)))) + ((1 : Int32)))]) (h' := h) rfl ?_
  obtain ⟨k8, K⟩ := K
  obtain ⟨l9, K⟩ := K
  refine Wp.callI (op_ix (by decide) ol_17 17 rfl) rfl rfl (sp_at k8 l9 ?_)
  refine ⟨_, rfl, ?_⟩
  refine Wp.blk (by decide) ol_17 18 3 (pc' := 36) (L' := [.ref v0, .ref 5, .int v2, .int (atv h 6 v2), .int (atv h 7 v2), .int (((((atv h i2 ((atv h 6 v2)))) + ((1 : Int32)))) + ((atv h i6 ((atv h 7 v2))))), mk0]) (S' := [.ref v0]) (h' := h) rfl ?_
  obtain ⟨i10, q11, K⟩ := K
  refine Wp.getf (op_ix (by decide) ol_17 21 rfl) k1 (v := .ref i10) (congrArg va_rf q11) rfl ?_
  refine Wp.blk (by decide) ol_17 22 1 (pc' := 41) (L' := [.ref v0, .ref 5, .int v2, .int (atv h 6 v2), .int (atv h 7 v2), .int (((((atv h i2 ((atv h 6 v2)))) + ((1 : Int32)))) + ((atv h i6 ((atv h 7 v2))))), mk0]) (S' := [.int (atv h 7 v2), .ref i10]) (h' := h) rfl ?_
  obtain ⟨k12, K⟩ := K
  obtain ⟨l13, K⟩ := K
  refine Wp.callI (op_ix (by decide) ol_17 23 rfl) rfl rfl (sp_at k12 l13 ?_)
  refine ⟨_, rfl, ?_⟩
  refine Wp.blk (by decide) ol_17 24 3 (pc' := 47) (L' := [.ref v0, .ref 5, .int v2, .int (atv h 6 v2), .int (atv h 7 v2), .int (((((atv h i2 ((atv h 6 v2)))) + ((1 : Int32)))) + ((atv h i6 ((atv h 7 v2))))), mk0]) (S' := [.ref v0, .int (((atv h i10 ((atv h 7 v2)))) + ((1 : Int32)))]) (h' := h) rfl ?_
  obtain ⟨i14, q15, K⟩ := K
  refine Wp.getf (op_ix (by decide) ol_17 27 rfl) k1 (v := .ref i14) (congrArg va_rf q15) rfl ?_
  refine Wp.blk (by decide) ol_17 28 1 (pc' := 51) (L' := [.ref v0, .ref 5, .int v2, .int (atv h 6 v2), .int (atv h 7 v2), .int (((((atv h i2 ((atv h 6 v2)))) + ((1 : Int32)))) + ((atv h i6 ((atv h 7 v2))))), mk0]) (S' := [.int (atv h 6 v2), .ref i14, .int (((atv h i10 ((atv h 7 v2)))) + ((1 : Int32)))]) (h' := h) rfl ?_
  obtain ⟨k16, K⟩ := K
  obtain ⟨l17, K⟩ := K
  refine Wp.callI (op_ix (by decide) ol_17 29 rfl) rfl rfl (sp_at k16 l17 ?_)
  refine ⟨_, rfl, ?_⟩
  refine Wp.blk (by decide) ol_17 30 4 (pc' := 61) (L' := [.ref v0, .ref 5, .int v2, .int (atv h 6 v2), .int (atv h 7 v2), .int (((((atv h i2 ((atv h 6 v2)))) + ((1 : Int32)))) + ((atv h i6 ((atv h 7 v2))))), .int (((((atv h i10 ((atv h 7 v2)))) + ((1 : Int32)))) + ((atv h i14 ((atv h 6 v2)))))]) (S' := [.int (((((atv h i10 ((atv h 7 v2)))) + ((1 : Int32)))) + ((atv h i14 ((atv h 6 v2))))), .int (((((atv h i2 ((atv h 6 v2)))) + ((1 : Int32)))) + ((atv h i6 ((atv h 7 v2)))))]) (h' := h) rfl ?_
  refine Wp.blk (by decide) ol_17 34 1 (pc' := 64) (L' := [.ref v0, .ref 5, .int v2, .int (atv h 6 v2), .int (atv h 7 v2), .int (((((atv h i2 ((atv h 6 v2)))) + ((1 : Int32)))) + ((atv h i6 ((atv h 7 v2))))), .int (((((atv h i10 ((atv h 7 v2)))) + ((1 : Int32)))) + ((atv h i14 ((atv h 6 v2)))))]) (S' := [.int (if (((((atv h i10 ((atv h 7 v2)))) + ((1 : Int32)))) + ((atv h i14 ((atv h 6 v2))))) < (((((atv h i2 ((atv h 6 v2)))) + ((1 : Int32)))) + ((atv h i6 ((atv h 7 v2))))) then (((((atv h i10 ((atv h 7 v2)))) + ((1 : Int32)))) + ((atv h i14 ((atv h 6 v2))))) else (((((atv h i2 ((atv h 6 v2)))) + ((1 : Int32)))) + ((atv h i6 ((atv h 7 v2))))))]) (h' := h) rfl ?_
  exact Wp.ret (op_ix (by decide) ol_17 35 rfl) rfl K
/-- CutsOrFast$Near.measure at 0 ([IILCutsOrFast$Stand;)V -/
theorem g18_0 (d : Nat) (v0 : Nat) (v1 : Int32) (v2 : Nat) (h : AH) (HS : Sh h) (t2 : St3 v2) (Q : Option Value → AH → Prop) (K : Wp d 18 2 [.ref v0, .int v1, .ref v2, .int (0 : Int32)] [] h Q) : Wp d 18 0 [.ref v0, .int v1, .ref v2, mk0] [] h Q := by
  refine Wp.blk (by decide) ol_18 0 2 (pc' := 2) (L' := [.ref v0, .int v1, .ref v2, .int (0 : Int32)]) (S' := []) (h' := h) rfl ?_
  exact K
/-- CutsOrFast$Near.measure at 2 -/
theorem g18_2 (d : Nat) (v0 : Nat) (v1 : Int32) (v2 : Nat) (v3 : Int32) (h : AH) (HS : Sh h) (t2 : St3 v2) (Q : Option Value → AH → Prop) (K : (((AK h v0).1 = 20 ∨ (AK h v0).1 = 21 ∨ (AK h v0).1 = 24) ∧ ((v3 < (Int32.ofNat (AK h v0).2) → ((AK h v0).1 = 20 ∧ inR h v0 v3 = true ∧ 2 ≤ v0 ∧ Wp (d + 1) 18 2 [.ref v0, .int v1, .ref v2, .int (v3 + (1 : Int32))] [] (stI h v0 v3.toNatClampNeg ((1000 : Int32))) Q)) ∧ (¬ v3 < (Int32.ofNat (AK h v0).2) → ((AK h v0).1 = 20 ∧ (AK h v0).2 < 2147483648 ∧ 2 ≤ v0 ∧ (∀ h9, h9 = (putv h v0 v1 ((0 : Int32))) → Wp (d + 1) 18 28 [.ref v0, mk0, .ref v2, .int (1 : Int32)] [] h9 Q)))))) : Wp (d + 1) 18 2 [.ref v0, .int v1, .ref v2, .int v3] [] h Q := by
  refine Wp.blk (by decide) ol_18 2 2 (pc' := 4) (L' := [.ref v0, .int v1, .ref v2, .int v3]) (S' := [.ref v0, .int v3]) (h' := h) rfl ?_
  obtain ⟨k1, K⟩ := K
  refine Wp.alen (op_ix (by decide) ol_18 4 rfl) k1 rfl ?_
  refine Wp.blk (by decide) ol_18 5 1 (pc' := (if v3 < (Int32.ofNat (AK h v0).2) then 8 else 20)) (L' := [.ref v0, .int v1, .ref v2, .int v3]) (S' := []) (h' := h) rfl ?_
  refine Wp.br (fun c2 => ?_) (fun c2 => ?_)
  · replace K := K.1 c2
    refine Wp.blk (by decide) ol_18 6 3 (pc' := 13) (L' := [.ref v0, .int v1, .ref v2, .int v3]) (S' := [.int (1000 : Int32), .int v3, .ref v0]) (h' := h) rfl ?_
    obtain ⟨k3, K⟩ := K
    obtain ⟨r4, K⟩ := K
    obtain ⟨b5, K⟩ := K
    refine Wp.iast (op_ix (by decide) ol_18 9 rfl) b5 k3 r4 rfl ?_
    refine Wp.blk (by decide) ol_18 10 2 (pc' := 2) (L' := [.ref v0, .int v1, .ref v2, .int (v3 + (1 : Int32))]) (S' := []) (h' := (stI h v0 v3.toNatClampNeg ((1000 : Int32)))) rfl ?_
    exact K
  · replace K := K.2 c2
    refine Wp.blk (by decide) ol_18 12 3 (pc' := 23) (L' := [.ref v0, .int v1, .ref v2, .int v3]) (S' := [.int (0 : Int32), .int v1, .ref v0]) (h' := h) rfl ?_
    obtain ⟨k6, K⟩ := K
    obtain ⟨l7, K⟩ := K
    obtain ⟨b8, K⟩ := K
    refine Wp.callV (op_ix (by decide) ol_18 15 rfl) rfl rfl (sp_put k6 l7 b8 ?_)
    refine ⟨rfl, ?_⟩
    obtain ⟨h9, e10⟩ : ∃ y, y = (putv h v0 v1 ((0 : Int32))) := ⟨_, rfl⟩
    rw [← e10]
    replace K := K h9 e10
    have hs11 : Sh h9 := by rw [e10]; exact Sh.putv HS _ _ _
    refine Wp.blk (by decide) ol_18 16 2 (pc' := 28) (L' := [.ref v0, .int v1, .ref v2, .int (1 : Int32)]) (S' := []) (h' := h9) rfl ?_
    refine Wp.forget (L := [.ref v0, mk0, .ref v2, .int (1 : Int32)]) (⟨Or.inr rfl, ⟨Or.inl rfl, ⟨Or.inr rfl, ⟨Or.inr rfl, trivial⟩⟩⟩⟩) ?_
    exact K
/-- CutsOrFast$Near.measure at 28 -/
theorem g18_28 (d : Nat) (v0 : Nat) (v2 : Nat) (v3 : Int32) (h : AH) (HS : Sh h) (t2 : St3 v2) (Q : Option Value → AH → Prop) (K : ((v3 < (6 : Int32) → (Cl d 19 [.ref v0, .ref v2] h (fun r h2 => r = none ∧ Sh h2 ∧ Wp (d + 1) 18 28 [.ref v0, mk0, .ref v2, .int (v3 + (1 : Int32))] [] h2 Q))) ∧ (¬ v3 < (6 : Int32) → Q none h))) : Wp (d + 1) 18 28 [.ref v0, mk0, .ref v2, .int v3] [] h Q := by
  refine Wp.blk (by decide) ol_18 18 3 (pc' := (if v3 < (6 : Int32) then 34 else 45)) (L' := [.ref v0, mk0, .ref v2, .int v3]) (S' := []) (h' := h) rfl ?_
  refine Wp.br (fun c1 => ?_) (fun c1 => ?_)
  · replace K := K.1 c1
    refine Wp.blk (by decide) ol_18 21 2 (pc' := 36) (L' := [.ref v0, mk0, .ref v2, .int v3]) (S' := [.ref v2, .ref v0]) (h' := h) rfl ?_
    refine Wp.callV (op_ix (by decide) ol_18 23 rfl) rfl rfl (K.mono ?_)
    rintro _ h2 ⟨rfl, hs3, K⟩
    refine ⟨rfl, ?_⟩
    refine Wp.blk (by decide) ol_18 24 2 (pc' := 28) (L' := [.ref v0, mk0, .ref v2, .int (v3 + (1 : Int32))]) (S' := []) (h' := h2) rfl ?_
    exact K
  · replace K := K.2 c1
    exact Wp.ret (op_ix (by decide) ol_18 26 rfl) rfl K
/-- CutsOrFast$Near.shorten at 0 ([ILCutsOrFast$Stand;)V -/
theorem g19_0 (d : Nat) (v0 : Nat) (v1 : Nat) (h : AH) (HS : Sh h) (t1 : St3 v1) (Q : Option Value → AH → Prop) (K : Wp (d + 1) 19 7 [.ref v0, .ref v1, .ref 5, .int (0 : Int32), mk0, mk0, mk0, mk0] [] h Q) : Wp (d + 1) 19 0 [.ref v0, .ref v1, mk0, mk0, mk0, mk0, mk0, mk0] [] h Q := by
  refine Wp.blk (by decide) ol_19 0 1 (pc' := 1) (L' := [.ref v0, .ref v1, mk0, mk0, mk0, mk0, mk0, mk0]) (S' := [.ref v1]) (h' := h) rfl ?_
  refine Wp.callR (op_ix (by decide) ol_19 1 rfl) (act_virt (c2 := 0) rfl (lk1 (kT HS t1)) rfl) rfl (Cl.enter (L := [.ref v1]) rfl ?_)
  refine Wp.blk (by decide) ol_79 0 1 (pc' := 1) (L' := [.ref v1]) (S' := [.ref v1]) (h' := h) rfl ?_
  refine Wp.getf (op_ix (by decide) ol_79 1 rfl) (okT HS t1) (v := .ref 5) (congrArg va_rf (rT0 HS t1)) rfl ?_
  refine Wp.ret (op_ix (by decide) ol_79 2 rfl) rfl (Or.inl ⟨_, rfl, ?_⟩)
  refine Wp.blk (by decide) ol_19 2 3 (pc' := 7) (L' := [.ref v0, .ref v1, .ref 5, .int (0 : Int32), mk0, mk0, mk0, mk0]) (S' := []) (h' := h) rfl ?_
  exact K
/-- CutsOrFast$Near.shorten at 7 -/
theorem g19_7 (d : Nat) (v0 : Nat) (v1 : Nat) (v2 : Nat) (v3 : Int32) (h : AH) (HS : Sh h) (t1 : St3 v1) (Q : Option Value → AH → Prop) (K : ((AK h v2).1 = 5 ∧ (okC 5 (AK h v2).1 = true ∧ ((v3 < (AI h v2 5) → (Cl d 78 [.ref v1, .int v3] h (fun r h4 => ∃ x6 : Int32, r = some (.int x6) ∧ Sh h4 ∧ ((x6 = (2 : Int32) → Wp (d + 1) 19 7 [.ref v0, .ref v1, .ref v2, .int (v3 + (1 : Int32)), mk0, mk0, mk0, mk0] [] h4 Q) ∧ (¬ x6 = (2 : Int32) → ((x6 = (1 : Int32) → Wp (d + 1) 19 39 [.ref v0, .ref v1, .ref v2, .int v3, mk0, mk0, mk0, mk0] [.int (0 : Int32)] h4 Q) ∧ (¬ x6 = (1 : Int32) → Wp (d + 1) 19 39 [.ref v0, .ref v1, .ref v2, .int v3, mk0, mk0, mk0, mk0] [.int (1 : Int32)] h4 Q))))))) ∧ (¬ v3 < (AI h v2 5) → Q none h))))) : Wp (d + 1) 19 7 [.ref v0, .ref v1, .ref v2, .int v3, mk0, mk0, mk0, mk0] [] h Q := by
  refine Wp.blk (by decide) ol_19 5 2 (pc' := 9) (L' := [.ref v0, .ref v1, .ref v2, .int v3, mk0, mk0, mk0, mk0]) (S' := [.ref v2, .int v3]) (h' := h) rfl ?_
  obtain ⟨k1, K⟩ := K
  refine Wp.callI (op_ix (by decide) ol_19 7 rfl) (act_virt (c2 := 0) rfl (lk1 k1) rfl) rfl (Cl.enter (L := [.ref v2]) rfl ?_)
  refine Wp.blk (by decide) ol_26 0 1 (pc' := 1) (L' := [.ref v2]) (S' := [.ref v2]) (h' := h) rfl ?_
  obtain ⟨k2, K⟩ := K
  refine Wp.getf (op_ix (by decide) ol_26 1 rfl) k2 (v := .int (AI h v2 5)) rfl rfl ?_
  refine Wp.ret (op_ix (by decide) ol_26 2 rfl) rfl ⟨_, rfl, ?_⟩
  refine Wp.blk (by decide) ol_19 8 1 (pc' := (if v3 < (AI h v2 5) then 15 else 109)) (L' := [.ref v0, .ref v1, .ref v2, .int v3, mk0, mk0, mk0, mk0]) (S' := []) (h' := h) rfl ?_
  refine Wp.br (fun c3 => ?_) (fun c3 => ?_)
  · replace K := K.1 c3
    refine Wp.blk (by decide) ol_19 9 2 (pc' := 17) (L' := [.ref v0, .ref v1, .ref v2, .int v3, mk0, mk0, mk0, mk0]) (S' := [.int v3, .ref v1]) (h' := h) rfl ?_
    refine Wp.callI (op_ix (by decide) ol_19 11 rfl) (act_virt (c2 := 1) rfl (lk1 (kT HS t1)) rfl) rfl (K.mono ?_)
    rintro _ h4 ⟨x6, rfl, hs5, K⟩
    refine ⟨x6, rfl, ?_⟩
    refine Wp.blk (by decide) ol_19 12 4 (pc' := (if x6 = (2 : Int32) then 103 else 28)) (L' := [.ref v0, .ref v1, .ref v2, .int v3, .int x6, mk0, mk0, mk0]) (S' := []) (h' := h4) rfl ?_
    refine Wp.br (fun c7 => ?_) (fun c7 => ?_)
    · replace K := K.1 c7
      refine Wp.blk (by decide) ol_19 55 2 (pc' := 7) (L' := [.ref v0, .ref v1, .ref v2, .int (v3 + (1 : Int32)), .int x6, mk0, mk0, mk0]) (S' := []) (h' := h4) rfl ?_
      refine Wp.forget (L := [.ref v0, .ref v1, .ref v2, .int (v3 + (1 : Int32)), mk0, mk0, mk0, mk0]) (⟨Or.inr rfl, ⟨Or.inr rfl, ⟨Or.inr rfl, ⟨Or.inr rfl, ⟨Or.inl rfl, ⟨Or.inr rfl, ⟨Or.inr rfl, ⟨Or.inr rfl, trivial⟩⟩⟩⟩⟩⟩⟩⟩) ?_
      exact K
    · replace K := K.2 c7
      refine Wp.blk (by decide) ol_19 16 3 (pc' := (if x6 = (1 : Int32) then 34 else 38)) (L' := [.ref v0, .ref v1, .ref v2, .int v3, .int x6, mk0, mk0, mk0]) (S' := []) (h' := h4) rfl ?_
      refine Wp.br (fun c8 => ?_) (fun c8 => ?_)
      · replace K := K.1 c8
        refine Wp.blk (by decide) ol_19 19 2 (pc' := 39) (L' := [.ref v0, .ref v1, .ref v2, .int v3, .int x6, mk0, mk0, mk0]) (S' := [.int (0 : Int32)]) (h' := h4) rfl ?_
        refine Wp.forget (L := [.ref v0, .ref v1, .ref v2, .int v3, mk0, mk0, mk0, mk0]) (⟨Or.inr rfl, ⟨Or.inr rfl, ⟨Or.inr rfl, ⟨Or.inr rfl, ⟨Or.inl rfl, ⟨Or.inr rfl, ⟨Or.inr rfl, ⟨Or.inr rfl, trivial⟩⟩⟩⟩⟩⟩⟩⟩) ?_
        exact K
      · replace K := K.2 c8
        refine Wp.blk (by decide) ol_19 21 1 (pc' := 39) (L' := [.ref v0, .ref v1, .ref v2, .int v3, .int x6, mk0, mk0, mk0]) (S' := [.int (1 : Int32)]) (h' := h4) rfl ?_
        refine Wp.forget (L := [.ref v0, .ref v1, .ref v2, .int v3, mk0, mk0, mk0, mk0]) (⟨Or.inr rfl, ⟨Or.inr rfl, ⟨Or.inr rfl, ⟨Or.inr rfl, ⟨Or.inl rfl, ⟨Or.inr rfl, ⟨Or.inr rfl, ⟨Or.inr rfl, trivial⟩⟩⟩⟩⟩⟩⟩⟩) ?_
        exact K
  · replace K := K.2 c3
    exact Wp.ret (op_ix (by decide) ol_19 57 rfl) rfl K
/-- CutsOrFast$Near.shorten at 39 -/
theorem g19_39 (d : Nat) (v0 : Nat) (v1 : Nat) (v2 : Nat) (v3 : Int32) (s0 : Int32) (h : AH) (HS : Sh h) (t1 : St3 v1) (Q : Option Value → AH → Prop) (K : ((AK h v2).1 = 5 ∧ (okC 5 (AK h v2).1 = true ∧ ∃ i3 : Nat, AR h v2 0 = some i3 ∧ (AK h i3).1 = 20 ∧ (AK h i3).2 < 2147483648 ∧ (∃ i7 : Nat, AR h v2 1 = some i7 ∧ (AK h i7).1 = 20 ∧ (AK h i7).2 < 2147483648 ∧ ((AK h v0).1 = 20 ∧ (AK h v0).2 < 2147483648 ∧ 2 ≤ v0 ∧ (∀ h14, h14 = (putv h v0 ((atv h i3 v3)) ((if (((atv h v0 ((atv h i7 v3)))) + s0) < (atv h v0 ((atv h i3 v3))) then (((atv h v0 ((atv h i7 v3)))) + s0) else (atv h v0 ((atv h i3 v3)))))) → ((AK h14 v0).1 = 20 ∧ (AK h14 v0).2 < 2147483648 ∧ (∀ h19, h19 = (putv h14 v0 ((atv h i7 v3)) ((if (((atv h14 v0 ((atv h i3 v3)))) + s0) < (atv h14 v0 ((atv h i7 v3))) then (((atv h14 v0 ((atv h i3 v3)))) + s0) else (atv h14 v0 ((atv h i7 v3)))))) → Wp (d + 2) 19 7 [.ref v0, .ref v1, .ref v2, .int (v3 + (1 : Int32)), mk0, mk0, mk0, mk0] [] h19 Q)))))))) : Wp (d + 2) 19 39 [.ref v0, .ref v1, .ref v2, .int v3, mk0, mk0, mk0, mk0] [.int s0] h Q := by
  refine Wp.blk (by decide) ol_19 22 3 (pc' := 43) (L' := [.ref v0, .ref v1, .ref v2, .int v3, mk0, .int s0, mk0, mk0]) (S' := [.int v3, .ref v2]) (h' := h) rfl ?_
  obtain ⟨k1, K⟩ := K
  refine Wp.callI (op_ix (by decide) ol_19 25 rfl) (act_virt (c2 := 1) rfl (lk1 k1) rfl) rfl (Cl.enter (L := [.ref v2, .int v3]) rfl ?_)
  refine Wp.blk (by decide) ol_30 0 1 (pc' := 1) (L' := [.ref v2, .int v3]) (S' := [.ref v2]) (h' := h) rfl ?_
  obtain ⟨k2, K⟩ := K
  obtain ⟨i3, q4, K⟩ := K
  refine Wp.getf (op_ix (by decide) ol_30 1 rfl) k2 (v := .ref i3) (congrArg va_rf q4) rfl ?_
  refine Wp.blk (by decide) ol_30 2 1 (pc' := 5) (L' := [.ref v2, .int v3]) (S' := [.int v3, .ref i3]) (h' := h) rfl ?_
  obtain ⟨k5, K⟩ := K
  obtain ⟨l6, K⟩ := K
  refine Wp.callI (op_ix (by decide) ol_30 3 rfl) rfl rfl (sp_at k5 l6 ?_)
  refine ⟨_, rfl, ?_⟩
  refine Wp.ret (op_ix (by decide) ol_30 4 rfl) rfl ⟨_, rfl, ?_⟩
  refine Wp.blk (by decide) ol_19 26 3 (pc' := 50) (L' := [.ref v0, .ref v1, .ref v2, .int v3, mk0, .int s0, .int (atv h i3 v3), mk0]) (S' := [.int v3, .ref v2]) (h' := h) rfl ?_
  refine Wp.callI (op_ix (by decide) ol_19 29 rfl) (act_virt (c2 := 1) rfl (lk1 k1) rfl) rfl (Cl.enter (L := [.ref v2, .int v3]) rfl ?_)
  refine Wp.blk (by decide) ol_31 0 1 (pc' := 1) (L' := [.ref v2, .int v3]) (S' := [.ref v2]) (h' := h) rfl ?_
  obtain ⟨i7, q8, K⟩ := K
  refine Wp.getf (op_ix (by decide) ol_31 1 rfl) k2 (v := .ref i7) (congrArg va_rf q8) rfl ?_
  refine Wp.blk (by decide) ol_31 2 1 (pc' := 5) (L' := [.ref v2, .int v3]) (S' := [.int v3, .ref i7]) (h' := h) rfl ?_
  obtain ⟨k9, K⟩ := K
  obtain ⟨l10, K⟩ := K
  refine Wp.callI (op_ix (by decide) ol_31 3 rfl) rfl rfl (sp_at k9 l10 ?_)
  refine ⟨_, rfl, ?_⟩
  refine Wp.ret (op_ix (by decide) ol_31 4 rfl) rfl ⟨_, rfl, ?_⟩
  refine Wp.blk (by decide) ol_19 30 5 (pc' := 61) (L' := [.ref v0, .ref v1, .ref v2, .int v3, mk0, .int s0, .int (atv h i3 v3), .int (atv h i7 v3)]) (S' := [.int (atv h i3 v3), .ref v0, .int (atv h i3 v3), .ref v0]) (h' := h) rfl ?_
  obtain ⟨k11, K⟩ := K
  obtain ⟨l12, K⟩ := K
  refine Wp.callI (op_ix (by decide) ol_19 35 rfl) rfl rfl (sp_at k11 l12 ?_)
  refine ⟨_, rfl, ?_⟩
  refine Wp.blk (by decide) ol_19 36 2 (pc' := 67) (L' := [.ref v0, .ref v1, .ref v2, .int v3, mk0, .int s0, .int (atv h i3 v3), .int (atv h i7 v3)]) (S' := [.int (atv h i7 v3), .ref v0, .int (atv h v0 ((atv h i3 v3))), .int (atv h i3 v3), .ref v0]) (h' := h) rfl ?_
  refine Wp.callI (op_ix (by decide) ol_19 38 rfl) rfl rfl (sp_at k11 l12 ?_)
  refine ⟨_, rfl, ?_⟩
  refine Wp.blk (by decide) ol_19 39 2 (pc' := 73) (L' := [.ref v0, .ref v1, .ref v2, .int v3, mk0, .int s0, .int (atv h i3 v3), .int (atv h i7 v3)]) (S' := [.int (((atv h v0 ((atv h i7 v3)))) + s0), .int (atv h v0 ((atv h i3 v3))), .int (atv h i3 v3), .ref v0]) (h' := h) rfl ?_
  refine Wp.blk (by decide) ol_19 41 1 (pc' := 76) (L' := [.ref v0, .ref v1, .ref v2, .int v3, mk0, .int s0, .int (atv h i3 v3), .int (atv h i7 v3)]) (S' := [.int (if (((atv h v0 ((atv h i7 v3)))) + s0) < (atv h v0 ((atv h i3 v3))) then (((atv h v0 ((atv h i7 v3)))) + s0) else (atv h v0 ((atv h i3 v3)))), .int (atv h i3 v3), .ref v0]) (h' := h) rfl ?_
  obtain ⟨b13, K⟩ := K
  refine Wp.callV (op_ix (by decide) ol_19 42 rfl) rfl rfl (sp_put k11 l12 b13 ?_)
  refine ⟨rfl, ?_⟩
  obtain ⟨h14, e15⟩ : ∃ y, y = (putv h v0 ((atv h i3 v3)) ((if (((atv h v0 ((atv h i7 v3)))) + s0) < (atv h v0 ((atv h i3 v3))) then (((atv h v0 ((atv h i7 v3)))) + s0) else (atv h v0 ((atv h i3 v3)))))) := ⟨_, rfl⟩
  rw [← e15]
  replace K := K h14 e15
  have hs16 : Sh h14 := by rw [e15]; exact Sh.putv HS _ _ _
  refine Wp.blk (by decide) ol_19 43 4 (pc' := 85) (L' := [.ref v0, .ref v1, .ref v2, .int v3, mk0, .int s0, .int (atv h i3 v3), .int (atv h i7 v3)]) (S' := [.int (atv h i7 v3), .ref v0, .int (atv h i7 v3), .ref v0]) (h' := h14) rfl ?_
  obtain ⟨k17, K⟩ := K
  obtain ⟨l18, K⟩ := K
  refine Wp.callI (op_ix (by decide) ol_19 47 rfl) rfl rfl (sp_at k17 l18 ?_)
  refine ⟨_, rfl, ?_⟩
  refine Wp.blk (by decide) ol_19 48 2 (pc' := 91) (L' := [.ref v0, .ref v1, .ref v2, .int v3, mk0, .int s0, .int (atv h i3 v3), .int (atv h i7 v3)]) (S' := [.int (atv h i3 v3), .ref v0, .int (atv h14 v0 ((atv h i7 v3))), .int (atv h i7 v3), .ref v0]) (h' := h14) rfl ?_
  refine Wp.callI (op_ix (by decide) ol_19 50 rfl) rfl rfl (sp_at k17 l18 ?_)
  refine ⟨_, rfl, ?_⟩
  refine Wp.blk (by decide) ol_19 51 2 (pc' := 97) (L' := [.ref v0, .ref v1, .ref v2, .int v3, mk0, .int s0, .int (atv h i3 v3), .int (atv h i7 v3)]) (S' := [.int (((atv h14 v0 ((atv h i3 v3)))) + s0), .int (atv h14 v0 ((atv h i7 v3))), .int (atv h i7 v3), .ref v0]) (h' := h14) rfl ?_
  refine Wp.blk (by decide) ol_19 53 1 (pc' := 100) (L' := [.ref v0, .ref v1, .ref v2, .int v3, mk0, .int s0, .int (atv h i3 v3), .int (atv h i7 v3)]) (S' := [.int (if (((atv h14 v0 ((atv h i3 v3)))) + s0) < (atv h14 v0 ((atv h i7 v3))) then (((atv h14 v0 ((atv h i3 v3)))) + s0) else (atv h14 v0 ((atv h i7 v3)))), .int (atv h i7 v3), .ref v0]) (h' := h14) rfl ?_
  refine Wp.callV (op_ix (by decide) ol_19 54 rfl) rfl rfl (sp_put k17 l18 b13 ?_)
  refine ⟨rfl, ?_⟩
  obtain ⟨h19, e20⟩ : ∃ y, y = (putv h14 v0 ((atv h i7 v3)) ((if (((atv h14 v0 ((atv h i3 v3)))) + s0) < (atv h14 v0 ((atv h i7 v3))) then (((atv h14 v0 ((atv h i3 v3)))) + s0) else (atv h14 v0 ((atv h i7 v3)))))) := ⟨_, rfl⟩
  rw [← e20]
  replace K := K h19 e20
  have hs21 : Sh h19 := by rw [e20]; exact Sh.putv hs16 _ _ _
  refine Wp.blk (by decide) ol_19 55 2 (pc' := 7) (L' := [.ref v0, .ref v1, .ref v2, .int (v3 + (1 : Int32)), mk0, .int s0, .int (atv h i3 v3), .int (atv h i7 v3)]) (S' := []) (h' := h19) rfl ?_
  refine Wp.forget (L := [.ref v0, .ref v1, .ref v2, .int (v3 + (1 : Int32)), mk0, mk0, mk0, mk0]) (⟨Or.inr rfl, ⟨Or.inr rfl, ⟨Or.inr rfl, ⟨Or.inr rfl, ⟨Or.inr rfl, ⟨Or.inl rfl, ⟨Or.inl rfl, ⟨Or.inl rfl, trivial⟩⟩⟩⟩⟩⟩⟩⟩) ?_
  exact K
/-- CutsOrFast$Net.<init> at 0 ()V -/
theorem g20_0 (d : Nat) (v0 : Nat) (h : AH)  (Q : Option Value → AH → Prop) (K : (∀ n1, n1 = (NX h) → ∀ h2, h2 = (newO h 20 10) → (okC 5 (AK h2 v0).1 = true ∧ 2 ≤ v0 ∧ (∀ n7, n7 = (NX ((stR h2 v0 0 (some n1)))) → ∀ h8, h8 = (newO ((stR h2 v0 0 (some n1))) 20 10) → (okC 5 (AK h8 v0).1 = true ∧ (∀ n12, n12 = (NX ((stR h8 v0 1 (some n7)))) → ∀ h13, h13 = (newO ((stR h8 v0 1 (some n7))) 20 10) → (okC 5 (AK h13 v0).1 = true ∧ (∀ n17, n17 = (NX ((stR h13 v0 2 (some n12)))) → ∀ h18, h18 = (newO ((stR h13 v0 2 (some n12))) 20 10) → (okC 5 (AK h18 v0).1 = true ∧ (∀ n22, n22 = (NX ((stR h18 v0 3 (some n17)))) → ∀ h23, h23 = (newO ((stR h18 v0 3 (some n17))) 20 1024) → (okC 5 (AK h23 v0).1 = true ∧ Q none (stR h23 v0 4 (some n22))))))))))))) : Wp d 20 0 [.ref v0] [] h Q := by
  refine Wp.blk (by decide) ol_20 0 4 (pc' := 7) (L' := [.ref v0]) (S' := [.int (10 : Int32), .ref v0]) (h' := h) rfl ?_
  refine Wp.blk (by decide) ol_20 4 1 (pc' := 9) (L' := [.ref v0]) (S' := [.ref (NX h), .ref v0]) (h' := (newO h 20 10)) rfl ?_
  obtain ⟨n1, e3⟩ : ∃ x, x = (NX h) := ⟨_, rfl⟩
  obtain ⟨h2, e4⟩ : ∃ x, x = (newO h 20 10) := ⟨_, rfl⟩
  rw [← e4, ← e3]
  replace K := K n1 e3 h2 e4
  obtain ⟨k5, K⟩ := K
  obtain ⟨b6, K⟩ := K
  refine Wp.putf (op_ix (by decide) ol_20 5 rfl) b6 k5 (h' := (stR h2 v0 0 (some n1))) rfl rfl ?_
  refine Wp.blk (by decide) ol_20 6 2 (pc' := 15) (L' := [.ref v0]) (S' := [.int (10 : Int32), .ref v0]) (h' := (stR h2 v0 0 (some n1))) rfl ?_
  refine Wp.blk (by decide) ol_20 8 1 (pc' := 17) (L' := [.ref v0]) (S' := [.ref (NX ((stR h2 v0 0 (some n1)))), .ref v0]) (h' := (newO ((stR h2 v0 0 (some n1))) 20 10)) rfl ?_
  obtain ⟨n7, e9⟩ : ∃ x, x = (NX ((stR h2 v0 0 (some n1)))) := ⟨_, rfl⟩
  obtain ⟨h8, e10⟩ : ∃ x, x = (newO ((stR h2 v0 0 (some n1))) 20 10) := ⟨_, rfl⟩
  rw [← e10, ← e9]
  replace K := K n7 e9 h8 e10
  obtain ⟨k11, K⟩ := K
  refine Wp.putf (op_ix (by decide) ol_20 9 rfl) b6 k11 (h' := (stR h8 v0 1 (some n7))) rfl rfl ?_
  refine Wp.blk (by decide) ol_20 10 2 (pc' := 23) (L' := [.ref v0]) (S' := [.int (10 : Int32), .ref v0]) (h' := (stR h8 v0 1 (some n7))) rfl ?_
  refine Wp.blk (by decide) ol_20 12 1 (pc' := 25) (L' := [.ref v0]) (S' := [.ref (NX ((stR h8 v0 1 (some n7)))), .ref v0]) (h' := (newO ((stR h8 v0 1 (some n7))) 20 10)) rfl ?_
  obtain ⟨n12, e14⟩ : ∃ x, x = (NX ((stR h8 v0 1 (some n7)))) := ⟨_, rfl⟩
  obtain ⟨h13, e15⟩ : ∃ x, x = (newO ((stR h8 v0 1 (some n7))) 20 10) := ⟨_, rfl⟩
  rw [← e15, ← e14]
  replace K := K n12 e14 h13 e15
  obtain ⟨k16, K⟩ := K
  refine Wp.putf (op_ix (by decide) ol_20 13 rfl) b6 k16 (h' := (stR h13 v0 2 (some n12))) rfl rfl ?_
  refine Wp.blk (by decide) ol_20 14 2 (pc' := 31) (L' := [.ref v0]) (S' := [.int (10 : Int32), .ref v0]) (h' := (stR h13 v0 2 (some n12))) rfl ?_
  refine Wp.blk (by decide) ol_20 16 1 (pc' := 33) (L' := [.ref v0]) (S' := [.ref (NX ((stR h13 v0 2 (some n12)))), .ref v0]) (h' := (newO ((stR h13 v0 2 (some n12))) 20 10)) rfl ?_
  obtain ⟨n17, e19⟩ : ∃ x, x = (NX ((stR h13 v0 2 (some n12)))) := ⟨_, rfl⟩
  obtain ⟨h18, e20⟩ : ∃ x, x = (newO ((stR h13 v0 2 (some n12))) 20 10) := ⟨_, rfl⟩
  rw [← e20, ← e19]
  replace K := K n17 e19 h18 e20
  obtain ⟨k21, K⟩ := K
  refine Wp.putf (op_ix (by decide) ol_20 17 rfl) b6 k21 (h' := (stR h18 v0 3 (some n17))) rfl rfl ?_
  refine Wp.blk (by decide) ol_20 18 2 (pc' := 40) (L' := [.ref v0]) (S' := [.int (1024 : Int32), .ref v0]) (h' := (stR h18 v0 3 (some n17))) rfl ?_
  refine Wp.blk (by decide) ol_20 20 1 (pc' := 42) (L' := [.ref v0]) (S' := [.ref (NX ((stR h18 v0 3 (some n17)))), .ref v0]) (h' := (newO ((stR h18 v0 3 (some n17))) 20 1024)) rfl ?_
  obtain ⟨n22, e24⟩ : ∃ x, x = (NX ((stR h18 v0 3 (some n17)))) := ⟨_, rfl⟩
  obtain ⟨h23, e25⟩ : ∃ x, x = (newO ((stR h18 v0 3 (some n17))) 20 1024) := ⟨_, rfl⟩
  rw [← e25, ← e24]
  replace K := K n22 e24 h23 e25
  obtain ⟨k26, K⟩ := K
  refine Wp.putf (op_ix (by decide) ol_20 21 rfl) b6 k26 (h' := (stR h23 v0 4 (some n22))) rfl rfl ?_
  exact Wp.ret (op_ix (by decide) ol_20 22 rfl) rfl K
/-- CutsOrFast$Net.start at 0 (II)V -/
theorem g21_0 (d : Nat) (v1 : Int32) (v2 : Int32) (h : AH) (HS : Sh h)  (Q : Option Value → AH → Prop) (K : (∀ h1, h1 = (putv ((stI ((stI ((stI h 5 6 v1)) 5 7 v2)) 5 5 ((0 : Int32)))) 10 ((0 : Int32)) ((((1 : Int32)) <<< (v1 &&& 31)))) → Q none h1)) : Wp (d + 1) 21 0 [.ref 5, .int v1, .int v2] [] h Q := by
  refine Wp.blk (by decide) ol_21 0 2 (pc' := 2) (L' := [.ref 5, .int v1, .int v2]) (S' := [.int v1, .ref 5]) (h' := h) rfl ?_
  refine Wp.putf (op_ix (by decide) ol_21 2 rfl) (by decide) (okS HS 5 rfl rfl) (h' := (stI h 5 6 v1)) rfl rfl ?_
  refine Wp.blk (by decide) ol_21 3 2 (pc' := 7) (L' := [.ref 5, .int v1, .int v2]) (S' := [.int v2, .ref 5]) (h' := (stI h 5 6 v1)) rfl ?_
  refine Wp.putf (op_ix (by decide) ol_21 5 rfl) (by decide) (okS HS 5 rfl rfl) (h' := (stI ((stI h 5 6 v1)) 5 7 v2)) rfl rfl ?_
  refine Wp.blk (by decide) ol_21 6 2 (pc' := 12) (L' := [.ref 5, .int v1, .int v2]) (S' := [.int (0 : Int32), .ref 5]) (h' := (stI ((stI h 5 6 v1)) 5 7 v2)) rfl ?_
  refine Wp.putf (op_ix (by decide) ol_21 8 rfl) (by decide) (okS HS 5 rfl rfl) (h' := (stI ((stI ((stI h 5 6 v1)) 5 7 v2)) 5 5 ((0 : Int32)))) rfl rfl ?_
  refine Wp.blk (by decide) ol_21 9 1 (pc' := 16) (L' := [.ref 5, .int v1, .int v2]) (S' := [.ref 5]) (h' := (stI ((stI ((stI h 5 6 v1)) 5 7 v2)) 5 5 ((0 : Int32)))) rfl ?_
  refine Wp.getf (op_ix (by decide) ol_21 10 rfl) (okS HS 5 rfl rfl) (v := .ref 10) (congrArg va_rf (rS HS 5 4 rfl)) rfl ?_
  refine Wp.blk (by decide) ol_21 11 4 (pc' := 23) (L' := [.ref 5, .int v1, .int v2]) (S' := [.int (((1 : Int32)) <<< (v1 &&& 31)), .int (0 : Int32), .ref 10]) (h' := (stI ((stI ((stI h 5 6 v1)) 5 7 v2)) 5 5 ((0 : Int32)))) rfl ?_
  refine Wp.callV (op_ix (by decide) ol_21 15 rfl) rfl rfl (sp_put (kS HS 10 rfl) (nS HS 10 rfl) (by decide) ?_)
  refine ⟨rfl, ?_⟩
  obtain ⟨h1, e2⟩ : ∃ y, y = (putv ((stI ((stI ((stI h 5 6 v1)) 5 7 v2)) 5 5 ((0 : Int32)))) 10 ((0 : Int32)) ((((1 : Int32)) <<< (v1 &&& 31)))) := ⟨_, rfl⟩
  rw [← e2]
  replace K := K h1 e2
  have hs3 : Sh h1 := by rw [e2]; exact Sh.putv (HS.of rfl rfl rfl : Sh ((stI ((stI ((stI h 5 6 v1)) 5 7 v2)) 5 5 ((0 : Int32))))) _ _ _
  exact Wp.ret (op_ix (by decide) ol_21 16 rfl) rfl K
/-- CutsOrFast$Net.add at 0 (III)V -/
theorem g22_0 (d : Nat) (v1 : Int32) (v2 : Int32) (v3 : Int32) (h : AH) (HS : Sh h)  (Q : Option Value → AH → Prop) (K : (∀ h1, h1 = (putv h 6 ((AI h 5 5)) v1) → (∀ h4, h4 = (putv h1 7 ((AI h1 5 5)) v2) → (∀ h7, h7 = (putv h4 8 ((AI h4 5 5)) v3) → (∀ h10, h10 = (putv h7 9 ((AI h7 5 5)) ((((((1 : Int32)) <<< (v1 &&& 31))) ||| ((((1 : Int32)) <<< (v2 &&& 31)))))) → Wp (d + 1) 22 75 [.ref 5, mk0, mk0, mk0, .int (((1 : Int32)) <<< (((AI h10 5 5)) &&& 31)), .int (0 : Int32)] [] (stI h10 5 5 ((((AI h10 5 5)) + ((1 : Int32))))) Q))))) : Wp (d + 1) 22 0 [.ref 5, .int v1, .int v2, .int v3, mk0, mk0] [] h Q := by
  refine Wp.blk (by decide) ol_22 0 1 (pc' := 1) (L' := [.ref 5, .int v1, .int v2, .int v3, mk0, mk0]) (S' := [.ref 5]) (h' := h) rfl ?_
  refine Wp.getf (op_ix (by decide) ol_22 1 rfl) (okS HS 5 rfl rfl) (v := .ref 6) (congrArg va_rf (rS HS 5 0 rfl)) rfl ?_
  refine Wp.blk (by decide) ol_22 2 1 (pc' := 5) (L' := [.ref 5, .int v1, .int v2, .int v3, mk0, mk0]) (S' := [.ref 5, .ref 6]) (h' := h) rfl ?_
  refine Wp.getf (op_ix (by decide) ol_22 3 rfl) (okS HS 5 rfl rfl) (v := .int (AI h 5 5)) rfl rfl ?_
  refine Wp.blk (by decide) ol_22 4 1 (pc' := 9) (L' := [.ref 5, .int v1, .int v2, .int v3, mk0, mk0]) (S' := [.int v1, .int (AI h 5 5), .ref 6]) (h' := h) rfl ?_
  refine Wp.callV (op_ix (by decide) ol_22 5 rfl) rfl rfl (sp_put (kS HS 6 rfl) (nS HS 6 rfl) (by decide) ?_)
  refine ⟨rfl, ?_⟩
  obtain ⟨h1, e2⟩ : ∃ y, y = (putv h 6 ((AI h 5 5)) v1) := ⟨_, rfl⟩
  rw [← e2]
  replace K := K h1 e2
  have hs3 : Sh h1 := by rw [e2]; exact Sh.putv HS _ _ _
  refine Wp.blk (by decide) ol_22 6 1 (pc' := 13) (L' := [.ref 5, .int v1, .int v2, .int v3, mk0, mk0]) (S' := [.ref 5]) (h' := h1) rfl ?_
  refine Wp.getf (op_ix (by decide) ol_22 7 rfl) (okS hs3 5 rfl rfl) (v := .ref 7) (congrArg va_rf (rS hs3 5 1 rfl)) rfl ?_
  refine Wp.blk (by decide) ol_22 8 1 (pc' := 17) (L' := [.ref 5, .int v1, .int v2, .int v3, mk0, mk0]) (S' := [.ref 5, .ref 7]) (h' := h1) rfl ?_
  refine Wp.getf (op_ix (by decide) ol_22 9 rfl) (okS hs3 5 rfl rfl) (v := .int (AI h1 5 5)) rfl rfl ?_
  refine Wp.blk (by decide) ol_22 10 1 (pc' := 21) (L' := [.ref 5, .int v1, .int v2, .int v3, mk0, mk0]) (S' := [.int v2, .int (AI h1 5 5), .ref 7]) (h' := h1) rfl ?_
  refine Wp.callV (op_ix (by decide) ol_22 11 rfl) rfl rfl (sp_put (kS hs3 7 rfl) (nS hs3 7 rfl) (by decide) ?_)
  refine ⟨rfl, ?_⟩
  obtain ⟨h4, e5⟩ : ∃ y, y = (putv h1 7 ((AI h1 5 5)) v2) := ⟨_, rfl⟩
  rw [← e5]
  replace K := K h4 e5
  have hs6 : Sh h4 := by rw [e5]; exact Sh.putv hs3 _ _ _
  refine Wp.blk (by decide) ol_22 12 1 (pc' := 25) (L' := [.ref 5, .int v1, .int v2, .int v3, mk0, mk0]) (S' := [.ref 5]) (h' := h4) rfl ?_
  refine Wp.getf (op_ix (by decide) ol_22 13 rfl) (okS hs6 5 rfl rfl) (v := .ref 8) (congrArg va_rf (rS hs6 5 2 rfl)) rfl ?_
  refine Wp.blk (by decide) ol_22 14 1 (pc' := 29) (L' := [.ref 5, .int v1, .int v2, .int v3, mk0, mk0]) (S' := [.ref 5, .ref 8]) (h' := h4) rfl ?_
  refine Wp.getf (op_ix (by decide) ol_22 15 rfl) (okS hs6 5 rfl rfl) (v := .int (AI h4 5 5)) rfl rfl ?_
  refine Wp.blk (by decide) ol_22 16 1 (pc' := 33) (L' := [.ref 5, .int v1, .int v2, .int v3, mk0, mk0]) (S' := [.int v3, .int (AI h4 5 5), .ref 8]) (h' := h4) rfl ?_
  refine Wp.callV (op_ix (by decide) ol_22 17 rfl) rfl rfl (sp_put (kS hs6 8 rfl) (nS hs6 8 rfl) (by decide) ?_)
  refine ⟨rfl, ?_⟩
  obtain ⟨h7, e8⟩ : ∃ y, y = (putv h4 8 ((AI h4 5 5)) v3) := ⟨_, rfl⟩
  rw [← e8]
  replace K := K h7 e8
  have hs9 : Sh h7 := by rw [e8]; exact Sh.putv hs6 _ _ _
  refine Wp.blk (by decide) ol_22 18 1 (pc' := 37) (L' := [.ref 5, .int v1, .int v2, .int v3, mk0, mk0]) (S' := [.ref 5]) (h' := h7) rfl ?_
  refine Wp.getf (op_ix (by decide) ol_22 19 rfl) (okS hs9 5 rfl rfl) (v := .ref 9) (congrArg va_rf (rS hs9 5 3 rfl)) rfl ?_
  refine Wp.blk (by decide) ol_22 20 1 (pc' := 41) (L' := [.ref 5, .int v1, .int v2, .int v3, mk0, mk0]) (S' := [.ref 5, .ref 9]) (h' := h7) rfl ?_
  refine Wp.getf (op_ix (by decide) ol_22 21 rfl) (okS hs9 5 rfl rfl) (v := .int (AI h7 5 5)) rfl rfl ?_
  refine Wp.blk (by decide) ol_22 22 7 (pc' := 51) (L' := [.ref 5, .int v1, .int v2, .int v3, mk0, mk0]) (S' := [.int (((((1 : Int32)) <<< (v1 &&& 31))) ||| ((((1 : Int32)) <<< (v2 &&& 31)))), .int (AI h7 5 5), .ref 9]) (h' := h7) rfl ?_
  refine Wp.callV (op_ix (by decide) ol_22 29 rfl) rfl rfl (sp_put (kS hs9 9 rfl) (nS hs9 9 rfl) (by decide) ?_)
  refine ⟨rfl, ?_⟩
  obtain ⟨h10, e11⟩ : ∃ y, y = (putv h7 9 ((AI h7 5 5)) ((((((1 : Int32)) <<< (v1 &&& 31))) ||| ((((1 : Int32)) <<< (v2 &&& 31)))))) := ⟨_, rfl⟩
  rw [← e11]
  replace K := K h10 e11
  have hs12 : Sh h10 := by rw [e11]; exact Sh.putv hs9 _ _ _
  refine Wp.blk (by decide) ol_22 30 2 (pc' := 56) (L' := [.ref 5, .int v1, .int v2, .int v3, mk0, mk0]) (S' := [.ref 5, .int (1 : Int32)]) (h' := h10) rfl ?_
  refine Wp.getf (op_ix (by decide) ol_22 32 rfl) (okS hs12 5 rfl rfl) (v := .int (AI h10 5 5)) rfl rfl ?_
  refine Wp.blk (by decide) ol_22 33 4 (pc' := 64) (L' := [.ref 5, .int v1, .int v2, .int v3, .int (((1 : Int32)) <<< (((AI h10 5 5)) &&& 31)), mk0]) (S' := [.ref 5, .ref 5]) (h' := h10) rfl ?_
  refine Wp.getf (op_ix (by decide) ol_22 37 rfl) (okS hs12 5 rfl rfl) (v := .int (AI h10 5 5)) rfl rfl ?_
  refine Wp.blk (by decide) ol_22 38 2 (pc' := 69) (L' := [.ref 5, .int v1, .int v2, .int v3, .int (((1 : Int32)) <<< (((AI h10 5 5)) &&& 31)), mk0]) (S' := [.int (((AI h10 5 5)) + ((1 : Int32))), .ref 5]) (h' := h10) rfl ?_
  refine Wp.putf (op_ix (by decide) ol_22 40 rfl) (by decide) (okS hs12 5 rfl rfl) (h' := (stI h10 5 5 ((((AI h10 5 5)) + ((1 : Int32)))))) rfl rfl ?_
  refine Wp.blk (by decide) ol_22 41 2 (pc' := 75) (L' := [.ref 5, .int v1, .int v2, .int v3, .int (((1 : Int32)) <<< (((AI h10 5 5)) &&& 31)), .int (0 : Int32)]) (S' := []) (h' := (stI h10 5 5 ((((AI h10 5 5)) + ((1 : Int32)))))) rfl ?_
  refine Wp.forget (L := [.ref 5, mk0, mk0, mk0, .int (((1 : Int32)) <<< (((AI h10 5 5)) &&& 31)), .int (0 : Int32)]) (⟨Or.inr rfl, ⟨Or.inl rfl, ⟨Or.inl rfl, ⟨Or.inl rfl, ⟨Or.inr rfl, ⟨Or.inr rfl, trivial⟩⟩⟩⟩⟩⟩) ?_
  exact K
/-- CutsOrFast$Net.add at 75 -/
theorem g22_75 (d : Nat) (v4 : Int32) (v5 : Int32) (h : AH) (HS : Sh h)  (Q : Option Value → AH → Prop) (K : ((v5 < v4 → (Cl d 24 [.ref 5, .int (atv h 10 v5), .int (v5 ||| v4)] h (fun r h2 => ∃ x4 : Int32, r = some (.int x4) ∧ Sh h2 ∧ (∀ h5, h5 = (putv h2 10 ((v5 ||| v4)) x4) → Wp (d + 1) 22 75 [.ref 5, mk0, mk0, mk0, .int v4, .int (v5 + (1 : Int32))] [] h5 Q)))) ∧ (¬ v5 < v4 → Q none h))) : Wp (d + 1) 22 75 [.ref 5, mk0, mk0, mk0, .int v4, .int v5] [] h Q := by
  refine Wp.blk (by decide) ol_22 43 3 (pc' := (if v5 < v4 then 82 else 118)) (L' := [.ref 5, mk0, mk0, mk0, .int v4, .int v5]) (S' := []) (h' := h) rfl ?_
  refine Wp.br (fun c1 => ?_) (fun c1 => ?_)
  · replace K := K.1 c1
    refine Wp.blk (by decide) ol_22 46 1 (pc' := 83) (L' := [.ref 5, mk0, mk0, mk0, .int v4, .int v5]) (S' := [.ref 5]) (h' := h) rfl ?_
    refine Wp.getf (op_ix (by decide) ol_22 47 rfl) (okS HS 5 rfl rfl) (v := .ref 10) (congrArg va_rf (rS HS 5 4 rfl)) rfl ?_
    refine Wp.blk (by decide) ol_22 48 5 (pc' := 93) (L' := [.ref 5, mk0, mk0, mk0, .int v4, .int v5]) (S' := [.ref 5, .ref 5, .int (v5 ||| v4), .ref 10]) (h' := h) rfl ?_
    refine Wp.getf (op_ix (by decide) ol_22 53 rfl) (okS HS 5 rfl rfl) (v := .ref 10) (congrArg va_rf (rS HS 5 4 rfl)) rfl ?_
    refine Wp.blk (by decide) ol_22 54 1 (pc' := 98) (L' := [.ref 5, mk0, mk0, mk0, .int v4, .int v5]) (S' := [.int v5, .ref 10, .ref 5, .int (v5 ||| v4), .ref 10]) (h' := h) rfl ?_
    refine Wp.callI (op_ix (by decide) ol_22 55 rfl) rfl rfl (sp_at (kS HS 10 rfl) (nS HS 10 rfl) ?_)
    refine ⟨_, rfl, ?_⟩
    refine Wp.blk (by decide) ol_22 56 3 (pc' := 106) (L' := [.ref 5, mk0, mk0, mk0, .int v4, .int v5]) (S' := [.int (v5 ||| v4), .int (atv h 10 v5), .ref 5, .int (v5 ||| v4), .ref 10]) (h' := h) rfl ?_
    refine Wp.callI (op_ix (by decide) ol_22 59 rfl) (act_virt (c2 := 2) rfl (lk1 (kS HS 5 rfl)) rfl) rfl (K.mono ?_)
    rintro _ h2 ⟨x4, rfl, hs3, K⟩
    refine ⟨x4, rfl, ?_⟩
    refine Wp.callV (op_ix (by decide) ol_22 60 rfl) rfl rfl (sp_put (kS hs3 10 rfl) (nS hs3 10 rfl) (by decide) ?_)
    refine ⟨rfl, ?_⟩
    obtain ⟨h5, e6⟩ : ∃ y, y = (putv h2 10 ((v5 ||| v4)) x4) := ⟨_, rfl⟩
    rw [← e6]
    replace K := K h5 e6
    have hs7 : Sh h5 := by rw [e6]; exact Sh.putv hs3 _ _ _
    refine Wp.blk (by decide) ol_22 61 2 (pc' := 75) (L' := [.ref 5, mk0, mk0, mk0, .int v4, .int (v5 + (1 : Int32))]) (S' := []) (h' := h5) rfl ?_
    exact K
  · replace K := K.2 c1
    exact Wp.ret (op_ix (by decide) ol_22 63 rfl) rfl K
/-- CutsOrFast$Net.dropLast at 0 ()V -/
theorem g23_0 (d : Nat)  (h : AH) (HS : Sh h)  (Q : Option Value → AH → Prop) (K : (((0 : Int32) < (AI h 5 5) → Q none (stI h 5 5 ((((AI h 5 5)) - ((1 : Int32)))))) ∧ (¬ (0 : Int32) < (AI h 5 5) → Q none h))) : Wp d 23 0 [.ref 5] [] h Q := by
  refine Wp.blk (by decide) ol_23 0 1 (pc' := 1) (L' := [.ref 5]) (S' := [.ref 5]) (h' := h) rfl ?_
  refine Wp.getf (op_ix (by decide) ol_23 1 rfl) (okS HS 5 rfl rfl) (v := .int (AI h 5 5)) rfl rfl ?_
  refine Wp.blk (by decide) ol_23 2 1 (pc' := (if (0 : Int32) < (AI h 5 5) then 7 else 17)) (L' := [.ref 5]) (S' := []) (h' := h) rfl ?_
  refine Wp.br (fun c1 => ?_) (fun c1 => ?_)
  · replace K := K.1 c1
    refine Wp.blk (by decide) ol_23 3 2 (pc' := 9) (L' := [.ref 5]) (S' := [.ref 5, .ref 5]) (h' := h) rfl ?_
    refine Wp.getf (op_ix (by decide) ol_23 5 rfl) (okS HS 5 rfl rfl) (v := .int (AI h 5 5)) rfl rfl ?_
    refine Wp.blk (by decide) ol_23 6 2 (pc' := 14) (L' := [.ref 5]) (S' := [.int (((AI h 5 5)) - ((1 : Int32))), .ref 5]) (h' := h) rfl ?_
    refine Wp.putf (op_ix (by decide) ol_23 8 rfl) (by decide) (okS HS 5 rfl rfl) (h' := (stI h 5 5 ((((AI h 5 5)) - ((1 : Int32)))))) rfl rfl ?_
    exact Wp.ret (op_ix (by decide) ol_23 9 rfl) rfl K
  · replace K := K.2 c1
    exact Wp.ret (op_ix (by decide) ol_23 9 rfl) rfl K
/-- CutsOrFast$Net.spread at 0 (II)I -/
theorem g24_0 (d : Nat) (v1 : Int32) (v2 : Int32) (h : AH) (HS : Sh h)  (Q : Option Value → AH → Prop) (K : Wp d 24 5 [.ref 5, mk0, .int v2, .int v1, .int (1 : Int32), mk0] [] h Q) : Wp d 24 0 [.ref 5, .int v1, .int v2, mk0, mk0, mk0] [] h Q := by
  refine Wp.blk (by decide) ol_24 0 4 (pc' := 5) (L' := [.ref 5, .int v1, .int v2, .int v1, .int (1 : Int32), mk0]) (S' := []) (h' := h) rfl ?_
  refine Wp.forget (L := [.ref 5, mk0, .int v2, .int v1, .int (1 : Int32), mk0]) (⟨Or.inr rfl, ⟨Or.inl rfl, ⟨Or.inr rfl, ⟨Or.inr rfl, ⟨Or.inr rfl, ⟨Or.inr rfl, trivial⟩⟩⟩⟩⟩⟩) ?_
  exact K
/-- CutsOrFast$Net.spread at 5 -/
theorem g24_5 (d : Nat) (v2 : Int32) (v3 : Int32) (v4 : Int32) (h : AH) (HS : Sh h)  (Q : Option Value → AH → Prop) (K : ((v4 < (6 : Int32) → (Cl d 25 [.ref 5, .int v3, .int v2] h (fun r h2 => ∃ x4 : Int32, r = some (.int x4) ∧ Sh h2 ∧ ((x4 = v3 → Q (some (.int v3)) h2) ∧ (¬ x4 = v3 → Wp (d + 1) 24 5 [.ref 5, mk0, .int v2, .int x4, .int (v4 + (1 : Int32)), mk0] [] h2 Q))))) ∧ (¬ v4 < (6 : Int32) → Q (some (.int v3)) h))) : Wp (d + 1) 24 5 [.ref 5, mk0, .int v2, .int v3, .int v4, mk0] [] h Q := by
  refine Wp.blk (by decide) ol_24 4 3 (pc' := (if v4 < (6 : Int32) then 12 else 37)) (L' := [.ref 5, mk0, .int v2, .int v3, .int v4, mk0]) (S' := []) (h' := h) rfl ?_
  refine Wp.br (fun c1 => ?_) (fun c1 => ?_)
  · replace K := K.1 c1
    refine Wp.blk (by decide) ol_24 7 3 (pc' := 15) (L' := [.ref 5, mk0, .int v2, .int v3, .int v4, mk0]) (S' := [.int v2, .int v3, .ref 5]) (h' := h) rfl ?_
    refine Wp.callI (op_ix (by decide) ol_24 10 rfl) (act_virt (c2 := 2) rfl (lk1 (kS HS 5 rfl)) rfl) rfl (K.mono ?_)
    rintro _ h2 ⟨x4, rfl, hs3, K⟩
    refine ⟨x4, rfl, ?_⟩
    refine Wp.blk (by decide) ol_24 11 4 (pc' := (if x4 = v3 then 26 else 28)) (L' := [.ref 5, mk0, .int v2, .int v3, .int v4, .int x4]) (S' := []) (h' := h2) rfl ?_
    refine Wp.br (fun c5 => ?_) (fun c5 => ?_)
    · replace K := K.1 c5
      refine Wp.blk (by decide) ol_24 15 1 (pc' := 27) (L' := [.ref 5, mk0, .int v2, .int v3, .int v4, .int x4]) (S' := [.int v3]) (h' := h2) rfl ?_
      exact Wp.ret (op_ix (by decide) ol_24 16 rfl) rfl K
    · replace K := K.2 c5
      refine Wp.blk (by decide) ol_24 17 4 (pc' := 5) (L' := [.ref 5, mk0, .int v2, .int x4, .int (v4 + (1 : Int32)), .int x4]) (S' := []) (h' := h2) rfl ?_
      refine Wp.forget (L := [.ref 5, mk0, .int v2, .int x4, .int (v4 + (1 : Int32)), mk0]) (⟨Or.inr rfl, ⟨Or.inr rfl, ⟨Or.inr rfl, ⟨Or.inr rfl, ⟨Or.inr rfl, ⟨Or.inl rfl, trivial⟩⟩⟩⟩⟩⟩) ?_
      exact K
  · replace K := K.2 c1
    refine Wp.blk (by decide) ol_24 21 1 (pc' := 38) (L' := [.ref 5, mk0, .int v2, .int v3, .int v4, mk0]) (S' := [.int v3]) (h' := h) rfl ?_
    exact Wp.ret (op_ix (by decide) ol_24 22 rfl) rfl K
/-- CutsOrFast$Net.spreadOnce at 0 (II)I -/
theorem g25_0 (d : Nat) (v1 : Int32) (v2 : Int32) (h : AH) (HS : Sh h)  (Q : Option Value → AH → Prop) (K : Wp d 25 5 [.ref 5, mk0, .int v2, .int v1, .int (0 : Int32), mk0] [] h Q) : Wp d 25 0 [.ref 5, .int v1, .int v2, mk0, mk0, mk0] [] h Q := by
  refine Wp.blk (by decide) ol_25 0 4 (pc' := 5) (L' := [.ref 5, .int v1, .int v2, .int v1, .int (0 : Int32), mk0]) (S' := []) (h' := h) rfl ?_
  refine Wp.forget (L := [.ref 5, mk0, .int v2, .int v1, .int (0 : Int32), mk0]) (⟨Or.inr rfl, ⟨Or.inl rfl, ⟨Or.inr rfl, ⟨Or.inr rfl, ⟨Or.inr rfl, ⟨Or.inr rfl, trivial⟩⟩⟩⟩⟩⟩) ?_
  exact K
/-- CutsOrFast$Net.spreadOnce at 5 -/
theorem g25_5 (d : Nat) (v2 : Int32) (v3 : Int32) (v4 : Int32) (h : AH) (HS : Sh h)  (Q : Option Value → AH → Prop) (K : ((v4 < (AI h 5 5) → (((v2 &&& ((((1 : Int32)) <<< (v4 &&& 31)))) = (0 : Int32) → Wp (d + 1) 25 5 [.ref 5, mk0, .int v2, .int v3, .int (v4 + (1 : Int32)), mk0] [] h Q) ∧ (¬ (v2 &&& ((((1 : Int32)) <<< (v4 &&& 31)))) = (0 : Int32) → (((v3 &&& ((atv h 9 v4))) = (0 : Int32) → Wp (d + 1) 25 5 [.ref 5, mk0, .int v2, .int v3, .int (v4 + (1 : Int32)), mk0] [] h Q) ∧ (¬ (v3 &&& ((atv h 9 v4))) = (0 : Int32) → Wp (d + 1) 25 5 [.ref 5, mk0, .int v2, .int (v3 ||| ((atv h 9 v4))), .int (v4 + (1 : Int32)), mk0] [] h Q))))) ∧ (¬ v4 < (AI h 5 5) → Q (some (.int v3)) h))) : Wp (d + 1) 25 5 [.ref 5, mk0, .int v2, .int v3, .int v4, mk0] [] h Q := by
  refine Wp.blk (by decide) ol_25 4 2 (pc' := 8) (L' := [.ref 5, mk0, .int v2, .int v3, .int v4, mk0]) (S' := [.ref 5, .int v4]) (h' := h) rfl ?_
  refine Wp.getf (op_ix (by decide) ol_25 6 rfl) (okS HS 5 rfl rfl) (v := .int (AI h 5 5)) rfl rfl ?_
  refine Wp.blk (by decide) ol_25 7 1 (pc' := (if v4 < (AI h 5 5) then 14 else 52)) (L' := [.ref 5, mk0, .int v2, .int v3, .int v4, mk0]) (S' := []) (h' := h) rfl ?_
  refine Wp.br (fun c1 => ?_) (fun c1 => ?_)
  · replace K := K.1 c1
    refine Wp.blk (by decide) ol_25 8 1 (pc' := 15) (L' := [.ref 5, mk0, .int v2, .int v3, .int v4, mk0]) (S' := [.ref 5]) (h' := h) rfl ?_
    refine Wp.getf (op_ix (by decide) ol_25 9 rfl) (okS HS 5 rfl rfl) (v := .ref 9) (congrArg va_rf (rS HS 5 3 rfl)) rfl ?_
    refine Wp.blk (by decide) ol_25 10 1 (pc' := 20) (L' := [.ref 5, mk0, .int v2, .int v3, .int v4, mk0]) (S' := [.int v4, .ref 9]) (h' := h) rfl ?_
    refine Wp.callI (op_ix (by decide) ol_25 11 rfl) rfl rfl (sp_at (kS HS 9 rfl) (nS HS 9 rfl) ?_)
    refine ⟨_, rfl, ?_⟩
    refine Wp.blk (by decide) ol_25 12 7 (pc' := (if (v2 &&& ((((1 : Int32)) <<< (v4 &&& 31)))) = (0 : Int32) then 46 else 34)) (L' := [.ref 5, mk0, .int v2, .int v3, .int v4, .int (atv h 9 v4)]) (S' := []) (h' := h) rfl ?_
    refine Wp.br (fun c2 => ?_) (fun c2 => ?_)
    · replace K := K.1 c2
      refine Wp.blk (by decide) ol_25 27 2 (pc' := 5) (L' := [.ref 5, mk0, .int v2, .int v3, .int (v4 + (1 : Int32)), .int (atv h 9 v4)]) (S' := []) (h' := h) rfl ?_
      refine Wp.forget (L := [.ref 5, mk0, .int v2, .int v3, .int (v4 + (1 : Int32)), mk0]) (⟨Or.inr rfl, ⟨Or.inr rfl, ⟨Or.inr rfl, ⟨Or.inr rfl, ⟨Or.inr rfl, ⟨Or.inl rfl, trivial⟩⟩⟩⟩⟩⟩) ?_
      exact K
    · replace K := K.2 c2
      refine Wp.blk (by decide) ol_25 19 4 (pc' := (if (v3 &&& ((atv h 9 v4))) = (0 : Int32) then 46 else 41)) (L' := [.ref 5, mk0, .int v2, .int v3, .int v4, .int (atv h 9 v4)]) (S' := []) (h' := h) rfl ?_
      refine Wp.br (fun c3 => ?_) (fun c3 => ?_)
      · replace K := K.1 c3
        refine Wp.blk (by decide) ol_25 27 2 (pc' := 5) (L' := [.ref 5, mk0, .int v2, .int v3, .int (v4 + (1 : Int32)), .int (atv h 9 v4)]) (S' := []) (h' := h) rfl ?_
        refine Wp.forget (L := [.ref 5, mk0, .int v2, .int v3, .int (v4 + (1 : Int32)), mk0]) (⟨Or.inr rfl, ⟨Or.inr rfl, ⟨Or.inr rfl, ⟨Or.inr rfl, ⟨Or.inr rfl, ⟨Or.inl rfl, trivial⟩⟩⟩⟩⟩⟩) ?_
        exact K
      · replace K := K.2 c3
        refine Wp.blk (by decide) ol_25 23 6 (pc' := 5) (L' := [.ref 5, mk0, .int v2, .int (v3 ||| ((atv h 9 v4))), .int (v4 + (1 : Int32)), .int (atv h 9 v4)]) (S' := []) (h' := h) rfl ?_
        refine Wp.forget (L := [.ref 5, mk0, .int v2, .int (v3 ||| ((atv h 9 v4))), .int (v4 + (1 : Int32)), mk0]) (⟨Or.inr rfl, ⟨Or.inr rfl, ⟨Or.inr rfl, ⟨Or.inr rfl, ⟨Or.inr rfl, ⟨Or.inl rfl, trivial⟩⟩⟩⟩⟩⟩) ?_
        exact K
  · replace K := K.2 c1
    refine Wp.blk (by decide) ol_25 29 1 (pc' := 53) (L' := [.ref 5, mk0, .int v2, .int v3, .int v4, mk0]) (S' := [.int v3]) (h' := h) rfl ?_
    exact Wp.ret (op_ix (by decide) ol_25 30 rfl) rfl K
/-- CutsOrFast$Net.size at 0 ()I -/
theorem g26_0 (d : Nat)  (h : AH) (HS : Sh h)  (Q : Option Value → AH → Prop) (K : Q (some (.int (AI h 5 5))) h) : Wp d 26 0 [.ref 5] [] h Q := by
  refine Wp.blk (by decide) ol_26 0 1 (pc' := 1) (L' := [.ref 5]) (S' := [.ref 5]) (h' := h) rfl ?_
  refine Wp.getf (op_ix (by decide) ol_26 1 rfl) (okS HS 5 rfl rfl) (v := .int (AI h 5 5)) rfl rfl ?_
  exact Wp.ret (op_ix (by decide) ol_26 2 rfl) rfl K
/-- CutsOrFast$Net.all at 0 ()I -/
theorem g27_0 (d : Nat)  (h : AH) (HS : Sh h)  (Q : Option Value → AH → Prop) (K : Q (some (.int (((((1 : Int32)) <<< (((AI h 5 5)) &&& 31))) - ((1 : Int32))))) h) : Wp d 27 0 [.ref 5] [] h Q := by
  refine Wp.blk (by decide) ol_27 0 2 (pc' := 2) (L' := [.ref 5]) (S' := [.ref 5, .int (1 : Int32)]) (h' := h) rfl ?_
  refine Wp.getf (op_ix (by decide) ol_27 2 rfl) (okS HS 5 rfl rfl) (v := .int (AI h 5 5)) rfl rfl ?_
  refine Wp.blk (by decide) ol_27 3 3 (pc' := 8) (L' := [.ref 5]) (S' := [.int (((((1 : Int32)) <<< (((AI h 5 5)) &&& 31))) - ((1 : Int32)))]) (h' := h) rfl ?_
  exact Wp.ret (op_ix (by decide) ol_27 6 rfl) rfl K
/-- CutsOrFast$Net.oneEnd at 0 ()I -/
theorem g28_0 (d : Nat)  (h : AH) (HS : Sh h)  (Q : Option Value → AH → Prop) (K : Q (some (.int (AI h 5 6))) h) : Wp d 28 0 [.ref 5] [] h Q := by
  refine Wp.blk (by decide) ol_28 0 1 (pc' := 1) (L' := [.ref 5]) (S' := [.ref 5]) (h' := h) rfl ?_
  refine Wp.getf (op_ix (by decide) ol_28 1 rfl) (okS HS 5 rfl rfl) (v := .int (AI h 5 6)) rfl rfl ?_
  exact Wp.ret (op_ix (by decide) ol_28 2 rfl) rfl K
/-- CutsOrFast$Net.otherEnd at 0 ()I -/
theorem g29_0 (d : Nat)  (h : AH) (HS : Sh h)  (Q : Option Value → AH → Prop) (K : Q (some (.int (AI h 5 7))) h) : Wp d 29 0 [.ref 5] [] h Q := by
  refine Wp.blk (by decide) ol_29 0 1 (pc' := 1) (L' := [.ref 5]) (S' := [.ref 5]) (h' := h) rfl ?_
  refine Wp.getf (op_ix (by decide) ol_29 1 rfl) (okS HS 5 rfl rfl) (v := .int (AI h 5 7)) rfl rfl ?_
  exact Wp.ret (op_ix (by decide) ol_29 2 rfl) rfl K
/-- CutsOrFast$Net.firstPlace at 0 (I)I -/
theorem g30_0 (d : Nat) (v1 : Int32) (h : AH) (HS : Sh h)  (Q : Option Value → AH → Prop) (K : Q (some (.int (atv h 6 v1))) h) : Wp (d + 1) 30 0 [.ref 5, .int v1] [] h Q := by
  refine Wp.blk (by decide) ol_30 0 1 (pc' := 1) (L' := [.ref 5, .int v1]) (S' := [.ref 5]) (h' := h) rfl ?_
  refine Wp.getf (op_ix (by decide) ol_30 1 rfl) (okS HS 5 rfl rfl) (v := .ref 6) (congrArg va_rf (rS HS 5 0 rfl)) rfl ?_
  refine Wp.blk (by decide) ol_30 2 1 (pc' := 5) (L' := [.ref 5, .int v1]) (S' := [.int v1, .ref 6]) (h' := h) rfl ?_
  refine Wp.callI (op_ix (by decide) ol_30 3 rfl) rfl rfl (sp_at (kS HS 6 rfl) (nS HS 6 rfl) ?_)
  refine ⟨_, rfl, ?_⟩
  exact Wp.ret (op_ix (by decide) ol_30 4 rfl) rfl K
/-- CutsOrFast$Net.secondPlace at 0 (I)I -/
theorem g31_0 (d : Nat) (v1 : Int32) (h : AH) (HS : Sh h)  (Q : Option Value → AH → Prop) (K : Q (some (.int (atv h 7 v1))) h) : Wp (d + 1) 31 0 [.ref 5, .int v1] [] h Q := by
  refine Wp.blk (by decide) ol_31 0 1 (pc' := 1) (L' := [.ref 5, .int v1]) (S' := [.ref 5]) (h' := h) rfl ?_
  refine Wp.getf (op_ix (by decide) ol_31 1 rfl) (okS HS 5 rfl rfl) (v := .ref 7) (congrArg va_rf (rS HS 5 1 rfl)) rfl ?_
  refine Wp.blk (by decide) ol_31 2 1 (pc' := 5) (L' := [.ref 5, .int v1]) (S' := [.int v1, .ref 7]) (h' := h) rfl ?_
  refine Wp.callI (op_ix (by decide) ol_31 3 rfl) rfl rfl (sp_at (kS HS 7 rfl) (nS HS 7 rfl) ?_)
  refine ⟨_, rfl, ?_⟩
  exact Wp.ret (op_ix (by decide) ol_31 4 rfl) rfl K
/-- CutsOrFast$Net.costOf at 0 (I)I -/
theorem g32_0 (d : Nat) (v1 : Int32) (h : AH) (HS : Sh h)  (Q : Option Value → AH → Prop) (K : Q (some (.int (atv h 8 v1))) h) : Wp (d + 1) 32 0 [.ref 5, .int v1] [] h Q := by
  refine Wp.blk (by decide) ol_32 0 1 (pc' := 1) (L' := [.ref 5, .int v1]) (S' := [.ref 5]) (h' := h) rfl ?_
  refine Wp.getf (op_ix (by decide) ol_32 1 rfl) (okS HS 5 rfl rfl) (v := .ref 8) (congrArg va_rf (rS HS 5 2 rfl)) rfl ?_
  refine Wp.blk (by decide) ol_32 2 1 (pc' := 5) (L' := [.ref 5, .int v1]) (S' := [.int v1, .ref 8]) (h' := h) rfl ?_
  refine Wp.callI (op_ix (by decide) ol_32 3 rfl) rfl rfl (sp_at (kS HS 8 rfl) (nS HS 8 rfl) ?_)
  refine ⟨_, rfl, ?_⟩
  exact Wp.ret (op_ix (by decide) ol_32 4 rfl) rfl K
/-- CutsOrFast$Net.costOfSet at 0 (I)I -/
theorem g33_0 (d : Nat) (v1 : Int32) (h : AH) (HS : Sh h)  (Q : Option Value → AH → Prop) (K : Wp d 33 4 [.ref 5, .int v1, .int (0 : Int32), .int (0 : Int32)] [] h Q) : Wp d 33 0 [.ref 5, .int v1, mk0, mk0] [] h Q := by
  refine Wp.blk (by decide) ol_33 0 4 (pc' := 4) (L' := [.ref 5, .int v1, .int (0 : Int32), .int (0 : Int32)]) (S' := []) (h' := h) rfl ?_
  exact K
/-- CutsOrFast$Net.costOfSet at 4 -/
theorem g33_4 (d : Nat) (v1 : Int32) (v2 : Int32) (v3 : Int32) (h : AH) (HS : Sh h)  (Q : Option Value → AH → Prop) (K : ((v3 < (AI h 5 5) → (((v1 &&& ((((1 : Int32)) <<< (v3 &&& 31)))) = (0 : Int32) → Wp (d + 1) 33 4 [.ref 5, .int v1, .int v2, .int (v3 + (1 : Int32))] [] h Q) ∧ (¬ (v1 &&& ((((1 : Int32)) <<< (v3 &&& 31)))) = (0 : Int32) → Wp (d + 1) 33 4 [.ref 5, .int v1, .int (v2 + ((atv h 8 v3))), .int (v3 + (1 : Int32))] [] h Q))) ∧ (¬ v3 < (AI h 5 5) → Q (some (.int v2)) h))) : Wp (d + 1) 33 4 [.ref 5, .int v1, .int v2, .int v3] [] h Q := by
  refine Wp.blk (by decide) ol_33 4 2 (pc' := 6) (L' := [.ref 5, .int v1, .int v2, .int v3]) (S' := [.ref 5, .int v3]) (h' := h) rfl ?_
  refine Wp.getf (op_ix (by decide) ol_33 6 rfl) (okS HS 5 rfl rfl) (v := .int (AI h 5 5)) rfl rfl ?_
  refine Wp.blk (by decide) ol_33 7 1 (pc' := (if v3 < (AI h 5 5) then 12 else 37)) (L' := [.ref 5, .int v1, .int v2, .int v3]) (S' := []) (h' := h) rfl ?_
  refine Wp.br (fun c1 => ?_) (fun c1 => ?_)
  · replace K := K.1 c1
    refine Wp.blk (by decide) ol_33 8 6 (pc' := (if (v1 &&& ((((1 : Int32)) <<< (v3 &&& 31)))) = (0 : Int32) then 31 else 20)) (L' := [.ref 5, .int v1, .int v2, .int v3]) (S' := []) (h' := h) rfl ?_
    refine Wp.br (fun c2 => ?_) (fun c2 => ?_)
    · replace K := K.1 c2
      refine Wp.blk (by decide) ol_33 21 2 (pc' := 4) (L' := [.ref 5, .int v1, .int v2, .int (v3 + (1 : Int32))]) (S' := []) (h' := h) rfl ?_
      exact K
    · replace K := K.2 c2
      refine Wp.blk (by decide) ol_33 14 2 (pc' := 22) (L' := [.ref 5, .int v1, .int v2, .int v3]) (S' := [.ref 5, .int v2]) (h' := h) rfl ?_
      refine Wp.getf (op_ix (by decide) ol_33 16 rfl) (okS HS 5 rfl rfl) (v := .ref 8) (congrArg va_rf (rS HS 5 2 rfl)) rfl ?_
      refine Wp.blk (by decide) ol_33 17 1 (pc' := 26) (L' := [.ref 5, .int v1, .int v2, .int v3]) (S' := [.int v3, .ref 8, .int v2]) (h' := h) rfl ?_
      refine Wp.callI (op_ix (by decide) ol_33 18 rfl) rfl rfl (sp_at (kS HS 8 rfl) (nS HS 8 rfl) ?_)
      refine ⟨_, rfl, ?_⟩
      refine Wp.blk (by decide) ol_33 19 4 (pc' := 4) (L' := [.ref 5, .int v1, .int (v2 + ((atv h 8 v3))), .int (v3 + (1 : Int32))]) (S' := []) (h' := h) rfl ?_
      exact K
  · replace K := K.2 c1
    refine Wp.blk (by decide) ol_33 23 1 (pc' := 38) (L' := [.ref 5, .int v1, .int v2, .int v3]) (S' := [.int v2]) (h' := h) rfl ?_
    exact Wp.ret (op_ix (by decide) ol_33 24 rfl) rfl K
/-- CutsOrFast$Net.joins at 0 (I)Z -/
theorem g34_0 (d : Nat) (v1 : Int32) (h : AH) (HS : Sh h)  (Q : Option Value → AH → Prop) (K : (((((atv h 10 v1)) &&& ((((1 : Int32)) <<< (((AI h 5 7)) &&& 31)))) = (0 : Int32) → Q (some (.int (0 : Int32))) h) ∧ (¬ (((atv h 10 v1)) &&& ((((1 : Int32)) <<< (((AI h 5 7)) &&& 31)))) = (0 : Int32) → Q (some (.int (1 : Int32))) h))) : Wp (d + 1) 34 0 [.ref 5, .int v1] [] h Q := by
  refine Wp.blk (by decide) ol_34 0 1 (pc' := 1) (L' := [.ref 5, .int v1]) (S' := [.ref 5]) (h' := h) rfl ?_
  refine Wp.getf (op_ix (by decide) ol_34 1 rfl) (okS HS 5 rfl rfl) (v := .ref 10) (congrArg va_rf (rS HS 5 4 rfl)) rfl ?_
  refine Wp.blk (by decide) ol_34 2 1 (pc' := 5) (L' := [.ref 5, .int v1]) (S' := [.int v1, .ref 10]) (h' := h) rfl ?_
  refine Wp.callI (op_ix (by decide) ol_34 3 rfl) rfl rfl (sp_at (kS HS 10 rfl) (nS HS 10 rfl) ?_)
  refine ⟨_, rfl, ?_⟩
  refine Wp.blk (by decide) ol_34 4 2 (pc' := 10) (L' := [.ref 5, .int v1]) (S' := [.ref 5, .int (1 : Int32), .int (atv h 10 v1)]) (h' := h) rfl ?_
  refine Wp.getf (op_ix (by decide) ol_34 6 rfl) (okS HS 5 rfl rfl) (v := .int (AI h 5 7)) rfl rfl ?_
  refine Wp.blk (by decide) ol_34 7 3 (pc' := (if (((atv h 10 v1)) &&& ((((1 : Int32)) <<< (((AI h 5 7)) &&& 31)))) = (0 : Int32) then 22 else 18)) (L' := [.ref 5, .int v1]) (S' := []) (h' := h) rfl ?_
  refine Wp.br (fun c1 => ?_) (fun c1 => ?_)
  · replace K := K.1 c1
    refine Wp.blk (by decide) ol_34 12 1 (pc' := 23) (L' := [.ref 5, .int v1]) (S' := [.int (0 : Int32)]) (h' := h) rfl ?_
    exact Wp.ret (op_ix (by decide) ol_34 13 rfl) rfl K
  · replace K := K.2 c1
    refine Wp.blk (by decide) ol_34 10 2 (pc' := 23) (L' := [.ref 5, .int v1]) (S' := [.int (1 : Int32)]) (h' := h) rfl ?_
    exact Wp.ret (op_ix (by decide) ol_34 13 rfl) rfl K
/-- CutsOrFast$Net.placesInUse at 0 ()I -/
theorem g35_0 (d : Nat)  (h : AH) (HS : Sh h)  (Q : Option Value → AH → Prop) (K : Wp d 35 16 [.ref 5, .int (((((1 : Int32)) <<< (((AI h 5 6)) &&& 31))) ||| ((((1 : Int32)) <<< (((AI h 5 7)) &&& 31)))), .int (0 : Int32)] [] h Q) : Wp d 35 0 [.ref 5, mk0, mk0] [] h Q := by
  refine Wp.blk (by decide) ol_35 0 2 (pc' := 2) (L' := [.ref 5, mk0, mk0]) (S' := [.ref 5, .int (1 : Int32)]) (h' := h) rfl ?_
  refine Wp.getf (op_ix (by decide) ol_35 2 rfl) (okS HS 5 rfl rfl) (v := .int (AI h 5 6)) rfl rfl ?_
  refine Wp.blk (by decide) ol_35 3 3 (pc' := 8) (L' := [.ref 5, mk0, mk0]) (S' := [.ref 5, .int (1 : Int32), .int (((1 : Int32)) <<< (((AI h 5 6)) &&& 31))]) (h' := h) rfl ?_
  refine Wp.getf (op_ix (by decide) ol_35 6 rfl) (okS HS 5 rfl rfl) (v := .int (AI h 5 7)) rfl rfl ?_
  refine Wp.blk (by decide) ol_35 7 5 (pc' := 16) (L' := [.ref 5, .int (((((1 : Int32)) <<< (((AI h 5 6)) &&& 31))) ||| ((((1 : Int32)) <<< (((AI h 5 7)) &&& 31)))), .int (0 : Int32)]) (S' := []) (h' := h) rfl ?_
  exact K
/-- CutsOrFast$Net.placesInUse at 16 -/
theorem g35_16 (d : Nat) (v1 : Int32) (v2 : Int32) (h : AH) (HS : Sh h)  (Q : Option Value → AH → Prop) (K : ((v2 < (AI h 5 5) → Wp (d + 1) 35 16 [.ref 5, .int (v1 ||| ((atv h 9 v2))), .int (v2 + (1 : Int32))] [] h Q) ∧ (¬ v2 < (AI h 5 5) → Q (some (.int v1)) h))) : Wp (d + 1) 35 16 [.ref 5, .int v1, .int v2] [] h Q := by
  refine Wp.blk (by decide) ol_35 12 2 (pc' := 18) (L' := [.ref 5, .int v1, .int v2]) (S' := [.ref 5, .int v2]) (h' := h) rfl ?_
  refine Wp.getf (op_ix (by decide) ol_35 14 rfl) (okS HS 5 rfl rfl) (v := .int (AI h 5 5)) rfl rfl ?_
  refine Wp.blk (by decide) ol_35 15 1 (pc' := (if v2 < (AI h 5 5) then 24 else 41)) (L' := [.ref 5, .int v1, .int v2]) (S' := []) (h' := h) rfl ?_
  refine Wp.br (fun c1 => ?_) (fun c1 => ?_)
  · replace K := K.1 c1
    refine Wp.blk (by decide) ol_35 16 2 (pc' := 26) (L' := [.ref 5, .int v1, .int v2]) (S' := [.ref 5, .int v1]) (h' := h) rfl ?_
    refine Wp.getf (op_ix (by decide) ol_35 18 rfl) (okS HS 5 rfl rfl) (v := .ref 9) (congrArg va_rf (rS HS 5 3 rfl)) rfl ?_
    refine Wp.blk (by decide) ol_35 19 1 (pc' := 30) (L' := [.ref 5, .int v1, .int v2]) (S' := [.int v2, .ref 9, .int v1]) (h' := h) rfl ?_
    refine Wp.callI (op_ix (by decide) ol_35 20 rfl) rfl rfl (sp_at (kS HS 9 rfl) (nS HS 9 rfl) ?_)
    refine ⟨_, rfl, ?_⟩
    refine Wp.blk (by decide) ol_35 21 4 (pc' := 16) (L' := [.ref 5, .int (v1 ||| ((atv h 9 v2))), .int (v2 + (1 : Int32))]) (S' := []) (h' := h) rfl ?_
    exact K
  · replace K := K.2 c1
    refine Wp.blk (by decide) ol_35 25 1 (pc' := 42) (L' := [.ref 5, .int v1, .int v2]) (S' := [.int v1]) (h' := h) rfl ?_
    exact Wp.ret (op_ix (by decide) ol_35 26 rfl) rfl K
/-- CutsOrFast$Net.spans at 0 (II)Z -/
theorem g36_0 (d : Nat) (v1 : Int32) (v2 : Int32) (h : AH) (HS : Sh h)  (Q : Option Value → AH → Prop) (K : (((v2 &&& ((((atv h 10 v1)) ^^^ ((-1 : Int32))))) = (0 : Int32) → Q (some (.int (1 : Int32))) h) ∧ (¬ (v2 &&& ((((atv h 10 v1)) ^^^ ((-1 : Int32))))) = (0 : Int32) → Q (some (.int (0 : Int32))) h))) : Wp (d + 1) 36 0 [.ref 5, .int v1, .int v2] [] h Q := by
  refine Wp.blk (by decide) ol_36 0 2 (pc' := 2) (L' := [.ref 5, .int v1, .int v2]) (S' := [.ref 5, .int v2]) (h' := h) rfl ?_
  refine Wp.getf (op_ix (by decide) ol_36 2 rfl) (okS HS 5 rfl rfl) (v := .ref 10) (congrArg va_rf (rS HS 5 4 rfl)) rfl ?_
  refine Wp.blk (by decide) ol_36 3 1 (pc' := 6) (L' := [.ref 5, .int v1, .int v2]) (S' := [.int v1, .ref 10, .int v2]) (h' := h) rfl ?_
  refine Wp.callI (op_ix (by decide) ol_36 4 rfl) rfl rfl (sp_at (kS HS 10 rfl) (nS HS 10 rfl) ?_)
  refine ⟨_, rfl, ?_⟩
  refine Wp.blk (by decide) ol_36 5 4 (pc' := (if (v2 &&& ((((atv h 10 v1)) ^^^ ((-1 : Int32))))) = (0 : Int32) then 15 else 19)) (L' := [.ref 5, .int v1, .int v2]) (S' := []) (h' := h) rfl ?_
  refine Wp.br (fun c1 => ?_) (fun c1 => ?_)
  · replace K := K.1 c1
    refine Wp.blk (by decide) ol_36 9 2 (pc' := 20) (L' := [.ref 5, .int v1, .int v2]) (S' := [.int (1 : Int32)]) (h' := h) rfl ?_
    exact Wp.ret (op_ix (by decide) ol_36 12 rfl) rfl K
  · replace K := K.2 c1
    refine Wp.blk (by decide) ol_36 11 1 (pc' := 20) (L' := [.ref 5, .int v1, .int v2]) (S' := [.int (0 : Int32)]) (h' := h) rfl ?_
    exact Wp.ret (op_ix (by decide) ol_36 12 rfl) rfl K
/-- CutsOrFast$Net.outcome at 0 (II)I -/
theorem g37_0 (d : Nat) (v1 : Int32) (v2 : Int32) (h : AH) (HS : Sh h)  (Q : Option Value → AH → Prop) (K : (((((atv h 10 v1)) &&& ((((1 : Int32)) <<< (((AI h 5 7)) &&& 31)))) = (0 : Int32) → (((((atv h 10 ((((((((1 : Int32)) <<< (((AI h 5 5)) &&& 31))) - ((1 : Int32)))) &&& ((v2 ^^^ ((-1 : Int32)))))))) &&& ((((1 : Int32)) <<< (((AI h 5 7)) &&& 31)))) = (0 : Int32) → Q (some (.int (2 : Int32))) h) ∧ (¬ (((atv h 10 ((((((((1 : Int32)) <<< (((AI h 5 5)) &&& 31))) - ((1 : Int32)))) &&& ((v2 ^^^ ((-1 : Int32)))))))) &&& ((((1 : Int32)) <<< (((AI h 5 7)) &&& 31)))) = (0 : Int32) → Q (some (.int (0 : Int32))) h))) ∧ (¬ (((atv h 10 v1)) &&& ((((1 : Int32)) <<< (((AI h 5 7)) &&& 31)))) = (0 : Int32) → Q (some (.int (1 : Int32))) h))) : Wp (d + 2) 37 0 [.ref 5, .int v1, .int v2] [] h Q := by
  refine Wp.blk (by decide) ol_37 0 2 (pc' := 2) (L' := [.ref 5, .int v1, .int v2]) (S' := [.int v1, .ref 5]) (h' := h) rfl ?_
  refine Wp.callI (op_ix (by decide) ol_37 2 rfl) (act_virt (c2 := 1) rfl (lk1 (kS HS 5 rfl)) rfl) rfl (Cl.enter (L := [.ref 5, .int v1]) rfl ?_)
  refine Wp.blk (by decide) ol_34 0 1 (pc' := 1) (L' := [.ref 5, .int v1]) (S' := [.ref 5]) (h' := h) rfl ?_
  refine Wp.getf (op_ix (by decide) ol_34 1 rfl) (okS HS 5 rfl rfl) (v := .ref 10) (congrArg va_rf (rS HS 5 4 rfl)) rfl ?_
  refine Wp.blk (by decide) ol_34 2 1 (pc' := 5) (L' := [.ref 5, .int v1]) (S' := [.int v1, .ref 10]) (h' := h) rfl ?_
  refine Wp.callI (op_ix (by decide) ol_34 3 rfl) rfl rfl (sp_at (kS HS 10 rfl) (nS HS 10 rfl) ?_)
  refine ⟨_, rfl, ?_⟩
  refine Wp.blk (by decide) ol_34 4 2 (pc' := 10) (L' := [.ref 5, .int v1]) (S' := [.ref 5, .int (1 : Int32), .int (atv h 10 v1)]) (h' := h) rfl ?_
  refine Wp.getf (op_ix (by decide) ol_34 6 rfl) (okS HS 5 rfl rfl) (v := .int (AI h 5 7)) rfl rfl ?_
  refine Wp.blk (by decide) ol_34 7 3 (pc' := (if (((atv h 10 v1)) &&& ((((1 : Int32)) <<< (((AI h 5 7)) &&& 31)))) = (0 : Int32) then 22 else 18)) (L' := [.ref 5, .int v1]) (S' := []) (h' := h) rfl ?_
  refine Wp.br (fun c1 => ?_) (fun c1 => ?_)
  · replace K := K.1 c1
    refine Wp.blk (by decide) ol_34 12 1 (pc' := 23) (L' := [.ref 5, .int v1]) (S' := [.int (0 : Int32)]) (h' := h) rfl ?_
    refine Wp.ret (op_ix (by decide) ol_34 13 rfl) rfl ⟨_, rfl, ?_⟩
    refine Wp.blk (by decide) ol_37 3 1 (pc' := (if (0 : Int32) = (0 : Int32) then 10 else 8)) (L' := [.ref 5, .int v1, .int v2]) (S' := []) (h' := h) rfl ?_
    refine Wp.br (fun _ => ?_) (fun hc => absurd (by decide) hc)
    refine Wp.blk (by decide) ol_37 6 2 (pc' := 12) (L' := [.ref 5, .int v1, .int v2]) (S' := [.ref 5, .ref 5]) (h' := h) rfl ?_
    refine Wp.callI (op_ix (by decide) ol_37 8 rfl) (act_virt (c2 := 0) rfl (lk1 (kS HS 5 rfl)) rfl) rfl (Cl.enter (L := [.ref 5]) rfl ?_)
    refine Wp.blk (by decide) ol_27 0 2 (pc' := 2) (L' := [.ref 5]) (S' := [.ref 5, .int (1 : Int32)]) (h' := h) rfl ?_
    refine Wp.getf (op_ix (by decide) ol_27 2 rfl) (okS HS 5 rfl rfl) (v := .int (AI h 5 5)) rfl rfl ?_
    refine Wp.blk (by decide) ol_27 3 3 (pc' := 8) (L' := [.ref 5]) (S' := [.int (((((1 : Int32)) <<< (((AI h 5 5)) &&& 31))) - ((1 : Int32)))]) (h' := h) rfl ?_
    refine Wp.ret (op_ix (by decide) ol_27 6 rfl) rfl ⟨_, rfl, ?_⟩
    refine Wp.blk (by decide) ol_37 9 4 (pc' := 19) (L' := [.ref 5, .int v1, .int v2]) (S' := [.int (((((((1 : Int32)) <<< (((AI h 5 5)) &&& 31))) - ((1 : Int32)))) &&& ((v2 ^^^ ((-1 : Int32))))), .ref 5]) (h' := h) rfl ?_
    refine Wp.callI (op_ix (by decide) ol_37 13 rfl) (act_virt (c2 := 1) rfl (lk1 (kS HS 5 rfl)) rfl) rfl (Cl.enter (L := [.ref 5, .int (((((((1 : Int32)) <<< (((AI h 5 5)) &&& 31))) - ((1 : Int32)))) &&& ((v2 ^^^ ((-1 : Int32)))))]) rfl ?_)
    refine Wp.blk (by decide) ol_34 0 1 (pc' := 1) (L' := [.ref 5, .int (((((((1 : Int32)) <<< (((AI h 5 5)) &&& 31))) - ((1 : Int32)))) &&& ((v2 ^^^ ((-1 : Int32)))))]) (S' := [.ref 5]) (h' := h) rfl ?_
    refine Wp.getf (op_ix (by decide) ol_34 1 rfl) (okS HS 5 rfl rfl) (v := .ref 10) (congrArg va_rf (rS HS 5 4 rfl)) rfl ?_
    refine Wp.blk (by decide) ol_34 2 1 (pc' := 5) (L' := [.ref 5, .int (((((((1 : Int32)) <<< (((AI h 5 5)) &&& 31))) - ((1 : Int32)))) &&& ((v2 ^^^ ((-1 : Int32)))))]) (S' := [.int (((((((1 : Int32)) <<< (((AI h 5 5)) &&& 31))) - ((1 : Int32)))) &&& ((v2 ^^^ ((-1 : Int32))))), .ref 10]) (h' := h) rfl ?_
    refine Wp.callI (op_ix (by decide) ol_34 3 rfl) rfl rfl (sp_at (kS HS 10 rfl) (nS HS 10 rfl) ?_)
    refine ⟨_, rfl, ?_⟩
    refine Wp.blk (by decide) ol_34 4 2 (pc' := 10) (L' := [.ref 5, .int (((((((1 : Int32)) <<< (((AI h 5 5)) &&& 31))) - ((1 : Int32)))) &&& ((v2 ^^^ ((-1 : Int32)))))]) (S' := [.ref 5, .int (1 : Int32), .int (atv h 10 ((((((((1 : Int32)) <<< (((AI h 5 5)) &&& 31))) - ((1 : Int32)))) &&& ((v2 ^^^ ((-1 : Int32)))))))]) (h' := h) rfl ?_
    refine Wp.getf (op_ix (by decide) ol_34 6 rfl) (okS HS 5 rfl rfl) (v := .int (AI h 5 7)) rfl rfl ?_
    refine Wp.blk (by decide) ol_34 7 3 (pc' := (if (((atv h 10 ((((((((1 : Int32)) <<< (((AI h 5 5)) &&& 31))) - ((1 : Int32)))) &&& ((v2 ^^^ ((-1 : Int32)))))))) &&& ((((1 : Int32)) <<< (((AI h 5 7)) &&& 31)))) = (0 : Int32) then 22 else 18)) (L' := [.ref 5, .int (((((((1 : Int32)) <<< (((AI h 5 5)) &&& 31))) - ((1 : Int32)))) &&& ((v2 ^^^ ((-1 : Int32)))))]) (S' := []) (h' := h) rfl ?_
    refine Wp.br (fun c2 => ?_) (fun c2 => ?_)
    · replace K := K.1 c2
      refine Wp.blk (by decide) ol_34 12 1 (pc' := 23) (L' := [.ref 5, .int (((((((1 : Int32)) <<< (((AI h 5 5)) &&& 31))) - ((1 : Int32)))) &&& ((v2 ^^^ ((-1 : Int32)))))]) (S' := [.int (0 : Int32)]) (h' := h) rfl ?_
      refine Wp.ret (op_ix (by decide) ol_34 13 rfl) rfl ⟨_, rfl, ?_⟩
      refine Wp.blk (by decide) ol_37 14 1 (pc' := (if (0 : Int32) = (0 : Int32) then 29 else 25)) (L' := [.ref 5, .int v1, .int v2]) (S' := []) (h' := h) rfl ?_
      refine Wp.br (fun _ => ?_) (fun hc => absurd (by decide) hc)
      refine Wp.blk (by decide) ol_37 17 1 (pc' := 30) (L' := [.ref 5, .int v1, .int v2]) (S' := [.int (2 : Int32)]) (h' := h) rfl ?_
      exact Wp.ret (op_ix (by decide) ol_37 18 rfl) rfl K
    · replace K := K.2 c2
      refine Wp.blk (by decide) ol_34 10 2 (pc' := 23) (L' := [.ref 5, .int (((((((1 : Int32)) <<< (((AI h 5 5)) &&& 31))) - ((1 : Int32)))) &&& ((v2 ^^^ ((-1 : Int32)))))]) (S' := [.int (1 : Int32)]) (h' := h) rfl ?_
      refine Wp.ret (op_ix (by decide) ol_34 13 rfl) rfl ⟨_, rfl, ?_⟩
      refine Wp.blk (by decide) ol_37 14 1 (pc' := (if (1 : Int32) = (0 : Int32) then 29 else 25)) (L' := [.ref 5, .int v1, .int v2]) (S' := []) (h' := h) rfl ?_
      refine Wp.br (fun hc => absurd hc (by decide)) (fun _ => ?_)
      refine Wp.blk (by decide) ol_37 15 2 (pc' := 30) (L' := [.ref 5, .int v1, .int v2]) (S' := [.int (0 : Int32)]) (h' := h) rfl ?_
      exact Wp.ret (op_ix (by decide) ol_37 18 rfl) rfl K
  · replace K := K.2 c1
    refine Wp.blk (by decide) ol_34 10 2 (pc' := 23) (L' := [.ref 5, .int v1]) (S' := [.int (1 : Int32)]) (h' := h) rfl ?_
    refine Wp.ret (op_ix (by decide) ol_34 13 rfl) rfl ⟨_, rfl, ?_⟩
    refine Wp.blk (by decide) ol_37 3 1 (pc' := (if (1 : Int32) = (0 : Int32) then 10 else 8)) (L' := [.ref 5, .int v1, .int v2]) (S' := []) (h' := h) rfl ?_
    refine Wp.br (fun hc => absurd hc (by decide)) (fun _ => ?_)
    refine Wp.blk (by decide) ol_37 4 1 (pc' := 9) (L' := [.ref 5, .int v1, .int v2]) (S' := [.int (1 : Int32)]) (h' := h) rfl ?_
    exact Wp.ret (op_ix (by decide) ol_37 5 rfl) rfl K
/-- CutsOrFast$Page.<init> at 0 ()V -/
theorem g38_0 (d : Nat) (v0 : Nat) (h : AH)  (Q : Option Value → AH → Prop) (K : (∀ n1, n1 = (NX h) → ∀ h2, h2 = (newO h 20 50) → (okC 6 (AK h2 v0).1 = true ∧ 2 ≤ v0 ∧ Q none (stR h2 v0 0 (some n1))))) : Wp d 38 0 [.ref v0] [] h Q := by
  refine Wp.blk (by decide) ol_38 0 4 (pc' := 7) (L' := [.ref v0]) (S' := [.int (50 : Int32), .ref v0]) (h' := h) rfl ?_
  refine Wp.blk (by decide) ol_38 4 1 (pc' := 9) (L' := [.ref v0]) (S' := [.ref (NX h), .ref v0]) (h' := (newO h 20 50)) rfl ?_
  obtain ⟨n1, e3⟩ : ∃ x, x = (NX h) := ⟨_, rfl⟩
  obtain ⟨h2, e4⟩ : ∃ x, x = (newO h 20 50) := ⟨_, rfl⟩
  rw [← e4, ← e3]
  replace K := K n1 e3 h2 e4
  obtain ⟨k5, K⟩ := K
  obtain ⟨b6, K⟩ := K
  refine Wp.putf (op_ix (by decide) ol_38 5 rfl) b6 k5 (h' := (stR h2 v0 0 (some n1))) rfl rfl ?_
  exact Wp.ret (op_ix (by decide) ol_38 6 rfl) rfl K
/-- CutsOrFast$Page.size at 0 ()I -/
theorem g39_0 (d : Nat)  (h : AH) (HS : Sh h)  (Q : Option Value → AH → Prop) (K : Q (some (.int (AI h 3 1))) h) : Wp d 39 0 [.ref 3] [] h Q := by
  refine Wp.blk (by decide) ol_39 0 1 (pc' := 1) (L' := [.ref 3]) (S' := [.ref 3]) (h' := h) rfl ?_
  refine Wp.getf (op_ix (by decide) ol_39 1 rfl) (okS HS 3 rfl rfl) (v := .int (AI h 3 1)) rfl rfl ?_
  exact Wp.ret (op_ix (by decide) ol_39 2 rfl) rfl K
/-- CutsOrFast$Page.clear at 0 ()V -/
theorem g40_0 (d : Nat)  (h : AH) (HS : Sh h)  (Q : Option Value → AH → Prop) (K : Q none (stI h 3 1 ((0 : Int32)))) : Wp d 40 0 [.ref 3] [] h Q := by
  refine Wp.blk (by decide) ol_40 0 2 (pc' := 2) (L' := [.ref 3]) (S' := [.int (0 : Int32), .ref 3]) (h' := h) rfl ?_
  refine Wp.putf (op_ix (by decide) ol_40 2 rfl) (by decide) (okS HS 3 rfl rfl) (h' := (stI h 3 1 ((0 : Int32)))) rfl rfl ?_
  exact Wp.ret (op_ix (by decide) ol_40 3 rfl) rfl K
/-- CutsOrFast$Page.codeAt at 0 (I)I -/
theorem g41_0 (d : Nat) (v1 : Int32) (h : AH) (HS : Sh h)  (Q : Option Value → AH → Prop) (K : ((v1 < (AI h 3 1) → Q (some (.int (atv h 4 v1))) h) ∧ (¬ v1 < (AI h 3 1) → Q (some (.int (0 : Int32))) h))) : Wp (d + 1) 41 0 [.ref 3, .int v1] [] h Q := by
  refine Wp.blk (by decide) ol_41 0 2 (pc' := 2) (L' := [.ref 3, .int v1]) (S' := [.ref 3, .int v1]) (h' := h) rfl ?_
  refine Wp.getf (op_ix (by decide) ol_41 2 rfl) (okS HS 3 rfl rfl) (v := .int (AI h 3 1)) rfl rfl ?_
  refine Wp.blk (by decide) ol_41 3 1 (pc' := (if v1 < (AI h 3 1) then 8 else 19)) (L' := [.ref 3, .int v1]) (S' := []) (h' := h) rfl ?_
  refine Wp.br (fun c1 => ?_) (fun c1 => ?_)
  · replace K := K.1 c1
    refine Wp.blk (by decide) ol_41 4 1 (pc' := 9) (L' := [.ref 3, .int v1]) (S' := [.ref 3]) (h' := h) rfl ?_
    refine Wp.getf (op_ix (by decide) ol_41 5 rfl) (okS HS 3 rfl rfl) (v := .ref 4) (congrArg va_rf (rS HS 3 0 rfl)) rfl ?_
    refine Wp.blk (by decide) ol_41 6 1 (pc' := 13) (L' := [.ref 3, .int v1]) (S' := [.int v1, .ref 4]) (h' := h) rfl ?_
    refine Wp.callI (op_ix (by decide) ol_41 7 rfl) rfl rfl (sp_at (kS HS 4 rfl) (nS HS 4 rfl) ?_)
    refine ⟨_, rfl, ?_⟩
    refine Wp.blk (by decide) ol_41 8 1 (pc' := 20) (L' := [.ref 3, .int v1]) (S' := [.int (atv h 4 v1)]) (h' := h) rfl ?_
    exact Wp.ret (op_ix (by decide) ol_41 10 rfl) rfl K
  · replace K := K.2 c1
    refine Wp.blk (by decide) ol_41 9 1 (pc' := 20) (L' := [.ref 3, .int v1]) (S' := [.int (0 : Int32)]) (h' := h) rfl ?_
    exact Wp.ret (op_ix (by decide) ol_41 10 rfl) rfl K
/-- CutsOrFast$Page.append at 0 (J)I -/
theorem g42_0 (d : Nat) (v1 : Int64) (h : AH) (HS : Sh h)  (Q : Option Value → AH → Prop) (K : Wp d 42 8 [.ref 3, .long v1, mk0, .int (0 : Int32), .int (0 : Int32), .int (0 : Int32), mk0] [] h Q) : Wp d 42 0 [.ref 3, .long v1, mk0, mk0, mk0, mk0, mk0] [] h Q := by
  refine Wp.blk (by decide) ol_42 0 6 (pc' := 8) (L' := [.ref 3, .long v1, mk0, .int (0 : Int32), .int (0 : Int32), .int (0 : Int32), mk0]) (S' := []) (h' := h) rfl ?_
  exact K
/-- CutsOrFast$Page.append at 8 -/
theorem g42_8 (d : Nat) (v1 : Int64) (v3 : Int32) (v4 : Int32) (v5 : Int32) (h : AH) (HS : Sh h)  (Q : Option Value → AH → Prop) (K : ((v5 < (8 : Int32) → (((126 : Int32) < ((((v1.toUInt64 >>> (((((8 : Int32)) * v5)).toInt64.toUInt64 &&& Int64.toUInt64 63)).toInt64) &&& ((255 : Int64)))).toInt32 → Q (some (.int (-102 : Int32))) h) ∧ (¬ (126 : Int32) < ((((v1.toUInt64 >>> (((((8 : Int32)) * v5)).toInt64.toUInt64 &&& Int64.toUInt64 63)).toInt64) &&& ((255 : Int64)))).toInt32 → ((v4 = (0 : Int32) → ((((((v1.toUInt64 >>> (((((8 : Int32)) * v5)).toInt64.toUInt64 &&& Int64.toUInt64 63)).toInt64) &&& ((255 : Int64)))).toInt32 = (0 : Int32) → Wp (d + 1) 42 8 [.ref 3, .long v1, mk0, .int v3, .int (1 : Int32), .int (v5 + (1 : Int32)), mk0] [] h Q) ∧ (¬ ((((v1.toUInt64 >>> (((((8 : Int32)) * v5)).toInt64.toUInt64 &&& Int64.toUInt64 63)).toInt64) &&& ((255 : Int64)))).toInt32 = (0 : Int32) → Wp (d + 1) 42 8 [.ref 3, .long v1, mk0, .int (v3 + (1 : Int32)), .int v4, .int (v5 + (1 : Int32)), mk0] [] h Q))) ∧ (¬ v4 = (0 : Int32) → ((((((v1.toUInt64 >>> (((((8 : Int32)) * v5)).toInt64.toUInt64 &&& Int64.toUInt64 63)).toInt64) &&& ((255 : Int64)))).toInt32 = (0 : Int32) → Wp (d + 1) 42 8 [.ref 3, .long v1, mk0, .int v3, .int (1 : Int32), .int (v5 + (1 : Int32)), mk0] [] h Q) ∧ (¬ ((((v1.toUInt64 >>> (((((8 : Int32)) * v5)).toInt64.toUInt64 &&& Int64.toUInt64 63)).toInt64) &&& ((255 : Int64)))).toInt32 = (0 : Int32) → Q (some (.int (-102 : Int32))) h))))))) ∧ (¬ v5 < (8 : Int32) → (((50 : Int32) < (((AI h 3 1)) + v3) → Q (some (.int (-104 : Int32))) h) ∧ (¬ (50 : Int32) < (((AI h 3 1)) + v3) → Wp (d + 1) 42 80 [.ref 3, .long v1, mk0, .int v3, mk0, .int (0 : Int32), mk0] [] h Q))))) : Wp (d + 1) 42 8 [.ref 3, .long v1, mk0, .int v3, .int v4, .int v5, mk0] [] h Q := by
  refine Wp.blk (by decide) ol_42 6 3 (pc' := (if v5 < (8 : Int32) then 15 else 63)) (L' := [.ref 3, .long v1, mk0, .int v3, .int v4, .int v5, mk0]) (S' := []) (h' := h) rfl ?_
  refine Wp.br (fun c1 => ?_) (fun c1 => ?_)
  · replace K := K.1 c1
    refine Wp.blk (by decide) ol_42 9 2 (pc' := 18) (L' := [.ref 3, .long v1, mk0, .int v3, .int v4, .int v5, mk0]) (S' := [.int v5, .long v1]) (h' := h) rfl ?_
    refine Wp.callI (op_ix (by decide) ol_42 11 rfl) rfl rfl (Cl.enter (L := [.long v1, mk0, .int v5]) rfl ?_)
    refine Wp.blk (by decide) ol_43 0 8 (pc' := 11) (L' := [.long v1, mk0, .int v5]) (S' := [.int ((((v1.toUInt64 >>> (((((8 : Int32)) * v5)).toInt64.toUInt64 &&& Int64.toUInt64 63)).toInt64) &&& ((255 : Int64)))).toInt32]) (h' := h) rfl ?_
    refine Wp.ret (op_ix (by decide) ol_43 8 rfl) rfl ⟨_, rfl, ?_⟩
    refine Wp.blk (by decide) ol_42 12 4 (pc' := (if (126 : Int32) < ((((v1.toUInt64 >>> (((((8 : Int32)) * v5)).toInt64.toUInt64 &&& Int64.toUInt64 63)).toInt64) &&& ((255 : Int64)))).toInt32 then 40 else 30)) (L' := [.ref 3, .long v1, mk0, .int v3, .int v4, .int v5, .int ((((v1.toUInt64 >>> (((((8 : Int32)) * v5)).toInt64.toUInt64 &&& Int64.toUInt64 63)).toInt64) &&& ((255 : Int64)))).toInt32]) (S' := []) (h' := h) rfl ?_
    refine Wp.br (fun c2 => ?_) (fun c2 => ?_)
    · replace K := K.1 c2
      refine Wp.blk (by decide) ol_42 20 1 (pc' := 42) (L' := [.ref 3, .long v1, mk0, .int v3, .int v4, .int v5, .int ((((v1.toUInt64 >>> (((((8 : Int32)) * v5)).toInt64.toUInt64 &&& Int64.toUInt64 63)).toInt64) &&& ((255 : Int64)))).toInt32]) (S' := [.int (-102 : Int32)]) (h' := h) rfl ?_
      exact Wp.ret (op_ix (by decide) ol_42 21 rfl) rfl K
    · replace K := K.2 c2
      refine Wp.blk (by decide) ol_42 16 2 (pc' := (if v4 = (0 : Int32) then 43 else 35)) (L' := [.ref 3, .long v1, mk0, .int v3, .int v4, .int v5, .int ((((v1.toUInt64 >>> (((((8 : Int32)) * v5)).toInt64.toUInt64 &&& Int64.toUInt64 63)).toInt64) &&& ((255 : Int64)))).toInt32]) (S' := []) (h' := h) rfl ?_
      refine Wp.br (fun c3 => ?_) (fun c3 => ?_)
      · replace K := K.1 c3
        refine Wp.blk (by decide) ol_42 22 2 (pc' := (if ((((v1.toUInt64 >>> (((((8 : Int32)) * v5)).toInt64.toUInt64 &&& Int64.toUInt64 63)).toInt64) &&& ((255 : Int64)))).toInt32 = (0 : Int32) then 48 else 54)) (L' := [.ref 3, .long v1, mk0, .int v3, .int v4, .int v5, .int ((((v1.toUInt64 >>> (((((8 : Int32)) * v5)).toInt64.toUInt64 &&& Int64.toUInt64 63)).toInt64) &&& ((255 : Int64)))).toInt32]) (S' := []) (h' := h) rfl ?_
        refine Wp.br (fun c4 => ?_) (fun c4 => ?_)
        · replace K := K.1 c4
          refine Wp.blk (by decide) ol_42 24 3 (pc' := 57) (L' := [.ref 3, .long v1, mk0, .int v3, .int (1 : Int32), .int v5, .int ((((v1.toUInt64 >>> (((((8 : Int32)) * v5)).toInt64.toUInt64 &&& Int64.toUInt64 63)).toInt64) &&& ((255 : Int64)))).toInt32]) (S' := []) (h' := h) rfl ?_
          refine Wp.blk (by decide) ol_42 28 2 (pc' := 8) (L' := [.ref 3, .long v1, mk0, .int v3, .int (1 : Int32), .int (v5 + (1 : Int32)), .int ((((v1.toUInt64 >>> (((((8 : Int32)) * v5)).toInt64.toUInt64 &&& Int64.toUInt64 63)).toInt64) &&& ((255 : Int64)))).toInt32]) (S' := []) (h' := h) rfl ?_
          refine Wp.forget (L := [.ref 3, .long v1, mk0, .int v3, .int (1 : Int32), .int (v5 + (1 : Int32)), mk0]) (⟨Or.inr rfl, ⟨Or.inr rfl, ⟨Or.inr rfl, ⟨Or.inr rfl, ⟨Or.inr rfl, ⟨Or.inr rfl, ⟨Or.inl rfl, trivial⟩⟩⟩⟩⟩⟩⟩) ?_
          exact K
        · replace K := K.2 c4
          refine Wp.blk (by decide) ol_42 27 3 (pc' := 8) (L' := [.ref 3, .long v1, mk0, .int (v3 + (1 : Int32)), .int v4, .int (v5 + (1 : Int32)), .int ((((v1.toUInt64 >>> (((((8 : Int32)) * v5)).toInt64.toUInt64 &&& Int64.toUInt64 63)).toInt64) &&& ((255 : Int64)))).toInt32]) (S' := []) (h' := h) rfl ?_
          refine Wp.forget (L := [.ref 3, .long v1, mk0, .int (v3 + (1 : Int32)), .int v4, .int (v5 + (1 : Int32)), mk0]) (⟨Or.inr rfl, ⟨Or.inr rfl, ⟨Or.inr rfl, ⟨Or.inr rfl, ⟨Or.inr rfl, ⟨Or.inr rfl, ⟨Or.inl rfl, trivial⟩⟩⟩⟩⟩⟩⟩) ?_
          exact K
      · replace K := K.2 c3
        refine Wp.blk (by decide) ol_42 18 2 (pc' := (if ((((v1.toUInt64 >>> (((((8 : Int32)) * v5)).toInt64.toUInt64 &&& Int64.toUInt64 63)).toInt64) &&& ((255 : Int64)))).toInt32 = (0 : Int32) then 43 else 40)) (L' := [.ref 3, .long v1, mk0, .int v3, .int v4, .int v5, .int ((((v1.toUInt64 >>> (((((8 : Int32)) * v5)).toInt64.toUInt64 &&& Int64.toUInt64 63)).toInt64) &&& ((255 : Int64)))).toInt32]) (S' := []) (h' := h) rfl ?_
        refine Wp.br (fun c5 => ?_) (fun c5 => ?_)
        · replace K := K.1 c5
          refine Wp.blk (by decide) ol_42 22 2 (pc' := (if ((((v1.toUInt64 >>> (((((8 : Int32)) * v5)).toInt64.toUInt64 &&& Int64.toUInt64 63)).toInt64) &&& ((255 : Int64)))).toInt32 = (0 : Int32) then 48 else 54)) (L' := [.ref 3, .long v1, mk0, .int v3, .int v4, .int v5, .int ((((v1.toUInt64 >>> (((((8 : Int32)) * v5)).toInt64.toUInt64 &&& Int64.toUInt64 63)).toInt64) &&& ((255 : Int64)))).toInt32]) (S' := []) (h' := h) rfl ?_
          refine Wp.br (fun _ => ?_) (fun hc => absurd c5 hc)
          refine Wp.blk (by decide) ol_42 24 3 (pc' := 57) (L' := [.ref 3, .long v1, mk0, .int v3, .int (1 : Int32), .int v5, .int ((((v1.toUInt64 >>> (((((8 : Int32)) * v5)).toInt64.toUInt64 &&& Int64.toUInt64 63)).toInt64) &&& ((255 : Int64)))).toInt32]) (S' := []) (h' := h) rfl ?_
          refine Wp.blk (by decide) ol_42 28 2 (pc' := 8) (L' := [.ref 3, .long v1, mk0, .int v3, .int (1 : Int32), .int (v5 + (1 : Int32)), .int ((((v1.toUInt64 >>> (((((8 : Int32)) * v5)).toInt64.toUInt64 &&& Int64.toUInt64 63)).toInt64) &&& ((255 : Int64)))).toInt32]) (S' := []) (h' := h) rfl ?_
          refine Wp.forget (L := [.ref 3, .long v1, mk0, .int v3, .int (1 : Int32), .int (v5 + (1 : Int32)), mk0]) (⟨Or.inr rfl, ⟨Or.inr rfl, ⟨Or.inr rfl, ⟨Or.inr rfl, ⟨Or.inr rfl, ⟨Or.inr rfl, ⟨Or.inl rfl, trivial⟩⟩⟩⟩⟩⟩⟩) ?_
          exact K
        · replace K := K.2 c5
          refine Wp.blk (by decide) ol_42 20 1 (pc' := 42) (L' := [.ref 3, .long v1, mk0, .int v3, .int v4, .int v5, .int ((((v1.toUInt64 >>> (((((8 : Int32)) * v5)).toInt64.toUInt64 &&& Int64.toUInt64 63)).toInt64) &&& ((255 : Int64)))).toInt32]) (S' := [.int (-102 : Int32)]) (h' := h) rfl ?_
          exact Wp.ret (op_ix (by decide) ol_42 21 rfl) rfl K
  · replace K := K.2 c1
    refine Wp.blk (by decide) ol_42 30 1 (pc' := 64) (L' := [.ref 3, .long v1, mk0, .int v3, .int v4, .int v5, mk0]) (S' := [.ref 3]) (h' := h) rfl ?_
    refine Wp.getf (op_ix (by decide) ol_42 31 rfl) (okS HS 3 rfl rfl) (v := .int (AI h 3 1)) rfl rfl ?_
    refine Wp.blk (by decide) ol_42 32 4 (pc' := (if (50 : Int32) < (((AI h 3 1)) + v3) then 74 else 77)) (L' := [.ref 3, .long v1, mk0, .int v3, .int v4, .int v5, mk0]) (S' := []) (h' := h) rfl ?_
    refine Wp.br (fun c6 => ?_) (fun c6 => ?_)
    · replace K := K.1 c6
      refine Wp.blk (by decide) ol_42 36 1 (pc' := 76) (L' := [.ref 3, .long v1, mk0, .int v3, .int v4, .int v5, mk0]) (S' := [.int (-104 : Int32)]) (h' := h) rfl ?_
      exact Wp.ret (op_ix (by decide) ol_42 37 rfl) rfl K
    · replace K := K.2 c6
      refine Wp.blk (by decide) ol_42 38 2 (pc' := 80) (L' := [.ref 3, .long v1, mk0, .int v3, .int v4, .int (0 : Int32), mk0]) (S' := []) (h' := h) rfl ?_
      refine Wp.forget (L := [.ref 3, .long v1, mk0, .int v3, mk0, .int (0 : Int32), mk0]) (⟨Or.inr rfl, ⟨Or.inr rfl, ⟨Or.inr rfl, ⟨Or.inr rfl, ⟨Or.inl rfl, ⟨Or.inr rfl, ⟨Or.inr rfl, trivial⟩⟩⟩⟩⟩⟩⟩) ?_
      exact K
/-- CutsOrFast$Page.append at 80 -/
theorem g42_80 (d : Nat) (v1 : Int64) (v3 : Int32) (v5 : Int32) (h : AH) (HS : Sh h)  (Q : Option Value → AH → Prop) (K : ((v5 < v3 → (∀ h2, h2 = (putv h 4 ((((AI h 3 1)) + v5)) (((((v1.toUInt64 >>> (((((8 : Int32)) * v5)).toInt64.toUInt64 &&& Int64.toUInt64 63)).toInt64) &&& ((255 : Int64)))).toInt32)) → Wp (d + 1) 42 80 [.ref 3, .long v1, mk0, .int v3, mk0, .int (v5 + (1 : Int32)), mk0] [] h2 Q)) ∧ (¬ v5 < v3 → Q (some (.int (AI ((stI h 3 1 ((((AI h 3 1)) + v3)))) 3 1))) (stI h 3 1 ((((AI h 3 1)) + v3)))))) : Wp (d + 1) 42 80 [.ref 3, .long v1, mk0, .int v3, mk0, .int v5, mk0] [] h Q := by
  refine Wp.blk (by decide) ol_42 40 3 (pc' := (if v5 < v3 then 86 else 112)) (L' := [.ref 3, .long v1, mk0, .int v3, mk0, .int v5, mk0]) (S' := []) (h' := h) rfl ?_
  refine Wp.br (fun c1 => ?_) (fun c1 => ?_)
  · replace K := K.1 c1
    refine Wp.blk (by decide) ol_42 43 1 (pc' := 87) (L' := [.ref 3, .long v1, mk0, .int v3, mk0, .int v5, mk0]) (S' := [.ref 3]) (h' := h) rfl ?_
    refine Wp.getf (op_ix (by decide) ol_42 44 rfl) (okS HS 3 rfl rfl) (v := .ref 4) (congrArg va_rf (rS HS 3 0 rfl)) rfl ?_
    refine Wp.blk (by decide) ol_42 45 1 (pc' := 91) (L' := [.ref 3, .long v1, mk0, .int v3, mk0, .int v5, mk0]) (S' := [.ref 3, .ref 4]) (h' := h) rfl ?_
    refine Wp.getf (op_ix (by decide) ol_42 46 rfl) (okS HS 3 rfl rfl) (v := .int (AI h 3 1)) rfl rfl ?_
    refine Wp.blk (by decide) ol_42 47 4 (pc' := 100) (L' := [.ref 3, .long v1, mk0, .int v3, mk0, .int v5, mk0]) (S' := [.int v5, .long v1, .int (((AI h 3 1)) + v5), .ref 4]) (h' := h) rfl ?_
    refine Wp.callI (op_ix (by decide) ol_42 51 rfl) rfl rfl (Cl.enter (L := [.long v1, mk0, .int v5]) rfl ?_)
    refine Wp.blk (by decide) ol_43 0 8 (pc' := 11) (L' := [.long v1, mk0, .int v5]) (S' := [.int ((((v1.toUInt64 >>> (((((8 : Int32)) * v5)).toInt64.toUInt64 &&& Int64.toUInt64 63)).toInt64) &&& ((255 : Int64)))).toInt32]) (h' := h) rfl ?_
    refine Wp.ret (op_ix (by decide) ol_43 8 rfl) rfl ⟨_, rfl, ?_⟩
    refine Wp.callV (op_ix (by decide) ol_42 52 rfl) rfl rfl (sp_put (kS HS 4 rfl) (nS HS 4 rfl) (by decide) ?_)
    refine ⟨rfl, ?_⟩
    obtain ⟨h2, e3⟩ : ∃ y, y = (putv h 4 ((((AI h 3 1)) + v5)) (((((v1.toUInt64 >>> (((((8 : Int32)) * v5)).toInt64.toUInt64 &&& Int64.toUInt64 63)).toInt64) &&& ((255 : Int64)))).toInt32)) := ⟨_, rfl⟩
    rw [← e3]
    replace K := K h2 e3
    have hs4 : Sh h2 := by rw [e3]; exact Sh.putv HS _ _ _
    refine Wp.blk (by decide) ol_42 53 2 (pc' := 80) (L' := [.ref 3, .long v1, mk0, .int v3, mk0, .int (v5 + (1 : Int32)), mk0]) (S' := []) (h' := h2) rfl ?_
    exact K
  · replace K := K.2 c1
    refine Wp.blk (by decide) ol_42 55 2 (pc' := 114) (L' := [.ref 3, .long v1, mk0, .int v3, mk0, .int v5, mk0]) (S' := [.ref 3, .ref 3]) (h' := h) rfl ?_
    refine Wp.getf (op_ix (by decide) ol_42 57 rfl) (okS HS 3 rfl rfl) (v := .int (AI h 3 1)) rfl rfl ?_
    refine Wp.blk (by decide) ol_42 58 2 (pc' := 119) (L' := [.ref 3, .long v1, mk0, .int v3, mk0, .int v5, mk0]) (S' := [.int (((AI h 3 1)) + v3), .ref 3]) (h' := h) rfl ?_
    refine Wp.putf (op_ix (by decide) ol_42 60 rfl) (by decide) (okS HS 3 rfl rfl) (h' := (stI h 3 1 ((((AI h 3 1)) + v3)))) rfl rfl ?_
    refine Wp.blk (by decide) ol_42 61 1 (pc' := 123) (L' := [.ref 3, .long v1, mk0, .int v3, mk0, .int v5, mk0]) (S' := [.ref 3]) (h' := (stI h 3 1 ((((AI h 3 1)) + v3)))) rfl ?_
    refine Wp.getf (op_ix (by decide) ol_42 62 rfl) (okS HS 3 rfl rfl) (v := .int (AI ((stI h 3 1 ((((AI h 3 1)) + v3)))) 3 1)) rfl rfl ?_
    exact Wp.ret (op_ix (by decide) ol_42 63 rfl) rfl K
/-- CutsOrFast$Page.byteOf at 0 (JI)I -/
theorem g43_0 (d : Nat) (v0 : Int64) (v2 : Int32) (h : AH) (HS : Sh h)  (Q : Option Value → AH → Prop) (K : Q (some (.int ((((v0.toUInt64 >>> (((((8 : Int32)) * v2)).toInt64.toUInt64 &&& Int64.toUInt64 63)).toInt64) &&& ((255 : Int64)))).toInt32)) h) : Wp d 43 0 [.long v0, mk0, .int v2] [] h Q := by
  refine Wp.blk (by decide) ol_43 0 8 (pc' := 11) (L' := [.long v0, mk0, .int v2]) (S' := [.int ((((v0.toUInt64 >>> (((((8 : Int32)) * v2)).toInt64.toUInt64 &&& Int64.toUInt64 63)).toInt64) &&& ((255 : Int64)))).toInt32]) (h' := h) rfl ?_
  exact Wp.ret (op_ix (by decide) ol_43 8 rfl) rfl K
/-- CutsOrFast$Page.isNet at 0 ()Z -/
theorem g44_0 (d : Nat)  (h : AH) (HS : Sh h)  (Q : Option Value → AH → Prop) (K : (Cl d 45 [.ref 3] h (fun r h1 => ∃ x3 : Int32, r = some (.int x3) ∧ Sh h1 ∧ ((x3 = (AI h1 3 1) → (((AI h1 3 2) < (5 : Int32) → Q (some (.int (0 : Int32))) h1) ∧ (¬ (AI h1 3 2) < (5 : Int32) → Q (some (.int (1 : Int32))) h1))) ∧ (¬ x3 = (AI h1 3 1) → Q (some (.int (0 : Int32))) h1))))) : Wp (d + 1) 44 0 [.ref 3] [] h Q := by
  refine Wp.blk (by decide) ol_44 0 1 (pc' := 1) (L' := [.ref 3]) (S' := [.ref 3]) (h' := h) rfl ?_
  refine Wp.callI (op_ix (by decide) ol_44 1 rfl) (act_virt (c2 := 0) rfl (lk1 (kS HS 3 rfl)) rfl) rfl (K.mono ?_)
  rintro _ h1 ⟨x3, rfl, hs2, K⟩
  refine ⟨x3, rfl, ?_⟩
  refine Wp.blk (by decide) ol_44 2 1 (pc' := 5) (L' := [.ref 3]) (S' := [.ref 3, .int x3]) (h' := h1) rfl ?_
  refine Wp.getf (op_ix (by decide) ol_44 3 rfl) (okS hs2 3 rfl rfl) (v := .int (AI h1 3 1)) rfl rfl ?_
  refine Wp.blk (by decide) ol_44 4 1 (pc' := (if x3 = (AI h1 3 1) then 11 else 23)) (L' := [.ref 3]) (S' := []) (h' := h1) rfl ?_
  refine Wp.br (fun c4 => ?_) (fun c4 => ?_)
  · replace K := K.1 c4
    refine Wp.blk (by decide) ol_44 5 1 (pc' := 12) (L' := [.ref 3]) (S' := [.ref 3]) (h' := h1) rfl ?_
    refine Wp.getf (op_ix (by decide) ol_44 6 rfl) (okS hs2 3 rfl rfl) (v := .int (AI h1 3 2)) rfl rfl ?_
    refine Wp.blk (by decide) ol_44 7 2 (pc' := (if (AI h1 3 2) < (5 : Int32) then 23 else 19)) (L' := [.ref 3]) (S' := []) (h' := h1) rfl ?_
    refine Wp.br (fun c5 => ?_) (fun c5 => ?_)
    · replace K := K.1 c5
      refine Wp.blk (by decide) ol_44 11 1 (pc' := 24) (L' := [.ref 3]) (S' := [.int (0 : Int32)]) (h' := h1) rfl ?_
      exact Wp.ret (op_ix (by decide) ol_44 12 rfl) rfl K
    · replace K := K.2 c5
      refine Wp.blk (by decide) ol_44 9 2 (pc' := 24) (L' := [.ref 3]) (S' := [.int (1 : Int32)]) (h' := h1) rfl ?_
      exact Wp.ret (op_ix (by decide) ol_44 12 rfl) rfl K
  · replace K := K.2 c4
    refine Wp.blk (by decide) ol_44 11 1 (pc' := 24) (L' := [.ref 3]) (S' := [.int (0 : Int32)]) (h' := h1) rfl ?_
    exact Wp.ret (op_ix (by decide) ol_44 12 rfl) rfl K
/-- CutsOrFast$Page.soundLetters at 0 ()I -/
theorem g45_0 (d : Nat)  (h : AH) (HS : Sh h)  (Q : Option Value → AH → Prop) (K : Wp d 45 11 [.ref 3, .int (0 : Int32), .int (0 : Int32), .int (0 : Int32), mk0] [] (stI h 3 2 ((0 : Int32))) Q) : Wp d 45 0 [.ref 3, mk0, mk0, mk0, mk0] [] h Q := by
  refine Wp.blk (by decide) ol_45 0 6 (pc' := 6) (L' := [.ref 3, .int (0 : Int32), .int (0 : Int32), mk0, mk0]) (S' := [.int (0 : Int32), .ref 3]) (h' := h) rfl ?_
  refine Wp.putf (op_ix (by decide) ol_45 6 rfl) (by decide) (okS HS 3 rfl rfl) (h' := (stI h 3 2 ((0 : Int32)))) rfl rfl ?_
  refine Wp.blk (by decide) ol_45 7 2 (pc' := 11) (L' := [.ref 3, .int (0 : Int32), .int (0 : Int32), .int (0 : Int32), mk0]) (S' := []) (h' := (stI h 3 2 ((0 : Int32)))) rfl ?_
  exact K
/-- CutsOrFast$Page.soundLetters at 11 -/
theorem g45_11 (d : Nat) (v1 : Int32) (v2 : Int32) (v3 : Int32) (h : AH) (HS : Sh h)  (Q : Option Value → AH → Prop) (K : ((v3 < (AI h 3 1) → (Cl (d + 1) 46 [.int (AI h 3 2), .int (atv h 4 v3), .int v2, .int v1] h (fun r h2 => ∃ x4 : Int32, r = some (.int x4) ∧ Sh h2 ∧ (((AI ((stI h2 3 2 x4)) 3 2) = (-1 : Int32) → Q (some (.int v3)) (stI h2 3 2 x4)) ∧ (¬ (AI ((stI h2 3 2 x4)) 3 2) = (-1 : Int32) → (((AI ((stI h2 3 2 x4)) 3 2) = (5 : Int32) → Wp (d + 2) 45 11 [.ref 3, .int (v1 + (1 : Int32)), .int (atv h 4 v3), .int (v3 + (1 : Int32)), mk0] [] (stI h2 3 2 x4) Q) ∧ (¬ (AI ((stI h2 3 2 x4)) 3 2) = (5 : Int32) → Wp (d + 2) 45 11 [.ref 3, .int v1, .int (atv h 4 v3), .int (v3 + (1 : Int32)), mk0] [] (stI h2 3 2 x4) Q))))))) ∧ (¬ v3 < (AI h 3 1) → Q (some (.int (AI h 3 1))) h))) : Wp (d + 2) 45 11 [.ref 3, .int v1, .int v2, .int v3, mk0] [] h Q := by
  refine Wp.blk (by decide) ol_45 9 2 (pc' := 13) (L' := [.ref 3, .int v1, .int v2, .int v3, mk0]) (S' := [.ref 3, .int v3]) (h' := h) rfl ?_
  refine Wp.getf (op_ix (by decide) ol_45 11 rfl) (okS HS 3 rfl rfl) (v := .int (AI h 3 1)) rfl rfl ?_
  refine Wp.blk (by decide) ol_45 12 1 (pc' := (if v3 < (AI h 3 1) then 19 else 71)) (L' := [.ref 3, .int v1, .int v2, .int v3, mk0]) (S' := []) (h' := h) rfl ?_
  refine Wp.br (fun c1 => ?_) (fun c1 => ?_)
  · replace K := K.1 c1
    refine Wp.blk (by decide) ol_45 13 2 (pc' := 21) (L' := [.ref 3, .int v1, .int v2, .int v3, mk0]) (S' := [.int v3, .ref 3]) (h' := h) rfl ?_
    refine Wp.callI (op_ix (by decide) ol_45 15 rfl) (act_virt (c2 := 1) rfl (lk1 (kS HS 3 rfl)) rfl) rfl (Cl.enter (L := [.ref 3, .int v3]) rfl ?_)
    refine Wp.blk (by decide) ol_41 0 2 (pc' := 2) (L' := [.ref 3, .int v3]) (S' := [.ref 3, .int v3]) (h' := h) rfl ?_
    refine Wp.getf (op_ix (by decide) ol_41 2 rfl) (okS HS 3 rfl rfl) (v := .int (AI h 3 1)) rfl rfl ?_
    refine Wp.blk (by decide) ol_41 3 1 (pc' := (if v3 < (AI h 3 1) then 8 else 19)) (L' := [.ref 3, .int v3]) (S' := []) (h' := h) rfl ?_
    refine Wp.br (fun _ => ?_) (fun hc => absurd c1 hc)
    refine Wp.blk (by decide) ol_41 4 1 (pc' := 9) (L' := [.ref 3, .int v3]) (S' := [.ref 3]) (h' := h) rfl ?_
    refine Wp.getf (op_ix (by decide) ol_41 5 rfl) (okS HS 3 rfl rfl) (v := .ref 4) (congrArg va_rf (rS HS 3 0 rfl)) rfl ?_
    refine Wp.blk (by decide) ol_41 6 1 (pc' := 13) (L' := [.ref 3, .int v3]) (S' := [.int v3, .ref 4]) (h' := h) rfl ?_
    refine Wp.callI (op_ix (by decide) ol_41 7 rfl) rfl rfl (sp_at (kS HS 4 rfl) (nS HS 4 rfl) ?_)
    refine ⟨_, rfl, ?_⟩
    refine Wp.blk (by decide) ol_41 8 1 (pc' := 20) (L' := [.ref 3, .int v3]) (S' := [.int (atv h 4 v3)]) (h' := h) rfl ?_
    refine Wp.ret (op_ix (by decide) ol_41 10 rfl) rfl ⟨_, rfl, ?_⟩
    refine Wp.blk (by decide) ol_45 16 3 (pc' := 28) (L' := [.ref 3, .int v1, .int v2, .int v3, .int (atv h 4 v3)]) (S' := [.ref 3, .ref 3]) (h' := h) rfl ?_
    refine Wp.getf (op_ix (by decide) ol_45 19 rfl) (okS HS 3 rfl rfl) (v := .int (AI h 3 2)) rfl rfl ?_
    refine Wp.blk (by decide) ol_45 20 3 (pc' := 35) (L' := [.ref 3, .int v1, .int v2, .int v3, .int (atv h 4 v3)]) (S' := [.int v1, .int v2, .int (atv h 4 v3), .int (AI h 3 2), .ref 3]) (h' := h) rfl ?_
    refine Wp.callI (op_ix (by decide) ol_45 23 rfl) rfl rfl (K.mono ?_)
    rintro _ h2 ⟨x4, rfl, hs3, K⟩
    refine ⟨x4, rfl, ?_⟩
    refine Wp.putf (op_ix (by decide) ol_45 24 rfl) (by decide) (okS hs3 3 rfl rfl) (h' := (stI h2 3 2 x4)) rfl rfl ?_
    refine Wp.blk (by decide) ol_45 25 1 (pc' := 42) (L' := [.ref 3, .int v1, .int v2, .int v3, .int (atv h 4 v3)]) (S' := [.ref 3]) (h' := (stI h2 3 2 x4)) rfl ?_
    refine Wp.getf (op_ix (by decide) ol_45 26 rfl) (okS hs3 3 rfl rfl) (v := .int (AI ((stI h2 3 2 x4)) 3 2)) rfl rfl ?_
    refine Wp.blk (by decide) ol_45 27 2 (pc' := (if (AI ((stI h2 3 2 x4)) 3 2) = (-1 : Int32) then 49 else 51)) (L' := [.ref 3, .int v1, .int v2, .int v3, .int (atv h 4 v3)]) (S' := []) (h' := (stI h2 3 2 x4)) rfl ?_
    refine Wp.br (fun c5 => ?_) (fun c5 => ?_)
    · replace K := K.1 c5
      refine Wp.blk (by decide) ol_45 29 1 (pc' := 50) (L' := [.ref 3, .int v1, .int v2, .int v3, .int (atv h 4 v3)]) (S' := [.int v3]) (h' := (stI h2 3 2 x4)) rfl ?_
      exact Wp.ret (op_ix (by decide) ol_45 30 rfl) rfl K
    · replace K := K.2 c5
      refine Wp.blk (by decide) ol_45 31 1 (pc' := 52) (L' := [.ref 3, .int v1, .int v2, .int v3, .int (atv h 4 v3)]) (S' := [.ref 3]) (h' := (stI h2 3 2 x4)) rfl ?_
      refine Wp.getf (op_ix (by decide) ol_45 32 rfl) (okS hs3 3 rfl rfl) (v := .int (AI ((stI h2 3 2 x4)) 3 2)) rfl rfl ?_
      refine Wp.blk (by decide) ol_45 33 2 (pc' := (if (AI ((stI h2 3 2 x4)) 3 2) = (5 : Int32) then 59 else 62)) (L' := [.ref 3, .int v1, .int v2, .int v3, .int (atv h 4 v3)]) (S' := []) (h' := (stI h2 3 2 x4)) rfl ?_
      refine Wp.br (fun c6 => ?_) (fun c6 => ?_)
      · replace K := K.1 c6
        refine Wp.blk (by decide) ol_45 35 5 (pc' := 11) (L' := [.ref 3, .int (v1 + (1 : Int32)), .int (atv h 4 v3), .int (v3 + (1 : Int32)), .int (atv h 4 v3)]) (S' := []) (h' := (stI h2 3 2 x4)) rfl ?_
        refine Wp.forget (L := [.ref 3, .int (v1 + (1 : Int32)), .int (atv h 4 v3), .int (v3 + (1 : Int32)), mk0]) (⟨Or.inr rfl, ⟨Or.inr rfl, ⟨Or.inr rfl, ⟨Or.inr rfl, ⟨Or.inl rfl, trivial⟩⟩⟩⟩⟩) ?_
        exact K
      · replace K := K.2 c6
        refine Wp.blk (by decide) ol_45 36 4 (pc' := 11) (L' := [.ref 3, .int v1, .int (atv h 4 v3), .int (v3 + (1 : Int32)), .int (atv h 4 v3)]) (S' := []) (h' := (stI h2 3 2 x4)) rfl ?_
        refine Wp.forget (L := [.ref 3, .int v1, .int (atv h 4 v3), .int (v3 + (1 : Int32)), mk0]) (⟨Or.inr rfl, ⟨Or.inr rfl, ⟨Or.inr rfl, ⟨Or.inr rfl, ⟨Or.inl rfl, trivial⟩⟩⟩⟩⟩) ?_
        exact K
  · replace K := K.2 c1
    refine Wp.blk (by decide) ol_45 40 1 (pc' := 72) (L' := [.ref 3, .int v1, .int v2, .int v3, mk0]) (S' := [.ref 3]) (h' := h) rfl ?_
    refine Wp.getf (op_ix (by decide) ol_45 41 rfl) (okS HS 3 rfl rfl) (v := .int (AI h 3 1)) rfl rfl ?_
    exact Wp.ret (op_ix (by decide) ol_45 42 rfl) rfl K
/-- CutsOrFast$Page.step at 0 (IIII)I -/
theorem g46_0 (d : Nat) (v0 : Int32) (v1 : Int32) (v2 : Int32) (v3 : Int32) (h : AH) (HS : Sh h)  (Q : Option Value → AH → Prop) (K : ((v0 = Int32.ofNat 0 → ((v1 < (97 : Int32) → Q (some (.int (-1 : Int32))) h) ∧ (¬ v1 < (97 : Int32) → (((102 : Int32) < v1 → Q (some (.int (-1 : Int32))) h) ∧ (¬ (102 : Int32) < v1 → Q (some (.int (1 : Int32))) h))))) ∧ (¬ v0 = Int32.ofNat 0 → ((v0 = Int32.ofNat 1 → ((v1 < (97 : Int32) → Q (some (.int (-1 : Int32))) h) ∧ (¬ v1 < (97 : Int32) → (((102 : Int32) < v1 → Q (some (.int (-1 : Int32))) h) ∧ (¬ (102 : Int32) < v1 → ((v1 = v2 → Q (some (.int (-1 : Int32))) h) ∧ (¬ v1 = v2 → Q (some (.int (2 : Int32))) h))))))) ∧ (¬ v0 = Int32.ofNat 1 → ((v0 = Int32.ofNat 2 → ((v1 = (58 : Int32) → Q (some (.int (3 : Int32))) h) ∧ (¬ v1 = (58 : Int32) → Q (some (.int (-1 : Int32))) h))) ∧ (¬ v0 = Int32.ofNat 2 → ((v0 = Int32.ofNat 3 → ((v1 < (97 : Int32) → Q (some (.int (-1 : Int32))) h) ∧ (¬ v1 < (97 : Int32) → (((102 : Int32) < v1 → Q (some (.int (-1 : Int32))) h) ∧ (¬ (102 : Int32) < v1 → Q (some (.int (4 : Int32))) h))))) ∧ (¬ v0 = Int32.ofNat 3 → ((v0 = Int32.ofNat 4 → ((v1 < (97 : Int32) → Q (some (.int (-1 : Int32))) h) ∧ (¬ v1 < (97 : Int32) → (((102 : Int32) < v1 → Q (some (.int (-1 : Int32))) h) ∧ (¬ (102 : Int32) < v1 → ((v1 = v2 → Q (some (.int (-1 : Int32))) h) ∧ (¬ v1 = v2 → Q (some (.int (5 : Int32))) h))))))) ∧ (¬ v0 = Int32.ofNat 4 → (Cl d 47 [.int v0, .int v1, .int v3] h (fun r h17 => ∃ x19 : Int32, r = some (.int x19) ∧ Sh h17 ∧ Q (some (.int x19)) h17))))))))))))) : Wp (d + 1) 46 0 [.int v0, .int v1, .int v2, .int v3] [] h Q := by
  refine Wp.blk (by decide) ol_46 0 2 (pc' := (tsw v0 [(0, 36), (1, 49), (2, 67), (3, 79), (4, 92)] 110)) (L' := [.int v0, .int v1, .int v2, .int v3]) (S' := []) (h' := h) rfl ?_
  refine Wp.tsw (fun c1 => ?_) (fun c1 => ?_)
  · replace K := K.1 c1
    refine Wp.blk (by decide) ol_46 2 1 (pc' := 37) (L' := [.int v0, .int v1, .int v2, .int v3]) (S' := [.int v1]) (h' := h) rfl ?_
    refine Wp.callI (op_ix (by decide) ol_46 3 rfl) rfl rfl (Cl.enter (L := [.int v1]) rfl ?_)
    refine Wp.blk (by decide) ol_48 0 3 (pc' := (if v1 < (97 : Int32) then 16 else 6)) (L' := [.int v1]) (S' := []) (h' := h) rfl ?_
    refine Wp.br (fun c2 => ?_) (fun c2 => ?_)
    · replace K := K.1 c2
      refine Wp.blk (by decide) ol_48 8 1 (pc' := 17) (L' := [.int v1]) (S' := [.int (0 : Int32)]) (h' := h) rfl ?_
      refine Wp.ret (op_ix (by decide) ol_48 9 rfl) rfl ⟨_, rfl, ?_⟩
      refine Wp.blk (by decide) ol_46 4 1 (pc' := (if (0 : Int32) = (0 : Int32) then 47 else 43)) (L' := [.int v0, .int v1, .int v2, .int v3]) (S' := []) (h' := h) rfl ?_
      refine Wp.br (fun _ => ?_) (fun hc => absurd (by decide) hc)
      refine Wp.blk (by decide) ol_46 7 1 (pc' := 48) (L' := [.int v0, .int v1, .int v2, .int v3]) (S' := [.int (-1 : Int32)]) (h' := h) rfl ?_
      exact Wp.ret (op_ix (by decide) ol_46 8 rfl) rfl K
    · replace K := K.2 c2
      refine Wp.blk (by decide) ol_48 3 3 (pc' := (if (102 : Int32) < v1 then 16 else 12)) (L' := [.int v1]) (S' := []) (h' := h) rfl ?_
      refine Wp.br (fun c3 => ?_) (fun c3 => ?_)
      · replace K := K.1 c3
        refine Wp.blk (by decide) ol_48 8 1 (pc' := 17) (L' := [.int v1]) (S' := [.int (0 : Int32)]) (h' := h) rfl ?_
        refine Wp.ret (op_ix (by decide) ol_48 9 rfl) rfl ⟨_, rfl, ?_⟩
        refine Wp.blk (by decide) ol_46 4 1 (pc' := (if (0 : Int32) = (0 : Int32) then 47 else 43)) (L' := [.int v0, .int v1, .int v2, .int v3]) (S' := []) (h' := h) rfl ?_
        refine Wp.br (fun _ => ?_) (fun hc => absurd (by decide) hc)
        refine Wp.blk (by decide) ol_46 7 1 (pc' := 48) (L' := [.int v0, .int v1, .int v2, .int v3]) (S' := [.int (-1 : Int32)]) (h' := h) rfl ?_
        exact Wp.ret (op_ix (by decide) ol_46 8 rfl) rfl K
      · replace K := K.2 c3
        refine Wp.blk (by decide) ol_48 6 2 (pc' := 17) (L' := [.int v1]) (S' := [.int (1 : Int32)]) (h' := h) rfl ?_
        refine Wp.ret (op_ix (by decide) ol_48 9 rfl) rfl ⟨_, rfl, ?_⟩
        refine Wp.blk (by decide) ol_46 4 1 (pc' := (if (1 : Int32) = (0 : Int32) then 47 else 43)) (L' := [.int v0, .int v1, .int v2, .int v3]) (S' := []) (h' := h) rfl ?_
        refine Wp.br (fun hc => absurd hc (by decide)) (fun _ => ?_)
        refine Wp.blk (by decide) ol_46 5 2 (pc' := 48) (L' := [.int v0, .int v1, .int v2, .int v3]) (S' := [.int (1 : Int32)]) (h' := h) rfl ?_
        exact Wp.ret (op_ix (by decide) ol_46 8 rfl) rfl K
  replace K := K.2 c1
  refine Wp.tsw (fun c4 => ?_) (fun c4 => ?_)
  · replace K := K.1 c4
    refine Wp.blk (by decide) ol_46 9 1 (pc' := 50) (L' := [.int v0, .int v1, .int v2, .int v3]) (S' := [.int v1]) (h' := h) rfl ?_
    refine Wp.callI (op_ix (by decide) ol_46 10 rfl) rfl rfl (Cl.enter (L := [.int v1]) rfl ?_)
    refine Wp.blk (by decide) ol_48 0 3 (pc' := (if v1 < (97 : Int32) then 16 else 6)) (L' := [.int v1]) (S' := []) (h' := h) rfl ?_
    refine Wp.br (fun c5 => ?_) (fun c5 => ?_)
    · replace K := K.1 c5
      refine Wp.blk (by decide) ol_48 8 1 (pc' := 17) (L' := [.int v1]) (S' := [.int (0 : Int32)]) (h' := h) rfl ?_
      refine Wp.ret (op_ix (by decide) ol_48 9 rfl) rfl ⟨_, rfl, ?_⟩
      refine Wp.blk (by decide) ol_46 11 1 (pc' := (if (0 : Int32) = (0 : Int32) then 65 else 56)) (L' := [.int v0, .int v1, .int v2, .int v3]) (S' := []) (h' := h) rfl ?_
      refine Wp.br (fun _ => ?_) (fun hc => absurd (by decide) hc)
      refine Wp.blk (by decide) ol_46 17 1 (pc' := 66) (L' := [.int v0, .int v1, .int v2, .int v3]) (S' := [.int (-1 : Int32)]) (h' := h) rfl ?_
      exact Wp.ret (op_ix (by decide) ol_46 18 rfl) rfl K
    · replace K := K.2 c5
      refine Wp.blk (by decide) ol_48 3 3 (pc' := (if (102 : Int32) < v1 then 16 else 12)) (L' := [.int v1]) (S' := []) (h' := h) rfl ?_
      refine Wp.br (fun c6 => ?_) (fun c6 => ?_)
      · replace K := K.1 c6
        refine Wp.blk (by decide) ol_48 8 1 (pc' := 17) (L' := [.int v1]) (S' := [.int (0 : Int32)]) (h' := h) rfl ?_
        refine Wp.ret (op_ix (by decide) ol_48 9 rfl) rfl ⟨_, rfl, ?_⟩
        refine Wp.blk (by decide) ol_46 11 1 (pc' := (if (0 : Int32) = (0 : Int32) then 65 else 56)) (L' := [.int v0, .int v1, .int v2, .int v3]) (S' := []) (h' := h) rfl ?_
        refine Wp.br (fun _ => ?_) (fun hc => absurd (by decide) hc)
        refine Wp.blk (by decide) ol_46 17 1 (pc' := 66) (L' := [.int v0, .int v1, .int v2, .int v3]) (S' := [.int (-1 : Int32)]) (h' := h) rfl ?_
        exact Wp.ret (op_ix (by decide) ol_46 18 rfl) rfl K
      · replace K := K.2 c6
        refine Wp.blk (by decide) ol_48 6 2 (pc' := 17) (L' := [.int v1]) (S' := [.int (1 : Int32)]) (h' := h) rfl ?_
        refine Wp.ret (op_ix (by decide) ol_48 9 rfl) rfl ⟨_, rfl, ?_⟩
        refine Wp.blk (by decide) ol_46 11 1 (pc' := (if (1 : Int32) = (0 : Int32) then 65 else 56)) (L' := [.int v0, .int v1, .int v2, .int v3]) (S' := []) (h' := h) rfl ?_
        refine Wp.br (fun hc => absurd hc (by decide)) (fun _ => ?_)
        refine Wp.blk (by decide) ol_46 12 3 (pc' := (if v1 = v2 then 65 else 61)) (L' := [.int v0, .int v1, .int v2, .int v3]) (S' := []) (h' := h) rfl ?_
        refine Wp.br (fun c7 => ?_) (fun c7 => ?_)
        · replace K := K.1 c7
          refine Wp.blk (by decide) ol_46 17 1 (pc' := 66) (L' := [.int v0, .int v1, .int v2, .int v3]) (S' := [.int (-1 : Int32)]) (h' := h) rfl ?_
          exact Wp.ret (op_ix (by decide) ol_46 18 rfl) rfl K
        · replace K := K.2 c7
          refine Wp.blk (by decide) ol_46 15 2 (pc' := 66) (L' := [.int v0, .int v1, .int v2, .int v3]) (S' := [.int (2 : Int32)]) (h' := h) rfl ?_
          exact Wp.ret (op_ix (by decide) ol_46 18 rfl) rfl K
  replace K := K.2 c4
  refine Wp.tsw (fun c8 => ?_) (fun c8 => ?_)
  · replace K := K.1 c8
    refine Wp.blk (by decide) ol_46 19 3 (pc' := (if v1 = (58 : Int32) then 73 else 77)) (L' := [.int v0, .int v1, .int v2, .int v3]) (S' := []) (h' := h) rfl ?_
    refine Wp.br (fun c9 => ?_) (fun c9 => ?_)
    · replace K := K.1 c9
      refine Wp.blk (by decide) ol_46 22 2 (pc' := 78) (L' := [.int v0, .int v1, .int v2, .int v3]) (S' := [.int (3 : Int32)]) (h' := h) rfl ?_
      exact Wp.ret (op_ix (by decide) ol_46 25 rfl) rfl K
    · replace K := K.2 c9
      refine Wp.blk (by decide) ol_46 24 1 (pc' := 78) (L' := [.int v0, .int v1, .int v2, .int v3]) (S' := [.int (-1 : Int32)]) (h' := h) rfl ?_
      exact Wp.ret (op_ix (by decide) ol_46 25 rfl) rfl K
  replace K := K.2 c8
  refine Wp.tsw (fun c10 => ?_) (fun c10 => ?_)
  · replace K := K.1 c10
    refine Wp.blk (by decide) ol_46 26 1 (pc' := 80) (L' := [.int v0, .int v1, .int v2, .int v3]) (S' := [.int v1]) (h' := h) rfl ?_
    refine Wp.callI (op_ix (by decide) ol_46 27 rfl) rfl rfl (Cl.enter (L := [.int v1]) rfl ?_)
    refine Wp.blk (by decide) ol_48 0 3 (pc' := (if v1 < (97 : Int32) then 16 else 6)) (L' := [.int v1]) (S' := []) (h' := h) rfl ?_
    refine Wp.br (fun c11 => ?_) (fun c11 => ?_)
    · replace K := K.1 c11
      refine Wp.blk (by decide) ol_48 8 1 (pc' := 17) (L' := [.int v1]) (S' := [.int (0 : Int32)]) (h' := h) rfl ?_
      refine Wp.ret (op_ix (by decide) ol_48 9 rfl) rfl ⟨_, rfl, ?_⟩
      refine Wp.blk (by decide) ol_46 28 1 (pc' := (if (0 : Int32) = (0 : Int32) then 90 else 86)) (L' := [.int v0, .int v1, .int v2, .int v3]) (S' := []) (h' := h) rfl ?_
      refine Wp.br (fun _ => ?_) (fun hc => absurd (by decide) hc)
      refine Wp.blk (by decide) ol_46 31 1 (pc' := 91) (L' := [.int v0, .int v1, .int v2, .int v3]) (S' := [.int (-1 : Int32)]) (h' := h) rfl ?_
      exact Wp.ret (op_ix (by decide) ol_46 32 rfl) rfl K
    · replace K := K.2 c11
      refine Wp.blk (by decide) ol_48 3 3 (pc' := (if (102 : Int32) < v1 then 16 else 12)) (L' := [.int v1]) (S' := []) (h' := h) rfl ?_
      refine Wp.br (fun c12 => ?_) (fun c12 => ?_)
      · replace K := K.1 c12
        refine Wp.blk (by decide) ol_48 8 1 (pc' := 17) (L' := [.int v1]) (S' := [.int (0 : Int32)]) (h' := h) rfl ?_
        refine Wp.ret (op_ix (by decide) ol_48 9 rfl) rfl ⟨_, rfl, ?_⟩
        refine Wp.blk (by decide) ol_46 28 1 (pc' := (if (0 : Int32) = (0 : Int32) then 90 else 86)) (L' := [.int v0, .int v1, .int v2, .int v3]) (S' := []) (h' := h) rfl ?_
        refine Wp.br (fun _ => ?_) (fun hc => absurd (by decide) hc)
        refine Wp.blk (by decide) ol_46 31 1 (pc' := 91) (L' := [.int v0, .int v1, .int v2, .int v3]) (S' := [.int (-1 : Int32)]) (h' := h) rfl ?_
        exact Wp.ret (op_ix (by decide) ol_46 32 rfl) rfl K
      · replace K := K.2 c12
        refine Wp.blk (by decide) ol_48 6 2 (pc' := 17) (L' := [.int v1]) (S' := [.int (1 : Int32)]) (h' := h) rfl ?_
        refine Wp.ret (op_ix (by decide) ol_48 9 rfl) rfl ⟨_, rfl, ?_⟩
        refine Wp.blk (by decide) ol_46 28 1 (pc' := (if (1 : Int32) = (0 : Int32) then 90 else 86)) (L' := [.int v0, .int v1, .int v2, .int v3]) (S' := []) (h' := h) rfl ?_
        refine Wp.br (fun hc => absurd hc (by decide)) (fun _ => ?_)
        refine Wp.blk (by decide) ol_46 29 2 (pc' := 91) (L' := [.int v0, .int v1, .int v2, .int v3]) (S' := [.int (4 : Int32)]) (h' := h) rfl ?_
        exact Wp.ret (op_ix (by decide) ol_46 32 rfl) rfl K
  replace K := K.2 c10
  refine Wp.tsw (fun c13 => ?_) (fun c13 => ?_)
  · replace K := K.1 c13
    refine Wp.blk (by decide) ol_46 33 1 (pc' := 93) (L' := [.int v0, .int v1, .int v2, .int v3]) (S' := [.int v1]) (h' := h) rfl ?_
    refine Wp.callI (op_ix (by decide) ol_46 34 rfl) rfl rfl (Cl.enter (L := [.int v1]) rfl ?_)
    refine Wp.blk (by decide) ol_48 0 3 (pc' := (if v1 < (97 : Int32) then 16 else 6)) (L' := [.int v1]) (S' := []) (h' := h) rfl ?_
    refine Wp.br (fun c14 => ?_) (fun c14 => ?_)
    · replace K := K.1 c14
      refine Wp.blk (by decide) ol_48 8 1 (pc' := 17) (L' := [.int v1]) (S' := [.int (0 : Int32)]) (h' := h) rfl ?_
      refine Wp.ret (op_ix (by decide) ol_48 9 rfl) rfl ⟨_, rfl, ?_⟩
      refine Wp.blk (by decide) ol_46 35 1 (pc' := (if (0 : Int32) = (0 : Int32) then 108 else 99)) (L' := [.int v0, .int v1, .int v2, .int v3]) (S' := []) (h' := h) rfl ?_
      refine Wp.br (fun _ => ?_) (fun hc => absurd (by decide) hc)
      refine Wp.blk (by decide) ol_46 41 1 (pc' := 109) (L' := [.int v0, .int v1, .int v2, .int v3]) (S' := [.int (-1 : Int32)]) (h' := h) rfl ?_
      exact Wp.ret (op_ix (by decide) ol_46 42 rfl) rfl K
    · replace K := K.2 c14
      refine Wp.blk (by decide) ol_48 3 3 (pc' := (if (102 : Int32) < v1 then 16 else 12)) (L' := [.int v1]) (S' := []) (h' := h) rfl ?_
      refine Wp.br (fun c15 => ?_) (fun c15 => ?_)
      · replace K := K.1 c15
        refine Wp.blk (by decide) ol_48 8 1 (pc' := 17) (L' := [.int v1]) (S' := [.int (0 : Int32)]) (h' := h) rfl ?_
        refine Wp.ret (op_ix (by decide) ol_48 9 rfl) rfl ⟨_, rfl, ?_⟩
        refine Wp.blk (by decide) ol_46 35 1 (pc' := (if (0 : Int32) = (0 : Int32) then 108 else 99)) (L' := [.int v0, .int v1, .int v2, .int v3]) (S' := []) (h' := h) rfl ?_
        refine Wp.br (fun _ => ?_) (fun hc => absurd (by decide) hc)
        refine Wp.blk (by decide) ol_46 41 1 (pc' := 109) (L' := [.int v0, .int v1, .int v2, .int v3]) (S' := [.int (-1 : Int32)]) (h' := h) rfl ?_
        exact Wp.ret (op_ix (by decide) ol_46 42 rfl) rfl K
      · replace K := K.2 c15
        refine Wp.blk (by decide) ol_48 6 2 (pc' := 17) (L' := [.int v1]) (S' := [.int (1 : Int32)]) (h' := h) rfl ?_
        refine Wp.ret (op_ix (by decide) ol_48 9 rfl) rfl ⟨_, rfl, ?_⟩
        refine Wp.blk (by decide) ol_46 35 1 (pc' := (if (1 : Int32) = (0 : Int32) then 108 else 99)) (L' := [.int v0, .int v1, .int v2, .int v3]) (S' := []) (h' := h) rfl ?_
        refine Wp.br (fun hc => absurd hc (by decide)) (fun _ => ?_)
        refine Wp.blk (by decide) ol_46 36 3 (pc' := (if v1 = v2 then 108 else 104)) (L' := [.int v0, .int v1, .int v2, .int v3]) (S' := []) (h' := h) rfl ?_
        refine Wp.br (fun c16 => ?_) (fun c16 => ?_)
        · replace K := K.1 c16
          refine Wp.blk (by decide) ol_46 41 1 (pc' := 109) (L' := [.int v0, .int v1, .int v2, .int v3]) (S' := [.int (-1 : Int32)]) (h' := h) rfl ?_
          exact Wp.ret (op_ix (by decide) ol_46 42 rfl) rfl K
        · replace K := K.2 c16
          refine Wp.blk (by decide) ol_46 39 2 (pc' := 109) (L' := [.int v0, .int v1, .int v2, .int v3]) (S' := [.int (5 : Int32)]) (h' := h) rfl ?_
          exact Wp.ret (op_ix (by decide) ol_46 42 rfl) rfl K
  replace K := K.2 c13
  unfold tsw
  refine Wp.blk (by decide) ol_46 43 3 (pc' := 113) (L' := [.int v0, .int v1, .int v2, .int v3]) (S' := [.int v3, .int v1, .int v0]) (h' := h) rfl ?_
  refine Wp.callI (op_ix (by decide) ol_46 46 rfl) rfl rfl (K.mono ?_)
  rintro _ h17 ⟨x19, rfl, hs18, K⟩
  refine ⟨x19, rfl, ?_⟩
  exact Wp.ret (op_ix (by decide) ol_46 47 rfl) rfl K
/-- CutsOrFast$Page.stepBehindPair at 0 (III)I -/
theorem g47_0 (d : Nat) (v0 : Int32) (v1 : Int32) (v2 : Int32) (h : AH) (HS : Sh h)  (Q : Option Value → AH → Prop) (K : ((v1 = (44 : Int32) → ((v2 < (9 : Int32) → Q (some (.int (3 : Int32))) h) ∧ (¬ v2 < (9 : Int32) → Q (some (.int (-1 : Int32))) h))) ∧ (¬ v1 = (44 : Int32) → ((v0 < (7 : Int32) → ((v1 < (49 : Int32) → Wp (d + 1) 47 34 [.int v0, .int v1, mk0] [] h Q) ∧ (¬ v1 < (49 : Int32) → (((57 : Int32) < v1 → Wp (d + 1) 47 34 [.int v0, .int v1, mk0] [] h Q) ∧ (¬ (57 : Int32) < v1 → Q (some (.int (7 : Int32))) h))))) ∧ (¬ v0 < (7 : Int32) → Wp (d + 1) 47 34 [.int v0, .int v1, mk0] [] h Q))))) : Wp (d + 1) 47 0 [.int v0, .int v1, .int v2] [] h Q := by
  refine Wp.blk (by decide) ol_47 0 3 (pc' := (if v1 = (44 : Int32) then 6 else 18)) (L' := [.int v0, .int v1, .int v2]) (S' := []) (h' := h) rfl ?_
  refine Wp.br (fun c1 => ?_) (fun c1 => ?_)
  · replace K := K.1 c1
    refine Wp.blk (by decide) ol_47 3 3 (pc' := (if v2 < (9 : Int32) then 12 else 16)) (L' := [.int v0, .int v1, .int v2]) (S' := []) (h' := h) rfl ?_
    refine Wp.br (fun c2 => ?_) (fun c2 => ?_)
    · replace K := K.1 c2
      refine Wp.blk (by decide) ol_47 6 2 (pc' := 17) (L' := [.int v0, .int v1, .int v2]) (S' := [.int (3 : Int32)]) (h' := h) rfl ?_
      exact Wp.ret (op_ix (by decide) ol_47 9 rfl) rfl K
    · replace K := K.2 c2
      refine Wp.blk (by decide) ol_47 8 1 (pc' := 17) (L' := [.int v0, .int v1, .int v2]) (S' := [.int (-1 : Int32)]) (h' := h) rfl ?_
      exact Wp.ret (op_ix (by decide) ol_47 9 rfl) rfl K
  · replace K := K.2 c1
    refine Wp.blk (by decide) ol_47 10 3 (pc' := (if v0 < (7 : Int32) then 24 else 34)) (L' := [.int v0, .int v1, .int v2]) (S' := []) (h' := h) rfl ?_
    refine Wp.br (fun c3 => ?_) (fun c3 => ?_)
    · replace K := K.1 c3
      refine Wp.blk (by decide) ol_47 13 1 (pc' := 25) (L' := [.int v0, .int v1, .int v2]) (S' := [.int v1]) (h' := h) rfl ?_
      refine Wp.callI (op_ix (by decide) ol_47 14 rfl) rfl rfl (Cl.enter (L := [.int v1]) rfl ?_)
      refine Wp.blk (by decide) ol_49 0 3 (pc' := (if v1 < (49 : Int32) then 16 else 6)) (L' := [.int v1]) (S' := []) (h' := h) rfl ?_
      refine Wp.br (fun c4 => ?_) (fun c4 => ?_)
      · replace K := K.1 c4
        refine Wp.blk (by decide) ol_49 8 1 (pc' := 17) (L' := [.int v1]) (S' := [.int (0 : Int32)]) (h' := h) rfl ?_
        refine Wp.ret (op_ix (by decide) ol_49 9 rfl) rfl ⟨_, rfl, ?_⟩
        refine Wp.blk (by decide) ol_47 15 1 (pc' := (if (0 : Int32) = (0 : Int32) then 34 else 31)) (L' := [.int v0, .int v1, .int v2]) (S' := []) (h' := h) rfl ?_
        refine Wp.br (fun _ => ?_) (fun hc => absurd (by decide) hc)
        refine Wp.forget (L := [.int v0, .int v1, mk0]) (⟨Or.inr rfl, ⟨Or.inr rfl, ⟨Or.inl rfl, trivial⟩⟩⟩) ?_
        exact K
      · replace K := K.2 c4
        refine Wp.blk (by decide) ol_49 3 3 (pc' := (if (57 : Int32) < v1 then 16 else 12)) (L' := [.int v1]) (S' := []) (h' := h) rfl ?_
        refine Wp.br (fun c5 => ?_) (fun c5 => ?_)
        · replace K := K.1 c5
          refine Wp.blk (by decide) ol_49 8 1 (pc' := 17) (L' := [.int v1]) (S' := [.int (0 : Int32)]) (h' := h) rfl ?_
          refine Wp.ret (op_ix (by decide) ol_49 9 rfl) rfl ⟨_, rfl, ?_⟩
          refine Wp.blk (by decide) ol_47 15 1 (pc' := (if (0 : Int32) = (0 : Int32) then 34 else 31)) (L' := [.int v0, .int v1, .int v2]) (S' := []) (h' := h) rfl ?_
          refine Wp.br (fun _ => ?_) (fun hc => absurd (by decide) hc)
          refine Wp.forget (L := [.int v0, .int v1, mk0]) (⟨Or.inr rfl, ⟨Or.inr rfl, ⟨Or.inl rfl, trivial⟩⟩⟩) ?_
          exact K
        · replace K := K.2 c5
          refine Wp.blk (by decide) ol_49 6 2 (pc' := 17) (L' := [.int v1]) (S' := [.int (1 : Int32)]) (h' := h) rfl ?_
          refine Wp.ret (op_ix (by decide) ol_49 9 rfl) rfl ⟨_, rfl, ?_⟩
          refine Wp.blk (by decide) ol_47 15 1 (pc' := (if (1 : Int32) = (0 : Int32) then 34 else 31)) (L' := [.int v0, .int v1, .int v2]) (S' := []) (h' := h) rfl ?_
          refine Wp.br (fun hc => absurd hc (by decide)) (fun _ => ?_)
          refine Wp.blk (by decide) ol_47 16 1 (pc' := 33) (L' := [.int v0, .int v1, .int v2]) (S' := [.int (7 : Int32)]) (h' := h) rfl ?_
          exact Wp.ret (op_ix (by decide) ol_47 17 rfl) rfl K
    · replace K := K.2 c3
      refine Wp.forget (L := [.int v0, .int v1, mk0]) (⟨Or.inr rfl, ⟨Or.inr rfl, ⟨Or.inl rfl, trivial⟩⟩⟩) ?_
      exact K
/-- CutsOrFast$Page.stepBehindPair at 34 -/
theorem g47_34 (d : Nat) (v0 : Int32) (v1 : Int32) (h : AH) (HS : Sh h)  (Q : Option Value → AH → Prop) (K : ((v0 = (5 : Int32) → ((v1 = (43 : Int32) → Q (some (.int (6 : Int32))) h) ∧ (¬ v1 = (43 : Int32) → ((v1 = (45 : Int32) → Q (some (.int (6 : Int32))) h) ∧ (¬ v1 = (45 : Int32) → Q (some (.int (-1 : Int32))) h))))) ∧ (¬ v0 = (5 : Int32) → Q (some (.int (-1 : Int32))) h))) : Wp d 47 34 [.int v0, .int v1, mk0] [] h Q := by
  refine Wp.blk (by decide) ol_47 18 3 (pc' := (if v0 = (5 : Int32) then 39 else 56)) (L' := [.int v0, .int v1, mk0]) (S' := []) (h' := h) rfl ?_
  refine Wp.br (fun c1 => ?_) (fun c1 => ?_)
  · replace K := K.1 c1
    refine Wp.blk (by decide) ol_47 21 3 (pc' := (if v1 = (43 : Int32) then 51 else 45)) (L' := [.int v0, .int v1, mk0]) (S' := []) (h' := h) rfl ?_
    refine Wp.br (fun c2 => ?_) (fun c2 => ?_)
    · replace K := K.1 c2
      refine Wp.blk (by decide) ol_47 27 2 (pc' := 57) (L' := [.int v0, .int v1, mk0]) (S' := [.int (6 : Int32)]) (h' := h) rfl ?_
      exact Wp.ret (op_ix (by decide) ol_47 30 rfl) rfl K
    · replace K := K.2 c2
      refine Wp.blk (by decide) ol_47 24 3 (pc' := (if v1 = (45 : Int32) then 51 else 56)) (L' := [.int v0, .int v1, mk0]) (S' := []) (h' := h) rfl ?_
      refine Wp.br (fun c3 => ?_) (fun c3 => ?_)
      · replace K := K.1 c3
        refine Wp.blk (by decide) ol_47 27 2 (pc' := 57) (L' := [.int v0, .int v1, mk0]) (S' := [.int (6 : Int32)]) (h' := h) rfl ?_
        exact Wp.ret (op_ix (by decide) ol_47 30 rfl) rfl K
      · replace K := K.2 c3
        refine Wp.blk (by decide) ol_47 29 1 (pc' := 57) (L' := [.int v0, .int v1, mk0]) (S' := [.int (-1 : Int32)]) (h' := h) rfl ?_
        exact Wp.ret (op_ix (by decide) ol_47 30 rfl) rfl K
  · replace K := K.2 c1
    refine Wp.blk (by decide) ol_47 29 1 (pc' := 57) (L' := [.int v0, .int v1, mk0]) (S' := [.int (-1 : Int32)]) (h' := h) rfl ?_
    exact Wp.ret (op_ix (by decide) ol_47 30 rfl) rfl K
/-- CutsOrFast$Page.isPlace at 0 (I)Z -/
theorem g48_0 (d : Nat) (v0 : Int32) (h : AH) (HS : Sh h)  (Q : Option Value → AH → Prop) (K : ((v0 < (97 : Int32) → Q (some (.int (0 : Int32))) h) ∧ (¬ v0 < (97 : Int32) → (((102 : Int32) < v0 → Q (some (.int (0 : Int32))) h) ∧ (¬ (102 : Int32) < v0 → Q (some (.int (1 : Int32))) h))))) : Wp d 48 0 [.int v0] [] h Q := by
  refine Wp.blk (by decide) ol_48 0 3 (pc' := (if v0 < (97 : Int32) then 16 else 6)) (L' := [.int v0]) (S' := []) (h' := h) rfl ?_
  refine Wp.br (fun c1 => ?_) (fun c1 => ?_)
  · replace K := K.1 c1
    refine Wp.blk (by decide) ol_48 8 1 (pc' := 17) (L' := [.int v0]) (S' := [.int (0 : Int32)]) (h' := h) rfl ?_
    exact Wp.ret (op_ix (by decide) ol_48 9 rfl) rfl K
  · replace K := K.2 c1
    refine Wp.blk (by decide) ol_48 3 3 (pc' := (if (102 : Int32) < v0 then 16 else 12)) (L' := [.int v0]) (S' := []) (h' := h) rfl ?_
    refine Wp.br (fun c2 => ?_) (fun c2 => ?_)
    · replace K := K.1 c2
      refine Wp.blk (by decide) ol_48 8 1 (pc' := 17) (L' := [.int v0]) (S' := [.int (0 : Int32)]) (h' := h) rfl ?_
      exact Wp.ret (op_ix (by decide) ol_48 9 rfl) rfl K
    · replace K := K.2 c2
      refine Wp.blk (by decide) ol_48 6 2 (pc' := 17) (L' := [.int v0]) (S' := [.int (1 : Int32)]) (h' := h) rfl ?_
      exact Wp.ret (op_ix (by decide) ol_48 9 rfl) rfl K
/-- CutsOrFast$Page.isCost at 0 (I)Z -/
theorem g49_0 (d : Nat) (v0 : Int32) (h : AH) (HS : Sh h)  (Q : Option Value → AH → Prop) (K : ((v0 < (49 : Int32) → Q (some (.int (0 : Int32))) h) ∧ (¬ v0 < (49 : Int32) → (((57 : Int32) < v0 → Q (some (.int (0 : Int32))) h) ∧ (¬ (57 : Int32) < v0 → Q (some (.int (1 : Int32))) h))))) : Wp d 49 0 [.int v0] [] h Q := by
  refine Wp.blk (by decide) ol_49 0 3 (pc' := (if v0 < (49 : Int32) then 16 else 6)) (L' := [.int v0]) (S' := []) (h' := h) rfl ?_
  refine Wp.br (fun c1 => ?_) (fun c1 => ?_)
  · replace K := K.1 c1
    refine Wp.blk (by decide) ol_49 8 1 (pc' := 17) (L' := [.int v0]) (S' := [.int (0 : Int32)]) (h' := h) rfl ?_
    exact Wp.ret (op_ix (by decide) ol_49 9 rfl) rfl K
  · replace K := K.2 c1
    refine Wp.blk (by decide) ol_49 3 3 (pc' := (if (57 : Int32) < v0 then 16 else 12)) (L' := [.int v0]) (S' := []) (h' := h) rfl ?_
    refine Wp.br (fun c2 => ?_) (fun c2 => ?_)
    · replace K := K.1 c2
      refine Wp.blk (by decide) ol_49 8 1 (pc' := 17) (L' := [.int v0]) (S' := [.int (0 : Int32)]) (h' := h) rfl ?_
      exact Wp.ret (op_ix (by decide) ol_49 9 rfl) rfl K
    · replace K := K.2 c2
      refine Wp.blk (by decide) ol_49 6 2 (pc' := 17) (L' := [.int v0]) (S' := [.int (1 : Int32)]) (h' := h) rfl ?_
      exact Wp.ret (op_ix (by decide) ol_49 9 rfl) rfl K
/-- CutsOrFast$Page.readInto at 0 (LCutsOrFast$Net;LCutsOrFast$Stand;)V -/
theorem g50_0 (d : Nat) (v2 : Nat) (h : AH) (HS : Sh h) (t2 : St3 v2) (Q : Option Value → AH → Prop) (K : (((0 : Int32) < (AI h 3 1) → (((1 : Int32) < (AI h 3 1) → (Cl (d + 1) 21 [.ref 5, .int (((atv h 4 ((0 : Int32)))) - ((97 : Int32))), .int (((atv h 4 ((1 : Int32)))) - ((97 : Int32)))] h (fun r h3 => r = none ∧ Sh h3 ∧ Wp (d + 2) 50 28 [.ref 3, .ref 5, .ref v2, .int (0 : Int32), .int (0 : Int32), .int (3 : Int32), mk0, mk0, mk0, mk0] [] h3 Q))) ∧ (¬ (1 : Int32) < (AI h 3 1) → (Cl (d + 1) 21 [.ref 5, .int (((atv h 4 ((0 : Int32)))) - ((97 : Int32))), .int (((0 : Int32)) - ((97 : Int32)))] h (fun r h5 => r = none ∧ Sh h5 ∧ Wp (d + 2) 50 28 [.ref 3, .ref 5, .ref v2, .int (0 : Int32), .int (0 : Int32), .int (3 : Int32), mk0, mk0, mk0, mk0] [] h5 Q))))) ∧ (¬ (0 : Int32) < (AI h 3 1) → (((1 : Int32) < (AI h 3 1) → (Cl (d + 1) 21 [.ref 5, .int (((0 : Int32)) - ((97 : Int32))), .int (((atv h 4 ((1 : Int32)))) - ((97 : Int32)))] h (fun r h8 => r = none ∧ Sh h8 ∧ Wp (d + 2) 50 28 [.ref 3, .ref 5, .ref v2, .int (0 : Int32), .int (0 : Int32), .int (3 : Int32), mk0, mk0, mk0, mk0] [] h8 Q))) ∧ (¬ (1 : Int32) < (AI h 3 1) → (Cl (d + 1) 21 [.ref 5, .int (((0 : Int32)) - ((97 : Int32))), .int (((0 : Int32)) - ((97 : Int32)))] h (fun r h10 => r = none ∧ Sh h10 ∧ Wp (d + 2) 50 28 [.ref 3, .ref 5, .ref v2, .int (0 : Int32), .int (0 : Int32), .int (3 : Int32), mk0, mk0, mk0, mk0] [] h10 Q))))))) : Wp (d + 2) 50 0 [.ref 3, .ref 5, .ref v2, mk0, mk0, mk0, mk0, mk0, mk0, mk0] [] h Q := by
  refine Wp.blk (by decide) ol_50 0 9 (pc' := 11) (L' := [.ref 3, .ref 5, .ref v2, .int (0 : Int32), .int (0 : Int32), .int (3 : Int32), mk0, mk0, mk0, mk0]) (S' := [.int (0 : Int32), .ref 3, .ref 5]) (h' := h) rfl ?_
  refine Wp.callI (op_ix (by decide) ol_50 9 rfl) (act_virt (c2 := 1) rfl (lk1 (kS HS 3 rfl)) rfl) rfl (Cl.enter (L := [.ref 3, .int (0 : Int32)]) rfl ?_)
  refine Wp.blk (by decide) ol_41 0 2 (pc' := 2) (L' := [.ref 3, .int (0 : Int32)]) (S' := [.ref 3, .int (0 : Int32)]) (h' := h) rfl ?_
  refine Wp.getf (op_ix (by decide) ol_41 2 rfl) (okS HS 3 rfl rfl) (v := .int (AI h 3 1)) rfl rfl ?_
  refine Wp.blk (by decide) ol_41 3 1 (pc' := (if (0 : Int32) < (AI h 3 1) then 8 else 19)) (L' := [.ref 3, .int (0 : Int32)]) (S' := []) (h' := h) rfl ?_
  refine Wp.br (fun c1 => ?_) (fun c1 => ?_)
  · replace K := K.1 c1
    refine Wp.blk (by decide) ol_41 4 1 (pc' := 9) (L' := [.ref 3, .int (0 : Int32)]) (S' := [.ref 3]) (h' := h) rfl ?_
    refine Wp.getf (op_ix (by decide) ol_41 5 rfl) (okS HS 3 rfl rfl) (v := .ref 4) (congrArg va_rf (rS HS 3 0 rfl)) rfl ?_
    refine Wp.blk (by decide) ol_41 6 1 (pc' := 13) (L' := [.ref 3, .int (0 : Int32)]) (S' := [.int (0 : Int32), .ref 4]) (h' := h) rfl ?_
    refine Wp.callI (op_ix (by decide) ol_41 7 rfl) rfl rfl (sp_at (kS HS 4 rfl) (nS HS 4 rfl) ?_)
    refine ⟨_, rfl, ?_⟩
    refine Wp.blk (by decide) ol_41 8 1 (pc' := 20) (L' := [.ref 3, .int (0 : Int32)]) (S' := [.int (atv h 4 ((0 : Int32)))]) (h' := h) rfl ?_
    refine Wp.ret (op_ix (by decide) ol_41 10 rfl) rfl ⟨_, rfl, ?_⟩
    refine Wp.blk (by decide) ol_50 10 4 (pc' := 19) (L' := [.ref 3, .ref 5, .ref v2, .int (0 : Int32), .int (0 : Int32), .int (3 : Int32), mk0, mk0, mk0, mk0]) (S' := [.int (1 : Int32), .ref 3, .int (((atv h 4 ((0 : Int32)))) - ((97 : Int32))), .ref 5]) (h' := h) rfl ?_
    refine Wp.callI (op_ix (by decide) ol_50 14 rfl) (act_virt (c2 := 1) rfl (lk1 (kS HS 3 rfl)) rfl) rfl (Cl.enter (L := [.ref 3, .int (1 : Int32)]) rfl ?_)
    refine Wp.blk (by decide) ol_41 0 2 (pc' := 2) (L' := [.ref 3, .int (1 : Int32)]) (S' := [.ref 3, .int (1 : Int32)]) (h' := h) rfl ?_
    refine Wp.getf (op_ix (by decide) ol_41 2 rfl) (okS HS 3 rfl rfl) (v := .int (AI h 3 1)) rfl rfl ?_
    refine Wp.blk (by decide) ol_41 3 1 (pc' := (if (1 : Int32) < (AI h 3 1) then 8 else 19)) (L' := [.ref 3, .int (1 : Int32)]) (S' := []) (h' := h) rfl ?_
    refine Wp.br (fun c2 => ?_) (fun c2 => ?_)
    · replace K := K.1 c2
      refine Wp.blk (by decide) ol_41 4 1 (pc' := 9) (L' := [.ref 3, .int (1 : Int32)]) (S' := [.ref 3]) (h' := h) rfl ?_
      refine Wp.getf (op_ix (by decide) ol_41 5 rfl) (okS HS 3 rfl rfl) (v := .ref 4) (congrArg va_rf (rS HS 3 0 rfl)) rfl ?_
      refine Wp.blk (by decide) ol_41 6 1 (pc' := 13) (L' := [.ref 3, .int (1 : Int32)]) (S' := [.int (1 : Int32), .ref 4]) (h' := h) rfl ?_
      refine Wp.callI (op_ix (by decide) ol_41 7 rfl) rfl rfl (sp_at (kS HS 4 rfl) (nS HS 4 rfl) ?_)
      refine ⟨_, rfl, ?_⟩
      refine Wp.blk (by decide) ol_41 8 1 (pc' := 20) (L' := [.ref 3, .int (1 : Int32)]) (S' := [.int (atv h 4 ((1 : Int32)))]) (h' := h) rfl ?_
      refine Wp.ret (op_ix (by decide) ol_41 10 rfl) rfl ⟨_, rfl, ?_⟩
      refine Wp.blk (by decide) ol_50 15 2 (pc' := 25) (L' := [.ref 3, .ref 5, .ref v2, .int (0 : Int32), .int (0 : Int32), .int (3 : Int32), mk0, mk0, mk0, mk0]) (S' := [.int (((atv h 4 ((1 : Int32)))) - ((97 : Int32))), .int (((atv h 4 ((0 : Int32)))) - ((97 : Int32))), .ref 5]) (h' := h) rfl ?_
      refine Wp.callV (op_ix (by decide) ol_50 17 rfl) (act_virt (c2 := 2) rfl (lk1 (kS HS 5 rfl)) rfl) rfl (K.mono ?_)
      rintro _ h3 ⟨rfl, hs4, K⟩
      refine ⟨rfl, ?_⟩
      exact K
    · replace K := K.2 c2
      refine Wp.blk (by decide) ol_41 9 1 (pc' := 20) (L' := [.ref 3, .int (1 : Int32)]) (S' := [.int (0 : Int32)]) (h' := h) rfl ?_
      refine Wp.ret (op_ix (by decide) ol_41 10 rfl) rfl ⟨_, rfl, ?_⟩
      refine Wp.blk (by decide) ol_50 15 2 (pc' := 25) (L' := [.ref 3, .ref 5, .ref v2, .int (0 : Int32), .int (0 : Int32), .int (3 : Int32), mk0, mk0, mk0, mk0]) (S' := [.int (((0 : Int32)) - ((97 : Int32))), .int (((atv h 4 ((0 : Int32)))) - ((97 : Int32))), .ref 5]) (h' := h) rfl ?_
      refine Wp.callV (op_ix (by decide) ol_50 17 rfl) (act_virt (c2 := 2) rfl (lk1 (kS HS 5 rfl)) rfl) rfl (K.mono ?_)
      rintro _ h5 ⟨rfl, hs6, K⟩
      refine ⟨rfl, ?_⟩
      exact K
  · replace K := K.2 c1
    refine Wp.blk (by decide) ol_41 9 1 (pc' := 20) (L' := [.ref 3, .int (0 : Int32)]) (S' := [.int (0 : Int32)]) (h' := h) rfl ?_
    refine Wp.ret (op_ix (by decide) ol_41 10 rfl) rfl ⟨_, rfl, ?_⟩
    refine Wp.blk (by decide) ol_50 10 4 (pc' := 19) (L' := [.ref 3, .ref 5, .ref v2, .int (0 : Int32), .int (0 : Int32), .int (3 : Int32), mk0, mk0, mk0, mk0]) (S' := [.int (1 : Int32), .ref 3, .int (((0 : Int32)) - ((97 : Int32))), .ref 5]) (h' := h) rfl ?_
    refine Wp.callI (op_ix (by decide) ol_50 14 rfl) (act_virt (c2 := 1) rfl (lk1 (kS HS 3 rfl)) rfl) rfl (Cl.enter (L := [.ref 3, .int (1 : Int32)]) rfl ?_)
    refine Wp.blk (by decide) ol_41 0 2 (pc' := 2) (L' := [.ref 3, .int (1 : Int32)]) (S' := [.ref 3, .int (1 : Int32)]) (h' := h) rfl ?_
    refine Wp.getf (op_ix (by decide) ol_41 2 rfl) (okS HS 3 rfl rfl) (v := .int (AI h 3 1)) rfl rfl ?_
    refine Wp.blk (by decide) ol_41 3 1 (pc' := (if (1 : Int32) < (AI h 3 1) then 8 else 19)) (L' := [.ref 3, .int (1 : Int32)]) (S' := []) (h' := h) rfl ?_
    refine Wp.br (fun c7 => ?_) (fun c7 => ?_)
    · replace K := K.1 c7
      refine Wp.blk (by decide) ol_41 4 1 (pc' := 9) (L' := [.ref 3, .int (1 : Int32)]) (S' := [.ref 3]) (h' := h) rfl ?_
      refine Wp.getf (op_ix (by decide) ol_41 5 rfl) (okS HS 3 rfl rfl) (v := .ref 4) (congrArg va_rf (rS HS 3 0 rfl)) rfl ?_
      refine Wp.blk (by decide) ol_41 6 1 (pc' := 13) (L' := [.ref 3, .int (1 : Int32)]) (S' := [.int (1 : Int32), .ref 4]) (h' := h) rfl ?_
      refine Wp.callI (op_ix (by decide) ol_41 7 rfl) rfl rfl (sp_at (kS HS 4 rfl) (nS HS 4 rfl) ?_)
      refine ⟨_, rfl, ?_⟩
      refine Wp.blk (by decide) ol_41 8 1 (pc' := 20) (L' := [.ref 3, .int (1 : Int32)]) (S' := [.int (atv h 4 ((1 : Int32)))]) (h' := h) rfl ?_
      refine Wp.ret (op_ix (by decide) ol_41 10 rfl) rfl ⟨_, rfl, ?_⟩
      refine Wp.blk (by decide) ol_50 15 2 (pc' := 25) (L' := [.ref 3, .ref 5, .ref v2, .int (0 : Int32), .int (0 : Int32), .int (3 : Int32), mk0, mk0, mk0, mk0]) (S' := [.int (((atv h 4 ((1 : Int32)))) - ((97 : Int32))), .int (((0 : Int32)) - ((97 : Int32))), .ref 5]) (h' := h) rfl ?_
      refine Wp.callV (op_ix (by decide) ol_50 17 rfl) (act_virt (c2 := 2) rfl (lk1 (kS HS 5 rfl)) rfl) rfl (K.mono ?_)
      rintro _ h8 ⟨rfl, hs9, K⟩
      refine ⟨rfl, ?_⟩
      exact K
    · replace K := K.2 c7
      refine Wp.blk (by decide) ol_41 9 1 (pc' := 20) (L' := [.ref 3, .int (1 : Int32)]) (S' := [.int (0 : Int32)]) (h' := h) rfl ?_
      refine Wp.ret (op_ix (by decide) ol_41 10 rfl) rfl ⟨_, rfl, ?_⟩
      refine Wp.blk (by decide) ol_50 15 2 (pc' := 25) (L' := [.ref 3, .ref 5, .ref v2, .int (0 : Int32), .int (0 : Int32), .int (3 : Int32), mk0, mk0, mk0, mk0]) (S' := [.int (((0 : Int32)) - ((97 : Int32))), .int (((0 : Int32)) - ((97 : Int32))), .ref 5]) (h' := h) rfl ?_
      refine Wp.callV (op_ix (by decide) ol_50 17 rfl) (act_virt (c2 := 2) rfl (lk1 (kS HS 5 rfl)) rfl) rfl (K.mono ?_)
      rintro _ h10 ⟨rfl, hs11, K⟩
      refine ⟨rfl, ?_⟩
      exact K
/-- CutsOrFast$Page.readInto at 28 -/
theorem g50_28 (d : Nat) (v2 : Nat) (v3 : Int32) (v4 : Int32) (v5 : Int32) (h : AH) (HS : Sh h) (t2 : St3 v2) (Q : Option Value → AH → Prop) (K : ((v5 < (AI h 3 1) → (((AI h 5 5) < (9 : Int32) → (((v5 + ((1 : Int32))) < (AI h 3 1) → (((v5 + (2 : Int32)) < (AI h 3 1) → (((atv h 4 ((v5 + (2 : Int32)))) = (43 : Int32) → Wp (d + 2) 50 127 [.ref 3, .ref 5, .ref v2, .int (v3 ||| ((((1 : Int32)) <<< (((AI h 5 5)) &&& 31)))), .int v4, .int ((v5 + (2 : Int32)) + (1 : Int32)), mk0, .int (((atv h 4 v5)) - ((97 : Int32))), .int (((atv h 4 ((v5 + ((1 : Int32)))))) - ((97 : Int32))), .int (1 : Int32)] [] h Q) ∧ (¬ (atv h 4 ((v5 + (2 : Int32)))) = (43 : Int32) → (((atv h 4 ((v5 + (2 : Int32)))) = (45 : Int32) → Wp (d + 2) 50 127 [.ref 3, .ref 5, .ref v2, .int v3, .int (v4 ||| ((((1 : Int32)) <<< (((AI h 5 5)) &&& 31)))), .int ((v5 + (2 : Int32)) + (1 : Int32)), mk0, .int (((atv h 4 v5)) - ((97 : Int32))), .int (((atv h 4 ((v5 + ((1 : Int32)))))) - ((97 : Int32))), .int (1 : Int32)] [] h Q) ∧ (¬ (atv h 4 ((v5 + (2 : Int32)))) = (45 : Int32) → Wp (d + 2) 50 127 [.ref 3, .ref 5, .ref v2, .int v3, .int v4, .int (v5 + (2 : Int32)), mk0, .int (((atv h 4 v5)) - ((97 : Int32))), .int (((atv h 4 ((v5 + ((1 : Int32)))))) - ((97 : Int32))), .int (1 : Int32)] [] h Q))))) ∧ (¬ (v5 + (2 : Int32)) < (AI h 3 1) → Wp (d + 2) 50 127 [.ref 3, .ref 5, .ref v2, .int v3, .int v4, .int (v5 + (2 : Int32)), mk0, .int (((atv h 4 v5)) - ((97 : Int32))), .int (((atv h 4 ((v5 + ((1 : Int32)))))) - ((97 : Int32))), .int (1 : Int32)] [] h Q))) ∧ (¬ (v5 + ((1 : Int32))) < (AI h 3 1) → (((v5 + (2 : Int32)) < (AI h 3 1) → (((atv h 4 ((v5 + (2 : Int32)))) = (43 : Int32) → Wp (d + 2) 50 127 [.ref 3, .ref 5, .ref v2, .int (v3 ||| ((((1 : Int32)) <<< (((AI h 5 5)) &&& 31)))), .int v4, .int ((v5 + (2 : Int32)) + (1 : Int32)), mk0, .int (((atv h 4 v5)) - ((97 : Int32))), .int (((0 : Int32)) - ((97 : Int32))), .int (1 : Int32)] [] h Q) ∧ (¬ (atv h 4 ((v5 + (2 : Int32)))) = (43 : Int32) → (((atv h 4 ((v5 + (2 : Int32)))) = (45 : Int32) → Wp (d + 2) 50 127 [.ref 3, .ref 5, .ref v2, .int v3, .int (v4 ||| ((((1 : Int32)) <<< (((AI h 5 5)) &&& 31)))), .int ((v5 + (2 : Int32)) + (1 : Int32)), mk0, .int (((atv h 4 v5)) - ((97 : Int32))), .int (((0 : Int32)) - ((97 : Int32))), .int (1 : Int32)] [] h Q) ∧ (¬ (atv h 4 ((v5 + (2 : Int32)))) = (45 : Int32) → Wp (d + 2) 50 127 [.ref 3, .ref 5, .ref v2, .int v3, .int v4, .int (v5 + (2 : Int32)), mk0, .int (((atv h 4 v5)) - ((97 : Int32))), .int (((0 : Int32)) - ((97 : Int32))), .int (1 : Int32)] [] h Q))))) ∧ (¬ (v5 + (2 : Int32)) < (AI h 3 1) → Wp (d + 2) 50 127 [.ref 3, .ref 5, .ref v2, .int v3, .int v4, .int (v5 + (2 : Int32)), mk0, .int (((atv h 4 v5)) - ((97 : Int32))), .int (((0 : Int32)) - ((97 : Int32))), .int (1 : Int32)] [] h Q))))) ∧ (¬ (AI h 5 5) < (9 : Int32) → Q none (stI ((stI ((stI ((stI h v2 3 v3)) v2 4 v4)) v2 5 ((0 : Int32)))) v2 2 ((0 : Int32)))))) ∧ (¬ v5 < (AI h 3 1) → Q none (stI ((stI ((stI ((stI h v2 3 v3)) v2 4 v4)) v2 5 ((0 : Int32)))) v2 2 ((0 : Int32)))))) : Wp (d + 2) 50 28 [.ref 3, .ref 5, .ref v2, .int v3, .int v4, .int v5, mk0, mk0, mk0, mk0] [] h Q := by
  refine Wp.blk (by decide) ol_50 18 2 (pc' := 31) (L' := [.ref 3, .ref 5, .ref v2, .int v3, .int v4, .int v5, mk0, mk0, mk0, mk0]) (S' := [.ref 3, .int v5]) (h' := h) rfl ?_
  refine Wp.getf (op_ix (by decide) ol_50 20 rfl) (okS HS 3 rfl rfl) (v := .int (AI h 3 1)) rfl rfl ?_
  refine Wp.blk (by decide) ol_50 21 1 (pc' := (if v5 < (AI h 3 1) then 37 else 169)) (L' := [.ref 3, .ref 5, .ref v2, .int v3, .int v4, .int v5, mk0, mk0, mk0, mk0]) (S' := []) (h' := h) rfl ?_
  refine Wp.br (fun c1 => ?_) (fun c1 => ?_)
  · replace K := K.1 c1
    refine Wp.blk (by decide) ol_50 22 1 (pc' := 38) (L' := [.ref 3, .ref 5, .ref v2, .int v3, .int v4, .int v5, mk0, mk0, mk0, mk0]) (S' := [.ref 5]) (h' := h) rfl ?_
    refine Wp.callI (op_ix (by decide) ol_50 23 rfl) (act_virt (c2 := 0) rfl (lk1 (kS HS 5 rfl)) rfl) rfl (Cl.enter (L := [.ref 5]) rfl ?_)
    refine Wp.blk (by decide) ol_26 0 1 (pc' := 1) (L' := [.ref 5]) (S' := [.ref 5]) (h' := h) rfl ?_
    refine Wp.getf (op_ix (by decide) ol_26 1 rfl) (okS HS 5 rfl rfl) (v := .int (AI h 5 5)) rfl rfl ?_
    refine Wp.ret (op_ix (by decide) ol_26 2 rfl) rfl ⟨_, rfl, ?_⟩
    refine Wp.blk (by decide) ol_50 24 2 (pc' := (if (AI h 5 5) < (9 : Int32) then 46 else 169)) (L' := [.ref 3, .ref 5, .ref v2, .int v3, .int v4, .int v5, mk0, mk0, mk0, mk0]) (S' := []) (h' := h) rfl ?_
    refine Wp.br (fun c2 => ?_) (fun c2 => ?_)
    · replace K := K.1 c2
      refine Wp.blk (by decide) ol_50 26 2 (pc' := 48) (L' := [.ref 3, .ref 5, .ref v2, .int v3, .int v4, .int v5, mk0, mk0, mk0, mk0]) (S' := [.ref 5, .int (1 : Int32)]) (h' := h) rfl ?_
      refine Wp.callI (op_ix (by decide) ol_50 28 rfl) (act_virt (c2 := 0) rfl (lk1 (kS HS 5 rfl)) rfl) rfl (Cl.enter (L := [.ref 5]) rfl ?_)
      refine Wp.blk (by decide) ol_26 0 1 (pc' := 1) (L' := [.ref 5]) (S' := [.ref 5]) (h' := h) rfl ?_
      refine Wp.getf (op_ix (by decide) ol_26 1 rfl) (okS HS 5 rfl rfl) (v := .int (AI h 5 5)) rfl rfl ?_
      refine Wp.ret (op_ix (by decide) ol_26 2 rfl) rfl ⟨_, rfl, ?_⟩
      refine Wp.blk (by decide) ol_50 29 4 (pc' := 57) (L' := [.ref 3, .ref 5, .ref v2, .int v3, .int v4, .int v5, .int (((1 : Int32)) <<< (((AI h 5 5)) &&& 31)), mk0, mk0, mk0]) (S' := [.int v5, .ref 3]) (h' := h) rfl ?_
      refine Wp.callI (op_ix (by decide) ol_50 33 rfl) (act_virt (c2 := 1) rfl (lk1 (kS HS 3 rfl)) rfl) rfl (Cl.enter (L := [.ref 3, .int v5]) rfl ?_)
      refine Wp.blk (by decide) ol_41 0 2 (pc' := 2) (L' := [.ref 3, .int v5]) (S' := [.ref 3, .int v5]) (h' := h) rfl ?_
      refine Wp.getf (op_ix (by decide) ol_41 2 rfl) (okS HS 3 rfl rfl) (v := .int (AI h 3 1)) rfl rfl ?_
      refine Wp.blk (by decide) ol_41 3 1 (pc' := (if v5 < (AI h 3 1) then 8 else 19)) (L' := [.ref 3, .int v5]) (S' := []) (h' := h) rfl ?_
      refine Wp.br (fun _ => ?_) (fun hc => absurd c1 hc)
      refine Wp.blk (by decide) ol_41 4 1 (pc' := 9) (L' := [.ref 3, .int v5]) (S' := [.ref 3]) (h' := h) rfl ?_
      refine Wp.getf (op_ix (by decide) ol_41 5 rfl) (okS HS 3 rfl rfl) (v := .ref 4) (congrArg va_rf (rS HS 3 0 rfl)) rfl ?_
      refine Wp.blk (by decide) ol_41 6 1 (pc' := 13) (L' := [.ref 3, .int v5]) (S' := [.int v5, .ref 4]) (h' := h) rfl ?_
      refine Wp.callI (op_ix (by decide) ol_41 7 rfl) rfl rfl (sp_at (kS HS 4 rfl) (nS HS 4 rfl) ?_)
      refine ⟨_, rfl, ?_⟩
      refine Wp.blk (by decide) ol_41 8 1 (pc' := 20) (L' := [.ref 3, .int v5]) (S' := [.int (atv h 4 v5)]) (h' := h) rfl ?_
      refine Wp.ret (op_ix (by decide) ol_41 10 rfl) rfl ⟨_, rfl, ?_⟩
      refine Wp.blk (by decide) ol_50 34 7 (pc' := 70) (L' := [.ref 3, .ref 5, .ref v2, .int v3, .int v4, .int v5, .int (((1 : Int32)) <<< (((AI h 5 5)) &&& 31)), .int (((atv h 4 v5)) - ((97 : Int32))), mk0, mk0]) (S' := [.int (v5 + ((1 : Int32))), .ref 3]) (h' := h) rfl ?_
      refine Wp.callI (op_ix (by decide) ol_50 41 rfl) (act_virt (c2 := 1) rfl (lk1 (kS HS 3 rfl)) rfl) rfl (Cl.enter (L := [.ref 3, .int (v5 + ((1 : Int32)))]) rfl ?_)
      refine Wp.blk (by decide) ol_41 0 2 (pc' := 2) (L' := [.ref 3, .int (v5 + ((1 : Int32)))]) (S' := [.ref 3, .int (v5 + ((1 : Int32)))]) (h' := h) rfl ?_
      refine Wp.getf (op_ix (by decide) ol_41 2 rfl) (okS HS 3 rfl rfl) (v := .int (AI h 3 1)) rfl rfl ?_
      refine Wp.blk (by decide) ol_41 3 1 (pc' := (if (v5 + ((1 : Int32))) < (AI h 3 1) then 8 else 19)) (L' := [.ref 3, .int (v5 + ((1 : Int32)))]) (S' := []) (h' := h) rfl ?_
      refine Wp.br (fun c3 => ?_) (fun c3 => ?_)
      · replace K := K.1 c3
        refine Wp.blk (by decide) ol_41 4 1 (pc' := 9) (L' := [.ref 3, .int (v5 + ((1 : Int32)))]) (S' := [.ref 3]) (h' := h) rfl ?_
        refine Wp.getf (op_ix (by decide) ol_41 5 rfl) (okS HS 3 rfl rfl) (v := .ref 4) (congrArg va_rf (rS HS 3 0 rfl)) rfl ?_
        refine Wp.blk (by decide) ol_41 6 1 (pc' := 13) (L' := [.ref 3, .int (v5 + ((1 : Int32)))]) (S' := [.int (v5 + ((1 : Int32))), .ref 4]) (h' := h) rfl ?_
        refine Wp.callI (op_ix (by decide) ol_41 7 rfl) rfl rfl (sp_at (kS HS 4 rfl) (nS HS 4 rfl) ?_)
        refine ⟨_, rfl, ?_⟩
        refine Wp.blk (by decide) ol_41 8 1 (pc' := 20) (L' := [.ref 3, .int (v5 + ((1 : Int32)))]) (S' := [.int (atv h 4 ((v5 + ((1 : Int32)))))]) (h' := h) rfl ?_
        refine Wp.ret (op_ix (by decide) ol_41 10 rfl) rfl ⟨_, rfl, ?_⟩
        refine Wp.blk (by decide) ol_50 42 8 (pc' := 87) (L' := [.ref 3, .ref 5, .ref v2, .int v3, .int v4, .int (v5 + (2 : Int32)), .int (((1 : Int32)) <<< (((AI h 5 5)) &&& 31)), .int (((atv h 4 v5)) - ((97 : Int32))), .int (((atv h 4 ((v5 + ((1 : Int32)))))) - ((97 : Int32))), .int (1 : Int32)]) (S' := [.int (v5 + (2 : Int32)), .ref 3]) (h' := h) rfl ?_
        refine Wp.callI (op_ix (by decide) ol_50 50 rfl) (act_virt (c2 := 1) rfl (lk1 (kS HS 3 rfl)) rfl) rfl (Cl.enter (L := [.ref 3, .int (v5 + (2 : Int32))]) rfl ?_)
        refine Wp.blk (by decide) ol_41 0 2 (pc' := 2) (L' := [.ref 3, .int (v5 + (2 : Int32))]) (S' := [.ref 3, .int (v5 + (2 : Int32))]) (h' := h) rfl ?_
        refine Wp.getf (op_ix (by decide) ol_41 2 rfl) (okS HS 3 rfl rfl) (v := .int (AI h 3 1)) rfl rfl ?_
        refine Wp.blk (by decide) ol_41 3 1 (pc' := (if (v5 + (2 : Int32)) < (AI h 3 1) then 8 else 19)) (L' := [.ref 3, .int (v5 + (2 : Int32))]) (S' := []) (h' := h) rfl ?_
        refine Wp.br (fun c4 => ?_) (fun c4 => ?_)
        · replace K := K.1 c4
          refine Wp.blk (by decide) ol_41 4 1 (pc' := 9) (L' := [.ref 3, .int (v5 + (2 : Int32))]) (S' := [.ref 3]) (h' := h) rfl ?_
          refine Wp.getf (op_ix (by decide) ol_41 5 rfl) (okS HS 3 rfl rfl) (v := .ref 4) (congrArg va_rf (rS HS 3 0 rfl)) rfl ?_
          refine Wp.blk (by decide) ol_41 6 1 (pc' := 13) (L' := [.ref 3, .int (v5 + (2 : Int32))]) (S' := [.int (v5 + (2 : Int32)), .ref 4]) (h' := h) rfl ?_
          refine Wp.callI (op_ix (by decide) ol_41 7 rfl) rfl rfl (sp_at (kS HS 4 rfl) (nS HS 4 rfl) ?_)
          refine ⟨_, rfl, ?_⟩
          refine Wp.blk (by decide) ol_41 8 1 (pc' := 20) (L' := [.ref 3, .int (v5 + (2 : Int32))]) (S' := [.int (atv h 4 ((v5 + (2 : Int32))))]) (h' := h) rfl ?_
          refine Wp.ret (op_ix (by decide) ol_41 10 rfl) rfl ⟨_, rfl, ?_⟩
          refine Wp.blk (by decide) ol_50 51 2 (pc' := (if (atv h 4 ((v5 + (2 : Int32)))) = (43 : Int32) then 95 else 106)) (L' := [.ref 3, .ref 5, .ref v2, .int v3, .int v4, .int (v5 + (2 : Int32)), .int (((1 : Int32)) <<< (((AI h 5 5)) &&& 31)), .int (((atv h 4 v5)) - ((97 : Int32))), .int (((atv h 4 ((v5 + ((1 : Int32)))))) - ((97 : Int32))), .int (1 : Int32)]) (S' := []) (h' := h) rfl ?_
          refine Wp.br (fun c5 => ?_) (fun c5 => ?_)
          · replace K := K.1 c5
            refine Wp.blk (by decide) ol_50 53 6 (pc' := 127) (L' := [.ref 3, .ref 5, .ref v2, .int (v3 ||| ((((1 : Int32)) <<< (((AI h 5 5)) &&& 31)))), .int v4, .int ((v5 + (2 : Int32)) + (1 : Int32)), .int (((1 : Int32)) <<< (((AI h 5 5)) &&& 31)), .int (((atv h 4 v5)) - ((97 : Int32))), .int (((atv h 4 ((v5 + ((1 : Int32)))))) - ((97 : Int32))), .int (1 : Int32)]) (S' := []) (h' := h) rfl ?_
            refine Wp.forget (L := [.ref 3, .ref 5, .ref v2, .int (v3 ||| ((((1 : Int32)) <<< (((AI h 5 5)) &&& 31)))), .int v4, .int ((v5 + (2 : Int32)) + (1 : Int32)), mk0, .int (((atv h 4 v5)) - ((97 : Int32))), .int (((atv h 4 ((v5 + ((1 : Int32)))))) - ((97 : Int32))), .int (1 : Int32)]) (⟨Or.inr rfl, ⟨Or.inr rfl, ⟨Or.inr rfl, ⟨Or.inr rfl, ⟨Or.inr rfl, ⟨Or.inr rfl, ⟨Or.inl rfl, ⟨Or.inr rfl, ⟨Or.inr rfl, ⟨Or.inr rfl, trivial⟩⟩⟩⟩⟩⟩⟩⟩⟩⟩) ?_
            exact K
          · replace K := K.2 c5
            refine Wp.blk (by decide) ol_50 59 2 (pc' := 109) (L' := [.ref 3, .ref 5, .ref v2, .int v3, .int v4, .int (v5 + (2 : Int32)), .int (((1 : Int32)) <<< (((AI h 5 5)) &&& 31)), .int (((atv h 4 v5)) - ((97 : Int32))), .int (((atv h 4 ((v5 + ((1 : Int32)))))) - ((97 : Int32))), .int (1 : Int32)]) (S' := [.int (v5 + (2 : Int32)), .ref 3]) (h' := h) rfl ?_
            refine Wp.callI (op_ix (by decide) ol_50 61 rfl) (act_virt (c2 := 1) rfl (lk1 (kS HS 3 rfl)) rfl) rfl (Cl.enter (L := [.ref 3, .int (v5 + (2 : Int32))]) rfl ?_)
            refine Wp.blk (by decide) ol_41 0 2 (pc' := 2) (L' := [.ref 3, .int (v5 + (2 : Int32))]) (S' := [.ref 3, .int (v5 + (2 : Int32))]) (h' := h) rfl ?_
            refine Wp.getf (op_ix (by decide) ol_41 2 rfl) (okS HS 3 rfl rfl) (v := .int (AI h 3 1)) rfl rfl ?_
            refine Wp.blk (by decide) ol_41 3 1 (pc' := (if (v5 + (2 : Int32)) < (AI h 3 1) then 8 else 19)) (L' := [.ref 3, .int (v5 + (2 : Int32))]) (S' := []) (h' := h) rfl ?_
            refine Wp.br (fun _ => ?_) (fun hc => absurd c4 hc)
            refine Wp.blk (by decide) ol_41 4 1 (pc' := 9) (L' := [.ref 3, .int (v5 + (2 : Int32))]) (S' := [.ref 3]) (h' := h) rfl ?_
            refine Wp.getf (op_ix (by decide) ol_41 5 rfl) (okS HS 3 rfl rfl) (v := .ref 4) (congrArg va_rf (rS HS 3 0 rfl)) rfl ?_
            refine Wp.blk (by decide) ol_41 6 1 (pc' := 13) (L' := [.ref 3, .int (v5 + (2 : Int32))]) (S' := [.int (v5 + (2 : Int32)), .ref 4]) (h' := h) rfl ?_
            refine Wp.callI (op_ix (by decide) ol_41 7 rfl) rfl rfl (sp_at (kS HS 4 rfl) (nS HS 4 rfl) ?_)
            refine ⟨_, rfl, ?_⟩
            refine Wp.blk (by decide) ol_41 8 1 (pc' := 20) (L' := [.ref 3, .int (v5 + (2 : Int32))]) (S' := [.int (atv h 4 ((v5 + (2 : Int32))))]) (h' := h) rfl ?_
            refine Wp.ret (op_ix (by decide) ol_41 10 rfl) rfl ⟨_, rfl, ?_⟩
            refine Wp.blk (by decide) ol_50 62 2 (pc' := (if (atv h 4 ((v5 + (2 : Int32)))) = (45 : Int32) then 117 else 127)) (L' := [.ref 3, .ref 5, .ref v2, .int v3, .int v4, .int (v5 + (2 : Int32)), .int (((1 : Int32)) <<< (((AI h 5 5)) &&& 31)), .int (((atv h 4 v5)) - ((97 : Int32))), .int (((atv h 4 ((v5 + ((1 : Int32)))))) - ((97 : Int32))), .int (1 : Int32)]) (S' := []) (h' := h) rfl ?_
            refine Wp.br (fun c6 => ?_) (fun c6 => ?_)
            · replace K := K.1 c6
              refine Wp.blk (by decide) ol_50 64 5 (pc' := 127) (L' := [.ref 3, .ref 5, .ref v2, .int v3, .int (v4 ||| ((((1 : Int32)) <<< (((AI h 5 5)) &&& 31)))), .int ((v5 + (2 : Int32)) + (1 : Int32)), .int (((1 : Int32)) <<< (((AI h 5 5)) &&& 31)), .int (((atv h 4 v5)) - ((97 : Int32))), .int (((atv h 4 ((v5 + ((1 : Int32)))))) - ((97 : Int32))), .int (1 : Int32)]) (S' := []) (h' := h) rfl ?_
              refine Wp.forget (L := [.ref 3, .ref 5, .ref v2, .int v3, .int (v4 ||| ((((1 : Int32)) <<< (((AI h 5 5)) &&& 31)))), .int ((v5 + (2 : Int32)) + (1 : Int32)), mk0, .int (((atv h 4 v5)) - ((97 : Int32))), .int (((atv h 4 ((v5 + ((1 : Int32)))))) - ((97 : Int32))), .int (1 : Int32)]) (⟨Or.inr rfl, ⟨Or.inr rfl, ⟨Or.inr rfl, ⟨Or.inr rfl, ⟨Or.inr rfl, ⟨Or.inr rfl, ⟨Or.inl rfl, ⟨Or.inr rfl, ⟨Or.inr rfl, ⟨Or.inr rfl, trivial⟩⟩⟩⟩⟩⟩⟩⟩⟩⟩) ?_
              exact K
            · replace K := K.2 c6
              refine Wp.forget (L := [.ref 3, .ref 5, .ref v2, .int v3, .int v4, .int (v5 + (2 : Int32)), mk0, .int (((atv h 4 v5)) - ((97 : Int32))), .int (((atv h 4 ((v5 + ((1 : Int32)))))) - ((97 : Int32))), .int (1 : Int32)]) (⟨Or.inr rfl, ⟨Or.inr rfl, ⟨Or.inr rfl, ⟨Or.inr rfl, ⟨Or.inr rfl, ⟨Or.inr rfl, ⟨Or.inl rfl, ⟨Or.inr rfl, ⟨Or.inr rfl, ⟨Or.inr rfl, trivial⟩⟩⟩⟩⟩⟩⟩⟩⟩⟩) ?_
              exact K
        · replace K := K.2 c4
          refine Wp.blk (by decide) ol_41 9 1 (pc' := 20) (L' := [.ref 3, .int (v5 + (2 : Int32))]) (S' := [.int (0 : Int32)]) (h' := h) rfl ?_
          refine Wp.ret (op_ix (by decide) ol_41 10 rfl) rfl ⟨_, rfl, ?_⟩
          refine Wp.blk (by decide) ol_50 51 2 (pc' := (if (0 : Int32) = (43 : Int32) then 95 else 106)) (L' := [.ref 3, .ref 5, .ref v2, .int v3, .int v4, .int (v5 + (2 : Int32)), .int (((1 : Int32)) <<< (((AI h 5 5)) &&& 31)), .int (((atv h 4 v5)) - ((97 : Int32))), .int (((atv h 4 ((v5 + ((1 : Int32)))))) - ((97 : Int32))), .int (1 : Int32)]) (S' := []) (h' := h) rfl ?_
          refine Wp.br (fun hc => absurd hc (by decide)) (fun _ => ?_)
          refine Wp.blk (by decide) ol_50 59 2 (pc' := 109) (L' := [.ref 3, .ref 5, .ref v2, .int v3, .int v4, .int (v5 + (2 : Int32)), .int (((1 : Int32)) <<< (((AI h 5 5)) &&& 31)), .int (((atv h 4 v5)) - ((97 : Int32))), .int (((atv h 4 ((v5 + ((1 : Int32)))))) - ((97 : Int32))), .int (1 : Int32)]) (S' := [.int (v5 + (2 : Int32)), .ref 3]) (h' := h) rfl ?_
          refine Wp.callI (op_ix (by decide) ol_50 61 rfl) (act_virt (c2 := 1) rfl (lk1 (kS HS 3 rfl)) rfl) rfl (Cl.enter (L := [.ref 3, .int (v5 + (2 : Int32))]) rfl ?_)
          refine Wp.blk (by decide) ol_41 0 2 (pc' := 2) (L' := [.ref 3, .int (v5 + (2 : Int32))]) (S' := [.ref 3, .int (v5 + (2 : Int32))]) (h' := h) rfl ?_
          refine Wp.getf (op_ix (by decide) ol_41 2 rfl) (okS HS 3 rfl rfl) (v := .int (AI h 3 1)) rfl rfl ?_
          refine Wp.blk (by decide) ol_41 3 1 (pc' := (if (v5 + (2 : Int32)) < (AI h 3 1) then 8 else 19)) (L' := [.ref 3, .int (v5 + (2 : Int32))]) (S' := []) (h' := h) rfl ?_
          refine Wp.br (fun hc => absurd hc c4) (fun _ => ?_)
          refine Wp.blk (by decide) ol_41 9 1 (pc' := 20) (L' := [.ref 3, .int (v5 + (2 : Int32))]) (S' := [.int (0 : Int32)]) (h' := h) rfl ?_
          refine Wp.ret (op_ix (by decide) ol_41 10 rfl) rfl ⟨_, rfl, ?_⟩
          refine Wp.blk (by decide) ol_50 62 2 (pc' := (if (0 : Int32) = (45 : Int32) then 117 else 127)) (L' := [.ref 3, .ref 5, .ref v2, .int v3, .int v4, .int (v5 + (2 : Int32)), .int (((1 : Int32)) <<< (((AI h 5 5)) &&& 31)), .int (((atv h 4 v5)) - ((97 : Int32))), .int (((atv h 4 ((v5 + ((1 : Int32)))))) - ((97 : Int32))), .int (1 : Int32)]) (S' := []) (h' := h) rfl ?_
          refine Wp.br (fun hc => absurd hc (by decide)) (fun _ => ?_)
          refine Wp.forget (L := [.ref 3, .ref 5, .ref v2, .int v3, .int v4, .int (v5 + (2 : Int32)), mk0, .int (((atv h 4 v5)) - ((97 : Int32))), .int (((atv h 4 ((v5 + ((1 : Int32)))))) - ((97 : Int32))), .int (1 : Int32)]) (⟨Or.inr rfl, ⟨Or.inr rfl, ⟨Or.inr rfl, ⟨Or.inr rfl, ⟨Or.inr rfl, ⟨Or.inr rfl, ⟨Or.inl rfl, ⟨Or.inr rfl, ⟨Or.inr rfl, ⟨Or.inr rfl, trivial⟩⟩⟩⟩⟩⟩⟩⟩⟩⟩) ?_
          exact K
      · replace K := K.2 c3
        refine Wp.blk (by decide) ol_41 9 1 (pc' := 20) (L' := [.ref 3, .int (v5 + ((1 : Int32)))]) (S' := [.int (0 : Int32)]) (h' := h) rfl ?_
        refine Wp.ret (op_ix (by decide) ol_41 10 rfl) rfl ⟨_, rfl, ?_⟩
        refine Wp.blk (by decide) ol_50 42 8 (pc' := 87) (L' := [.ref 3, .ref 5, .ref v2, .int v3, .int v4, .int (v5 + (2 : Int32)), .int (((1 : Int32)) <<< (((AI h 5 5)) &&& 31)), .int (((atv h 4 v5)) - ((97 : Int32))), .int (((0 : Int32)) - ((97 : Int32))), .int (1 : Int32)]) (S' := [.int (v5 + (2 : Int32)), .ref 3]) (h' := h) rfl ?_
        refine Wp.callI (op_ix (by decide) ol_50 50 rfl) (act_virt (c2 := 1) rfl (lk1 (kS HS 3 rfl)) rfl) rfl (Cl.enter (L := [.ref 3, .int (v5 + (2 : Int32))]) rfl ?_)
        refine Wp.blk (by decide) ol_41 0 2 (pc' := 2) (L' := [.ref 3, .int (v5 + (2 : Int32))]) (S' := [.ref 3, .int (v5 + (2 : Int32))]) (h' := h) rfl ?_
        refine Wp.getf (op_ix (by decide) ol_41 2 rfl) (okS HS 3 rfl rfl) (v := .int (AI h 3 1)) rfl rfl ?_
        refine Wp.blk (by decide) ol_41 3 1 (pc' := (if (v5 + (2 : Int32)) < (AI h 3 1) then 8 else 19)) (L' := [.ref 3, .int (v5 + (2 : Int32))]) (S' := []) (h' := h) rfl ?_
        refine Wp.br (fun c7 => ?_) (fun c7 => ?_)
        · replace K := K.1 c7
          refine Wp.blk (by decide) ol_41 4 1 (pc' := 9) (L' := [.ref 3, .int (v5 + (2 : Int32))]) (S' := [.ref 3]) (h' := h) rfl ?_
          refine Wp.getf (op_ix (by decide) ol_41 5 rfl) (okS HS 3 rfl rfl) (v := .ref 4) (congrArg va_rf (rS HS 3 0 rfl)) rfl ?_
          refine Wp.blk (by decide) ol_41 6 1 (pc' := 13) (L' := [.ref 3, .int (v5 + (2 : Int32))]) (S' := [.int (v5 + (2 : Int32)), .ref 4]) (h' := h) rfl ?_
          refine Wp.callI (op_ix (by decide) ol_41 7 rfl) rfl rfl (sp_at (kS HS 4 rfl) (nS HS 4 rfl) ?_)
          refine ⟨_, rfl, ?_⟩
          refine Wp.blk (by decide) ol_41 8 1 (pc' := 20) (L' := [.ref 3, .int (v5 + (2 : Int32))]) (S' := [.int (atv h 4 ((v5 + (2 : Int32))))]) (h' := h) rfl ?_
          refine Wp.ret (op_ix (by decide) ol_41 10 rfl) rfl ⟨_, rfl, ?_⟩
          refine Wp.blk (by decide) ol_50 51 2 (pc' := (if (atv h 4 ((v5 + (2 : Int32)))) = (43 : Int32) then 95 else 106)) (L' := [.ref 3, .ref 5, .ref v2, .int v3, .int v4, .int (v5 + (2 : Int32)), .int (((1 : Int32)) <<< (((AI h 5 5)) &&& 31)), .int (((atv h 4 v5)) - ((97 : Int32))), .int (((0 : Int32)) - ((97 : Int32))), .int (1 : Int32)]) (S' := []) (h' := h) rfl ?_
          refine Wp.br (fun c8 => ?_) (fun c8 => ?_)
          · replace K := K.1 c8
            refine Wp.blk (by decide) ol_50 53 6 (pc' := 127) (L' := [.ref 3, .ref 5, .ref v2, .int (v3 ||| ((((1 : Int32)) <<< (((AI h 5 5)) &&& 31)))), .int v4, .int ((v5 + (2 : Int32)) + (1 : Int32)), .int (((1 : Int32)) <<< (((AI h 5 5)) &&& 31)), .int (((atv h 4 v5)) - ((97 : Int32))), .int (((0 : Int32)) - ((97 : Int32))), .int (1 : Int32)]) (S' := []) (h' := h) rfl ?_
            refine Wp.forget (L := [.ref 3, .ref 5, .ref v2, .int (v3 ||| ((((1 : Int32)) <<< (((AI h 5 5)) &&& 31)))), .int v4, .int ((v5 + (2 : Int32)) + (1 : Int32)), mk0, .int (((atv h 4 v5)) - ((97 : Int32))), .int (((0 : Int32)) - ((97 : Int32))), .int (1 : Int32)]) (⟨Or.inr rfl, ⟨Or.inr rfl, ⟨Or.inr rfl, ⟨Or.inr rfl, ⟨Or.inr rfl, ⟨Or.inr rfl, ⟨Or.inl rfl, ⟨Or.inr rfl, ⟨Or.inr rfl, ⟨Or.inr rfl, trivial⟩⟩⟩⟩⟩⟩⟩⟩⟩⟩) ?_
            exact K
          · replace K := K.2 c8
            refine Wp.blk (by decide) ol_50 59 2 (pc' := 109) (L' := [.ref 3, .ref 5, .ref v2, .int v3, .int v4, .int (v5 + (2 : Int32)), .int (((1 : Int32)) <<< (((AI h 5 5)) &&& 31)), .int (((atv h 4 v5)) - ((97 : Int32))), .int (((0 : Int32)) - ((97 : Int32))), .int (1 : Int32)]) (S' := [.int (v5 + (2 : Int32)), .ref 3]) (h' := h) rfl ?_
            refine Wp.callI (op_ix (by decide) ol_50 61 rfl) (act_virt (c2 := 1) rfl (lk1 (kS HS 3 rfl)) rfl) rfl (Cl.enter (L := [.ref 3, .int (v5 + (2 : Int32))]) rfl ?_)
            refine Wp.blk (by decide) ol_41 0 2 (pc' := 2) (L' := [.ref 3, .int (v5 + (2 : Int32))]) (S' := [.ref 3, .int (v5 + (2 : Int32))]) (h' := h) rfl ?_
            refine Wp.getf (op_ix (by decide) ol_41 2 rfl) (okS HS 3 rfl rfl) (v := .int (AI h 3 1)) rfl rfl ?_
            refine Wp.blk (by decide) ol_41 3 1 (pc' := (if (v5 + (2 : Int32)) < (AI h 3 1) then 8 else 19)) (L' := [.ref 3, .int (v5 + (2 : Int32))]) (S' := []) (h' := h) rfl ?_
            refine Wp.br (fun _ => ?_) (fun hc => absurd c7 hc)
            refine Wp.blk (by decide) ol_41 4 1 (pc' := 9) (L' := [.ref 3, .int (v5 + (2 : Int32))]) (S' := [.ref 3]) (h' := h) rfl ?_
            refine Wp.getf (op_ix (by decide) ol_41 5 rfl) (okS HS 3 rfl rfl) (v := .ref 4) (congrArg va_rf (rS HS 3 0 rfl)) rfl ?_
            refine Wp.blk (by decide) ol_41 6 1 (pc' := 13) (L' := [.ref 3, .int (v5 + (2 : Int32))]) (S' := [.int (v5 + (2 : Int32)), .ref 4]) (h' := h) rfl ?_
            refine Wp.callI (op_ix (by decide) ol_41 7 rfl) rfl rfl (sp_at (kS HS 4 rfl) (nS HS 4 rfl) ?_)
            refine ⟨_, rfl, ?_⟩
            refine Wp.blk (by decide) ol_41 8 1 (pc' := 20) (L' := [.ref 3, .int (v5 + (2 : Int32))]) (S' := [.int (atv h 4 ((v5 + (2 : Int32))))]) (h' := h) rfl ?_
            refine Wp.ret (op_ix (by decide) ol_41 10 rfl) rfl ⟨_, rfl, ?_⟩
            refine Wp.blk (by decide) ol_50 62 2 (pc' := (if (atv h 4 ((v5 + (2 : Int32)))) = (45 : Int32) then 117 else 127)) (L' := [.ref 3, .ref 5, .ref v2, .int v3, .int v4, .int (v5 + (2 : Int32)), .int (((1 : Int32)) <<< (((AI h 5 5)) &&& 31)), .int (((atv h 4 v5)) - ((97 : Int32))), .int (((0 : Int32)) - ((97 : Int32))), .int (1 : Int32)]) (S' := []) (h' := h) rfl ?_
            refine Wp.br (fun c9 => ?_) (fun c9 => ?_)
            · replace K := K.1 c9
              refine Wp.blk (by decide) ol_50 64 5 (pc' := 127) (L' := [.ref 3, .ref 5, .ref v2, .int v3, .int (v4 ||| ((((1 : Int32)) <<< (((AI h 5 5)) &&& 31)))), .int ((v5 + (2 : Int32)) + (1 : Int32)), .int (((1 : Int32)) <<< (((AI h 5 5)) &&& 31)), .int (((atv h 4 v5)) - ((97 : Int32))), .int (((0 : Int32)) - ((97 : Int32))), .int (1 : Int32)]) (S' := []) (h' := h) rfl ?_
              refine Wp.forget (L := [.ref 3, .ref 5, .ref v2, .int v3, .int (v4 ||| ((((1 : Int32)) <<< (((AI h 5 5)) &&& 31)))), .int ((v5 + (2 : Int32)) + (1 : Int32)), mk0, .int (((atv h 4 v5)) - ((97 : Int32))), .int (((0 : Int32)) - ((97 : Int32))), .int (1 : Int32)]) (⟨Or.inr rfl, ⟨Or.inr rfl, ⟨Or.inr rfl, ⟨Or.inr rfl, ⟨Or.inr rfl, ⟨Or.inr rfl, ⟨Or.inl rfl, ⟨Or.inr rfl, ⟨Or.inr rfl, ⟨Or.inr rfl, trivial⟩⟩⟩⟩⟩⟩⟩⟩⟩⟩) ?_
              exact K
            · replace K := K.2 c9
              refine Wp.forget (L := [.ref 3, .ref 5, .ref v2, .int v3, .int v4, .int (v5 + (2 : Int32)), mk0, .int (((atv h 4 v5)) - ((97 : Int32))), .int (((0 : Int32)) - ((97 : Int32))), .int (1 : Int32)]) (⟨Or.inr rfl, ⟨Or.inr rfl, ⟨Or.inr rfl, ⟨Or.inr rfl, ⟨Or.inr rfl, ⟨Or.inr rfl, ⟨Or.inl rfl, ⟨Or.inr rfl, ⟨Or.inr rfl, ⟨Or.inr rfl, trivial⟩⟩⟩⟩⟩⟩⟩⟩⟩⟩) ?_
              exact K
        · replace K := K.2 c7
          refine Wp.blk (by decide) ol_41 9 1 (pc' := 20) (L' := [.ref 3, .int (v5 + (2 : Int32))]) (S' := [.int (0 : Int32)]) (h' := h) rfl ?_
          refine Wp.ret (op_ix (by decide) ol_41 10 rfl) rfl ⟨_, rfl, ?_⟩
          refine Wp.blk (by decide) ol_50 51 2 (pc' := (if (0 : Int32) = (43 : Int32) then 95 else 106)) (L' := [.ref 3, .ref 5, .ref v2, .int v3, .int v4, .int (v5 + (2 : Int32)), .int (((1 : Int32)) <<< (((AI h 5 5)) &&& 31)), .int (((atv h 4 v5)) - ((97 : Int32))), .int (((0 : Int32)) - ((97 : Int32))), .int (1 : Int32)]) (S' := []) (h' := h) rfl ?_
          refine Wp.br (fun hc => absurd hc (by decide)) (fun _ => ?_)
          refine Wp.blk (by decide) ol_50 59 2 (pc' := 109) (L' := [.ref 3, .ref 5, .ref v2, .int v3, .int v4, .int (v5 + (2 : Int32)), .int (((1 : Int32)) <<< (((AI h 5 5)) &&& 31)), .int (((atv h 4 v5)) - ((97 : Int32))), .int (((0 : Int32)) - ((97 : Int32))), .int (1 : Int32)]) (S' := [.int (v5 + (2 : Int32)), .ref 3]) (h' := h) rfl ?_
          refine Wp.callI (op_ix (by decide) ol_50 61 rfl) (act_virt (c2 := 1) rfl (lk1 (kS HS 3 rfl)) rfl) rfl (Cl.enter (L := [.ref 3, .int (v5 + (2 : Int32))]) rfl ?_)
          refine Wp.blk (by decide) ol_41 0 2 (pc' := 2) (L' := [.ref 3, .int (v5 + (2 : Int32))]) (S' := [.ref 3, .int (v5 + (2 : Int32))]) (h' := h) rfl ?_
          refine Wp.getf (op_ix (by decide) ol_41 2 rfl) (okS HS 3 rfl rfl) (v := .int (AI h 3 1)) rfl rfl ?_
          refine Wp.blk (by decide) ol_41 3 1 (pc' := (if (v5 + (2 : Int32)) < (AI h 3 1) then 8 else 19)) (L' := [.ref 3, .int (v5 + (2 : Int32))]) (S' := []) (h' := h) rfl ?_
          refine Wp.br (fun hc => absurd hc c7) (fun _ => ?_)
          refine Wp.blk (by decide) ol_41 9 1 (pc' := 20) (L' := [.ref 3, .int (v5 + (2 : Int32))]) (S' := [.int (0 : Int32)]) (h' := h) rfl ?_
          refine Wp.ret (op_ix (by decide) ol_41 10 rfl) rfl ⟨_, rfl, ?_⟩
          refine Wp.blk (by decide) ol_50 62 2 (pc' := (if (0 : Int32) = (45 : Int32) then 117 else 127)) (L' := [.ref 3, .ref 5, .ref v2, .int v3, .int v4, .int (v5 + (2 : Int32)), .int (((1 : Int32)) <<< (((AI h 5 5)) &&& 31)), .int (((atv h 4 v5)) - ((97 : Int32))), .int (((0 : Int32)) - ((97 : Int32))), .int (1 : Int32)]) (S' := []) (h' := h) rfl ?_
          refine Wp.br (fun hc => absurd hc (by decide)) (fun _ => ?_)
          refine Wp.forget (L := [.ref 3, .ref 5, .ref v2, .int v3, .int v4, .int (v5 + (2 : Int32)), mk0, .int (((atv h 4 v5)) - ((97 : Int32))), .int (((0 : Int32)) - ((97 : Int32))), .int (1 : Int32)]) (⟨Or.inr rfl, ⟨Or.inr rfl, ⟨Or.inr rfl, ⟨Or.inr rfl, ⟨Or.inr rfl, ⟨Or.inr rfl, ⟨Or.inl rfl, ⟨Or.inr rfl, ⟨Or.inr rfl, ⟨Or.inr rfl, trivial⟩⟩⟩⟩⟩⟩⟩⟩⟩⟩) ?_
          exact K
    · replace K := K.2 c2
      refine Wp.blk (by decide) ol_50 88 3 (pc' := 173) (L' := [.ref 3, .ref 5, .ref v2, .int v3, .int v4, .int v5, mk0, mk0, mk0, mk0]) (S' := [.int v4, .int v3, .ref v2]) (h' := h) rfl ?_
      refine Wp.callV (op_ix (by decide) ol_50 91 rfl) (act_virt (c2 := 2) rfl (lk1 (kT HS t2)) rfl) rfl (Cl.enter (L := [.ref v2, .int v3, .int v4]) rfl ?_)
      refine Wp.blk (by decide) ol_72 0 2 (pc' := 2) (L' := [.ref v2, .int v3, .int v4]) (S' := [.int v3, .ref v2]) (h' := h) rfl ?_
      refine Wp.putf (op_ix (by decide) ol_72 2 rfl) (twoT t2) (okT HS t2) (h' := (stI h v2 3 v3)) rfl rfl ?_
      refine Wp.blk (by decide) ol_72 3 2 (pc' := 7) (L' := [.ref v2, .int v3, .int v4]) (S' := [.int v4, .ref v2]) (h' := (stI h v2 3 v3)) rfl ?_
      refine Wp.putf (op_ix (by decide) ol_72 5 rfl) (twoT t2) (okT HS t2) (h' := (stI ((stI h v2 3 v3)) v2 4 v4)) rfl rfl ?_
      refine Wp.blk (by decide) ol_72 6 2 (pc' := 12) (L' := [.ref v2, .int v3, .int v4]) (S' := [.int (0 : Int32), .ref v2]) (h' := (stI ((stI h v2 3 v3)) v2 4 v4)) rfl ?_
      refine Wp.putf (op_ix (by decide) ol_72 8 rfl) (twoT t2) (okT HS t2) (h' := (stI ((stI ((stI h v2 3 v3)) v2 4 v4)) v2 5 ((0 : Int32)))) rfl rfl ?_
      refine Wp.blk (by decide) ol_72 9 2 (pc' := 17) (L' := [.ref v2, .int v3, .int v4]) (S' := [.int (0 : Int32), .ref v2]) (h' := (stI ((stI ((stI h v2 3 v3)) v2 4 v4)) v2 5 ((0 : Int32)))) rfl ?_
      refine Wp.putf (op_ix (by decide) ol_72 11 rfl) (twoT t2) (okT HS t2) (h' := (stI ((stI ((stI ((stI h v2 3 v3)) v2 4 v4)) v2 5 ((0 : Int32)))) v2 2 ((0 : Int32)))) rfl rfl ?_
      refine Wp.ret (op_ix (by decide) ol_72 12 rfl) rfl ⟨rfl, ?_⟩
      exact Wp.ret (op_ix (by decide) ol_50 92 rfl) rfl K
  · replace K := K.2 c1
    refine Wp.blk (by decide) ol_50 88 3 (pc' := 173) (L' := [.ref 3, .ref 5, .ref v2, .int v3, .int v4, .int v5, mk0, mk0, mk0, mk0]) (S' := [.int v4, .int v3, .ref v2]) (h' := h) rfl ?_
    refine Wp.callV (op_ix (by decide) ol_50 91 rfl) (act_virt (c2 := 2) rfl (lk1 (kT HS t2)) rfl) rfl (Cl.enter (L := [.ref v2, .int v3, .int v4]) rfl ?_)
    refine Wp.blk (by decide) ol_72 0 2 (pc' := 2) (L' := [.ref v2, .int v3, .int v4]) (S' := [.int v3, .ref v2]) (h' := h) rfl ?_
    refine Wp.putf (op_ix (by decide) ol_72 2 rfl) (twoT t2) (okT HS t2) (h' := (stI h v2 3 v3)) rfl rfl ?_
    refine Wp.blk (by decide) ol_72 3 2 (pc' := 7) (L' := [.ref v2, .int v3, .int v4]) (S' := [.int v4, .ref v2]) (h' := (stI h v2 3 v3)) rfl ?_
    refine Wp.putf (op_ix (by decide) ol_72 5 rfl) (twoT t2) (okT HS t2) (h' := (stI ((stI h v2 3 v3)) v2 4 v4)) rfl rfl ?_
    refine Wp.blk (by decide) ol_72 6 2 (pc' := 12) (L' := [.ref v2, .int v3, .int v4]) (S' := [.int (0 : Int32), .ref v2]) (h' := (stI ((stI h v2 3 v3)) v2 4 v4)) rfl ?_
    refine Wp.putf (op_ix (by decide) ol_72 8 rfl) (twoT t2) (okT HS t2) (h' := (stI ((stI ((stI h v2 3 v3)) v2 4 v4)) v2 5 ((0 : Int32)))) rfl rfl ?_
    refine Wp.blk (by decide) ol_72 9 2 (pc' := 17) (L' := [.ref v2, .int v3, .int v4]) (S' := [.int (0 : Int32), .ref v2]) (h' := (stI ((stI ((stI h v2 3 v3)) v2 4 v4)) v2 5 ((0 : Int32)))) rfl ?_
    refine Wp.putf (op_ix (by decide) ol_72 11 rfl) (twoT t2) (okT HS t2) (h' := (stI ((stI ((stI ((stI h v2 3 v3)) v2 4 v4)) v2 5 ((0 : Int32)))) v2 2 ((0 : Int32)))) rfl rfl ?_
    refine Wp.ret (op_ix (by decide) ol_72 12 rfl) rfl ⟨rfl, ?_⟩
    exact Wp.ret (op_ix (by decide) ol_50 92 rfl) rfl K
/-- CutsOrFast$Page.readInto at 127 -/
theorem g50_127 (d : Nat) (v2 : Nat) (v3 : Int32) (v4 : Int32) (v5 : Int32) (v7 : Int32) (v8 : Int32) (v9 : Int32) (h : AH) (HS : Sh h) (t2 : St3 v2) (Q : Option Value → AH → Prop) (K : ((v5 < (AI h 3 1) → (((atv h 4 v5) < (49 : Int32) → (Cl (d + 1) 22 [.ref 5, .int v7, .int v8, .int v9] h (fun r h3 => r = none ∧ Sh h3 ∧ Wp (d + 2) 50 28 [.ref 3, .ref 5, .ref v2, .int v3, .int v4, .int (v5 + (1 : Int32)), mk0, mk0, mk0, mk0] [] h3 Q))) ∧ (¬ (atv h 4 v5) < (49 : Int32) → (((57 : Int32) < (atv h 4 v5) → (Cl (d + 1) 22 [.ref 5, .int v7, .int v8, .int v9] h (fun r h6 => r = none ∧ Sh h6 ∧ Wp (d + 2) 50 28 [.ref 3, .ref 5, .ref v2, .int v3, .int v4, .int (v5 + (1 : Int32)), mk0, mk0, mk0, mk0] [] h6 Q))) ∧ (¬ (57 : Int32) < (atv h 4 v5) → (Cl (d + 1) 22 [.ref 5, .int v7, .int v8, .int (((atv h 4 v5)) - ((48 : Int32)))] h (fun r h8 => r = none ∧ Sh h8 ∧ Wp (d + 2) 50 28 [.ref 3, .ref 5, .ref v2, .int v3, .int v4, .int ((v5 + (1 : Int32)) + (1 : Int32)), mk0, mk0, mk0, mk0] [] h8 Q))))))) ∧ (¬ v5 < (AI h 3 1) → (Cl (d + 1) 22 [.ref 5, .int v7, .int v8, .int v9] h (fun r h10 => r = none ∧ Sh h10 ∧ Wp (d + 2) 50 28 [.ref 3, .ref 5, .ref v2, .int v3, .int v4, .int (v5 + (1 : Int32)), mk0, mk0, mk0, mk0] [] h10 Q))))) : Wp (d + 2) 50 127 [.ref 3, .ref 5, .ref v2, .int v3, .int v4, .int v5, mk0, .int v7, .int v8, .int v9] [] h Q := by
  refine Wp.blk (by decide) ol_50 69 2 (pc' := 130) (L' := [.ref 3, .ref 5, .ref v2, .int v3, .int v4, .int v5, mk0, .int v7, .int v8, .int v9]) (S' := [.int v5, .ref 3]) (h' := h) rfl ?_
  refine Wp.callI (op_ix (by decide) ol_50 71 rfl) (act_virt (c2 := 1) rfl (lk1 (kS HS 3 rfl)) rfl) rfl (Cl.enter (L := [.ref 3, .int v5]) rfl ?_)
  refine Wp.blk (by decide) ol_41 0 2 (pc' := 2) (L' := [.ref 3, .int v5]) (S' := [.ref 3, .int v5]) (h' := h) rfl ?_
  refine Wp.getf (op_ix (by decide) ol_41 2 rfl) (okS HS 3 rfl rfl) (v := .int (AI h 3 1)) rfl rfl ?_
  refine Wp.blk (by decide) ol_41 3 1 (pc' := (if v5 < (AI h 3 1) then 8 else 19)) (L' := [.ref 3, .int v5]) (S' := []) (h' := h) rfl ?_
  refine Wp.br (fun c1 => ?_) (fun c1 => ?_)
  · replace K := K.1 c1
    refine Wp.blk (by decide) ol_41 4 1 (pc' := 9) (L' := [.ref 3, .int v5]) (S' := [.ref 3]) (h' := h) rfl ?_
    refine Wp.getf (op_ix (by decide) ol_41 5 rfl) (okS HS 3 rfl rfl) (v := .ref 4) (congrArg va_rf (rS HS 3 0 rfl)) rfl ?_
    refine Wp.blk (by decide) ol_41 6 1 (pc' := 13) (L' := [.ref 3, .int v5]) (S' := [.int v5, .ref 4]) (h' := h) rfl ?_
    refine Wp.callI (op_ix (by decide) ol_41 7 rfl) rfl rfl (sp_at (kS HS 4 rfl) (nS HS 4 rfl) ?_)
    refine ⟨_, rfl, ?_⟩
    refine Wp.blk (by decide) ol_41 8 1 (pc' := 20) (L' := [.ref 3, .int v5]) (S' := [.int (atv h 4 v5)]) (h' := h) rfl ?_
    refine Wp.ret (op_ix (by decide) ol_41 10 rfl) rfl ⟨_, rfl, ?_⟩
    refine Wp.callI (op_ix (by decide) ol_50 72 rfl) rfl rfl (Cl.enter (L := [.int (atv h 4 v5)]) rfl ?_)
    refine Wp.blk (by decide) ol_49 0 3 (pc' := (if (atv h 4 v5) < (49 : Int32) then 16 else 6)) (L' := [.int (atv h 4 v5)]) (S' := []) (h' := h) rfl ?_
    refine Wp.br (fun c2 => ?_) (fun c2 => ?_)
    · replace K := K.1 c2
      refine Wp.blk (by decide) ol_49 8 1 (pc' := 17) (L' := [.int (atv h 4 v5)]) (S' := [.int (0 : Int32)]) (h' := h) rfl ?_
      refine Wp.ret (op_ix (by decide) ol_49 9 rfl) rfl ⟨_, rfl, ?_⟩
      refine Wp.blk (by decide) ol_50 73 1 (pc' := (if (0 : Int32) = (0 : Int32) then 153 else 139)) (L' := [.ref 3, .ref 5, .ref v2, .int v3, .int v4, .int v5, mk0, .int v7, .int v8, .int v9]) (S' := []) (h' := h) rfl ?_
      refine Wp.br (fun _ => ?_) (fun hc => absurd (by decide) hc)
      refine Wp.blk (by decide) ol_50 81 4 (pc' := 160) (L' := [.ref 3, .ref 5, .ref v2, .int v3, .int v4, .int v5, mk0, .int v7, .int v8, .int v9]) (S' := [.int v9, .int v8, .int v7, .ref 5]) (h' := h) rfl ?_
      refine Wp.callV (op_ix (by decide) ol_50 85 rfl) (act_virt (c2 := 3) rfl (lk1 (kS HS 5 rfl)) rfl) rfl (K.mono ?_)
      rintro _ h3 ⟨rfl, hs4, K⟩
      refine ⟨rfl, ?_⟩
      refine Wp.blk (by decide) ol_50 86 2 (pc' := 28) (L' := [.ref 3, .ref 5, .ref v2, .int v3, .int v4, .int (v5 + (1 : Int32)), mk0, .int v7, .int v8, .int v9]) (S' := []) (h' := h3) rfl ?_
      refine Wp.forget (L := [.ref 3, .ref 5, .ref v2, .int v3, .int v4, .int (v5 + (1 : Int32)), mk0, mk0, mk0, mk0]) (⟨Or.inr rfl, ⟨Or.inr rfl, ⟨Or.inr rfl, ⟨Or.inr rfl, ⟨Or.inr rfl, ⟨Or.inr rfl, ⟨Or.inr rfl, ⟨Or.inl rfl, ⟨Or.inl rfl, ⟨Or.inl rfl, trivial⟩⟩⟩⟩⟩⟩⟩⟩⟩⟩) ?_
      exact K
    · replace K := K.2 c2
      refine Wp.blk (by decide) ol_49 3 3 (pc' := (if (57 : Int32) < (atv h 4 v5) then 16 else 12)) (L' := [.int (atv h 4 v5)]) (S' := []) (h' := h) rfl ?_
      refine Wp.br (fun c5 => ?_) (fun c5 => ?_)
      · replace K := K.1 c5
        refine Wp.blk (by decide) ol_49 8 1 (pc' := 17) (L' := [.int (atv h 4 v5)]) (S' := [.int (0 : Int32)]) (h' := h) rfl ?_
        refine Wp.ret (op_ix (by decide) ol_49 9 rfl) rfl ⟨_, rfl, ?_⟩
        refine Wp.blk (by decide) ol_50 73 1 (pc' := (if (0 : Int32) = (0 : Int32) then 153 else 139)) (L' := [.ref 3, .ref 5, .ref v2, .int v3, .int v4, .int v5, mk0, .int v7, .int v8, .int v9]) (S' := []) (h' := h) rfl ?_
        refine Wp.br (fun _ => ?_) (fun hc => absurd (by decide) hc)
        refine Wp.blk (by decide) ol_50 81 4 (pc' := 160) (L' := [.ref 3, .ref 5, .ref v2, .int v3, .int v4, .int v5, mk0, .int v7, .int v8, .int v9]) (S' := [.int v9, .int v8, .int v7, .ref 5]) (h' := h) rfl ?_
        refine Wp.callV (op_ix (by decide) ol_50 85 rfl) (act_virt (c2 := 3) rfl (lk1 (kS HS 5 rfl)) rfl) rfl (K.mono ?_)
        rintro _ h6 ⟨rfl, hs7, K⟩
        refine ⟨rfl, ?_⟩
        refine Wp.blk (by decide) ol_50 86 2 (pc' := 28) (L' := [.ref 3, .ref 5, .ref v2, .int v3, .int v4, .int (v5 + (1 : Int32)), mk0, .int v7, .int v8, .int v9]) (S' := []) (h' := h6) rfl ?_
        refine Wp.forget (L := [.ref 3, .ref 5, .ref v2, .int v3, .int v4, .int (v5 + (1 : Int32)), mk0, mk0, mk0, mk0]) (⟨Or.inr rfl, ⟨Or.inr rfl, ⟨Or.inr rfl, ⟨Or.inr rfl, ⟨Or.inr rfl, ⟨Or.inr rfl, ⟨Or.inr rfl, ⟨Or.inl rfl, ⟨Or.inl rfl, ⟨Or.inl rfl, trivial⟩⟩⟩⟩⟩⟩⟩⟩⟩⟩) ?_
        exact K
      · replace K := K.2 c5
        refine Wp.blk (by decide) ol_49 6 2 (pc' := 17) (L' := [.int (atv h 4 v5)]) (S' := [.int (1 : Int32)]) (h' := h) rfl ?_
        refine Wp.ret (op_ix (by decide) ol_49 9 rfl) rfl ⟨_, rfl, ?_⟩
        refine Wp.blk (by decide) ol_50 73 1 (pc' := (if (1 : Int32) = (0 : Int32) then 153 else 139)) (L' := [.ref 3, .ref 5, .ref v2, .int v3, .int v4, .int v5, mk0, .int v7, .int v8, .int v9]) (S' := []) (h' := h) rfl ?_
        refine Wp.br (fun hc => absurd hc (by decide)) (fun _ => ?_)
        refine Wp.blk (by decide) ol_50 74 2 (pc' := 142) (L' := [.ref 3, .ref 5, .ref v2, .int v3, .int v4, .int v5, mk0, .int v7, .int v8, .int v9]) (S' := [.int v5, .ref 3]) (h' := h) rfl ?_
        refine Wp.callI (op_ix (by decide) ol_50 76 rfl) (act_virt (c2 := 1) rfl (lk1 (kS HS 3 rfl)) rfl) rfl (Cl.enter (L := [.ref 3, .int v5]) rfl ?_)
        refine Wp.blk (by decide) ol_41 0 2 (pc' := 2) (L' := [.ref 3, .int v5]) (S' := [.ref 3, .int v5]) (h' := h) rfl ?_
        refine Wp.getf (op_ix (by decide) ol_41 2 rfl) (okS HS 3 rfl rfl) (v := .int (AI h 3 1)) rfl rfl ?_
        refine Wp.blk (by decide) ol_41 3 1 (pc' := (if v5 < (AI h 3 1) then 8 else 19)) (L' := [.ref 3, .int v5]) (S' := []) (h' := h) rfl ?_
        refine Wp.br (fun _ => ?_) (fun hc => absurd c1 hc)
        refine Wp.blk (by decide) ol_41 4 1 (pc' := 9) (L' := [.ref 3, .int v5]) (S' := [.ref 3]) (h' := h) rfl ?_
        refine Wp.getf (op_ix (by decide) ol_41 5 rfl) (okS HS 3 rfl rfl) (v := .ref 4) (congrArg va_rf (rS HS 3 0 rfl)) rfl ?_
        refine Wp.blk (by decide) ol_41 6 1 (pc' := 13) (L' := [.ref 3, .int v5]) (S' := [.int v5, .ref 4]) (h' := h) rfl ?_
        refine Wp.callI (op_ix (by decide) ol_41 7 rfl) rfl rfl (sp_at (kS HS 4 rfl) (nS HS 4 rfl) ?_)
        refine ⟨_, rfl, ?_⟩
        refine Wp.blk (by decide) ol_41 8 1 (pc' := 20) (L' := [.ref 3, .int v5]) (S' := [.int (atv h 4 v5)]) (h' := h) rfl ?_
        refine Wp.ret (op_ix (by decide) ol_41 10 rfl) rfl ⟨_, rfl, ?_⟩
        refine Wp.blk (by decide) ol_50 77 8 (pc' := 160) (L' := [.ref 3, .ref 5, .ref v2, .int v3, .int v4, .int (v5 + (1 : Int32)), mk0, .int v7, .int v8, .int (((atv h 4 v5)) - ((48 : Int32)))]) (S' := [.int (((atv h 4 v5)) - ((48 : Int32))), .int v8, .int v7, .ref 5]) (h' := h) rfl ?_
        refine Wp.callV (op_ix (by decide) ol_50 85 rfl) (act_virt (c2 := 3) rfl (lk1 (kS HS 5 rfl)) rfl) rfl (K.mono ?_)
        rintro _ h8 ⟨rfl, hs9, K⟩
        refine ⟨rfl, ?_⟩
        refine Wp.blk (by decide) ol_50 86 2 (pc' := 28) (L' := [.ref 3, .ref 5, .ref v2, .int v3, .int v4, .int ((v5 + (1 : Int32)) + (1 : Int32)), mk0, .int v7, .int v8, .int (((atv h 4 v5)) - ((48 : Int32)))]) (S' := []) (h' := h8) rfl ?_
        refine Wp.forget (L := [.ref 3, .ref 5, .ref v2, .int v3, .int v4, .int ((v5 + (1 : Int32)) + (1 : Int32)), mk0, mk0, mk0, mk0]) (⟨Or.inr rfl, ⟨Or.inr rfl, ⟨Or.inr rfl, ⟨Or.inr rfl, ⟨Or.inr rfl, ⟨Or.inr rfl, ⟨Or.inr rfl, ⟨Or.inl rfl, ⟨Or.inl rfl, ⟨Or.inl rfl, trivial⟩⟩⟩⟩⟩⟩⟩⟩⟩⟩) ?_
        exact K
  · replace K := K.2 c1
    refine Wp.blk (by decide) ol_41 9 1 (pc' := 20) (L' := [.ref 3, .int v5]) (S' := [.int (0 : Int32)]) (h' := h) rfl ?_
    refine Wp.ret (op_ix (by decide) ol_41 10 rfl) rfl ⟨_, rfl, ?_⟩
    refine Wp.callI (op_ix (by decide) ol_50 72 rfl) rfl rfl (Cl.enter (L := [.int (0 : Int32)]) rfl ?_)
    refine Wp.blk (by decide) ol_49 0 3 (pc' := (if (0 : Int32) < (49 : Int32) then 16 else 6)) (L' := [.int (0 : Int32)]) (S' := []) (h' := h) rfl ?_
    refine Wp.br (fun _ => ?_) (fun hc => absurd (by decide) hc)
    refine Wp.blk (by decide) ol_49 8 1 (pc' := 17) (L' := [.int (0 : Int32)]) (S' := [.int (0 : Int32)]) (h' := h) rfl ?_
    refine Wp.ret (op_ix (by decide) ol_49 9 rfl) rfl ⟨_, rfl, ?_⟩
    refine Wp.blk (by decide) ol_50 73 1 (pc' := (if (0 : Int32) = (0 : Int32) then 153 else 139)) (L' := [.ref 3, .ref 5, .ref v2, .int v3, .int v4, .int v5, mk0, .int v7, .int v8, .int v9]) (S' := []) (h' := h) rfl ?_
    refine Wp.br (fun _ => ?_) (fun hc => absurd (by decide) hc)
    refine Wp.blk (by decide) ol_50 81 4 (pc' := 160) (L' := [.ref 3, .ref 5, .ref v2, .int v3, .int v4, .int v5, mk0, .int v7, .int v8, .int v9]) (S' := [.int v9, .int v8, .int v7, .ref 5]) (h' := h) rfl ?_
    refine Wp.callV (op_ix (by decide) ol_50 85 rfl) (act_virt (c2 := 3) rfl (lk1 (kS HS 5 rfl)) rfl) rfl (K.mono ?_)
    rintro _ h10 ⟨rfl, hs11, K⟩
    refine ⟨rfl, ?_⟩
    refine Wp.blk (by decide) ol_50 86 2 (pc' := 28) (L' := [.ref 3, .ref 5, .ref v2, .int v3, .int v4, .int (v5 + (1 : Int32)), mk0, .int v7, .int v8, .int v9]) (S' := []) (h' := h10) rfl ?_
    refine Wp.forget (L := [.ref 3, .ref 5, .ref v2, .int v3, .int v4, .int (v5 + (1 : Int32)), mk0, mk0, mk0, mk0]) (⟨Or.inr rfl, ⟨Or.inr rfl, ⟨Or.inr rfl, ⟨Or.inr rfl, ⟨Or.inr rfl, ⟨Or.inr rfl, ⟨Or.inr rfl, ⟨Or.inl rfl, ⟨Or.inl rfl, ⟨Or.inl rfl, trivial⟩⟩⟩⟩⟩⟩⟩⟩⟩⟩) ?_
    exact K
/-- CutsOrFast$Player.<init> at 0 ()V -/
theorem g51_0 (d : Nat) (v0 : Nat) (h : AH)  (Q : Option Value → AH → Prop) (K : Q none h) : Wp d 51 0 [.ref v0] [] h Q := by
  refine Wp.blk (by decide) ol_51 0 2 (pc' := 4) (L' := [.ref v0]) (S' := []) (h' := h) rfl ?_
  exact Wp.ret (op_ix (by decide) ol_51 2 rfl) rfl K
/-- CutsOrFast$Player.kind at 0 ()I -/
theorem g52_0 (d : Nat) (v0 : Nat) (h : AH) (HS : Sh h)  (Q : Option Value → AH → Prop) (K : Q (some (.int (0 : Int32))) h) : Wp d 52 0 [.ref v0] [] h Q := by
  refine Wp.blk (by decide) ol_52 0 1 (pc' := 1) (L' := [.ref v0]) (S' := [.int (0 : Int32)]) (h' := h) rfl ?_
  exact Wp.ret (op_ix (by decide) ol_52 1 rfl) rfl K
/-- CutsOrFast$Player.choose at 0 (LCutsOrFast$Stand;LCutsOrFast$Search;LCutsOrFast$Draws;)I -/
theorem g53_0 (d : Nat) (v0 : Nat) (v1 : Nat) (h : AH) (HS : Sh h) (t1 : St3 v1) (Q : Option Value → AH → Prop) (K : (Cl d 87 [.ref v1, .int (0 : Int32)] h (fun r h1 => ∃ x3 : Int32, r = some (.int x3) ∧ Sh h1 ∧ Q (some (.int x3)) h1))) : Wp (d + 1) 53 0 [.ref v0, .ref v1, .ref 17, .ref 21] [] h Q := by
  refine Wp.blk (by decide) ol_53 0 2 (pc' := 2) (L' := [.ref v0, .ref v1, .ref 17, .ref 21]) (S' := [.int (0 : Int32), .ref v1]) (h' := h) rfl ?_
  refine Wp.callI (op_ix (by decide) ol_53 2 rfl) (act_virt (c2 := 1) rfl (lk1 (kT HS t1)) rfl) rfl (K.mono ?_)
  rintro _ h1 ⟨x3, rfl, hs2, K⟩
  refine ⟨x3, rfl, ?_⟩
  exact Wp.ret (op_ix (by decide) ol_53 3 rfl) rfl K
/-- CutsOrFast$Search.<init> at 0 (LCutsOrFast$Net;)V -/
theorem g54_0 (d : Nat) (v0 : Nat) (v1 : Nat) (h : AH)  (Q : Option Value → AH → Prop) (K : (∀ n1, n1 = (NX h) → ∀ h2, h2 = (newO h 20 1024) → (okC 8 (AK h2 v0).1 = true ∧ 2 ≤ v0 ∧ (∀ n7, n7 = (NX ((stR h2 v0 1 (some n1)))) → ∀ h8, h8 = (newO ((stR h2 v0 1 (some n1))) 21 3691) → (okC 8 (AK h8 v0).1 = true ∧ (∀ n12, n12 = (NX ((stR h8 v0 2 (some n7)))) → ∀ h13, h13 = (newO ((stR h8 v0 2 (some n7))) 21 19683) → (okC 8 (AK h13 v0).1 = true ∧ Wp d 54 45 [.ref v0, mk0, .int (1 : Int32), .int (0 : Int32), mk0, mk0] [] (stR ((stI ((stR h13 v0 3 (some n12))) v0 4 ((-1 : Int32)))) v0 0 (some v1)) Q))))))) : Wp d 54 0 [.ref v0, .ref v1, mk0, mk0, mk0, mk0] [] h Q := by
  refine Wp.blk (by decide) ol_54 0 4 (pc' := 8) (L' := [.ref v0, .ref v1, mk0, mk0, mk0, mk0]) (S' := [.int (1024 : Int32), .ref v0]) (h' := h) rfl ?_
  refine Wp.blk (by decide) ol_54 4 1 (pc' := 10) (L' := [.ref v0, .ref v1, mk0, mk0, mk0, mk0]) (S' := [.ref (NX h), .ref v0]) (h' := (newO h 20 1024)) rfl ?_
  obtain ⟨n1, e3⟩ : ∃ x, x = (NX h) := ⟨_, rfl⟩
  obtain ⟨h2, e4⟩ : ∃ x, x = (newO h 20 1024) := ⟨_, rfl⟩
  rw [← e4, ← e3]
  replace K := K n1 e3 h2 e4
  obtain ⟨k5, K⟩ := K
  obtain ⟨b6, K⟩ := K
  refine Wp.putf (op_ix (by decide) ol_54 5 rfl) b6 k5 (h' := (stR h2 v0 1 (some n1))) rfl rfl ?_
  refine Wp.blk (by decide) ol_54 6 2 (pc' := 17) (L' := [.ref v0, .ref v1, mk0, mk0, mk0, mk0]) (S' := [.int (3691 : Int32), .ref v0]) (h' := (stR h2 v0 1 (some n1))) rfl ?_
  refine Wp.blk (by decide) ol_54 8 1 (pc' := 19) (L' := [.ref v0, .ref v1, mk0, mk0, mk0, mk0]) (S' := [.ref (NX ((stR h2 v0 1 (some n1)))), .ref v0]) (h' := (newO ((stR h2 v0 1 (some n1))) 21 3691)) rfl ?_
  obtain ⟨n7, e9⟩ : ∃ x, x = (NX ((stR h2 v0 1 (some n1)))) := ⟨_, rfl⟩
  obtain ⟨h8, e10⟩ : ∃ x, x = (newO ((stR h2 v0 1 (some n1))) 21 3691) := ⟨_, rfl⟩
  rw [← e10, ← e9]
  replace K := K n7 e9 h8 e10
  obtain ⟨k11, K⟩ := K
  refine Wp.putf (op_ix (by decide) ol_54 9 rfl) b6 k11 (h' := (stR h8 v0 2 (some n7))) rfl rfl ?_
  refine Wp.blk (by decide) ol_54 10 2 (pc' := 26) (L' := [.ref v0, .ref v1, mk0, mk0, mk0, mk0]) (S' := [.int (19683 : Int32), .ref v0]) (h' := (stR h8 v0 2 (some n7))) rfl ?_
  refine Wp.blk (by decide) ol_54 12 1 (pc' := 28) (L' := [.ref v0, .ref v1, mk0, mk0, mk0, mk0]) (S' := [.ref (NX ((stR h8 v0 2 (some n7)))), .ref v0]) (h' := (newO ((stR h8 v0 2 (some n7))) 21 19683)) rfl ?_
  obtain ⟨n12, e14⟩ : ∃ x, x = (NX ((stR h8 v0 2 (some n7)))) := ⟨_, rfl⟩
  obtain ⟨h13, e15⟩ : ∃ x, x = (newO ((stR h8 v0 2 (some n7))) 21 19683) := ⟨_, rfl⟩
  rw [← e15, ← e14]
  replace K := K n12 e14 h13 e15
  obtain ⟨k16, K⟩ := K
  refine Wp.putf (op_ix (by decide) ol_54 13 rfl) b6 k16 (h' := (stR h13 v0 3 (some n12))) rfl rfl ?_
  refine Wp.blk (by decide) ol_54 14 2 (pc' := 33) (L' := [.ref v0, .ref v1, mk0, mk0, mk0, mk0]) (S' := [.int (-1 : Int32), .ref v0]) (h' := (stR h13 v0 3 (some n12))) rfl ?_
  refine Wp.putf (op_ix (by decide) ol_54 16 rfl) b6 k16 (h' := (stI ((stR h13 v0 3 (some n12))) v0 4 ((-1 : Int32)))) rfl rfl ?_
  refine Wp.blk (by decide) ol_54 17 2 (pc' := 38) (L' := [.ref v0, .ref v1, mk0, mk0, mk0, mk0]) (S' := [.ref v1, .ref v0]) (h' := (stI ((stR h13 v0 3 (some n12))) v0 4 ((-1 : Int32)))) rfl ?_
  refine Wp.putf (op_ix (by decide) ol_54 19 rfl) b6 k16 (h' := (stR ((stI ((stR h13 v0 3 (some n12))) v0 4 ((-1 : Int32)))) v0 0 (some v1))) rfl rfl ?_
  refine Wp.blk (by decide) ol_54 20 4 (pc' := 45) (L' := [.ref v0, .ref v1, .int (1 : Int32), .int (0 : Int32), mk0, mk0]) (S' := []) (h' := (stR ((stI ((stR h13 v0 3 (some n12))) v0 4 ((-1 : Int32)))) v0 0 (some v1))) rfl ?_
  refine Wp.forget (L := [.ref v0, mk0, .int (1 : Int32), .int (0 : Int32), mk0, mk0]) (⟨Or.inr rfl, ⟨Or.inl rfl, ⟨Or.inr rfl, ⟨Or.inr rfl, ⟨Or.inr rfl, ⟨Or.inr rfl, trivial⟩⟩⟩⟩⟩⟩) ?_
  exact K
/-- CutsOrFast$Search.<init> at 45 -/
theorem g54_45 (d : Nat) (v0 : Nat) (v2 : Int32) (v3 : Int32) (h : AH)  (Q : Option Value → AH → Prop) (K : (((9 : Int32) < v3 → Q none h) ∧ (¬ (9 : Int32) < v3 → Wp d 54 59 [.ref v0, mk0, .int v2, .int v3, .int (((1 : Int32)) <<< (v3 &&& 31)), .int (0 : Int32)] [] h Q))) : Wp d 54 45 [.ref v0, mk0, .int v2, .int v3, mk0, mk0] [] h Q := by
  refine Wp.blk (by decide) ol_54 24 3 (pc' := (if (9 : Int32) < v3 then 105 else 51)) (L' := [.ref v0, mk0, .int v2, .int v3, mk0, mk0]) (S' := []) (h' := h) rfl ?_
  refine Wp.br (fun c1 => ?_) (fun c1 => ?_)
  · replace K := K.1 c1
    exact Wp.ret (op_ix (by decide) ol_54 56 rfl) rfl K
  · replace K := K.2 c1
    refine Wp.blk (by decide) ol_54 27 6 (pc' := 59) (L' := [.ref v0, mk0, .int v2, .int v3, .int (((1 : Int32)) <<< (v3 &&& 31)), .int (0 : Int32)]) (S' := []) (h' := h) rfl ?_
    exact K
/-- CutsOrFast$Search.<init> at 59 -/
theorem g54_59 (d : Nat) (v0 : Nat) (v2 : Int32) (v3 : Int32) (v4 : Int32) (v5 : Int32) (h : AH)  (Q : Option Value → AH → Prop) (K : ((v5 < v4 → (okC 8 (AK h v0).1 = true ∧ ∃ i3 : Nat, AR h v0 1 = some i3 ∧ ∃ i5 : Nat, AR h v0 1 = some i5 ∧ (AK h i5).1 = 20 ∧ (AK h i5).2 < 2147483648 ∧ (AK h i3).1 = 20 ∧ (AK h i3).2 < 2147483648 ∧ 2 ≤ i3 ∧ (∀ h12, h12 = (putv h i3 ((v5 ||| v4)) ((((atv h i5 v5)) + v2))) → Wp (d + 1) 54 59 [.ref v0, mk0, .int v2, .int v3, .int v4, .int (v5 + (1 : Int32))] [] h12 Q))) ∧ (¬ v5 < v4 → Wp (d + 1) 54 45 [.ref v0, mk0, .int (v2 * ((3 : Int32))), .int (v3 + (1 : Int32)), mk0, mk0] [] h Q))) : Wp (d + 1) 54 59 [.ref v0, mk0, .int v2, .int v3, .int v4, .int v5] [] h Q := by
  refine Wp.blk (by decide) ol_54 33 3 (pc' := (if v5 < v4 then 66 else 95)) (L' := [.ref v0, mk0, .int v2, .int v3, .int v4, .int v5]) (S' := []) (h' := h) rfl ?_
  refine Wp.br (fun c1 => ?_) (fun c1 => ?_)
  · replace K := K.1 c1
    refine Wp.blk (by decide) ol_54 36 1 (pc' := 67) (L' := [.ref v0, mk0, .int v2, .int v3, .int v4, .int v5]) (S' := [.ref v0]) (h' := h) rfl ?_
    obtain ⟨k2, K⟩ := K
    obtain ⟨i3, q4, K⟩ := K
    refine Wp.getf (op_ix (by decide) ol_54 37 rfl) k2 (v := .ref i3) (congrArg va_rf q4) rfl ?_
    refine Wp.blk (by decide) ol_54 38 4 (pc' := 76) (L' := [.ref v0, mk0, .int v2, .int v3, .int v4, .int v5]) (S' := [.ref v0, .int (v5 ||| v4), .ref i3]) (h' := h) rfl ?_
    obtain ⟨i5, q6, K⟩ := K
    refine Wp.getf (op_ix (by decide) ol_54 42 rfl) k2 (v := .ref i5) (congrArg va_rf q6) rfl ?_
    refine Wp.blk (by decide) ol_54 43 1 (pc' := 81) (L' := [.ref v0, mk0, .int v2, .int v3, .int v4, .int v5]) (S' := [.int v5, .ref i5, .int (v5 ||| v4), .ref i3]) (h' := h) rfl ?_
    obtain ⟨k7, K⟩ := K
    obtain ⟨l8, K⟩ := K
    refine Wp.callI (op_ix (by decide) ol_54 44 rfl) rfl rfl (sp_at k7 l8 ?_)
    refine ⟨_, rfl, ?_⟩
    refine Wp.blk (by decide) ol_54 45 2 (pc' := 86) (L' := [.ref v0, mk0, .int v2, .int v3, .int v4, .int v5]) (S' := [.int (((atv h i5 v5)) + v2), .int (v5 ||| v4), .ref i3]) (h' := h) rfl ?_
    obtain ⟨k9, K⟩ := K
    obtain ⟨l10, K⟩ := K
    obtain ⟨b11, K⟩ := K
    refine Wp.callV (op_ix (by decide) ol_54 47 rfl) rfl rfl (sp_put k9 l10 b11 ?_)
    refine ⟨rfl, ?_⟩
    obtain ⟨h12, e13⟩ : ∃ y, y = (putv h i3 ((v5 ||| v4)) ((((atv h i5 v5)) + v2))) := ⟨_, rfl⟩
    rw [← e13]
    replace K := K h12 e13
    refine Wp.blk (by decide) ol_54 48 2 (pc' := 59) (L' := [.ref v0, mk0, .int v2, .int v3, .int v4, .int (v5 + (1 : Int32))]) (S' := []) (h' := h12) rfl ?_
    exact K
  · replace K := K.2 c1
    refine Wp.blk (by decide) ol_54 50 6 (pc' := 45) (L' := [.ref v0, mk0, .int (v2 * ((3 : Int32))), .int (v3 + (1 : Int32)), .int v4, .int v5]) (S' := []) (h' := h) rfl ?_
    refine Wp.forget (L := [.ref v0, mk0, .int (v2 * ((3 : Int32))), .int (v3 + (1 : Int32)), mk0, mk0]) (⟨Or.inr rfl, ⟨Or.inr rfl, ⟨Or.inr rfl, ⟨Or.inr rfl, ⟨Or.inl rfl, ⟨Or.inl rfl, trivial⟩⟩⟩⟩⟩⟩) ?_
    exact K
/-- CutsOrFast$Search.forget at 0 ()V -/
theorem g55_0 (d : Nat)  (h : AH) (HS : Sh h)  (Q : Option Value → AH → Prop) (K : (Cl d 56 [.ref 19] h (fun r h1 => r = none ∧ Sh h1 ∧ Q none (stI h1 17 4 ((-1 : Int32)))))) : Wp (d + 1) 55 0 [.ref 17] [] h Q := by
  refine Wp.blk (by decide) ol_55 0 1 (pc' := 1) (L' := [.ref 17]) (S' := [.ref 17]) (h' := h) rfl ?_
  refine Wp.getf (op_ix (by decide) ol_55 1 rfl) (okS HS 17 rfl rfl) (v := .ref 19) (congrArg va_rf (rS HS 17 2 rfl)) rfl ?_
  refine Wp.callV (op_ix (by decide) ol_55 2 rfl) rfl rfl (K.mono ?_)
  rintro _ h1 ⟨rfl, hs2, K⟩
  refine ⟨rfl, ?_⟩
  refine Wp.blk (by decide) ol_55 3 2 (pc' := 9) (L' := [.ref 17]) (S' := [.int (-1 : Int32), .ref 17]) (h' := h1) rfl ?_
  refine Wp.putf (op_ix (by decide) ol_55 5 rfl) (by decide) (okS hs2 17 rfl rfl) (h' := (stI h1 17 4 ((-1 : Int32)))) rfl rfl ?_
  exact Wp.ret (op_ix (by decide) ol_55 6 rfl) rfl K
/-- CutsOrFast$Search.empty at 0 ([J)V -/
theorem g56_0 (d : Nat) (v0 : Nat) (h : AH) (HS : Sh h)  (Q : Option Value → AH → Prop) (K : Wp d 56 2 [.ref v0, .int (0 : Int32)] [] h Q) : Wp d 56 0 [.ref v0, mk0] [] h Q := by
  refine Wp.blk (by decide) ol_56 0 2 (pc' := 2) (L' := [.ref v0, .int (0 : Int32)]) (S' := []) (h' := h) rfl ?_
  exact K
/-- CutsOrFast$Search.empty at 2 -/
theorem g56_2 (d : Nat) (v0 : Nat) (v1 : Int32) (h : AH) (HS : Sh h)  (Q : Option Value → AH → Prop) (K : (((AK h v0).1 = 20 ∨ (AK h v0).1 = 21 ∨ (AK h v0).1 = 24) ∧ ((v1 < (Int32.ofNat (AK h v0).2) → ((AK h v0).1 = 21 ∧ inR h v0 v1 = true ∧ 2 ≤ v0 ∧ Wp d 56 2 [.ref v0, .int (v1 + (1 : Int32))] [] (stL h v0 v1.toNatClampNeg ((0 : Int64))) Q)) ∧ (¬ v1 < (Int32.ofNat (AK h v0).2) → Q none h)))) : Wp d 56 2 [.ref v0, .int v1] [] h Q := by
  refine Wp.blk (by decide) ol_56 2 2 (pc' := 4) (L' := [.ref v0, .int v1]) (S' := [.ref v0, .int v1]) (h' := h) rfl ?_
  obtain ⟨k1, K⟩ := K
  refine Wp.alen (op_ix (by decide) ol_56 4 rfl) k1 rfl ?_
  refine Wp.blk (by decide) ol_56 5 1 (pc' := (if v1 < (Int32.ofNat (AK h v0).2) then 8 else 18)) (L' := [.ref v0, .int v1]) (S' := []) (h' := h) rfl ?_
  refine Wp.br (fun c2 => ?_) (fun c2 => ?_)
  · replace K := K.1 c2
    refine Wp.blk (by decide) ol_56 6 3 (pc' := 11) (L' := [.ref v0, .int v1]) (S' := [.long (0 : Int64), .int v1, .ref v0]) (h' := h) rfl ?_
    obtain ⟨k3, K⟩ := K
    obtain ⟨r4, K⟩ := K
    obtain ⟨b5, K⟩ := K
    refine Wp.last (op_ix (by decide) ol_56 9 rfl) b5 k3 r4 rfl ?_
    refine Wp.blk (by decide) ol_56 10 2 (pc' := 2) (L' := [.ref v0, .int (v1 + (1 : Int32))]) (S' := []) (h' := (stL h v0 v1.toNatClampNeg ((0 : Int64)))) rfl ?_
    exact K
  · replace K := K.2 c2
    exact Wp.ret (op_ix (by decide) ol_56 12 rfl) rfl K
/-- CutsOrFast$Search.ownerOf at 0 (IIII)I -/
theorem g57_0 (d : Nat) (v1 : Int32) (v2 : Int32) (v3 : Int32) (v4 : Int32) (h : AH) (HS : Sh h)  (Q : Option Value → AH → Prop) (K : (((((atv h 10 v1)) &&& ((((1 : Int32)) <<< (((AI h 5 7)) &&& 31)))) = (0 : Int32) → (((0 : Int32) < v4 → (((((atv h 10 ((((((((1 : Int32)) <<< (((AI h 5 5)) &&& 31))) - ((1 : Int32)))) &&& ((v2 ^^^ ((-1 : Int32)))))))) &&& ((((1 : Int32)) <<< (((AI h 5 7)) &&& 31)))) = (0 : Int32) → Q (some (.int (1 : Int32))) h) ∧ (¬ (((atv h 10 ((((((((1 : Int32)) <<< (((AI h 5 5)) &&& 31))) - ((1 : Int32)))) &&& ((v2 ^^^ ((-1 : Int32)))))))) &&& ((((1 : Int32)) <<< (((AI h 5 7)) &&& 31)))) = (0 : Int32) → ((((((((atvL h 19 (((((((2 : Int32)) * ((((atv h 18 v1)) + ((((2 : Int32)) * ((atv h 18 v2)))))))) + v3) / (32 : Int32))))).toUInt64 >>> (((((2 : Int32)) * (((((((2 : Int32)) * ((((atv h 18 v1)) + ((((2 : Int32)) * ((atv h 18 v2)))))))) + v3) - (((((2 : Int32)) * ((((atv h 18 v1)) + ((((2 : Int32)) * ((atv h 18 v2)))))))) + v3) / (32 : Int32) * (32 : Int32))))).toInt64.toUInt64 &&& Int64.toUInt64 63)).toInt64).toInt32) &&& ((3 : Int32))) = (0 : Int32) → (Cl (d + 1) 62 [.ref 17, .int v1, .int v2, .int v3, .int v4] h (fun r h5 => ∃ x7 : Int32, r = some (.int x7) ∧ Sh h5 ∧ ((x7 = (-1 : Int32) → Wp (d + 2) 57 116 [.ref 17, mk0, mk0, mk0, mk0, .int (((((2 : Int32)) * ((((atv h 18 v1)) + ((((2 : Int32)) * ((atv h 18 v2)))))))) + v3), .int (((2 : Int32)) * (((((((2 : Int32)) * ((((atv h 18 v1)) + ((((2 : Int32)) * ((atv h 18 v2)))))))) + v3) - (((((2 : Int32)) * ((((atv h 18 v1)) + ((((2 : Int32)) * ((atv h 18 v2)))))))) + v3) / (32 : Int32) * (32 : Int32)))), mk0, mk0, mk0, mk0] [.int (((1 : Int32)) - v3)] h5 Q) ∧ (¬ x7 = (-1 : Int32) → Wp (d + 2) 57 116 [.ref 17, mk0, mk0, mk0, mk0, .int (((((2 : Int32)) * ((((atv h 18 v1)) + ((((2 : Int32)) * ((atv h 18 v2)))))))) + v3), .int (((2 : Int32)) * (((((((2 : Int32)) * ((((atv h 18 v1)) + ((((2 : Int32)) * ((atv h 18 v2)))))))) + v3) - (((((2 : Int32)) * ((((atv h 18 v1)) + ((((2 : Int32)) * ((atv h 18 v2)))))))) + v3) / (32 : Int32) * (32 : Int32)))), mk0, mk0, mk0, mk0] [.int v3] h5 Q))))) ∧ (¬ ((((((atvL h 19 (((((((2 : Int32)) * ((((atv h 18 v1)) + ((((2 : Int32)) * ((atv h 18 v2)))))))) + v3) / (32 : Int32))))).toUInt64 >>> (((((2 : Int32)) * (((((((2 : Int32)) * ((((atv h 18 v1)) + ((((2 : Int32)) * ((atv h 18 v2)))))))) + v3) - (((((2 : Int32)) * ((((atv h 18 v1)) + ((((2 : Int32)) * ((atv h 18 v2)))))))) + v3) / (32 : Int32) * (32 : Int32))))).toInt64.toUInt64 &&& Int64.toUInt64 63)).toInt64).toInt32) &&& ((3 : Int32))) = (0 : Int32) → Q (some (.int ((((((((atvL h 19 (((((((2 : Int32)) * ((((atv h 18 v1)) + ((((2 : Int32)) * ((atv h 18 v2)))))))) + v3) / (32 : Int32))))).toUInt64 >>> (((((2 : Int32)) * (((((((2 : Int32)) * ((((atv h 18 v1)) + ((((2 : Int32)) * ((atv h 18 v2)))))))) + v3) - (((((2 : Int32)) * ((((atv h 18 v1)) + ((((2 : Int32)) * ((atv h 18 v2)))))))) + v3) / (32 : Int32) * (32 : Int32))))).toInt64.toUInt64 &&& Int64.toUInt64 63)).toInt64).toInt32) &&& ((3 : Int32)))) - ((1 : Int32))))) h))))) ∧ (¬ (0 : Int32) < v4 → Q (some (.int (1 : Int32))) h))) ∧ (¬ (((atv h 10 v1)) &&& ((((1 : Int32)) <<< (((AI h 5 7)) &&& 31)))) = (0 : Int32) → Q (some (.int (0 : Int32))) h))) : Wp (d + 2) 57 0 [.ref 17, .int v1, .int v2, .int v3, .int v4, mk0, mk0, mk0, mk0, mk0, mk0] [] h Q := by
  refine Wp.blk (by decide) ol_57 0 1 (pc' := 1) (L' := [.ref 17, .int v1, .int v2, .int v3, .int v4, mk0, mk0, mk0, mk0, mk0, mk0]) (S' := [.ref 17]) (h' := h) rfl ?_
  refine Wp.getf (op_ix (by decide) ol_57 1 rfl) (okS HS 17 rfl rfl) (v := .ref 5) (congrArg va_rf (rS HS 17 0 rfl)) rfl ?_
  refine Wp.blk (by decide) ol_57 2 1 (pc' := 5) (L' := [.ref 17, .int v1, .int v2, .int v3, .int v4, mk0, mk0, mk0, mk0, mk0, mk0]) (S' := [.int v1, .ref 5]) (h' := h) rfl ?_
  refine Wp.callI (op_ix (by decide) ol_57 3 rfl) (act_virt (c2 := 1) rfl (lk1 (kS HS 5 rfl)) rfl) rfl (Cl.enter (L := [.ref 5, .int v1]) rfl ?_)
  refine Wp.blk (by decide) ol_34 0 1 (pc' := 1) (L' := [.ref 5, .int v1]) (S' := [.ref 5]) (h' := h) rfl ?_
  refine Wp.getf (op_ix (by decide) ol_34 1 rfl) (okS HS 5 rfl rfl) (v := .ref 10) (congrArg va_rf (rS HS 5 4 rfl)) rfl ?_
  refine Wp.blk (by decide) ol_34 2 1 (pc' := 5) (L' := [.ref 5, .int v1]) (S' := [.int v1, .ref 10]) (h' := h) rfl ?_
  refine Wp.callI (op_ix (by decide) ol_34 3 rfl) rfl rfl (sp_at (kS HS 10 rfl) (nS HS 10 rfl) ?_)
  refine ⟨_, rfl, ?_⟩
  refine Wp.blk (by decide) ol_34 4 2 (pc' := 10) (L' := [.ref 5, .int v1]) (S' := [.ref 5, .int (1 : Int32), .int (atv h 10 v1)]) (h' := h) rfl ?_
  refine Wp.getf (op_ix (by decide) ol_34 6 rfl) (okS HS 5 rfl rfl) (v := .int (AI h 5 7)) rfl rfl ?_
  refine Wp.blk (by decide) ol_34 7 3 (pc' := (if (((atv h 10 v1)) &&& ((((1 : Int32)) <<< (((AI h 5 7)) &&& 31)))) = (0 : Int32) then 22 else 18)) (L' := [.ref 5, .int v1]) (S' := []) (h' := h) rfl ?_
  refine Wp.br (fun c1 => ?_) (fun c1 => ?_)
  · replace K := K.1 c1
    refine Wp.blk (by decide) ol_34 12 1 (pc' := 23) (L' := [.ref 5, .int v1]) (S' := [.int (0 : Int32)]) (h' := h) rfl ?_
    refine Wp.ret (op_ix (by decide) ol_34 13 rfl) rfl ⟨_, rfl, ?_⟩
    refine Wp.blk (by decide) ol_57 4 1 (pc' := (if (0 : Int32) = (0 : Int32) then 13 else 11)) (L' := [.ref 17, .int v1, .int v2, .int v3, .int v4, mk0, mk0, mk0, mk0, mk0, mk0]) (S' := []) (h' := h) rfl ?_
    refine Wp.br (fun _ => ?_) (fun hc => absurd (by decide) hc)
    refine Wp.blk (by decide) ol_57 7 2 (pc' := (if (0 : Int32) < v4 then 18 else 39)) (L' := [.ref 17, .int v1, .int v2, .int v3, .int v4, mk0, mk0, mk0, mk0, mk0, mk0]) (S' := []) (h' := h) rfl ?_
    refine Wp.br (fun c2 => ?_) (fun c2 => ?_)
    · replace K := K.1 c2
      refine Wp.blk (by decide) ol_57 9 1 (pc' := 19) (L' := [.ref 17, .int v1, .int v2, .int v3, .int v4, mk0, mk0, mk0, mk0, mk0, mk0]) (S' := [.ref 17]) (h' := h) rfl ?_
      refine Wp.getf (op_ix (by decide) ol_57 10 rfl) (okS HS 17 rfl rfl) (v := .ref 5) (congrArg va_rf (rS HS 17 0 rfl)) rfl ?_
      refine Wp.blk (by decide) ol_57 11 1 (pc' := 23) (L' := [.ref 17, .int v1, .int v2, .int v3, .int v4, mk0, mk0, mk0, mk0, mk0, mk0]) (S' := [.ref 17, .ref 5]) (h' := h) rfl ?_
      refine Wp.getf (op_ix (by decide) ol_57 12 rfl) (okS HS 17 rfl rfl) (v := .ref 5) (congrArg va_rf (rS HS 17 0 rfl)) rfl ?_
      refine Wp.callI (op_ix (by decide) ol_57 13 rfl) (act_virt (c2 := 0) rfl (lk1 (kS HS 5 rfl)) rfl) rfl (Cl.enter (L := [.ref 5]) rfl ?_)
      refine Wp.blk (by decide) ol_27 0 2 (pc' := 2) (L' := [.ref 5]) (S' := [.ref 5, .int (1 : Int32)]) (h' := h) rfl ?_
      refine Wp.getf (op_ix (by decide) ol_27 2 rfl) (okS HS 5 rfl rfl) (v := .int (AI h 5 5)) rfl rfl ?_
      refine Wp.blk (by decide) ol_27 3 3 (pc' := 8) (L' := [.ref 5]) (S' := [.int (((((1 : Int32)) <<< (((AI h 5 5)) &&& 31))) - ((1 : Int32)))]) (h' := h) rfl ?_
      refine Wp.ret (op_ix (by decide) ol_27 6 rfl) rfl ⟨_, rfl, ?_⟩
      refine Wp.blk (by decide) ol_57 14 4 (pc' := 33) (L' := [.ref 17, .int v1, .int v2, .int v3, .int v4, mk0, mk0, mk0, mk0, mk0, mk0]) (S' := [.int (((((((1 : Int32)) <<< (((AI h 5 5)) &&& 31))) - ((1 : Int32)))) &&& ((v2 ^^^ ((-1 : Int32))))), .ref 5]) (h' := h) rfl ?_
      refine Wp.callI (op_ix (by decide) ol_57 18 rfl) (act_virt (c2 := 1) rfl (lk1 (kS HS 5 rfl)) rfl) rfl (Cl.enter (L := [.ref 5, .int (((((((1 : Int32)) <<< (((AI h 5 5)) &&& 31))) - ((1 : Int32)))) &&& ((v2 ^^^ ((-1 : Int32)))))]) rfl ?_)
      refine Wp.blk (by decide) ol_34 0 1 (pc' := 1) (L' := [.ref 5, .int (((((((1 : Int32)) <<< (((AI h 5 5)) &&& 31))) - ((1 : Int32)))) &&& ((v2 ^^^ ((-1 : Int32)))))]) (S' := [.ref 5]) (h' := h) rfl ?_
      refine Wp.getf (op_ix (by decide) ol_34 1 rfl) (okS HS 5 rfl rfl) (v := .ref 10) (congrArg va_rf (rS HS 5 4 rfl)) rfl ?_
      refine Wp.blk (by decide) ol_34 2 1 (pc' := 5) (L' := [.ref 5, .int (((((((1 : Int32)) <<< (((AI h 5 5)) &&& 31))) - ((1 : Int32)))) &&& ((v2 ^^^ ((-1 : Int32)))))]) (S' := [.int (((((((1 : Int32)) <<< (((AI h 5 5)) &&& 31))) - ((1 : Int32)))) &&& ((v2 ^^^ ((-1 : Int32))))), .ref 10]) (h' := h) rfl ?_
      refine Wp.callI (op_ix (by decide) ol_34 3 rfl) rfl rfl (sp_at (kS HS 10 rfl) (nS HS 10 rfl) ?_)
      refine ⟨_, rfl, ?_⟩
      refine Wp.blk (by decide) ol_34 4 2 (pc' := 10) (L' := [.ref 5, .int (((((((1 : Int32)) <<< (((AI h 5 5)) &&& 31))) - ((1 : Int32)))) &&& ((v2 ^^^ ((-1 : Int32)))))]) (S' := [.ref 5, .int (1 : Int32), .int (atv h 10 ((((((((1 : Int32)) <<< (((AI h 5 5)) &&& 31))) - ((1 : Int32)))) &&& ((v2 ^^^ ((-1 : Int32)))))))]) (h' := h) rfl ?_
      refine Wp.getf (op_ix (by decide) ol_34 6 rfl) (okS HS 5 rfl rfl) (v := .int (AI h 5 7)) rfl rfl ?_
      refine Wp.blk (by decide) ol_34 7 3 (pc' := (if (((atv h 10 ((((((((1 : Int32)) <<< (((AI h 5 5)) &&& 31))) - ((1 : Int32)))) &&& ((v2 ^^^ ((-1 : Int32)))))))) &&& ((((1 : Int32)) <<< (((AI h 5 7)) &&& 31)))) = (0 : Int32) then 22 else 18)) (L' := [.ref 5, .int (((((((1 : Int32)) <<< (((AI h 5 5)) &&& 31))) - ((1 : Int32)))) &&& ((v2 ^^^ ((-1 : Int32)))))]) (S' := []) (h' := h) rfl ?_
      refine Wp.br (fun c3 => ?_) (fun c3 => ?_)
      · replace K := K.1 c3
        refine Wp.blk (by decide) ol_34 12 1 (pc' := 23) (L' := [.ref 5, .int (((((((1 : Int32)) <<< (((AI h 5 5)) &&& 31))) - ((1 : Int32)))) &&& ((v2 ^^^ ((-1 : Int32)))))]) (S' := [.int (0 : Int32)]) (h' := h) rfl ?_
        refine Wp.ret (op_ix (by decide) ol_34 13 rfl) rfl ⟨_, rfl, ?_⟩
        refine Wp.blk (by decide) ol_57 19 1 (pc' := (if (0 : Int32) = (0 : Int32) then 39 else 41)) (L' := [.ref 17, .int v1, .int v2, .int v3, .int v4, mk0, mk0, mk0, mk0, mk0, mk0]) (S' := []) (h' := h) rfl ?_
        refine Wp.br (fun _ => ?_) (fun hc => absurd (by decide) hc)
        refine Wp.blk (by decide) ol_57 20 1 (pc' := 40) (L' := [.ref 17, .int v1, .int v2, .int v3, .int v4, mk0, mk0, mk0, mk0, mk0, mk0]) (S' := [.int (1 : Int32)]) (h' := h) rfl ?_
        exact Wp.ret (op_ix (by decide) ol_57 21 rfl) rfl K
      · replace K := K.2 c3
        refine Wp.blk (by decide) ol_34 10 2 (pc' := 23) (L' := [.ref 5, .int (((((((1 : Int32)) <<< (((AI h 5 5)) &&& 31))) - ((1 : Int32)))) &&& ((v2 ^^^ ((-1 : Int32)))))]) (S' := [.int (1 : Int32)]) (h' := h) rfl ?_
        refine Wp.ret (op_ix (by decide) ol_34 13 rfl) rfl ⟨_, rfl, ?_⟩
        refine Wp.blk (by decide) ol_57 19 1 (pc' := (if (1 : Int32) = (0 : Int32) then 39 else 41)) (L' := [.ref 17, .int v1, .int v2, .int v3, .int v4, mk0, mk0, mk0, mk0, mk0, mk0]) (S' := []) (h' := h) rfl ?_
        refine Wp.br (fun hc => absurd hc (by decide)) (fun _ => ?_)
        refine Wp.blk (by decide) ol_57 22 4 (pc' := 45) (L' := [.ref 17, .int v1, .int v2, .int v3, .int v4, mk0, mk0, mk0, mk0, mk0, mk0]) (S' := [.int v2, .int v1, .ref 17, .int (2 : Int32)]) (h' := h) rfl ?_
        refine Wp.callI (op_ix (by decide) ol_57 26 rfl) (act_virt (c2 := 2) rfl (lk1 (kS HS 17 rfl)) rfl) rfl (Cl.enter (L := [.ref 17, .int v1, .int v2]) rfl ?_)
        refine Wp.blk (by decide) ol_201 0 1 (pc' := 1) (L' := [.ref 17, .int v1, .int v2]) (S' := [.ref 17]) (h' := h) rfl ?_
        refine Wp.getf (op_ix (by decide) ol_201 1 rfl) (okS HS 17 rfl rfl) (v := .ref 18) (congrArg va_rf (rS HS 17 1 rfl)) rfl ?_
        refine Wp.blk (by decide) ol_201 2 1 (pc' := 5) (L' := [.ref 17, .int v1, .int v2]) (S' := [.int v1, .ref 18]) (h' := h) rfl ?_
        refine Wp.callI (op_ix (by decide) ol_201 3 rfl) rfl rfl (sp_at (kS HS 18 rfl) (nS HS 18 rfl) ?_)
        refine ⟨_, rfl, ?_⟩
        refine Wp.blk (by decide) ol_201 4 2 (pc' := 10) (L' := [.ref 17, .int v1, .int v2]) (S' := [.ref 17, .int (2 : Int32), .int (atv h 18 v1)]) (h' := h) rfl ?_
        refine Wp.getf (op_ix (by decide) ol_201 6 rfl) (okS HS 17 rfl rfl) (v := .ref 18) (congrArg va_rf (rS HS 17 1 rfl)) rfl ?_
        refine Wp.blk (by decide) ol_201 7 1 (pc' := 14) (L' := [.ref 17, .int v1, .int v2]) (S' := [.int v2, .ref 18, .int (2 : Int32), .int (atv h 18 v1)]) (h' := h) rfl ?_
        refine Wp.callI (op_ix (by decide) ol_201 8 rfl) rfl rfl (sp_at (kS HS 18 rfl) (nS HS 18 rfl) ?_)
        refine ⟨_, rfl, ?_⟩
        refine Wp.blk (by decide) ol_201 9 2 (pc' := 19) (L' := [.ref 17, .int v1, .int v2]) (S' := [.int (((atv h 18 v1)) + ((((2 : Int32)) * ((atv h 18 v2)))))]) (h' := h) rfl ?_
        refine Wp.ret (op_ix (by decide) ol_201 11 rfl) rfl ⟨_, rfl, ?_⟩
        refine Wp.blk (by decide) ol_57 27 11 (pc' := 63) (L' := [.ref 17, .int v1, .int v2, .int v3, .int v4, .int (((((2 : Int32)) * ((((atv h 18 v1)) + ((((2 : Int32)) * ((atv h 18 v2)))))))) + v3), .int (((2 : Int32)) * (((((((2 : Int32)) * ((((atv h 18 v1)) + ((((2 : Int32)) * ((atv h 18 v2)))))))) + v3) - (((((2 : Int32)) * ((((atv h 18 v1)) + ((((2 : Int32)) * ((atv h 18 v2)))))))) + v3) / (32 : Int32) * (32 : Int32)))), mk0, mk0, mk0, mk0]) (S' := [.ref 17]) (h' := h) rfl ?_
        refine Wp.getf (op_ix (by decide) ol_57 38 rfl) (okS HS 17 rfl rfl) (v := .ref 19) (congrArg va_rf (rS HS 17 2 rfl)) rfl ?_
        refine Wp.blk (by decide) ol_57 39 3 (pc' := 71) (L' := [.ref 17, .int v1, .int v2, .int v3, .int v4, .int (((((2 : Int32)) * ((((atv h 18 v1)) + ((((2 : Int32)) * ((atv h 18 v2)))))))) + v3), .int (((2 : Int32)) * (((((((2 : Int32)) * ((((atv h 18 v1)) + ((((2 : Int32)) * ((atv h 18 v2)))))))) + v3) - (((((2 : Int32)) * ((((atv h 18 v1)) + ((((2 : Int32)) * ((atv h 18 v2)))))))) + v3) / (32 : Int32) * (32 : Int32)))), mk0, mk0, mk0, mk0]) (S' := [.int ((((((2 : Int32)) * ((((atv h 18 v1)) + ((((2 : Int32)) * ((atv h 18 v2)))))))) + v3) / (32 : Int32)), .ref 19]) (h' := h) rfl ?_
        refine Wp.callL (op_ix (by decide) ol_57 42 rfl) rfl rfl (sp_atL (kS HS 19 rfl) (nS HS 19 rfl) ?_)
        refine ⟨_, rfl, ?_⟩
        refine Wp.blk (by decide) ol_57 43 10 (pc' := (if ((((((atvL h 19 (((((((2 : Int32)) * ((((atv h 18 v1)) + ((((2 : Int32)) * ((atv h 18 v2)))))))) + v3) / (32 : Int32))))).toUInt64 >>> (((((2 : Int32)) * (((((((2 : Int32)) * ((((atv h 18 v1)) + ((((2 : Int32)) * ((atv h 18 v2)))))))) + v3) - (((((2 : Int32)) * ((((atv h 18 v1)) + ((((2 : Int32)) * ((atv h 18 v2)))))))) + v3) / (32 : Int32) * (32 : Int32))))).toInt64.toUInt64 &&& Int64.toUInt64 63)).toInt64).toInt32) &&& ((3 : Int32))) = (0 : Int32) then 96 else 91)) (L' := [.ref 17, .int v1, .int v2, .int v3, .int v4, .int (((((2 : Int32)) * ((((atv h 18 v1)) + ((((2 : Int32)) * ((atv h 18 v2)))))))) + v3), .int (((2 : Int32)) * (((((((2 : Int32)) * ((((atv h 18 v1)) + ((((2 : Int32)) * ((atv h 18 v2)))))))) + v3) - (((((2 : Int32)) * ((((atv h 18 v1)) + ((((2 : Int32)) * ((atv h 18 v2)))))))) + v3) / (32 : Int32) * (32 : Int32)))), .long (atvL h 19 (((((((2 : Int32)) * ((((atv h 18 v1)) + ((((2 : Int32)) * ((atv h 18 v2)))))))) + v3) / (32 : Int32)))), mk0, .int ((((((atvL h 19 (((((((2 : Int32)) * ((((atv h 18 v1)) + ((((2 : Int32)) * ((atv h 18 v2)))))))) + v3) / (32 : Int32))))).toUInt64 >>> (((((2 : Int32)) * (((((((2 : Int32)) * ((((atv h 18 v1)) + ((((2 : Int32)) * ((atv h 18 v2)))))))) + v3) - (((((2 : Int32)) * ((((atv h 18 v1)) + ((((2 : Int32)) * ((atv h 18 v2)))))))) + v3) / (32 : Int32) * (32 : Int32))))).toInt64.toUInt64 &&& Int64.toUInt64 63)).toInt64).toInt32) &&& ((3 : Int32))), mk0]) (S' := []) (h' := h) rfl ?_
        refine Wp.br (fun c4 => ?_) (fun c4 => ?_)
        · replace K := K.1 c4
          refine Wp.blk (by decide) ol_57 57 5 (pc' := 102) (L' := [.ref 17, .int v1, .int v2, .int v3, .int v4, .int (((((2 : Int32)) * ((((atv h 18 v1)) + ((((2 : Int32)) * ((atv h 18 v2)))))))) + v3), .int (((2 : Int32)) * (((((((2 : Int32)) * ((((atv h 18 v1)) + ((((2 : Int32)) * ((atv h 18 v2)))))))) + v3) - (((((2 : Int32)) * ((((atv h 18 v1)) + ((((2 : Int32)) * ((atv h 18 v2)))))))) + v3) / (32 : Int32) * (32 : Int32)))), .long (atvL h 19 (((((((2 : Int32)) * ((((atv h 18 v1)) + ((((2 : Int32)) * ((atv h 18 v2)))))))) + v3) / (32 : Int32)))), mk0, .int ((((((atvL h 19 (((((((2 : Int32)) * ((((atv h 18 v1)) + ((((2 : Int32)) * ((atv h 18 v2)))))))) + v3) / (32 : Int32))))).toUInt64 >>> (((((2 : Int32)) * (((((((2 : Int32)) * ((((atv h 18 v1)) + ((((2 : Int32)) * ((atv h 18 v2)))))))) + v3) - (((((2 : Int32)) * ((((atv h 18 v1)) + ((((2 : Int32)) * ((atv h 18 v2)))))))) + v3) / (32 : Int32) * (32 : Int32))))).toInt64.toUInt64 &&& Int64.toUInt64 63)).toInt64).toInt32) &&& ((3 : Int32))), mk0]) (S' := [.int v4, .int v3, .int v2, .int v1, .ref 17]) (h' := h) rfl ?_
          refine Wp.callI (op_ix (by decide) ol_57 62 rfl) (act_virt (c2 := 4) rfl (lk1 (kS HS 17 rfl)) rfl) rfl (K.mono ?_)
          rintro _ h5 ⟨x7, rfl, hs6, K⟩
          refine ⟨x7, rfl, ?_⟩
          refine Wp.blk (by decide) ol_57 63 2 (pc' := (if x7 = (-1 : Int32) then 109 else 115)) (L' := [.ref 17, .int v1, .int v2, .int v3, .int v4, .int (((((2 : Int32)) * ((((atv h 18 v1)) + ((((2 : Int32)) * ((atv h 18 v2)))))))) + v3), .int (((2 : Int32)) * (((((((2 : Int32)) * ((((atv h 18 v1)) + ((((2 : Int32)) * ((atv h 18 v2)))))))) + v3) - (((((2 : Int32)) * ((((atv h 18 v1)) + ((((2 : Int32)) * ((atv h 18 v2)))))))) + v3) / (32 : Int32) * (32 : Int32)))), .long (atvL h 19 (((((((2 : Int32)) * ((((atv h 18 v1)) + ((((2 : Int32)) * ((atv h 18 v2)))))))) + v3) / (32 : Int32)))), mk0, .int ((((((atvL h 19 (((((((2 : Int32)) * ((((atv h 18 v1)) + ((((2 : Int32)) * ((atv h 18 v2)))))))) + v3) / (32 : Int32))))).toUInt64 >>> (((((2 : Int32)) * (((((((2 : Int32)) * ((((atv h 18 v1)) + ((((2 : Int32)) * ((atv h 18 v2)))))))) + v3) - (((((2 : Int32)) * ((((atv h 18 v1)) + ((((2 : Int32)) * ((atv h 18 v2)))))))) + v3) / (32 : Int32) * (32 : Int32))))).toInt64.toUInt64 &&& Int64.toUInt64 63)).toInt64).toInt32) &&& ((3 : Int32))), mk0]) (S' := []) (h' := h5) rfl ?_
          refine Wp.br (fun c8 => ?_) (fun c8 => ?_)
          · replace K := K.1 c8
            refine Wp.blk (by decide) ol_57 65 4 (pc' := 116) (L' := [.ref 17, .int v1, .int v2, .int v3, .int v4, .int (((((2 : Int32)) * ((((atv h 18 v1)) + ((((2 : Int32)) * ((atv h 18 v2)))))))) + v3), .int (((2 : Int32)) * (((((((2 : Int32)) * ((((atv h 18 v1)) + ((((2 : Int32)) * ((atv h 18 v2)))))))) + v3) - (((((2 : Int32)) * ((((atv h 18 v1)) + ((((2 : Int32)) * ((atv h 18 v2)))))))) + v3) / (32 : Int32) * (32 : Int32)))), .long (atvL h 19 (((((((2 : Int32)) * ((((atv h 18 v1)) + ((((2 : Int32)) * ((atv h 18 v2)))))))) + v3) / (32 : Int32)))), mk0, .int ((((((atvL h 19 (((((((2 : Int32)) * ((((atv h 18 v1)) + ((((2 : Int32)) * ((atv h 18 v2)))))))) + v3) / (32 : Int32))))).toUInt64 >>> (((((2 : Int32)) * (((((((2 : Int32)) * ((((atv h 18 v1)) + ((((2 : Int32)) * ((atv h 18 v2)))))))) + v3) - (((((2 : Int32)) * ((((atv h 18 v1)) + ((((2 : Int32)) * ((atv h 18 v2)))))))) + v3) / (32 : Int32) * (32 : Int32))))).toInt64.toUInt64 &&& Int64.toUInt64 63)).toInt64).toInt32) &&& ((3 : Int32))), mk0]) (S' := [.int (((1 : Int32)) - v3)]) (h' := h5) rfl ?_
            refine Wp.forget (L := [.ref 17, mk0, mk0, mk0, mk0, .int (((((2 : Int32)) * ((((atv h 18 v1)) + ((((2 : Int32)) * ((atv h 18 v2)))))))) + v3), .int (((2 : Int32)) * (((((((2 : Int32)) * ((((atv h 18 v1)) + ((((2 : Int32)) * ((atv h 18 v2)))))))) + v3) - (((((2 : Int32)) * ((((atv h 18 v1)) + ((((2 : Int32)) * ((atv h 18 v2)))))))) + v3) / (32 : Int32) * (32 : Int32)))), mk0, mk0, mk0, mk0]) (⟨Or.inr rfl, ⟨Or.inl rfl, ⟨Or.inl rfl, ⟨Or.inl rfl, ⟨Or.inl rfl, ⟨Or.inr rfl, ⟨Or.inr rfl, ⟨Or.inl rfl, ⟨Or.inr rfl, ⟨Or.inl rfl, ⟨Or.inr rfl, trivial⟩⟩⟩⟩⟩⟩⟩⟩⟩⟩⟩) ?_
            exact K
          · replace K := K.2 c8
            refine Wp.blk (by decide) ol_57 69 1 (pc' := 116) (L' := [.ref 17, .int v1, .int v2, .int v3, .int v4, .int (((((2 : Int32)) * ((((atv h 18 v1)) + ((((2 : Int32)) * ((atv h 18 v2)))))))) + v3), .int (((2 : Int32)) * (((((((2 : Int32)) * ((((atv h 18 v1)) + ((((2 : Int32)) * ((atv h 18 v2)))))))) + v3) - (((((2 : Int32)) * ((((atv h 18 v1)) + ((((2 : Int32)) * ((atv h 18 v2)))))))) + v3) / (32 : Int32) * (32 : Int32)))), .long (atvL h 19 (((((((2 : Int32)) * ((((atv h 18 v1)) + ((((2 : Int32)) * ((atv h 18 v2)))))))) + v3) / (32 : Int32)))), mk0, .int ((((((atvL h 19 (((((((2 : Int32)) * ((((atv h 18 v1)) + ((((2 : Int32)) * ((atv h 18 v2)))))))) + v3) / (32 : Int32))))).toUInt64 >>> (((((2 : Int32)) * (((((((2 : Int32)) * ((((atv h 18 v1)) + ((((2 : Int32)) * ((atv h 18 v2)))))))) + v3) - (((((2 : Int32)) * ((((atv h 18 v1)) + ((((2 : Int32)) * ((atv h 18 v2)))))))) + v3) / (32 : Int32) * (32 : Int32))))).toInt64.toUInt64 &&& Int64.toUInt64 63)).toInt64).toInt32) &&& ((3 : Int32))), mk0]) (S' := [.int v3]) (h' := h5) rfl ?_
            refine Wp.forget (L := [.ref 17, mk0, mk0, mk0, mk0, .int (((((2 : Int32)) * ((((atv h 18 v1)) + ((((2 : Int32)) * ((atv h 18 v2)))))))) + v3), .int (((2 : Int32)) * (((((((2 : Int32)) * ((((atv h 18 v1)) + ((((2 : Int32)) * ((atv h 18 v2)))))))) + v3) - (((((2 : Int32)) * ((((atv h 18 v1)) + ((((2 : Int32)) * ((atv h 18 v2)))))))) + v3) / (32 : Int32) * (32 : Int32)))), mk0, mk0, mk0, mk0]) (⟨Or.inr rfl, ⟨Or.inl rfl, ⟨Or.inl rfl, ⟨Or.inl rfl, ⟨Or.inl rfl, ⟨Or.inr rfl, ⟨Or.inr rfl, ⟨Or.inl rfl, ⟨Or.inr rfl, ⟨Or.inl rfl, ⟨Or.inr rfl, trivial⟩⟩⟩⟩⟩⟩⟩⟩⟩⟩⟩) ?_
            exact K
        · replace K := K.2 c4
          refine Wp.blk (by decide) ol_57 53 3 (pc' := 95) (L' := [.ref 17, .int v1, .int v2, .int v3, .int v4, .int (((((2 : Int32)) * ((((atv h 18 v1)) + ((((2 : Int32)) * ((atv h 18 v2)))))))) + v3), .int (((2 : Int32)) * (((((((2 : Int32)) * ((((atv h 18 v1)) + ((((2 : Int32)) * ((atv h 18 v2)))))))) + v3) - (((((2 : Int32)) * ((((atv h 18 v1)) + ((((2 : Int32)) * ((atv h 18 v2)))))))) + v3) / (32 : Int32) * (32 : Int32)))), .long (atvL h 19 (((((((2 : Int32)) * ((((atv h 18 v1)) + ((((2 : Int32)) * ((atv h 18 v2)))))))) + v3) / (32 : Int32)))), mk0, .int ((((((atvL h 19 (((((((2 : Int32)) * ((((atv h 18 v1)) + ((((2 : Int32)) * ((atv h 18 v2)))))))) + v3) / (32 : Int32))))).toUInt64 >>> (((((2 : Int32)) * (((((((2 : Int32)) * ((((atv h 18 v1)) + ((((2 : Int32)) * ((atv h 18 v2)))))))) + v3) - (((((2 : Int32)) * ((((atv h 18 v1)) + ((((2 : Int32)) * ((atv h 18 v2)))))))) + v3) / (32 : Int32) * (32 : Int32))))).toInt64.toUInt64 &&& Int64.toUInt64 63)).toInt64).toInt32) &&& ((3 : Int32))), mk0]) (S' := [.int ((((((((atvL h 19 (((((((2 : Int32)) * ((((atv h 18 v1)) + ((((2 : Int32)) * ((atv h 18 v2)))))))) + v3) / (32 : Int32))))).toUInt64 >>> (((((2 : Int32)) * (((((((2 : Int32)) * ((((atv h 18 v1)) + ((((2 : Int32)) * ((atv h 18 v2)))))))) + v3) - (((((2 : Int32)) * ((((atv h 18 v1)) + ((((2 : Int32)) * ((atv h 18 v2)))))))) + v3) / (32 : Int32) * (32 : Int32))))).toInt64.toUInt64 &&& Int64.toUInt64 63)).toInt64).toInt32) &&& ((3 : Int32)))) - ((1 : Int32)))]) (h' := h) rfl ?_
          exact Wp.ret (op_ix (by decide) ol_57 56 rfl) rfl K
    · replace K := K.2 c2
      refine Wp.blk (by decide) ol_57 20 1 (pc' := 40) (L' := [.ref 17, .int v1, .int v2, .int v3, .int v4, mk0, mk0, mk0, mk0, mk0, mk0]) (S' := [.int (1 : Int32)]) (h' := h) rfl ?_
      exact Wp.ret (op_ix (by decide) ol_57 21 rfl) rfl K
  · replace K := K.2 c1
    refine Wp.blk (by decide) ol_34 10 2 (pc' := 23) (L' := [.ref 5, .int v1]) (S' := [.int (1 : Int32)]) (h' := h) rfl ?_
    refine Wp.ret (op_ix (by decide) ol_34 13 rfl) rfl ⟨_, rfl, ?_⟩
    refine Wp.blk (by decide) ol_57 4 1 (pc' := (if (1 : Int32) = (0 : Int32) then 13 else 11)) (L' := [.ref 17, .int v1, .int v2, .int v3, .int v4, mk0, mk0, mk0, mk0, mk0, mk0]) (S' := []) (h' := h) rfl ?_
    refine Wp.br (fun hc => absurd hc (by decide)) (fun _ => ?_)
    refine Wp.blk (by decide) ol_57 5 1 (pc' := 12) (L' := [.ref 17, .int v1, .int v2, .int v3, .int v4, mk0, mk0, mk0, mk0, mk0, mk0]) (S' := [.int (0 : Int32)]) (h' := h) rfl ?_
    exact Wp.ret (op_ix (by decide) ol_57 6 rfl) rfl K
/-- CutsOrFast$Search.ownerOf at 116 -/
theorem g57_116 (d : Nat) (v5 : Int32) (v6 : Int32) (s0 : Int32) (h : AH) (HS : Sh h)  (Q : Option Value → AH → Prop) (K : (∀ h1, h1 = (putvL h 19 ((v5 / (32 : Int32))) ((((atvL h 19 ((v5 / (32 : Int32))))) ||| (((((s0 + ((1 : Int32)))).toInt64) <<< (v6.toInt64 &&& 63)))))) → Q (some (.int s0)) h1)) : Wp (d + 1) 57 116 [.ref 17, mk0, mk0, mk0, mk0, .int v5, .int v6, mk0, mk0, mk0, mk0] [.int s0] h Q := by
  refine Wp.blk (by decide) ol_57 70 2 (pc' := 119) (L' := [.ref 17, mk0, mk0, mk0, mk0, .int v5, .int v6, mk0, mk0, mk0, .int s0]) (S' := [.ref 17]) (h' := h) rfl ?_
  refine Wp.getf (op_ix (by decide) ol_57 72 rfl) (okS HS 17 rfl rfl) (v := .ref 19) (congrArg va_rf (rS HS 17 2 rfl)) rfl ?_
  refine Wp.blk (by decide) ol_57 73 3 (pc' := 127) (L' := [.ref 17, mk0, mk0, mk0, mk0, .int v5, .int v6, mk0, mk0, mk0, .int s0]) (S' := [.int (v5 / (32 : Int32)), .ref 19]) (h' := h) rfl ?_
  refine Wp.callL (op_ix (by decide) ol_57 76 rfl) rfl rfl (sp_atL (kS HS 19 rfl) (nS HS 19 rfl) ?_)
  refine ⟨_, rfl, ?_⟩
  refine Wp.blk (by decide) ol_57 77 2 (pc' := 133) (L' := [.ref 17, mk0, mk0, mk0, mk0, .int v5, .int v6, .long (atvL h 19 ((v5 / (32 : Int32)))), mk0, mk0, .int s0]) (S' := [.ref 17]) (h' := h) rfl ?_
  refine Wp.getf (op_ix (by decide) ol_57 79 rfl) (okS HS 17 rfl rfl) (v := .ref 19) (congrArg va_rf (rS HS 17 2 rfl)) rfl ?_
  refine Wp.blk (by decide) ol_57 80 11 (pc' := 152) (L' := [.ref 17, mk0, mk0, mk0, mk0, .int v5, .int v6, .long (atvL h 19 ((v5 / (32 : Int32)))), mk0, mk0, .int s0]) (S' := [.long (((atvL h 19 ((v5 / (32 : Int32))))) ||| (((((s0 + ((1 : Int32)))).toInt64) <<< (v6.toInt64 &&& 63)))), .int (v5 / (32 : Int32)), .ref 19]) (h' := h) rfl ?_
  refine Wp.callV (op_ix (by decide) ol_57 91 rfl) rfl rfl (sp_putL (kS HS 19 rfl) (nS HS 19 rfl) (by decide) ?_)
  refine ⟨rfl, ?_⟩
  obtain ⟨h1, e2⟩ : ∃ y, y = (putvL h 19 ((v5 / (32 : Int32))) ((((atvL h 19 ((v5 / (32 : Int32))))) ||| (((((s0 + ((1 : Int32)))).toInt64) <<< (v6.toInt64 &&& 63)))))) := ⟨_, rfl⟩
  rw [← e2]
  replace K := K h1 e2
  have hs3 : Sh h1 := by rw [e2]; exact Sh.putvL HS _ _ _
  refine Wp.blk (by decide) ol_57 92 1 (pc' := 157) (L' := [.ref 17, mk0, mk0, mk0, mk0, .int v5, .int v6, .long (atvL h 19 ((v5 / (32 : Int32)))), mk0, mk0, .int s0]) (S' := [.int s0]) (h' := h1) rfl ?_
  exact Wp.ret (op_ix (by decide) ol_57 93 rfl) rfl K
/-- CutsOrFast$Search.owner at 0 (III)I -/
theorem g58_0 (d : Nat) (v1 : Int32) (v2 : Int32) (v3 : Int32) (h : AH) (HS : Sh h)  (Q : Option Value → AH → Prop) (K : (Cl (d + 1) 199 [.int (((((((((1 : Int32)) <<< (((AI h 5 5)) &&& 31))) - ((1 : Int32)))) &&& ((v1 ^^^ ((-1 : Int32)))))) &&& ((v2 ^^^ ((-1 : Int32)))))] h (fun r h1 => ∃ x3 : Int32, r = some (.int x3) ∧ Sh h1 ∧ (Cl (d + 1) 57 [.ref 17, .int v1, .int v2, .int v3, .int x3] h1 (fun r h4 => ∃ x6 : Int32, r = some (.int x6) ∧ Sh h4 ∧ Q (some (.int x6)) h4))))) : Wp (d + 2) 58 0 [.ref 17, .int v1, .int v2, .int v3] [] h Q := by
  refine Wp.blk (by decide) ol_58 0 7 (pc' := 7) (L' := [.ref 17, .int v1, .int v2, .int v3]) (S' := [.int v2, .int v1, .ref 17, .int v3, .int v2, .int v1, .ref 17]) (h' := h) rfl ?_
  refine Wp.callI (op_ix (by decide) ol_58 7 rfl) (act_virt (c2 := 2) rfl (lk1 (kS HS 17 rfl)) rfl) rfl (Cl.enter (L := [.ref 17, .int v1, .int v2]) rfl ?_)
  refine Wp.blk (by decide) ol_200 0 1 (pc' := 1) (L' := [.ref 17, .int v1, .int v2]) (S' := [.ref 17]) (h' := h) rfl ?_
  refine Wp.getf (op_ix (by decide) ol_200 1 rfl) (okS HS 17 rfl rfl) (v := .ref 5) (congrArg va_rf (rS HS 17 0 rfl)) rfl ?_
  refine Wp.callI (op_ix (by decide) ol_200 2 rfl) (act_virt (c2 := 0) rfl (lk1 (kS HS 5 rfl)) rfl) rfl (Cl.enter (L := [.ref 5]) rfl ?_)
  refine Wp.blk (by decide) ol_27 0 2 (pc' := 2) (L' := [.ref 5]) (S' := [.ref 5, .int (1 : Int32)]) (h' := h) rfl ?_
  refine Wp.getf (op_ix (by decide) ol_27 2 rfl) (okS HS 5 rfl rfl) (v := .int (AI h 5 5)) rfl rfl ?_
  refine Wp.blk (by decide) ol_27 3 3 (pc' := 8) (L' := [.ref 5]) (S' := [.int (((((1 : Int32)) <<< (((AI h 5 5)) &&& 31))) - ((1 : Int32)))]) (h' := h) rfl ?_
  refine Wp.ret (op_ix (by decide) ol_27 6 rfl) rfl ⟨_, rfl, ?_⟩
  refine Wp.blk (by decide) ol_200 3 8 (pc' := 15) (L' := [.ref 17, .int v1, .int v2]) (S' := [.int (((((((((1 : Int32)) <<< (((AI h 5 5)) &&& 31))) - ((1 : Int32)))) &&& ((v1 ^^^ ((-1 : Int32)))))) &&& ((v2 ^^^ ((-1 : Int32)))))]) (h' := h) rfl ?_
  refine Wp.ret (op_ix (by decide) ol_200 11 rfl) rfl ⟨_, rfl, ?_⟩
  refine Wp.callI (op_ix (by decide) ol_58 8 rfl) rfl rfl (K.mono ?_)
  rintro _ h1 ⟨x3, rfl, hs2, K⟩
  refine ⟨x3, rfl, ?_⟩
  refine Wp.callI (op_ix (by decide) ol_58 9 rfl) (act_virt (c2 := 4) rfl (lk1 (kS hs2 17 rfl)) rfl) rfl (K.mono ?_)
  rintro _ h4 ⟨x6, rfl, hs5, K⟩
  refine ⟨x6, rfl, ?_⟩
  exact Wp.ret (op_ix (by decide) ol_58 10 rfl) rfl K
/-- CutsOrFast$Search.leastGood at 0 (III)I -/
theorem g59_0 (d : Nat) (v1 : Int32) (v2 : Int32) (v3 : Int32) (h : AH) (HS : Sh h)  (Q : Option Value → AH → Prop) (K : (Cl (d + 1) 37 [.ref 5, .int v1, .int v2] h (fun r h1 => ∃ x3 : Int32, r = some (.int x3) ∧ Sh h1 ∧ ((x3 = (0 : Int32) → (Cl (d + 1) 199 [.int (((((((((1 : Int32)) <<< (((AI h1 5 5)) &&& 31))) - ((1 : Int32)))) &&& ((v1 ^^^ ((-1 : Int32)))))) &&& ((v2 ^^^ ((-1 : Int32)))))] h1 (fun r h5 => ∃ x7 : Int32, r = some (.int x7) ∧ Sh h5 ∧ (Cl (d + 1) 62 [.ref 17, .int v1, .int v2, .int v3, .int x7] h5 (fun r h8 => ∃ x10 : Int32, r = some (.int x10) ∧ Sh h8 ∧ Q (some (.int x10)) h8))))) ∧ (¬ x3 = (0 : Int32) → Q (some (.int (-1 : Int32))) h1))))) : Wp (d + 2) 59 0 [.ref 17, .int v1, .int v2, .int v3] [] h Q := by
  refine Wp.blk (by decide) ol_59 0 1 (pc' := 1) (L' := [.ref 17, .int v1, .int v2, .int v3]) (S' := [.ref 17]) (h' := h) rfl ?_
  refine Wp.getf (op_ix (by decide) ol_59 1 rfl) (okS HS 17 rfl rfl) (v := .ref 5) (congrArg va_rf (rS HS 17 0 rfl)) rfl ?_
  refine Wp.blk (by decide) ol_59 2 2 (pc' := 6) (L' := [.ref 17, .int v1, .int v2, .int v3]) (S' := [.int v2, .int v1, .ref 5]) (h' := h) rfl ?_
  refine Wp.callI (op_ix (by decide) ol_59 4 rfl) (act_virt (c2 := 2) rfl (lk1 (kS HS 5 rfl)) rfl) rfl (K.mono ?_)
  rintro _ h1 ⟨x3, rfl, hs2, K⟩
  refine ⟨x3, rfl, ?_⟩
  refine Wp.blk (by decide) ol_59 5 1 (pc' := (if x3 = (0 : Int32) then 14 else 12)) (L' := [.ref 17, .int v1, .int v2, .int v3]) (S' := []) (h' := h1) rfl ?_
  refine Wp.br (fun c4 => ?_) (fun c4 => ?_)
  · replace K := K.1 c4
    refine Wp.blk (by decide) ol_59 8 7 (pc' := 21) (L' := [.ref 17, .int v1, .int v2, .int v3]) (S' := [.int v2, .int v1, .ref 17, .int v3, .int v2, .int v1, .ref 17]) (h' := h1) rfl ?_
    refine Wp.callI (op_ix (by decide) ol_59 15 rfl) (act_virt (c2 := 2) rfl (lk1 (kS hs2 17 rfl)) rfl) rfl (Cl.enter (L := [.ref 17, .int v1, .int v2]) rfl ?_)
    refine Wp.blk (by decide) ol_200 0 1 (pc' := 1) (L' := [.ref 17, .int v1, .int v2]) (S' := [.ref 17]) (h' := h1) rfl ?_
    refine Wp.getf (op_ix (by decide) ol_200 1 rfl) (okS hs2 17 rfl rfl) (v := .ref 5) (congrArg va_rf (rS hs2 17 0 rfl)) rfl ?_
    refine Wp.callI (op_ix (by decide) ol_200 2 rfl) (act_virt (c2 := 0) rfl (lk1 (kS hs2 5 rfl)) rfl) rfl (Cl.enter (L := [.ref 5]) rfl ?_)
    refine Wp.blk (by decide) ol_27 0 2 (pc' := 2) (L' := [.ref 5]) (S' := [.ref 5, .int (1 : Int32)]) (h' := h1) rfl ?_
    refine Wp.getf (op_ix (by decide) ol_27 2 rfl) (okS hs2 5 rfl rfl) (v := .int (AI h1 5 5)) rfl rfl ?_
    refine Wp.blk (by decide) ol_27 3 3 (pc' := 8) (L' := [.ref 5]) (S' := [.int (((((1 : Int32)) <<< (((AI h1 5 5)) &&& 31))) - ((1 : Int32)))]) (h' := h1) rfl ?_
    refine Wp.ret (op_ix (by decide) ol_27 6 rfl) rfl ⟨_, rfl, ?_⟩
    refine Wp.blk (by decide) ol_200 3 8 (pc' := 15) (L' := [.ref 17, .int v1, .int v2]) (S' := [.int (((((((((1 : Int32)) <<< (((AI h1 5 5)) &&& 31))) - ((1 : Int32)))) &&& ((v1 ^^^ ((-1 : Int32)))))) &&& ((v2 ^^^ ((-1 : Int32)))))]) (h' := h1) rfl ?_
    refine Wp.ret (op_ix (by decide) ol_200 11 rfl) rfl ⟨_, rfl, ?_⟩
    refine Wp.callI (op_ix (by decide) ol_59 16 rfl) rfl rfl (K.mono ?_)
    rintro _ h5 ⟨x7, rfl, hs6, K⟩
    refine ⟨x7, rfl, ?_⟩
    refine Wp.callI (op_ix (by decide) ol_59 17 rfl) (act_virt (c2 := 4) rfl (lk1 (kS hs6 17 rfl)) rfl) rfl (K.mono ?_)
    rintro _ h8 ⟨x10, rfl, hs9, K⟩
    refine ⟨x10, rfl, ?_⟩
    exact Wp.ret (op_ix (by decide) ol_59 18 rfl) rfl K
  · replace K := K.2 c4
    refine Wp.blk (by decide) ol_59 6 1 (pc' := 13) (L' := [.ref 17, .int v1, .int v2, .int v3]) (S' := [.int (-1 : Int32)]) (h' := h1) rfl ?_
    exact Wp.ret (op_ix (by decide) ol_59 7 rfl) rfl K
/-- CutsOrFast$Search.worth at 0 (IIII)I -/
theorem g60_0 (d : Nat) (v1 : Int32) (v2 : Int32) (v3 : Int32) (v4 : Int32) (h : AH) (HS : Sh h)  (Q : Option Value → AH → Prop) (K : (Cl (d + 1) 199 [.int (((((((((1 : Int32)) <<< (((AI h 5 5)) &&& 31))) - ((1 : Int32)))) &&& ((v2 ^^^ ((-1 : Int32)))))) &&& ((v3 ^^^ ((-1 : Int32)))))] h (fun r h1 => ∃ x3 : Int32, r = some (.int x3) ∧ Sh h1 ∧ (((((v4 + x3)) &&& ((1 : Int32))) = (AI h1 17 4) → (Cl (d + 1) 61 [.ref 17, .int v1, .int v2, .int v3, .int v4, .int x3] h1 (fun r h5 => ∃ x7 : Int32, r = some (.int x7) ∧ Sh h5 ∧ Q (some (.int x7)) h5))) ∧ (¬ (((v4 + x3)) &&& ((1 : Int32))) = (AI h1 17 4) → (Cl (d + 1) 56 [.ref 46] h1 (fun r h8 => r = none ∧ Sh h8 ∧ (Cl (d + 1) 61 [.ref 17, .int v1, .int v2, .int v3, .int v4, .int x3] ((stI h8 17 4 ((((v4 + x3)) &&& ((1 : Int32)))))) (fun r h10 => ∃ x12 : Int32, r = some (.int x12) ∧ Sh h10 ∧ Q (some (.int x12)) h10))))))))) : Wp (d + 2) 60 0 [.ref 17, .int v1, .int v2, .int v3, .int v4, mk0, mk0] [] h Q := by
  refine Wp.blk (by decide) ol_60 0 3 (pc' := 3) (L' := [.ref 17, .int v1, .int v2, .int v3, .int v4, mk0, mk0]) (S' := [.int v3, .int v2, .ref 17]) (h' := h) rfl ?_
  refine Wp.callI (op_ix (by decide) ol_60 3 rfl) (act_virt (c2 := 2) rfl (lk1 (kS HS 17 rfl)) rfl) rfl (Cl.enter (L := [.ref 17, .int v2, .int v3]) rfl ?_)
  refine Wp.blk (by decide) ol_200 0 1 (pc' := 1) (L' := [.ref 17, .int v2, .int v3]) (S' := [.ref 17]) (h' := h) rfl ?_
  refine Wp.getf (op_ix (by decide) ol_200 1 rfl) (okS HS 17 rfl rfl) (v := .ref 5) (congrArg va_rf (rS HS 17 0 rfl)) rfl ?_
  refine Wp.callI (op_ix (by decide) ol_200 2 rfl) (act_virt (c2 := 0) rfl (lk1 (kS HS 5 rfl)) rfl) rfl (Cl.enter (L := [.ref 5]) rfl ?_)
  refine Wp.blk (by decide) ol_27 0 2 (pc' := 2) (L' := [.ref 5]) (S' := [.ref 5, .int (1 : Int32)]) (h' := h) rfl ?_
  refine Wp.getf (op_ix (by decide) ol_27 2 rfl) (okS HS 5 rfl rfl) (v := .int (AI h 5 5)) rfl rfl ?_
  refine Wp.blk (by decide) ol_27 3 3 (pc' := 8) (L' := [.ref 5]) (S' := [.int (((((1 : Int32)) <<< (((AI h 5 5)) &&& 31))) - ((1 : Int32)))]) (h' := h) rfl ?_
  refine Wp.ret (op_ix (by decide) ol_27 6 rfl) rfl ⟨_, rfl, ?_⟩
  refine Wp.blk (by decide) ol_200 3 8 (pc' := 15) (L' := [.ref 17, .int v2, .int v3]) (S' := [.int (((((((((1 : Int32)) <<< (((AI h 5 5)) &&& 31))) - ((1 : Int32)))) &&& ((v2 ^^^ ((-1 : Int32)))))) &&& ((v3 ^^^ ((-1 : Int32)))))]) (h' := h) rfl ?_
  refine Wp.ret (op_ix (by decide) ol_200 11 rfl) rfl ⟨_, rfl, ?_⟩
  refine Wp.callI (op_ix (by decide) ol_60 4 rfl) rfl rfl (K.mono ?_)
  rintro _ h1 ⟨x3, rfl, hs2, K⟩
  refine ⟨x3, rfl, ?_⟩
  refine Wp.blk (by decide) ol_60 5 9 (pc' := 23) (L' := [.ref 17, .int v1, .int v2, .int v3, .int v4, .int x3, .int (((v4 + x3)) &&& ((1 : Int32)))]) (S' := [.ref 17, .int (((v4 + x3)) &&& ((1 : Int32)))]) (h' := h1) rfl ?_
  refine Wp.getf (op_ix (by decide) ol_60 14 rfl) (okS hs2 17 rfl rfl) (v := .int (AI h1 17 4)) rfl rfl ?_
  refine Wp.blk (by decide) ol_60 15 1 (pc' := (if (((v4 + x3)) &&& ((1 : Int32))) = (AI h1 17 4) then 42 else 29)) (L' := [.ref 17, .int v1, .int v2, .int v3, .int v4, .int x3, .int (((v4 + x3)) &&& ((1 : Int32)))]) (S' := []) (h' := h1) rfl ?_
  refine Wp.br (fun c4 => ?_) (fun c4 => ?_)
  · replace K := K.1 c4
    refine Wp.blk (by decide) ol_60 22 6 (pc' := 50) (L' := [.ref 17, .int v1, .int v2, .int v3, .int v4, .int x3, .int (((v4 + x3)) &&& ((1 : Int32)))]) (S' := [.int x3, .int v4, .int v3, .int v2, .int v1, .ref 17]) (h' := h1) rfl ?_
    refine Wp.callI (op_ix (by decide) ol_60 28 rfl) (act_virt (c2 := 5) rfl (lk1 (kS hs2 17 rfl)) rfl) rfl (K.mono ?_)
    rintro _ h5 ⟨x7, rfl, hs6, K⟩
    refine ⟨x7, rfl, ?_⟩
    exact Wp.ret (op_ix (by decide) ol_60 29 rfl) rfl K
  · replace K := K.2 c4
    refine Wp.blk (by decide) ol_60 16 1 (pc' := 30) (L' := [.ref 17, .int v1, .int v2, .int v3, .int v4, .int x3, .int (((v4 + x3)) &&& ((1 : Int32)))]) (S' := [.ref 17]) (h' := h1) rfl ?_
    refine Wp.getf (op_ix (by decide) ol_60 17 rfl) (okS hs2 17 rfl rfl) (v := .ref 46) (congrArg va_rf (rS hs2 17 3 rfl)) rfl ?_
    refine Wp.callV (op_ix (by decide) ol_60 18 rfl) rfl rfl (K.mono ?_)
    rintro _ h8 ⟨rfl, hs9, K⟩
    refine ⟨rfl, ?_⟩
    refine Wp.blk (by decide) ol_60 19 2 (pc' := 39) (L' := [.ref 17, .int v1, .int v2, .int v3, .int v4, .int x3, .int (((v4 + x3)) &&& ((1 : Int32)))]) (S' := [.int (((v4 + x3)) &&& ((1 : Int32))), .ref 17]) (h' := h8) rfl ?_
    refine Wp.putf (op_ix (by decide) ol_60 21 rfl) (by decide) (okS hs9 17 rfl rfl) (h' := (stI h8 17 4 ((((v4 + x3)) &&& ((1 : Int32)))))) rfl rfl ?_
    refine Wp.blk (by decide) ol_60 22 6 (pc' := 50) (L' := [.ref 17, .int v1, .int v2, .int v3, .int v4, .int x3, .int (((v4 + x3)) &&& ((1 : Int32)))]) (S' := [.int x3, .int v4, .int v3, .int v2, .int v1, .ref 17]) (h' := (stI h8 17 4 ((((v4 + x3)) &&& ((1 : Int32)))))) rfl ?_
    refine Wp.callI (op_ix (by decide) ol_60 28 rfl) (act_virt (c2 := 5) rfl (lk1 (kS hs9 17 rfl)) rfl) rfl (K.mono ?_)
    rintro _ h10 ⟨x12, rfl, hs11, K⟩
    refine ⟨x12, rfl, ?_⟩
    exact Wp.ret (op_ix (by decide) ol_60 29 rfl) rfl K
/-- CutsOrFast$Search.worthOf at 0 (IIIII)I -/
theorem g61_0 (d : Nat) (v1 : Int32) (v2 : Int32) (v3 : Int32) (v4 : Int32) (v5 : Int32) (h : AH) (HS : Sh h)  (Q : Option Value → AH → Prop) (K : (((((atv h 10 v2)) &&& ((((1 : Int32)) <<< (((AI h 5 7)) &&& 31)))) = (0 : Int32) → (((0 : Int32) < v5 → (((((atv h 10 ((((((((1 : Int32)) <<< (((AI h 5 5)) &&& 31))) - ((1 : Int32)))) &&& ((v3 ^^^ ((-1 : Int32)))))))) &&& ((((1 : Int32)) <<< (((AI h 5 7)) &&& 31)))) = (0 : Int32) → Q (some (.int (0 : Int32))) h) ∧ (¬ (((atv h 10 ((((((((1 : Int32)) <<< (((AI h 5 5)) &&& 31))) - ((1 : Int32)))) &&& ((v3 ^^^ ((-1 : Int32)))))))) &&& ((((1 : Int32)) <<< (((AI h 5 7)) &&& 31)))) = (0 : Int32) → ((((((((atvL h 46 ((((atv h 18 v2)) + ((((2 : Int32)) * ((atv h 18 v3)))))))).toUInt64 >>> (((((20 : Int32)) * v1)).toInt64.toUInt64 &&& Int64.toUInt64 63)).toInt64).toInt32) &&& ((1048575 : Int32))) = (0 : Int32) → (Cl (d + 1) 64 [.ref 17, .int v1, .int v2, .int v3, .int v4, .int v5] h (fun r h5 => ∃ x7 : Int32, r = some (.int x7) ∧ Sh h5 ∧ (∀ h8, h8 = (putvL h5 46 ((((atv h 18 v2)) + ((((2 : Int32)) * ((atv h 18 v3)))))) ((((atvL h5 46 ((((atv h 18 v2)) + ((((2 : Int32)) * ((atv h 18 v3)))))))) ||| (((((x7 + ((1 : Int32)))).toInt64) <<< (((((20 : Int32)) * v1)).toInt64 &&& 63)))))) → Q (some (.int x7)) h8)))) ∧ (¬ ((((((atvL h 46 ((((atv h 18 v2)) + ((((2 : Int32)) * ((atv h 18 v3)))))))).toUInt64 >>> (((((20 : Int32)) * v1)).toInt64.toUInt64 &&& Int64.toUInt64 63)).toInt64).toInt32) &&& ((1048575 : Int32))) = (0 : Int32) → Q (some (.int ((((((((atvL h 46 ((((atv h 18 v2)) + ((((2 : Int32)) * ((atv h 18 v3)))))))).toUInt64 >>> (((((20 : Int32)) * v1)).toInt64.toUInt64 &&& Int64.toUInt64 63)).toInt64).toInt32) &&& ((1048575 : Int32)))) - ((1 : Int32))))) h))))) ∧ (¬ (0 : Int32) < v5 → Q (some (.int (0 : Int32))) h))) ∧ (¬ (((atv h 10 v2)) &&& ((((1 : Int32)) <<< (((AI h 5 7)) &&& 31)))) = (0 : Int32) → ((AK h 1).1 = 20 ∧ (AK h 1).2 < 2147483648 ∧ Q (some (.int (atv h 1 v5))) h)))) : Wp (d + 2) 61 0 [.ref 17, .int v1, .int v2, .int v3, .int v4, .int v5, mk0, mk0, mk0, mk0] [] h Q := by
  refine Wp.blk (by decide) ol_61 0 1 (pc' := 1) (L' := [.ref 17, .int v1, .int v2, .int v3, .int v4, .int v5, mk0, mk0, mk0, mk0]) (S' := [.ref 17]) (h' := h) rfl ?_
  refine Wp.getf (op_ix (by decide) ol_61 1 rfl) (okS HS 17 rfl rfl) (v := .ref 5) (congrArg va_rf (rS HS 17 0 rfl)) rfl ?_
  refine Wp.blk (by decide) ol_61 2 1 (pc' := 5) (L' := [.ref 17, .int v1, .int v2, .int v3, .int v4, .int v5, mk0, mk0, mk0, mk0]) (S' := [.int v2, .ref 5]) (h' := h) rfl ?_
  refine Wp.callI (op_ix (by decide) ol_61 3 rfl) (act_virt (c2 := 1) rfl (lk1 (kS HS 5 rfl)) rfl) rfl (Cl.enter (L := [.ref 5, .int v2]) rfl ?_)
  refine Wp.blk (by decide) ol_34 0 1 (pc' := 1) (L' := [.ref 5, .int v2]) (S' := [.ref 5]) (h' := h) rfl ?_
  refine Wp.getf (op_ix (by decide) ol_34 1 rfl) (okS HS 5 rfl rfl) (v := .ref 10) (congrArg va_rf (rS HS 5 4 rfl)) rfl ?_
  refine Wp.blk (by decide) ol_34 2 1 (pc' := 5) (L' := [.ref 5, .int v2]) (S' := [.int v2, .ref 10]) (h' := h) rfl ?_
  refine Wp.callI (op_ix (by decide) ol_34 3 rfl) rfl rfl (sp_at (kS HS 10 rfl) (nS HS 10 rfl) ?_)
  refine ⟨_, rfl, ?_⟩
  refine Wp.blk (by decide) ol_34 4 2 (pc' := 10) (L' := [.ref 5, .int v2]) (S' := [.ref 5, .int (1 : Int32), .int (atv h 10 v2)]) (h' := h) rfl ?_
  refine Wp.getf (op_ix (by decide) ol_34 6 rfl) (okS HS 5 rfl rfl) (v := .int (AI h 5 7)) rfl rfl ?_
  refine Wp.blk (by decide) ol_34 7 3 (pc' := (if (((atv h 10 v2)) &&& ((((1 : Int32)) <<< (((AI h 5 7)) &&& 31)))) = (0 : Int32) then 22 else 18)) (L' := [.ref 5, .int v2]) (S' := []) (h' := h) rfl ?_
  refine Wp.br (fun c1 => ?_) (fun c1 => ?_)
  · replace K := K.1 c1
    refine Wp.blk (by decide) ol_34 12 1 (pc' := 23) (L' := [.ref 5, .int v2]) (S' := [.int (0 : Int32)]) (h' := h) rfl ?_
    refine Wp.ret (op_ix (by decide) ol_34 13 rfl) rfl ⟨_, rfl, ?_⟩
    refine Wp.blk (by decide) ol_61 4 1 (pc' := (if (0 : Int32) = (0 : Int32) then 17 else 11)) (L' := [.ref 17, .int v1, .int v2, .int v3, .int v4, .int v5, mk0, mk0, mk0, mk0]) (S' := []) (h' := h) rfl ?_
    refine Wp.br (fun _ => ?_) (fun hc => absurd (by decide) hc)
    refine Wp.blk (by decide) ol_61 8 2 (pc' := (if (0 : Int32) < v5 then 22 else 43)) (L' := [.ref 17, .int v1, .int v2, .int v3, .int v4, .int v5, mk0, mk0, mk0, mk0]) (S' := []) (h' := h) rfl ?_
    refine Wp.br (fun c2 => ?_) (fun c2 => ?_)
    · replace K := K.1 c2
      refine Wp.blk (by decide) ol_61 10 1 (pc' := 23) (L' := [.ref 17, .int v1, .int v2, .int v3, .int v4, .int v5, mk0, mk0, mk0, mk0]) (S' := [.ref 17]) (h' := h) rfl ?_
      refine Wp.getf (op_ix (by decide) ol_61 11 rfl) (okS HS 17 rfl rfl) (v := .ref 5) (congrArg va_rf (rS HS 17 0 rfl)) rfl ?_
      refine Wp.blk (by decide) ol_61 12 1 (pc' := 27) (L' := [.ref 17, .int v1, .int v2, .int v3, .int v4, .int v5, mk0, mk0, mk0, mk0]) (S' := [.ref 17, .ref 5]) (h' := h) rfl ?_
      refine Wp.getf (op_ix (by decide) ol_61 13 rfl) (okS HS 17 rfl rfl) (v := .ref 5) (congrArg va_rf (rS HS 17 0 rfl)) rfl ?_
      refine Wp.callI (op_ix (by decide) ol_61 14 rfl) (act_virt (c2 := 0) rfl (lk1 (kS HS 5 rfl)) rfl) rfl (Cl.enter (L := [.ref 5]) rfl ?_)
      refine Wp.blk (by decide) ol_27 0 2 (pc' := 2) (L' := [.ref 5]) (S' := [.ref 5, .int (1 : Int32)]) (h' := h) rfl ?_
      refine Wp.getf (op_ix (by decide) ol_27 2 rfl) (okS HS 5 rfl rfl) (v := .int (AI h 5 5)) rfl rfl ?_
      refine Wp.blk (by decide) ol_27 3 3 (pc' := 8) (L' := [.ref 5]) (S' := [.int (((((1 : Int32)) <<< (((AI h 5 5)) &&& 31))) - ((1 : Int32)))]) (h' := h) rfl ?_
      refine Wp.ret (op_ix (by decide) ol_27 6 rfl) rfl ⟨_, rfl, ?_⟩
      refine Wp.blk (by decide) ol_61 15 4 (pc' := 37) (L' := [.ref 17, .int v1, .int v2, .int v3, .int v4, .int v5, mk0, mk0, mk0, mk0]) (S' := [.int (((((((1 : Int32)) <<< (((AI h 5 5)) &&& 31))) - ((1 : Int32)))) &&& ((v3 ^^^ ((-1 : Int32))))), .ref 5]) (h' := h) rfl ?_
      refine Wp.callI (op_ix (by decide) ol_61 19 rfl) (act_virt (c2 := 1) rfl (lk1 (kS HS 5 rfl)) rfl) rfl (Cl.enter (L := [.ref 5, .int (((((((1 : Int32)) <<< (((AI h 5 5)) &&& 31))) - ((1 : Int32)))) &&& ((v3 ^^^ ((-1 : Int32)))))]) rfl ?_)
      refine Wp.blk (by decide) ol_34 0 1 (pc' := 1) (L' := [.ref 5, .int (((((((1 : Int32)) <<< (((AI h 5 5)) &&& 31))) - ((1 : Int32)))) &&& ((v3 ^^^ ((-1 : Int32)))))]) (S' := [.ref 5]) (h' := h) rfl ?_
      refine Wp.getf (op_ix (by decide) ol_34 1 rfl) (okS HS 5 rfl rfl) (v := .ref 10) (congrArg va_rf (rS HS 5 4 rfl)) rfl ?_
      refine Wp.blk (by decide) ol_34 2 1 (pc' := 5) (L' := [.ref 5, .int (((((((1 : Int32)) <<< (((AI h 5 5)) &&& 31))) - ((1 : Int32)))) &&& ((v3 ^^^ ((-1 : Int32)))))]) (S' := [.int (((((((1 : Int32)) <<< (((AI h 5 5)) &&& 31))) - ((1 : Int32)))) &&& ((v3 ^^^ ((-1 : Int32))))), .ref 10]) (h' := h) rfl ?_
      refine Wp.callI (op_ix (by decide) ol_34 3 rfl) rfl rfl (sp_at (kS HS 10 rfl) (nS HS 10 rfl) ?_)
      refine ⟨_, rfl, ?_⟩
      refine Wp.blk (by decide) ol_34 4 2 (pc' := 10) (L' := [.ref 5, .int (((((((1 : Int32)) <<< (((AI h 5 5)) &&& 31))) - ((1 : Int32)))) &&& ((v3 ^^^ ((-1 : Int32)))))]) (S' := [.ref 5, .int (1 : Int32), .int (atv h 10 ((((((((1 : Int32)) <<< (((AI h 5 5)) &&& 31))) - ((1 : Int32)))) &&& ((v3 ^^^ ((-1 : Int32)))))))]) (h' := h) rfl ?_
      refine Wp.getf (op_ix (by decide) ol_34 6 rfl) (okS HS 5 rfl rfl) (v := .int (AI h 5 7)) rfl rfl ?_
      refine Wp.blk (by decide) ol_34 7 3 (pc' := (if (((atv h 10 ((((((((1 : Int32)) <<< (((AI h 5 5)) &&& 31))) - ((1 : Int32)))) &&& ((v3 ^^^ ((-1 : Int32)))))))) &&& ((((1 : Int32)) <<< (((AI h 5 7)) &&& 31)))) = (0 : Int32) then 22 else 18)) (L' := [.ref 5, .int (((((((1 : Int32)) <<< (((AI h 5 5)) &&& 31))) - ((1 : Int32)))) &&& ((v3 ^^^ ((-1 : Int32)))))]) (S' := []) (h' := h) rfl ?_
      refine Wp.br (fun c3 => ?_) (fun c3 => ?_)
      · replace K := K.1 c3
        refine Wp.blk (by decide) ol_34 12 1 (pc' := 23) (L' := [.ref 5, .int (((((((1 : Int32)) <<< (((AI h 5 5)) &&& 31))) - ((1 : Int32)))) &&& ((v3 ^^^ ((-1 : Int32)))))]) (S' := [.int (0 : Int32)]) (h' := h) rfl ?_
        refine Wp.ret (op_ix (by decide) ol_34 13 rfl) rfl ⟨_, rfl, ?_⟩
        refine Wp.blk (by decide) ol_61 20 1 (pc' := (if (0 : Int32) = (0 : Int32) then 43 else 45)) (L' := [.ref 17, .int v1, .int v2, .int v3, .int v4, .int v5, mk0, mk0, mk0, mk0]) (S' := []) (h' := h) rfl ?_
        refine Wp.br (fun _ => ?_) (fun hc => absurd (by decide) hc)
        refine Wp.blk (by decide) ol_61 21 1 (pc' := 44) (L' := [.ref 17, .int v1, .int v2, .int v3, .int v4, .int v5, mk0, mk0, mk0, mk0]) (S' := [.int (0 : Int32)]) (h' := h) rfl ?_
        exact Wp.ret (op_ix (by decide) ol_61 22 rfl) rfl K
      · replace K := K.2 c3
        refine Wp.blk (by decide) ol_34 10 2 (pc' := 23) (L' := [.ref 5, .int (((((((1 : Int32)) <<< (((AI h 5 5)) &&& 31))) - ((1 : Int32)))) &&& ((v3 ^^^ ((-1 : Int32)))))]) (S' := [.int (1 : Int32)]) (h' := h) rfl ?_
        refine Wp.ret (op_ix (by decide) ol_34 13 rfl) rfl ⟨_, rfl, ?_⟩
        refine Wp.blk (by decide) ol_61 20 1 (pc' := (if (1 : Int32) = (0 : Int32) then 43 else 45)) (L' := [.ref 17, .int v1, .int v2, .int v3, .int v4, .int v5, mk0, mk0, mk0, mk0]) (S' := []) (h' := h) rfl ?_
        refine Wp.br (fun hc => absurd hc (by decide)) (fun _ => ?_)
        refine Wp.blk (by decide) ol_61 23 3 (pc' := 48) (L' := [.ref 17, .int v1, .int v2, .int v3, .int v4, .int v5, mk0, mk0, mk0, mk0]) (S' := [.int v3, .int v2, .ref 17]) (h' := h) rfl ?_
        refine Wp.callI (op_ix (by decide) ol_61 26 rfl) (act_virt (c2 := 2) rfl (lk1 (kS HS 17 rfl)) rfl) rfl (Cl.enter (L := [.ref 17, .int v2, .int v3]) rfl ?_)
        refine Wp.blk (by decide) ol_201 0 1 (pc' := 1) (L' := [.ref 17, .int v2, .int v3]) (S' := [.ref 17]) (h' := h) rfl ?_
        refine Wp.getf (op_ix (by decide) ol_201 1 rfl) (okS HS 17 rfl rfl) (v := .ref 18) (congrArg va_rf (rS HS 17 1 rfl)) rfl ?_
        refine Wp.blk (by decide) ol_201 2 1 (pc' := 5) (L' := [.ref 17, .int v2, .int v3]) (S' := [.int v2, .ref 18]) (h' := h) rfl ?_
        refine Wp.callI (op_ix (by decide) ol_201 3 rfl) rfl rfl (sp_at (kS HS 18 rfl) (nS HS 18 rfl) ?_)
        refine ⟨_, rfl, ?_⟩
        refine Wp.blk (by decide) ol_201 4 2 (pc' := 10) (L' := [.ref 17, .int v2, .int v3]) (S' := [.ref 17, .int (2 : Int32), .int (atv h 18 v2)]) (h' := h) rfl ?_
        refine Wp.getf (op_ix (by decide) ol_201 6 rfl) (okS HS 17 rfl rfl) (v := .ref 18) (congrArg va_rf (rS HS 17 1 rfl)) rfl ?_
        refine Wp.blk (by decide) ol_201 7 1 (pc' := 14) (L' := [.ref 17, .int v2, .int v3]) (S' := [.int v3, .ref 18, .int (2 : Int32), .int (atv h 18 v2)]) (h' := h) rfl ?_
        refine Wp.callI (op_ix (by decide) ol_201 8 rfl) rfl rfl (sp_at (kS HS 18 rfl) (nS HS 18 rfl) ?_)
        refine ⟨_, rfl, ?_⟩
        refine Wp.blk (by decide) ol_201 9 2 (pc' := 19) (L' := [.ref 17, .int v2, .int v3]) (S' := [.int (((atv h 18 v2)) + ((((2 : Int32)) * ((atv h 18 v3)))))]) (h' := h) rfl ?_
        refine Wp.ret (op_ix (by decide) ol_201 11 rfl) rfl ⟨_, rfl, ?_⟩
        refine Wp.blk (by decide) ol_61 27 6 (pc' := 60) (L' := [.ref 17, .int v1, .int v2, .int v3, .int v4, .int v5, .int (((atv h 18 v2)) + ((((2 : Int32)) * ((atv h 18 v3))))), .int (((20 : Int32)) * v1), mk0, mk0]) (S' := [.ref 17]) (h' := h) rfl ?_
        refine Wp.getf (op_ix (by decide) ol_61 33 rfl) (okS HS 17 rfl rfl) (v := .ref 46) (congrArg va_rf (rS HS 17 3 rfl)) rfl ?_
        refine Wp.blk (by decide) ol_61 34 1 (pc' := 65) (L' := [.ref 17, .int v1, .int v2, .int v3, .int v4, .int v5, .int (((atv h 18 v2)) + ((((2 : Int32)) * ((atv h 18 v3))))), .int (((20 : Int32)) * v1), mk0, mk0]) (S' := [.int (((atv h 18 v2)) + ((((2 : Int32)) * ((atv h 18 v3))))), .ref 46]) (h' := h) rfl ?_
        refine Wp.callL (op_ix (by decide) ol_61 35 rfl) rfl rfl (sp_atL (kS HS 46 rfl) (nS HS 46 rfl) ?_)
        refine ⟨_, rfl, ?_⟩
        refine Wp.blk (by decide) ol_61 36 8 (pc' := (if ((((((atvL h 46 ((((atv h 18 v2)) + ((((2 : Int32)) * ((atv h 18 v3)))))))).toUInt64 >>> (((((20 : Int32)) * v1)).toInt64.toUInt64 &&& Int64.toUInt64 63)).toInt64).toInt32) &&& ((1048575 : Int32))) = (0 : Int32) then 87 else 82)) (L' := [.ref 17, .int v1, .int v2, .int v3, .int v4, .int v5, .int (((atv h 18 v2)) + ((((2 : Int32)) * ((atv h 18 v3))))), .int (((20 : Int32)) * v1), .int ((((((atvL h 46 ((((atv h 18 v2)) + ((((2 : Int32)) * ((atv h 18 v3)))))))).toUInt64 >>> (((((20 : Int32)) * v1)).toInt64.toUInt64 &&& Int64.toUInt64 63)).toInt64).toInt32) &&& ((1048575 : Int32))), mk0]) (S' := []) (h' := h) rfl ?_
        refine Wp.br (fun c4 => ?_) (fun c4 => ?_)
        · replace K := K.1 c4
          refine Wp.blk (by decide) ol_61 48 6 (pc' := 95) (L' := [.ref 17, .int v1, .int v2, .int v3, .int v4, .int v5, .int (((atv h 18 v2)) + ((((2 : Int32)) * ((atv h 18 v3))))), .int (((20 : Int32)) * v1), .int ((((((atvL h 46 ((((atv h 18 v2)) + ((((2 : Int32)) * ((atv h 18 v3)))))))).toUInt64 >>> (((((20 : Int32)) * v1)).toInt64.toUInt64 &&& Int64.toUInt64 63)).toInt64).toInt32) &&& ((1048575 : Int32))), mk0]) (S' := [.int v5, .int v4, .int v3, .int v2, .int v1, .ref 17]) (h' := h) rfl ?_
          refine Wp.callI (op_ix (by decide) ol_61 54 rfl) (act_virt (c2 := 5) rfl (lk1 (kS HS 17 rfl)) rfl) rfl (K.mono ?_)
          rintro _ h5 ⟨x7, rfl, hs6, K⟩
          refine ⟨x7, rfl, ?_⟩
          refine Wp.blk (by decide) ol_61 55 2 (pc' := 101) (L' := [.ref 17, .int v1, .int v2, .int v3, .int v4, .int v5, .int (((atv h 18 v2)) + ((((2 : Int32)) * ((atv h 18 v3))))), .int (((20 : Int32)) * v1), .int ((((((atvL h 46 ((((atv h 18 v2)) + ((((2 : Int32)) * ((atv h 18 v3)))))))).toUInt64 >>> (((((20 : Int32)) * v1)).toInt64.toUInt64 &&& Int64.toUInt64 63)).toInt64).toInt32) &&& ((1048575 : Int32))), .int x7]) (S' := [.ref 17]) (h' := h5) rfl ?_
          refine Wp.getf (op_ix (by decide) ol_61 57 rfl) (okS hs6 17 rfl rfl) (v := .ref 46) (congrArg va_rf (rS hs6 17 3 rfl)) rfl ?_
          refine Wp.blk (by decide) ol_61 58 2 (pc' := 107) (L' := [.ref 17, .int v1, .int v2, .int v3, .int v4, .int v5, .int (((atv h 18 v2)) + ((((2 : Int32)) * ((atv h 18 v3))))), .int (((20 : Int32)) * v1), .int ((((((atvL h 46 ((((atv h 18 v2)) + ((((2 : Int32)) * ((atv h 18 v3)))))))).toUInt64 >>> (((((20 : Int32)) * v1)).toInt64.toUInt64 &&& Int64.toUInt64 63)).toInt64).toInt32) &&& ((1048575 : Int32))), .int x7]) (S' := [.ref 17, .int (((atv h 18 v2)) + ((((2 : Int32)) * ((atv h 18 v3))))), .ref 46]) (h' := h5) rfl ?_
          refine Wp.getf (op_ix (by decide) ol_61 60 rfl) (okS hs6 17 rfl rfl) (v := .ref 46) (congrArg va_rf (rS hs6 17 3 rfl)) rfl ?_
          refine Wp.blk (by decide) ol_61 61 1 (pc' := 112) (L' := [.ref 17, .int v1, .int v2, .int v3, .int v4, .int v5, .int (((atv h 18 v2)) + ((((2 : Int32)) * ((atv h 18 v3))))), .int (((20 : Int32)) * v1), .int ((((((atvL h 46 ((((atv h 18 v2)) + ((((2 : Int32)) * ((atv h 18 v3)))))))).toUInt64 >>> (((((20 : Int32)) * v1)).toInt64.toUInt64 &&& Int64.toUInt64 63)).toInt64).toInt32) &&& ((1048575 : Int32))), .int x7]) (S' := [.int (((atv h 18 v2)) + ((((2 : Int32)) * ((atv h 18 v3))))), .ref 46, .int (((atv h 18 v2)) + ((((2 : Int32)) * ((atv h 18 v3))))), .ref 46]) (h' := h5) rfl ?_
          refine Wp.callL (op_ix (by decide) ol_61 62 rfl) rfl rfl (sp_atL (kS hs6 46 rfl) (nS hs6 46 rfl) ?_)
          refine ⟨_, rfl, ?_⟩
          refine Wp.blk (by decide) ol_61 63 7 (pc' := 124) (L' := [.ref 17, .int v1, .int v2, .int v3, .int v4, .int v5, .int (((atv h 18 v2)) + ((((2 : Int32)) * ((atv h 18 v3))))), .int (((20 : Int32)) * v1), .int ((((((atvL h 46 ((((atv h 18 v2)) + ((((2 : Int32)) * ((atv h 18 v3)))))))).toUInt64 >>> (((((20 : Int32)) * v1)).toInt64.toUInt64 &&& Int64.toUInt64 63)).toInt64).toInt32) &&& ((1048575 : Int32))), .int x7]) (S' := [.long (((atvL h5 46 ((((atv h 18 v2)) + ((((2 : Int32)) * ((atv h 18 v3)))))))) ||| (((((x7 + ((1 : Int32)))).toInt64) <<< (((((20 : Int32)) * v1)).toInt64 &&& 63)))), .int (((atv h 18 v2)) + ((((2 : Int32)) * ((atv h 18 v3))))), .ref 46]) (h' := h5) rfl ?_
          refine Wp.callV (op_ix (by decide) ol_61 70 rfl) rfl rfl (sp_putL (kS hs6 46 rfl) (nS hs6 46 rfl) (by decide) ?_)
          refine ⟨rfl, ?_⟩
          obtain ⟨h8, e9⟩ : ∃ y, y = (putvL h5 46 ((((atv h 18 v2)) + ((((2 : Int32)) * ((atv h 18 v3)))))) ((((atvL h5 46 ((((atv h 18 v2)) + ((((2 : Int32)) * ((atv h 18 v3)))))))) ||| (((((x7 + ((1 : Int32)))).toInt64) <<< (((((20 : Int32)) * v1)).toInt64 &&& 63)))))) := ⟨_, rfl⟩
          rw [← e9]
          replace K := K h8 e9
          have hs10 : Sh h8 := by rw [e9]; exact Sh.putvL hs6 _ _ _
          refine Wp.blk (by decide) ol_61 71 1 (pc' := 129) (L' := [.ref 17, .int v1, .int v2, .int v3, .int v4, .int v5, .int (((atv h 18 v2)) + ((((2 : Int32)) * ((atv h 18 v3))))), .int (((20 : Int32)) * v1), .int ((((((atvL h 46 ((((atv h 18 v2)) + ((((2 : Int32)) * ((atv h 18 v3)))))))).toUInt64 >>> (((((20 : Int32)) * v1)).toInt64.toUInt64 &&& Int64.toUInt64 63)).toInt64).toInt32) &&& ((1048575 : Int32))), .int x7]) (S' := [.int x7]) (h' := h8) rfl ?_
          exact Wp.ret (op_ix (by decide) ol_61 72 rfl) rfl K
        · replace K := K.2 c4
          refine Wp.blk (by decide) ol_61 44 3 (pc' := 86) (L' := [.ref 17, .int v1, .int v2, .int v3, .int v4, .int v5, .int (((atv h 18 v2)) + ((((2 : Int32)) * ((atv h 18 v3))))), .int (((20 : Int32)) * v1), .int ((((((atvL h 46 ((((atv h 18 v2)) + ((((2 : Int32)) * ((atv h 18 v3)))))))).toUInt64 >>> (((((20 : Int32)) * v1)).toInt64.toUInt64 &&& Int64.toUInt64 63)).toInt64).toInt32) &&& ((1048575 : Int32))), mk0]) (S' := [.int ((((((((atvL h 46 ((((atv h 18 v2)) + ((((2 : Int32)) * ((atv h 18 v3)))))))).toUInt64 >>> (((((20 : Int32)) * v1)).toInt64.toUInt64 &&& Int64.toUInt64 63)).toInt64).toInt32) &&& ((1048575 : Int32)))) - ((1 : Int32)))]) (h' := h) rfl ?_
          exact Wp.ret (op_ix (by decide) ol_61 47 rfl) rfl K
    · replace K := K.2 c2
      refine Wp.blk (by decide) ol_61 21 1 (pc' := 44) (L' := [.ref 17, .int v1, .int v2, .int v3, .int v4, .int v5, mk0, mk0, mk0, mk0]) (S' := [.int (0 : Int32)]) (h' := h) rfl ?_
      exact Wp.ret (op_ix (by decide) ol_61 22 rfl) rfl K
  · replace K := K.2 c1
    refine Wp.blk (by decide) ol_34 10 2 (pc' := 23) (L' := [.ref 5, .int v2]) (S' := [.int (1 : Int32)]) (h' := h) rfl ?_
    refine Wp.ret (op_ix (by decide) ol_34 13 rfl) rfl ⟨_, rfl, ?_⟩
    refine Wp.blk (by decide) ol_61 4 1 (pc' := (if (1 : Int32) = (0 : Int32) then 17 else 11)) (L' := [.ref 17, .int v1, .int v2, .int v3, .int v4, .int v5, mk0, mk0, mk0, mk0]) (S' := []) (h' := h) rfl ?_
    refine Wp.br (fun hc => absurd hc (by decide)) (fun _ => ?_)
    refine Wp.blk (by decide) ol_61 5 1 (pc' := 13) (L' := [.ref 17, .int v1, .int v2, .int v3, .int v4, .int v5, mk0, mk0, mk0, mk0]) (S' := [.int v5]) (h' := h) rfl ?_
    obtain ⟨k11, K⟩ := K
    obtain ⟨l12, K⟩ := K
    refine Wp.callI (op_ix (by decide) ol_61 6 rfl) rfl rfl (sp_fac k11 l12 ?_)
    refine ⟨_, rfl, ?_⟩
    exact Wp.ret (op_ix (by decide) ol_61 7 rfl) rfl K
/-- CutsOrFast$Search.ownersMove at 0 (IIII)I -/
theorem g62_0 (d : Nat) (v1 : Int32) (v2 : Int32) (v3 : Int32) (v4 : Int32) (h : AH) (HS : Sh h)  (Q : Option Value → AH → Prop) (K : Wp (d + 2) 62 11 [.ref 17, .int v1, .int v2, .int v3, .int v4, .int (((((((((1 : Int32)) <<< (((AI h 5 5)) &&& 31))) - ((1 : Int32)))) &&& ((v1 ^^^ ((-1 : Int32)))))) &&& ((v2 ^^^ ((-1 : Int32))))), .int (0 : Int32), mk0, mk0] [] h Q) : Wp (d + 2) 62 0 [.ref 17, .int v1, .int v2, .int v3, .int v4, mk0, mk0, mk0, mk0] [] h Q := by
  refine Wp.blk (by decide) ol_62 0 3 (pc' := 3) (L' := [.ref 17, .int v1, .int v2, .int v3, .int v4, mk0, mk0, mk0, mk0]) (S' := [.int v2, .int v1, .ref 17]) (h' := h) rfl ?_
  refine Wp.callI (op_ix (by decide) ol_62 3 rfl) (act_virt (c2 := 2) rfl (lk1 (kS HS 17 rfl)) rfl) rfl (Cl.enter (L := [.ref 17, .int v1, .int v2]) rfl ?_)
  refine Wp.blk (by decide) ol_200 0 1 (pc' := 1) (L' := [.ref 17, .int v1, .int v2]) (S' := [.ref 17]) (h' := h) rfl ?_
  refine Wp.getf (op_ix (by decide) ol_200 1 rfl) (okS HS 17 rfl rfl) (v := .ref 5) (congrArg va_rf (rS HS 17 0 rfl)) rfl ?_
  refine Wp.callI (op_ix (by decide) ol_200 2 rfl) (act_virt (c2 := 0) rfl (lk1 (kS HS 5 rfl)) rfl) rfl (Cl.enter (L := [.ref 5]) rfl ?_)
  refine Wp.blk (by decide) ol_27 0 2 (pc' := 2) (L' := [.ref 5]) (S' := [.ref 5, .int (1 : Int32)]) (h' := h) rfl ?_
  refine Wp.getf (op_ix (by decide) ol_27 2 rfl) (okS HS 5 rfl rfl) (v := .int (AI h 5 5)) rfl rfl ?_
  refine Wp.blk (by decide) ol_27 3 3 (pc' := 8) (L' := [.ref 5]) (S' := [.int (((((1 : Int32)) <<< (((AI h 5 5)) &&& 31))) - ((1 : Int32)))]) (h' := h) rfl ?_
  refine Wp.ret (op_ix (by decide) ol_27 6 rfl) rfl ⟨_, rfl, ?_⟩
  refine Wp.blk (by decide) ol_200 3 8 (pc' := 15) (L' := [.ref 17, .int v1, .int v2]) (S' := [.int (((((((((1 : Int32)) <<< (((AI h 5 5)) &&& 31))) - ((1 : Int32)))) &&& ((v1 ^^^ ((-1 : Int32)))))) &&& ((v2 ^^^ ((-1 : Int32)))))]) (h' := h) rfl ?_
  refine Wp.ret (op_ix (by decide) ol_200 11 rfl) rfl ⟨_, rfl, ?_⟩
  refine Wp.blk (by decide) ol_62 4 3 (pc' := 11) (L' := [.ref 17, .int v1, .int v2, .int v3, .int v4, .int (((((((((1 : Int32)) <<< (((AI h 5 5)) &&& 31))) - ((1 : Int32)))) &&& ((v1 ^^^ ((-1 : Int32)))))) &&& ((v2 ^^^ ((-1 : Int32))))), .int (0 : Int32), mk0, mk0]) (S' := []) (h' := h) rfl ?_
  exact K
/-- CutsOrFast$Search.ownersMove at 11 -/
theorem g62_11 (d : Nat) (v1 : Int32) (v2 : Int32) (v3 : Int32) (v4 : Int32) (v5 : Int32) (v6 : Int32) (h : AH) (HS : Sh h)  (Q : Option Value → AH → Prop) (K : ((v6 < (AI h 5 5) → (((v5 &&& ((((1 : Int32)) <<< (v6 &&& 31)))) = (0 : Int32) → Wp (d + 1) 62 11 [.ref 17, .int v1, .int v2, .int v3, .int v4, .int v5, .int (v6 + (1 : Int32)), mk0, mk0] [] h Q) ∧ (¬ (v5 &&& ((((1 : Int32)) <<< (v6 &&& 31)))) = (0 : Int32) → ((v3 = (0 : Int32) → (Cl d 57 [.ref 17, .int (v1 ||| ((((1 : Int32)) <<< (v6 &&& 31)))), .int v2, .int (1 : Int32), .int (v4 - ((1 : Int32)))] h (fun r h4 => ∃ x6 : Int32, r = some (.int x6) ∧ Sh h4 ∧ ((x6 = v3 → Q (some (.int v6)) h4) ∧ (¬ x6 = v3 → Wp (d + 1) 62 11 [.ref 17, .int v1, .int v2, .int v3, .int v4, .int v5, .int (v6 + (1 : Int32)), mk0, mk0] [] h4 Q))))) ∧ (¬ v3 = (0 : Int32) → (Cl d 57 [.ref 17, .int v1, .int (v2 ||| ((((1 : Int32)) <<< (v6 &&& 31)))), .int (0 : Int32), .int (v4 - ((1 : Int32)))] h (fun r h8 => ∃ x10 : Int32, r = some (.int x10) ∧ Sh h8 ∧ ((x10 = v3 → Q (some (.int v6)) h8) ∧ (¬ x10 = v3 → Wp (d + 1) 62 11 [.ref 17, .int v1, .int v2, .int v3, .int v4, .int v5, .int (v6 + (1 : Int32)), mk0, mk0] [] h8 Q))))))))) ∧ (¬ v6 < (AI h 5 5) → Q (some (.int (-1 : Int32))) h))) : Wp (d + 1) 62 11 [.ref 17, .int v1, .int v2, .int v3, .int v4, .int v5, .int v6, mk0, mk0] [] h Q := by
  refine Wp.blk (by decide) ol_62 7 2 (pc' := 14) (L' := [.ref 17, .int v1, .int v2, .int v3, .int v4, .int v5, .int v6, mk0, mk0]) (S' := [.ref 17, .int v6]) (h' := h) rfl ?_
  refine Wp.getf (op_ix (by decide) ol_62 9 rfl) (okS HS 17 rfl rfl) (v := .ref 5) (congrArg va_rf (rS HS 17 0 rfl)) rfl ?_
  refine Wp.callI (op_ix (by decide) ol_62 10 rfl) (act_virt (c2 := 0) rfl (lk1 (kS HS 5 rfl)) rfl) rfl (Cl.enter (L := [.ref 5]) rfl ?_)
  refine Wp.blk (by decide) ol_26 0 1 (pc' := 1) (L' := [.ref 5]) (S' := [.ref 5]) (h' := h) rfl ?_
  refine Wp.getf (op_ix (by decide) ol_26 1 rfl) (okS HS 5 rfl rfl) (v := .int (AI h 5 5)) rfl rfl ?_
  refine Wp.ret (op_ix (by decide) ol_26 2 rfl) rfl ⟨_, rfl, ?_⟩
  refine Wp.blk (by decide) ol_62 11 1 (pc' := (if v6 < (AI h 5 5) then 23 else 89)) (L' := [.ref 17, .int v1, .int v2, .int v3, .int v4, .int v5, .int v6, mk0, mk0]) (S' := []) (h' := h) rfl ?_
  refine Wp.br (fun c1 => ?_) (fun c1 => ?_)
  · replace K := K.1 c1
    refine Wp.blk (by decide) ol_62 12 8 (pc' := (if (v5 &&& ((((1 : Int32)) <<< (v6 &&& 31)))) = (0 : Int32) then 83 else 37)) (L' := [.ref 17, .int v1, .int v2, .int v3, .int v4, .int v5, .int v6, .int (((1 : Int32)) <<< (v6 &&& 31)), mk0]) (S' := []) (h' := h) rfl ?_
    refine Wp.br (fun c2 => ?_) (fun c2 => ?_)
    · replace K := K.1 c2
      refine Wp.blk (by decide) ol_62 49 2 (pc' := 11) (L' := [.ref 17, .int v1, .int v2, .int v3, .int v4, .int v5, .int (v6 + (1 : Int32)), .int (((1 : Int32)) <<< (v6 &&& 31)), mk0]) (S' := []) (h' := h) rfl ?_
      refine Wp.forget (L := [.ref 17, .int v1, .int v2, .int v3, .int v4, .int v5, .int (v6 + (1 : Int32)), mk0, mk0]) (⟨Or.inr rfl, ⟨Or.inr rfl, ⟨Or.inr rfl, ⟨Or.inr rfl, ⟨Or.inr rfl, ⟨Or.inr rfl, ⟨Or.inr rfl, ⟨Or.inl rfl, ⟨Or.inr rfl, trivial⟩⟩⟩⟩⟩⟩⟩⟩⟩) ?_
      exact K
    · replace K := K.2 c2
      refine Wp.blk (by decide) ol_62 20 2 (pc' := (if v3 = (0 : Int32) then 41 else 58)) (L' := [.ref 17, .int v1, .int v2, .int v3, .int v4, .int v5, .int v6, .int (((1 : Int32)) <<< (v6 &&& 31)), mk0]) (S' := []) (h' := h) rfl ?_
      refine Wp.br (fun c3 => ?_) (fun c3 => ?_)
      · replace K := K.1 c3
        refine Wp.blk (by decide) ol_62 22 9 (pc' := 52) (L' := [.ref 17, .int v1, .int v2, .int v3, .int v4, .int v5, .int v6, .int (((1 : Int32)) <<< (v6 &&& 31)), mk0]) (S' := [.int (v4 - ((1 : Int32))), .int (1 : Int32), .int v2, .int (v1 ||| ((((1 : Int32)) <<< (v6 &&& 31)))), .ref 17]) (h' := h) rfl ?_
        refine Wp.callI (op_ix (by decide) ol_62 31 rfl) (act_virt (c2 := 4) rfl (lk1 (kS HS 17 rfl)) rfl) rfl (K.mono ?_)
        rintro _ h4 ⟨x6, rfl, hs5, K⟩
        refine ⟨x6, rfl, ?_⟩
        refine Wp.blk (by decide) ol_62 32 1 (pc' := 72) (L' := [.ref 17, .int v1, .int v2, .int v3, .int v4, .int v5, .int v6, .int (((1 : Int32)) <<< (v6 &&& 31)), mk0]) (S' := [.int x6]) (h' := h4) rfl ?_
        refine Wp.blk (by decide) ol_62 43 4 (pc' := (if x6 = v3 then 80 else 83)) (L' := [.ref 17, .int v1, .int v2, .int v3, .int v4, .int v5, .int v6, .int (((1 : Int32)) <<< (v6 &&& 31)), .int x6]) (S' := []) (h' := h4) rfl ?_
        refine Wp.br (fun c7 => ?_) (fun c7 => ?_)
        · replace K := K.1 c7
          refine Wp.blk (by decide) ol_62 47 1 (pc' := 82) (L' := [.ref 17, .int v1, .int v2, .int v3, .int v4, .int v5, .int v6, .int (((1 : Int32)) <<< (v6 &&& 31)), .int x6]) (S' := [.int v6]) (h' := h4) rfl ?_
          exact Wp.ret (op_ix (by decide) ol_62 48 rfl) rfl K
        · replace K := K.2 c7
          refine Wp.blk (by decide) ol_62 49 2 (pc' := 11) (L' := [.ref 17, .int v1, .int v2, .int v3, .int v4, .int v5, .int (v6 + (1 : Int32)), .int (((1 : Int32)) <<< (v6 &&& 31)), .int x6]) (S' := []) (h' := h4) rfl ?_
          refine Wp.forget (L := [.ref 17, .int v1, .int v2, .int v3, .int v4, .int v5, .int (v6 + (1 : Int32)), mk0, mk0]) (⟨Or.inr rfl, ⟨Or.inr rfl, ⟨Or.inr rfl, ⟨Or.inr rfl, ⟨Or.inr rfl, ⟨Or.inr rfl, ⟨Or.inr rfl, ⟨Or.inl rfl, ⟨Or.inl rfl, trivial⟩⟩⟩⟩⟩⟩⟩⟩⟩) ?_
          exact K
      · replace K := K.2 c3
        refine Wp.blk (by decide) ol_62 33 9 (pc' := 69) (L' := [.ref 17, .int v1, .int v2, .int v3, .int v4, .int v5, .int v6, .int (((1 : Int32)) <<< (v6 &&& 31)), mk0]) (S' := [.int (v4 - ((1 : Int32))), .int (0 : Int32), .int (v2 ||| ((((1 : Int32)) <<< (v6 &&& 31)))), .int v1, .ref 17]) (h' := h) rfl ?_
        refine Wp.callI (op_ix (by decide) ol_62 42 rfl) (act_virt (c2 := 4) rfl (lk1 (kS HS 17 rfl)) rfl) rfl (K.mono ?_)
        rintro _ h8 ⟨x10, rfl, hs9, K⟩
        refine ⟨x10, rfl, ?_⟩
        refine Wp.blk (by decide) ol_62 43 4 (pc' := (if x10 = v3 then 80 else 83)) (L' := [.ref 17, .int v1, .int v2, .int v3, .int v4, .int v5, .int v6, .int (((1 : Int32)) <<< (v6 &&& 31)), .int x10]) (S' := []) (h' := h8) rfl ?_
        refine Wp.br (fun c11 => ?_) (fun c11 => ?_)
        · replace K := K.1 c11
          refine Wp.blk (by decide) ol_62 47 1 (pc' := 82) (L' := [.ref 17, .int v1, .int v2, .int v3, .int v4, .int v5, .int v6, .int (((1 : Int32)) <<< (v6 &&& 31)), .int x10]) (S' := [.int v6]) (h' := h8) rfl ?_
          exact Wp.ret (op_ix (by decide) ol_62 48 rfl) rfl K
        · replace K := K.2 c11
          refine Wp.blk (by decide) ol_62 49 2 (pc' := 11) (L' := [.ref 17, .int v1, .int v2, .int v3, .int v4, .int v5, .int (v6 + (1 : Int32)), .int (((1 : Int32)) <<< (v6 &&& 31)), .int x10]) (S' := []) (h' := h8) rfl ?_
          refine Wp.forget (L := [.ref 17, .int v1, .int v2, .int v3, .int v4, .int v5, .int (v6 + (1 : Int32)), mk0, mk0]) (⟨Or.inr rfl, ⟨Or.inr rfl, ⟨Or.inr rfl, ⟨Or.inr rfl, ⟨Or.inr rfl, ⟨Or.inr rfl, ⟨Or.inr rfl, ⟨Or.inl rfl, ⟨Or.inl rfl, trivial⟩⟩⟩⟩⟩⟩⟩⟩⟩) ?_
          exact K
  · replace K := K.2 c1
    refine Wp.blk (by decide) ol_62 51 1 (pc' := 90) (L' := [.ref 17, .int v1, .int v2, .int v3, .int v4, .int v5, .int v6, mk0, mk0]) (S' := [.int (-1 : Int32)]) (h' := h) rfl ?_
    exact Wp.ret (op_ix (by decide) ol_62 52 rfl) rfl K
/-- CutsOrFast$Search.movesByChance at 0 (II)Z -/
theorem g63_0 (d : Nat) (v0 : Int32) (v1 : Int32) (h : AH) (HS : Sh h)  (Q : Option Value → AH → Prop) (K : ((v0 = (2 : Int32) → Q (some (.int (1 : Int32))) h) ∧ (¬ v0 = (2 : Int32) → ((v1 = (1 : Int32) → ((v0 = (0 : Int32) → Q (some (.int (1 : Int32))) h) ∧ (¬ v0 = (0 : Int32) → Q (some (.int (0 : Int32))) h))) ∧ (¬ v1 = (1 : Int32) → ((v0 = (1 : Int32) → Q (some (.int (1 : Int32))) h) ∧ (¬ v0 = (1 : Int32) → Q (some (.int (0 : Int32))) h))))))) : Wp d 63 0 [.int v0, .int v1] [] h Q := by
  refine Wp.blk (by decide) ol_63 0 3 (pc' := (if v0 = (2 : Int32) then 19 else 5)) (L' := [.int v0, .int v1]) (S' := []) (h' := h) rfl ?_
  refine Wp.br (fun c1 => ?_) (fun c1 => ?_)
  · replace K := K.1 c1
    refine Wp.blk (by decide) ol_63 11 2 (pc' := 24) (L' := [.int v0, .int v1]) (S' := [.int (1 : Int32)]) (h' := h) rfl ?_
    exact Wp.ret (op_ix (by decide) ol_63 14 rfl) rfl K
  · replace K := K.2 c1
    refine Wp.blk (by decide) ol_63 3 4 (pc' := (if v1 = (1 : Int32) then 11 else 15)) (L' := [.int v0, .int v1]) (S' := [.int v0]) (h' := h) rfl ?_
    refine Wp.br (fun c2 => ?_) (fun c2 => ?_)
    · replace K := K.1 c2
      refine Wp.blk (by decide) ol_63 7 2 (pc' := 16) (L' := [.int v0, .int v1]) (S' := [.int (0 : Int32), .int v0]) (h' := h) rfl ?_
      refine Wp.blk (by decide) ol_63 10 1 (pc' := (if v0 = (0 : Int32) then 19 else 23)) (L' := [.int v0, .int v1]) (S' := []) (h' := h) rfl ?_
      refine Wp.br (fun c3 => ?_) (fun c3 => ?_)
      · replace K := K.1 c3
        refine Wp.blk (by decide) ol_63 11 2 (pc' := 24) (L' := [.int v0, .int v1]) (S' := [.int (1 : Int32)]) (h' := h) rfl ?_
        exact Wp.ret (op_ix (by decide) ol_63 14 rfl) rfl K
      · replace K := K.2 c3
        refine Wp.blk (by decide) ol_63 13 1 (pc' := 24) (L' := [.int v0, .int v1]) (S' := [.int (0 : Int32)]) (h' := h) rfl ?_
        exact Wp.ret (op_ix (by decide) ol_63 14 rfl) rfl K
    · replace K := K.2 c2
      refine Wp.blk (by decide) ol_63 9 2 (pc' := (if v0 = (1 : Int32) then 19 else 23)) (L' := [.int v0, .int v1]) (S' := []) (h' := h) rfl ?_
      refine Wp.br (fun c4 => ?_) (fun c4 => ?_)
      · replace K := K.1 c4
        refine Wp.blk (by decide) ol_63 11 2 (pc' := 24) (L' := [.int v0, .int v1]) (S' := [.int (1 : Int32)]) (h' := h) rfl ?_
        exact Wp.ret (op_ix (by decide) ol_63 14 rfl) rfl K
      · replace K := K.2 c4
        refine Wp.blk (by decide) ol_63 13 1 (pc' := 24) (L' := [.int v0, .int v1]) (S' := [.int (0 : Int32)]) (h' := h) rfl ?_
        exact Wp.ret (op_ix (by decide) ol_63 14 rfl) rfl K
/-- CutsOrFast$Search.worthByMoves at 0 (IIIII)I -/
theorem g64_0 (d : Nat) (v1 : Int32) (v2 : Int32) (v3 : Int32) (v4 : Int32) (v5 : Int32) (h : AH) (HS : Sh h)  (Q : Option Value → AH → Prop) (K : ((v4 = (0 : Int32) → Wp (d + 2) 64 32 [.ref 17, .int v1, .int v2, .int v3, .int v4, .int v5, .int (((((((((1 : Int32)) <<< (((AI h 5 5)) &&& 31))) - ((1 : Int32)))) &&& ((v2 ^^^ ((-1 : Int32)))))) &&& ((v3 ^^^ ((-1 : Int32))))), .int (0 : Int32), .int (0 : Int32), .int (0 : Int32), mk0, mk0] [] h Q) ∧ (¬ v4 = (0 : Int32) → ((AK h 1).1 = 20 ∧ (AK h 1).2 < 2147483648 ∧ Wp (d + 2) 64 32 [.ref 17, .int v1, .int v2, .int v3, .int v4, .int v5, .int (((((((((1 : Int32)) <<< (((AI h 5 5)) &&& 31))) - ((1 : Int32)))) &&& ((v2 ^^^ ((-1 : Int32)))))) &&& ((v3 ^^^ ((-1 : Int32))))), .int (0 : Int32), .int (atv h 1 ((v5 - ((1 : Int32))))), .int (0 : Int32), mk0, mk0] [] h Q)))) : Wp (d + 2) 64 0 [.ref 17, .int v1, .int v2, .int v3, .int v4, .int v5, mk0, mk0, mk0, mk0, mk0, mk0] [] h Q := by
  refine Wp.blk (by decide) ol_64 0 3 (pc' := 3) (L' := [.ref 17, .int v1, .int v2, .int v3, .int v4, .int v5, mk0, mk0, mk0, mk0, mk0, mk0]) (S' := [.int v3, .int v2, .ref 17]) (h' := h) rfl ?_
  refine Wp.callI (op_ix (by decide) ol_64 3 rfl) (act_virt (c2 := 2) rfl (lk1 (kS HS 17 rfl)) rfl) rfl (Cl.enter (L := [.ref 17, .int v2, .int v3]) rfl ?_)
  refine Wp.blk (by decide) ol_200 0 1 (pc' := 1) (L' := [.ref 17, .int v2, .int v3]) (S' := [.ref 17]) (h' := h) rfl ?_
  refine Wp.getf (op_ix (by decide) ol_200 1 rfl) (okS HS 17 rfl rfl) (v := .ref 5) (congrArg va_rf (rS HS 17 0 rfl)) rfl ?_
  refine Wp.callI (op_ix (by decide) ol_200 2 rfl) (act_virt (c2 := 0) rfl (lk1 (kS HS 5 rfl)) rfl) rfl (Cl.enter (L := [.ref 5]) rfl ?_)
  refine Wp.blk (by decide) ol_27 0 2 (pc' := 2) (L' := [.ref 5]) (S' := [.ref 5, .int (1 : Int32)]) (h' := h) rfl ?_
  refine Wp.getf (op_ix (by decide) ol_27 2 rfl) (okS HS 5 rfl rfl) (v := .int (AI h 5 5)) rfl rfl ?_
  refine Wp.blk (by decide) ol_27 3 3 (pc' := 8) (L' := [.ref 5]) (S' := [.int (((((1 : Int32)) <<< (((AI h 5 5)) &&& 31))) - ((1 : Int32)))]) (h' := h) rfl ?_
  refine Wp.ret (op_ix (by decide) ol_27 6 rfl) rfl ⟨_, rfl, ?_⟩
  refine Wp.blk (by decide) ol_200 3 8 (pc' := 15) (L' := [.ref 17, .int v2, .int v3]) (S' := [.int (((((((((1 : Int32)) <<< (((AI h 5 5)) &&& 31))) - ((1 : Int32)))) &&& ((v2 ^^^ ((-1 : Int32)))))) &&& ((v3 ^^^ ((-1 : Int32)))))]) (h' := h) rfl ?_
  refine Wp.ret (op_ix (by decide) ol_200 11 rfl) rfl ⟨_, rfl, ?_⟩
  refine Wp.blk (by decide) ol_64 4 5 (pc' := (if v4 = (0 : Int32) then 16 else 20)) (L' := [.ref 17, .int v1, .int v2, .int v3, .int v4, .int v5, .int (((((((((1 : Int32)) <<< (((AI h 5 5)) &&& 31))) - ((1 : Int32)))) &&& ((v2 ^^^ ((-1 : Int32)))))) &&& ((v3 ^^^ ((-1 : Int32))))), .int (0 : Int32), mk0, mk0, mk0, mk0]) (S' := []) (h' := h) rfl ?_
  refine Wp.br (fun c1 => ?_) (fun c1 => ?_)
  · replace K := K.1 c1
    refine Wp.blk (by decide) ol_64 9 2 (pc' := 27) (L' := [.ref 17, .int v1, .int v2, .int v3, .int v4, .int v5, .int (((((((((1 : Int32)) <<< (((AI h 5 5)) &&& 31))) - ((1 : Int32)))) &&& ((v2 ^^^ ((-1 : Int32)))))) &&& ((v3 ^^^ ((-1 : Int32))))), .int (0 : Int32), mk0, mk0, mk0, mk0]) (S' := [.int (0 : Int32)]) (h' := h) rfl ?_
    refine Wp.blk (by decide) ol_64 15 3 (pc' := 32) (L' := [.ref 17, .int v1, .int v2, .int v3, .int v4, .int v5, .int (((((((((1 : Int32)) <<< (((AI h 5 5)) &&& 31))) - ((1 : Int32)))) &&& ((v2 ^^^ ((-1 : Int32)))))) &&& ((v3 ^^^ ((-1 : Int32))))), .int (0 : Int32), .int (0 : Int32), .int (0 : Int32), mk0, mk0]) (S' := []) (h' := h) rfl ?_
    exact K
  · replace K := K.2 c1
    refine Wp.blk (by decide) ol_64 11 3 (pc' := 24) (L' := [.ref 17, .int v1, .int v2, .int v3, .int v4, .int v5, .int (((((((((1 : Int32)) <<< (((AI h 5 5)) &&& 31))) - ((1 : Int32)))) &&& ((v2 ^^^ ((-1 : Int32)))))) &&& ((v3 ^^^ ((-1 : Int32))))), .int (0 : Int32), mk0, mk0, mk0, mk0]) (S' := [.int (v5 - ((1 : Int32)))]) (h' := h) rfl ?_
    obtain ⟨k2, K⟩ := K
    obtain ⟨l3, K⟩ := K
    refine Wp.callI (op_ix (by decide) ol_64 14 rfl) rfl rfl (sp_fac k2 l3 ?_)
    refine ⟨_, rfl, ?_⟩
    refine Wp.blk (by decide) ol_64 15 3 (pc' := 32) (L' := [.ref 17, .int v1, .int v2, .int v3, .int v4, .int v5, .int (((((((((1 : Int32)) <<< (((AI h 5 5)) &&& 31))) - ((1 : Int32)))) &&& ((v2 ^^^ ((-1 : Int32)))))) &&& ((v3 ^^^ ((-1 : Int32))))), .int (0 : Int32), .int (atv h 1 ((v5 - ((1 : Int32))))), .int (0 : Int32), mk0, mk0]) (S' := []) (h' := h) rfl ?_
    exact K
/-- CutsOrFast$Search.worthByMoves at 32 -/
theorem g64_32 (d : Nat) (v1 : Int32) (v2 : Int32) (v3 : Int32) (v4 : Int32) (v5 : Int32) (v6 : Int32) (v7 : Int32) (v8 : Int32) (v9 : Int32) (h : AH) (HS : Sh h)  (Q : Option Value → AH → Prop) (K : ((v9 < (AI h 5 5) → (((v6 &&& ((((1 : Int32)) <<< (v9 &&& 31)))) = (0 : Int32) → Wp (d + 1) 64 32 [.ref 17, .int v1, .int v2, .int v3, .int v4, .int v5, .int v6, .int v7, .int v8, .int (v9 + (1 : Int32)), mk0, mk0] [] h Q) ∧ (¬ (v6 &&& ((((1 : Int32)) <<< (v9 &&& 31)))) = (0 : Int32) → ((v4 = (0 : Int32) → (Cl d 61 [.ref 17, .int v1, .int (v2 ||| ((((1 : Int32)) <<< (v9 &&& 31)))), .int v3, .int (1 : Int32), .int (v5 - ((1 : Int32)))] h (fun r h4 => ∃ x6 : Int32, r = some (.int x6) ∧ Sh h4 ∧ Wp (d + 1) 64 96 [.ref 17, .int v1, .int v2, .int v3, .int v4, .int v5, .int v6, .int v7, .int v8, .int v9, mk0, mk0] [.int x6] h4 Q))) ∧ (¬ v4 = (0 : Int32) → (Cl d 61 [.ref 17, .int v1, .int v2, .int (v3 ||| ((((1 : Int32)) <<< (v9 &&& 31)))), .int (0 : Int32), .int (v5 - ((1 : Int32)))] h (fun r h7 => ∃ x9 : Int32, r = some (.int x9) ∧ Sh h7 ∧ Wp (d + 1) 64 96 [.ref 17, .int v1, .int v2, .int v3, .int v4, .int v5, .int v6, .int v7, .int v8, .int v9, mk0, mk0] [.int x9] h7 Q))))))) ∧ (¬ v9 < (AI h 5 5) → (Cl d 63 [.int v1, .int v4] h (fun r h10 => ∃ x12 : Int32, r = some (.int x12) ∧ Sh h10 ∧ ((x12 = (0 : Int32) → Q (some (.int (v5 * v8))) h10) ∧ (¬ x12 = (0 : Int32) → Q (some (.int v7)) h10))))))) : Wp (d + 1) 64 32 [.ref 17, .int v1, .int v2, .int v3, .int v4, .int v5, .int v6, .int v7, .int v8, .int v9, mk0, mk0] [] h Q := by
  refine Wp.blk (by decide) ol_64 18 2 (pc' := 35) (L' := [.ref 17, .int v1, .int v2, .int v3, .int v4, .int v5, .int v6, .int v7, .int v8, .int v9, mk0, mk0]) (S' := [.ref 17, .int v9]) (h' := h) rfl ?_
  refine Wp.getf (op_ix (by decide) ol_64 20 rfl) (okS HS 17 rfl rfl) (v := .ref 5) (congrArg va_rf (rS HS 17 0 rfl)) rfl ?_
  refine Wp.callI (op_ix (by decide) ol_64 21 rfl) (act_virt (c2 := 0) rfl (lk1 (kS HS 5 rfl)) rfl) rfl (Cl.enter (L := [.ref 5]) rfl ?_)
  refine Wp.blk (by decide) ol_26 0 1 (pc' := 1) (L' := [.ref 5]) (S' := [.ref 5]) (h' := h) rfl ?_
  refine Wp.getf (op_ix (by decide) ol_26 1 rfl) (okS HS 5 rfl rfl) (v := .int (AI h 5 5)) rfl rfl ?_
  refine Wp.ret (op_ix (by decide) ol_26 2 rfl) rfl ⟨_, rfl, ?_⟩
  refine Wp.blk (by decide) ol_64 22 1 (pc' := (if v9 < (AI h 5 5) then 44 else 135)) (L' := [.ref 17, .int v1, .int v2, .int v3, .int v4, .int v5, .int v6, .int v7, .int v8, .int v9, mk0, mk0]) (S' := []) (h' := h) rfl ?_
  refine Wp.br (fun c1 => ?_) (fun c1 => ?_)
  · replace K := K.1 c1
    refine Wp.blk (by decide) ol_64 23 8 (pc' := (if (v6 &&& ((((1 : Int32)) <<< (v9 &&& 31)))) = (0 : Int32) then 129 else 58)) (L' := [.ref 17, .int v1, .int v2, .int v3, .int v4, .int v5, .int v6, .int v7, .int v8, .int v9, .int (((1 : Int32)) <<< (v9 &&& 31)), mk0]) (S' := []) (h' := h) rfl ?_
    refine Wp.br (fun c2 => ?_) (fun c2 => ?_)
    · replace K := K.1 c2
      refine Wp.blk (by decide) ol_64 71 2 (pc' := 32) (L' := [.ref 17, .int v1, .int v2, .int v3, .int v4, .int v5, .int v6, .int v7, .int v8, .int (v9 + (1 : Int32)), .int (((1 : Int32)) <<< (v9 &&& 31)), mk0]) (S' := []) (h' := h) rfl ?_
      refine Wp.forget (L := [.ref 17, .int v1, .int v2, .int v3, .int v4, .int v5, .int v6, .int v7, .int v8, .int (v9 + (1 : Int32)), mk0, mk0]) (⟨Or.inr rfl, ⟨Or.inr rfl, ⟨Or.inr rfl, ⟨Or.inr rfl, ⟨Or.inr rfl, ⟨Or.inr rfl, ⟨Or.inr rfl, ⟨Or.inr rfl, ⟨Or.inr rfl, ⟨Or.inr rfl, ⟨Or.inl rfl, ⟨Or.inr rfl, trivial⟩⟩⟩⟩⟩⟩⟩⟩⟩⟩⟩⟩) ?_
      exact K
    · replace K := K.2 c2
      refine Wp.blk (by decide) ol_64 31 2 (pc' := (if v4 = (0 : Int32) then 63 else 81)) (L' := [.ref 17, .int v1, .int v2, .int v3, .int v4, .int v5, .int v6, .int v7, .int v8, .int v9, .int (((1 : Int32)) <<< (v9 &&& 31)), mk0]) (S' := []) (h' := h) rfl ?_
      refine Wp.br (fun c3 => ?_) (fun c3 => ?_)
      · replace K := K.1 c3
        refine Wp.blk (by decide) ol_64 33 10 (pc' := 75) (L' := [.ref 17, .int v1, .int v2, .int v3, .int v4, .int v5, .int v6, .int v7, .int v8, .int v9, .int (((1 : Int32)) <<< (v9 &&& 31)), mk0]) (S' := [.int (v5 - ((1 : Int32))), .int (1 : Int32), .int v3, .int (v2 ||| ((((1 : Int32)) <<< (v9 &&& 31)))), .int v1, .ref 17]) (h' := h) rfl ?_
        refine Wp.callI (op_ix (by decide) ol_64 43 rfl) (act_virt (c2 := 5) rfl (lk1 (kS HS 17 rfl)) rfl) rfl (K.mono ?_)
        rintro _ h4 ⟨x6, rfl, hs5, K⟩
        refine ⟨x6, rfl, ?_⟩
        refine Wp.blk (by decide) ol_64 44 1 (pc' := 96) (L' := [.ref 17, .int v1, .int v2, .int v3, .int v4, .int v5, .int v6, .int v7, .int v8, .int v9, .int (((1 : Int32)) <<< (v9 &&& 31)), mk0]) (S' := [.int x6]) (h' := h4) rfl ?_
        refine Wp.forget (L := [.ref 17, .int v1, .int v2, .int v3, .int v4, .int v5, .int v6, .int v7, .int v8, .int v9, mk0, mk0]) (⟨Or.inr rfl, ⟨Or.inr rfl, ⟨Or.inr rfl, ⟨Or.inr rfl, ⟨Or.inr rfl, ⟨Or.inr rfl, ⟨Or.inr rfl, ⟨Or.inr rfl, ⟨Or.inr rfl, ⟨Or.inr rfl, ⟨Or.inl rfl, ⟨Or.inr rfl, trivial⟩⟩⟩⟩⟩⟩⟩⟩⟩⟩⟩⟩) ?_
        exact K
      · replace K := K.2 c3
        refine Wp.blk (by decide) ol_64 45 10 (pc' := 93) (L' := [.ref 17, .int v1, .int v2, .int v3, .int v4, .int v5, .int v6, .int v7, .int v8, .int v9, .int (((1 : Int32)) <<< (v9 &&& 31)), mk0]) (S' := [.int (v5 - ((1 : Int32))), .int (0 : Int32), .int (v3 ||| ((((1 : Int32)) <<< (v9 &&& 31)))), .int v2, .int v1, .ref 17]) (h' := h) rfl ?_
        refine Wp.callI (op_ix (by decide) ol_64 55 rfl) (act_virt (c2 := 5) rfl (lk1 (kS HS 17 rfl)) rfl) rfl (K.mono ?_)
        rintro _ h7 ⟨x9, rfl, hs8, K⟩
        refine ⟨x9, rfl, ?_⟩
        refine Wp.forget (L := [.ref 17, .int v1, .int v2, .int v3, .int v4, .int v5, .int v6, .int v7, .int v8, .int v9, mk0, mk0]) (⟨Or.inr rfl, ⟨Or.inr rfl, ⟨Or.inr rfl, ⟨Or.inr rfl, ⟨Or.inr rfl, ⟨Or.inr rfl, ⟨Or.inr rfl, ⟨Or.inr rfl, ⟨Or.inr rfl, ⟨Or.inr rfl, ⟨Or.inl rfl, ⟨Or.inr rfl, trivial⟩⟩⟩⟩⟩⟩⟩⟩⟩⟩⟩⟩) ?_
        exact K
  · replace K := K.2 c1
    refine Wp.blk (by decide) ol_64 73 2 (pc' := 138) (L' := [.ref 17, .int v1, .int v2, .int v3, .int v4, .int v5, .int v6, .int v7, .int v8, .int v9, mk0, mk0]) (S' := [.int v4, .int v1]) (h' := h) rfl ?_
    refine Wp.callI (op_ix (by decide) ol_64 75 rfl) rfl rfl (K.mono ?_)
    rintro _ h10 ⟨x12, rfl, hs11, K⟩
    refine ⟨x12, rfl, ?_⟩
    refine Wp.blk (by decide) ol_64 76 1 (pc' := (if x12 = (0 : Int32) then 149 else 144)) (L' := [.ref 17, .int v1, .int v2, .int v3, .int v4, .int v5, .int v6, .int v7, .int v8, .int v9, mk0, mk0]) (S' := []) (h' := h10) rfl ?_
    refine Wp.br (fun c13 => ?_) (fun c13 => ?_)
    · replace K := K.1 c13
      refine Wp.blk (by decide) ol_64 79 3 (pc' := 154) (L' := [.ref 17, .int v1, .int v2, .int v3, .int v4, .int v5, .int v6, .int v7, .int v8, .int v9, mk0, mk0]) (S' := [.int (v5 * v8)]) (h' := h10) rfl ?_
      exact Wp.ret (op_ix (by decide) ol_64 82 rfl) rfl K
    · replace K := K.2 c13
      refine Wp.blk (by decide) ol_64 77 2 (pc' := 154) (L' := [.ref 17, .int v1, .int v2, .int v3, .int v4, .int v5, .int v6, .int v7, .int v8, .int v9, mk0, mk0]) (S' := [.int v7]) (h' := h10) rfl ?_
      exact Wp.ret (op_ix (by decide) ol_64 82 rfl) rfl K
/-- CutsOrFast$Search.worthByMoves at 96 -/
theorem g64_96 (d : Nat) (v1 : Int32) (v2 : Int32) (v3 : Int32) (v4 : Int32) (v5 : Int32) (v6 : Int32) (v7 : Int32) (v8 : Int32) (v9 : Int32) (s0 : Int32) (h : AH) (HS : Sh h)  (Q : Option Value → AH → Prop) (K : ((v4 = (0 : Int32) → Wp d 64 32 [.ref 17, .int v1, .int v2, .int v3, .int v4, .int v5, .int v6, .int (v7 + s0), .int (if v8 < s0 then s0 else v8), .int (v9 + (1 : Int32)), mk0, mk0] [] h Q) ∧ (¬ v4 = (0 : Int32) → Wp d 64 32 [.ref 17, .int v1, .int v2, .int v3, .int v4, .int v5, .int v6, .int (v7 + s0), .int (if s0 < v8 then s0 else v8), .int (v9 + (1 : Int32)), mk0, mk0] [] h Q))) : Wp d 64 96 [.ref 17, .int v1, .int v2, .int v3, .int v4, .int v5, .int v6, .int v7, .int v8, .int v9, mk0, mk0] [.int s0] h Q := by
  refine Wp.blk (by decide) ol_64 56 7 (pc' := (if v4 = (0 : Int32) then 110 else 120)) (L' := [.ref 17, .int v1, .int v2, .int v3, .int v4, .int v5, .int v6, .int (v7 + s0), .int v8, .int v9, mk0, .int s0]) (S' := []) (h' := h) rfl ?_
  refine Wp.br (fun c1 => ?_) (fun c1 => ?_)
  · replace K := K.1 c1
    refine Wp.blk (by decide) ol_64 63 2 (pc' := 114) (L' := [.ref 17, .int v1, .int v2, .int v3, .int v4, .int v5, .int v6, .int (v7 + s0), .int v8, .int v9, mk0, .int s0]) (S' := [.int s0, .int v8]) (h' := h) rfl ?_
    refine Wp.blk (by decide) ol_64 65 1 (pc' := 117) (L' := [.ref 17, .int v1, .int v2, .int v3, .int v4, .int v5, .int v6, .int (v7 + s0), .int v8, .int v9, mk0, .int s0]) (S' := [.int (if v8 < s0 then s0 else v8)]) (h' := h) rfl ?_
    refine Wp.blk (by decide) ol_64 66 1 (pc' := 127) (L' := [.ref 17, .int v1, .int v2, .int v3, .int v4, .int v5, .int v6, .int (v7 + s0), .int v8, .int v9, mk0, .int s0]) (S' := [.int (if v8 < s0 then s0 else v8)]) (h' := h) rfl ?_
    refine Wp.blk (by decide) ol_64 70 3 (pc' := 32) (L' := [.ref 17, .int v1, .int v2, .int v3, .int v4, .int v5, .int v6, .int (v7 + s0), .int (if v8 < s0 then s0 else v8), .int (v9 + (1 : Int32)), mk0, .int s0]) (S' := []) (h' := h) rfl ?_
    refine Wp.forget (L := [.ref 17, .int v1, .int v2, .int v3, .int v4, .int v5, .int v6, .int (v7 + s0), .int (if v8 < s0 then s0 else v8), .int (v9 + (1 : Int32)), mk0, mk0]) (⟨Or.inr rfl, ⟨Or.inr rfl, ⟨Or.inr rfl, ⟨Or.inr rfl, ⟨Or.inr rfl, ⟨Or.inr rfl, ⟨Or.inr rfl, ⟨Or.inr rfl, ⟨Or.inr rfl, ⟨Or.inr rfl, ⟨Or.inr rfl, ⟨Or.inl rfl, trivial⟩⟩⟩⟩⟩⟩⟩⟩⟩⟩⟩⟩) ?_
    exact K
  · replace K := K.2 c1
    refine Wp.blk (by decide) ol_64 67 2 (pc' := 124) (L' := [.ref 17, .int v1, .int v2, .int v3, .int v4, .int v5, .int v6, .int (v7 + s0), .int v8, .int v9, mk0, .int s0]) (S' := [.int s0, .int v8]) (h' := h) rfl ?_
    refine Wp.blk (by decide) ol_64 69 1 (pc' := 127) (L' := [.ref 17, .int v1, .int v2, .int v3, .int v4, .int v5, .int v6, .int (v7 + s0), .int v8, .int v9, mk0, .int s0]) (S' := [.int (if s0 < v8 then s0 else v8)]) (h' := h) rfl ?_
    refine Wp.blk (by decide) ol_64 70 3 (pc' := 32) (L' := [.ref 17, .int v1, .int v2, .int v3, .int v4, .int v5, .int v6, .int (v7 + s0), .int (if s0 < v8 then s0 else v8), .int (v9 + (1 : Int32)), mk0, .int s0]) (S' := []) (h' := h) rfl ?_
    refine Wp.forget (L := [.ref 17, .int v1, .int v2, .int v3, .int v4, .int v5, .int v6, .int (v7 + s0), .int (if s0 < v8 then s0 else v8), .int (v9 + (1 : Int32)), mk0, mk0]) (⟨Or.inr rfl, ⟨Or.inr rfl, ⟨Or.inr rfl, ⟨Or.inr rfl, ⟨Or.inr rfl, ⟨Or.inr rfl, ⟨Or.inr rfl, ⟨Or.inr rfl, ⟨Or.inr rfl, ⟨Or.inr rfl, ⟨Or.inr rfl, ⟨Or.inl rfl, trivial⟩⟩⟩⟩⟩⟩⟩⟩⟩⟩⟩⟩) ?_
    exact K
/-- CutsOrFast$Sets.<init> at 0 (LCutsOrFast$Net;LCutsOrFast$Search;)V -/
theorem g65_0 (d : Nat) (v0 : Nat) (v1 : Nat) (v2 : Nat) (h : AH)  (Q : Option Value → AH → Prop) (K : (okC 9 (AK h v0).1 = true ∧ 2 ≤ v0 ∧ Q none (stR ((stR h v0 0 (some v1))) v0 1 (some v2)))) : Wp d 65 0 [.ref v0, .ref v1, .ref v2] [] h Q := by
  refine Wp.blk (by decide) ol_65 0 4 (pc' := 6) (L' := [.ref v0, .ref v1, .ref v2]) (S' := [.ref v1, .ref v0]) (h' := h) rfl ?_
  obtain ⟨k1, K⟩ := K
  obtain ⟨b2, K⟩ := K
  refine Wp.putf (op_ix (by decide) ol_65 4 rfl) b2 k1 (h' := (stR h v0 0 (some v1))) rfl rfl ?_
  refine Wp.blk (by decide) ol_65 5 2 (pc' := 11) (L' := [.ref v0, .ref v1, .ref v2]) (S' := [.ref v2, .ref v0]) (h' := (stR h v0 0 (some v1))) rfl ?_
  refine Wp.putf (op_ix (by decide) ol_65 7 rfl) b2 k1 (h' := (stR ((stR h v0 0 (some v1))) v0 1 (some v2))) rfl rfl ?_
  exact Wp.ret (op_ix (by decide) ol_65 8 rfl) rfl K
/-- CutsOrFast$Sets.twoWays at 0 (II)I -/
theorem g66_0 (d : Nat) (v1 : Int32) (v2 : Int32) (h : AH) (HS : Sh h)  (Q : Option Value → AH → Prop) (K : (Cl d 35 [.ref 5] h (fun r h1 => ∃ x3 : Int32, r = some (.int x3) ∧ Sh h1 ∧ Wp (d + 1) 66 24 [.ref 20, .int v1, mk0, .int (((((((1 : Int32)) <<< (((AI h 5 5)) &&& 31))) - ((1 : Int32)))) &&& ((v2 ^^^ ((-1 : Int32))))), .int x3, .int (0 : Int32), mk0] [] h1 Q))) : Wp (d + 1) 66 0 [.ref 20, .int v1, .int v2, mk0, mk0, mk0, mk0] [] h Q := by
  refine Wp.blk (by decide) ol_66 0 1 (pc' := 1) (L' := [.ref 20, .int v1, .int v2, mk0, mk0, mk0, mk0]) (S' := [.ref 20]) (h' := h) rfl ?_
  refine Wp.getf (op_ix (by decide) ol_66 1 rfl) (okS HS 20 rfl rfl) (v := .ref 5) (congrArg va_rf (rS HS 20 0 rfl)) rfl ?_
  refine Wp.callI (op_ix (by decide) ol_66 2 rfl) (act_virt (c2 := 0) rfl (lk1 (kS HS 5 rfl)) rfl) rfl (Cl.enter (L := [.ref 5]) rfl ?_)
  refine Wp.blk (by decide) ol_27 0 2 (pc' := 2) (L' := [.ref 5]) (S' := [.ref 5, .int (1 : Int32)]) (h' := h) rfl ?_
  refine Wp.getf (op_ix (by decide) ol_27 2 rfl) (okS HS 5 rfl rfl) (v := .int (AI h 5 5)) rfl rfl ?_
  refine Wp.blk (by decide) ol_27 3 3 (pc' := 8) (L' := [.ref 5]) (S' := [.int (((((1 : Int32)) <<< (((AI h 5 5)) &&& 31))) - ((1 : Int32)))]) (h' := h) rfl ?_
  refine Wp.ret (op_ix (by decide) ol_27 6 rfl) rfl ⟨_, rfl, ?_⟩
  refine Wp.blk (by decide) ol_66 3 6 (pc' := 13) (L' := [.ref 20, .int v1, .int v2, .int (((((((1 : Int32)) <<< (((AI h 5 5)) &&& 31))) - ((1 : Int32)))) &&& ((v2 ^^^ ((-1 : Int32))))), mk0, mk0, mk0]) (S' := [.ref 20]) (h' := h) rfl ?_
  refine Wp.getf (op_ix (by decide) ol_66 9 rfl) (okS HS 20 rfl rfl) (v := .ref 5) (congrArg va_rf (rS HS 20 0 rfl)) rfl ?_
  refine Wp.callI (op_ix (by decide) ol_66 10 rfl) (act_virt (c2 := 0) rfl (lk1 (kS HS 5 rfl)) rfl) rfl (K.mono ?_)
  rintro _ h1 ⟨x3, rfl, hs2, K⟩
  refine ⟨x3, rfl, ?_⟩
  refine Wp.blk (by decide) ol_66 11 3 (pc' := 24) (L' := [.ref 20, .int v1, .int v2, .int (((((((1 : Int32)) <<< (((AI h 5 5)) &&& 31))) - ((1 : Int32)))) &&& ((v2 ^^^ ((-1 : Int32))))), .int x3, .int (0 : Int32), mk0]) (S' := []) (h' := h1) rfl ?_
  refine Wp.forget (L := [.ref 20, .int v1, mk0, .int (((((((1 : Int32)) <<< (((AI h 5 5)) &&& 31))) - ((1 : Int32)))) &&& ((v2 ^^^ ((-1 : Int32))))), .int x3, .int (0 : Int32), mk0]) (⟨Or.inr rfl, ⟨Or.inr rfl, ⟨Or.inl rfl, ⟨Or.inr rfl, ⟨Or.inr rfl, ⟨Or.inr rfl, ⟨Or.inr rfl, trivial⟩⟩⟩⟩⟩⟩⟩) ?_
  exact K
/-- CutsOrFast$Sets.twoWays at 24 -/
theorem g66_24 (d : Nat) (v1 : Int32) (v3 : Int32) (v4 : Int32) (v5 : Int32) (h : AH) (HS : Sh h)  (Q : Option Value → AH → Prop) (K : ((v3 < v5 → Q (some (.int (-1 : Int32))) h) ∧ (¬ v3 < v5 → (((v5 &&& ((v3 ^^^ ((-1 : Int32))))) = (0 : Int32) → Wp d 66 44 [.ref 20, .int v1, mk0, .int v3, .int v4, .int v5, mk0] [.int (1 : Int32)] h Q) ∧ (¬ (v5 &&& ((v3 ^^^ ((-1 : Int32))))) = (0 : Int32) → Wp d 66 44 [.ref 20, .int v1, mk0, .int v3, .int v4, .int v5, mk0] [.int (0 : Int32)] h Q))))) : Wp d 66 24 [.ref 20, .int v1, mk0, .int v3, .int v4, .int v5, mk0] [] h Q := by
  refine Wp.blk (by decide) ol_66 14 3 (pc' := (if v3 < v5 then 94 else 30)) (L' := [.ref 20, .int v1, mk0, .int v3, .int v4, .int v5, mk0]) (S' := []) (h' := h) rfl ?_
  refine Wp.br (fun c1 => ?_) (fun c1 => ?_)
  · replace K := K.1 c1
    refine Wp.blk (by decide) ol_66 51 1 (pc' := 95) (L' := [.ref 20, .int v1, mk0, .int v3, .int v4, .int v5, mk0]) (S' := [.int (-1 : Int32)]) (h' := h) rfl ?_
    exact Wp.ret (op_ix (by decide) ol_66 52 rfl) rfl K
  · replace K := K.2 c1
    refine Wp.blk (by decide) ol_66 17 6 (pc' := (if (v5 &&& ((v3 ^^^ ((-1 : Int32))))) = (0 : Int32) then 39 else 43)) (L' := [.ref 20, .int v1, mk0, .int v3, .int v4, .int v5, mk0]) (S' := []) (h' := h) rfl ?_
    refine Wp.br (fun c2 => ?_) (fun c2 => ?_)
    · replace K := K.1 c2
      refine Wp.blk (by decide) ol_66 23 2 (pc' := 44) (L' := [.ref 20, .int v1, mk0, .int v3, .int v4, .int v5, mk0]) (S' := [.int (1 : Int32)]) (h' := h) rfl ?_
      exact K
    · replace K := K.2 c2
      refine Wp.blk (by decide) ol_66 25 1 (pc' := 44) (L' := [.ref 20, .int v1, mk0, .int v3, .int v4, .int v5, mk0]) (S' := [.int (0 : Int32)]) (h' := h) rfl ?_
      exact K
/-- CutsOrFast$Sets.twoWays at 44 -/
theorem g66_44 (d : Nat) (v1 : Int32) (v3 : Int32) (v4 : Int32) (v5 : Int32) (s0 : Int32) (h : AH) (HS : Sh h)  (Q : Option Value → AH → Prop) (K : ((s0 = (0 : Int32) → Wp (d + 2) 66 24 [.ref 20, .int v1, mk0, .int v3, .int v4, .int (v5 + (1 : Int32)), mk0] [] h Q) ∧ (¬ s0 = (0 : Int32) → (((v4 &&& ((((atv h 10 v5)) ^^^ ((-1 : Int32))))) = (0 : Int32) → (((v4 &&& ((((atv h 10 ((((v3 &&& ((v5 ^^^ ((-1 : Int32)))))) ||| v1)))) ^^^ ((-1 : Int32))))) = (0 : Int32) → Q (some (.int v5)) h) ∧ (¬ (v4 &&& ((((atv h 10 ((((v3 &&& ((v5 ^^^ ((-1 : Int32)))))) ||| v1)))) ^^^ ((-1 : Int32))))) = (0 : Int32) → Wp (d + 2) 66 24 [.ref 20, .int v1, mk0, .int v3, .int v4, .int (v5 + (1 : Int32)), mk0] [] h Q))) ∧ (¬ (v4 &&& ((((atv h 10 v5)) ^^^ ((-1 : Int32))))) = (0 : Int32) → Wp (d + 2) 66 24 [.ref 20, .int v1, mk0, .int v3, .int v4, .int (v5 + (1 : Int32)), mk0] [] h Q))))) : Wp (d + 2) 66 44 [.ref 20, .int v1, mk0, .int v3, .int v4, .int v5, mk0] [.int s0] h Q := by
  refine Wp.blk (by decide) ol_66 26 3 (pc' := (if s0 = (0 : Int32) then 88 else 51)) (L' := [.ref 20, .int v1, mk0, .int v3, .int v4, .int v5, .int s0]) (S' := []) (h' := h) rfl ?_
  refine Wp.br (fun c1 => ?_) (fun c1 => ?_)
  · replace K := K.1 c1
    refine Wp.blk (by decide) ol_66 49 2 (pc' := 24) (L' := [.ref 20, .int v1, mk0, .int v3, .int v4, .int (v5 + (1 : Int32)), .int s0]) (S' := []) (h' := h) rfl ?_
    refine Wp.forget (L := [.ref 20, .int v1, mk0, .int v3, .int v4, .int (v5 + (1 : Int32)), mk0]) (⟨Or.inr rfl, ⟨Or.inr rfl, ⟨Or.inr rfl, ⟨Or.inr rfl, ⟨Or.inr rfl, ⟨Or.inr rfl, ⟨Or.inl rfl, trivial⟩⟩⟩⟩⟩⟩⟩) ?_
    exact K
  · replace K := K.2 c1
    refine Wp.blk (by decide) ol_66 29 1 (pc' := 52) (L' := [.ref 20, .int v1, mk0, .int v3, .int v4, .int v5, .int s0]) (S' := [.ref 20]) (h' := h) rfl ?_
    refine Wp.getf (op_ix (by decide) ol_66 30 rfl) (okS HS 20 rfl rfl) (v := .ref 5) (congrArg va_rf (rS HS 20 0 rfl)) rfl ?_
    refine Wp.blk (by decide) ol_66 31 2 (pc' := 59) (L' := [.ref 20, .int v1, mk0, .int v3, .int v4, .int v5, .int s0]) (S' := [.int v4, .int v5, .ref 5]) (h' := h) rfl ?_
    refine Wp.callI (op_ix (by decide) ol_66 33 rfl) (act_virt (c2 := 2) rfl (lk1 (kS HS 5 rfl)) rfl) rfl (Cl.enter (L := [.ref 5, .int v5, .int v4]) rfl ?_)
    refine Wp.blk (by decide) ol_36 0 2 (pc' := 2) (L' := [.ref 5, .int v5, .int v4]) (S' := [.ref 5, .int v4]) (h' := h) rfl ?_
    refine Wp.getf (op_ix (by decide) ol_36 2 rfl) (okS HS 5 rfl rfl) (v := .ref 10) (congrArg va_rf (rS HS 5 4 rfl)) rfl ?_
    refine Wp.blk (by decide) ol_36 3 1 (pc' := 6) (L' := [.ref 5, .int v5, .int v4]) (S' := [.int v5, .ref 10, .int v4]) (h' := h) rfl ?_
    refine Wp.callI (op_ix (by decide) ol_36 4 rfl) rfl rfl (sp_at (kS HS 10 rfl) (nS HS 10 rfl) ?_)
    refine ⟨_, rfl, ?_⟩
    refine Wp.blk (by decide) ol_36 5 4 (pc' := (if (v4 &&& ((((atv h 10 v5)) ^^^ ((-1 : Int32))))) = (0 : Int32) then 15 else 19)) (L' := [.ref 5, .int v5, .int v4]) (S' := []) (h' := h) rfl ?_
    refine Wp.br (fun c2 => ?_) (fun c2 => ?_)
    · replace K := K.1 c2
      refine Wp.blk (by decide) ol_36 9 2 (pc' := 20) (L' := [.ref 5, .int v5, .int v4]) (S' := [.int (1 : Int32)]) (h' := h) rfl ?_
      refine Wp.ret (op_ix (by decide) ol_36 12 rfl) rfl ⟨_, rfl, ?_⟩
      refine Wp.blk (by decide) ol_66 34 1 (pc' := (if (1 : Int32) = (0 : Int32) then 88 else 65)) (L' := [.ref 20, .int v1, mk0, .int v3, .int v4, .int v5, .int s0]) (S' := []) (h' := h) rfl ?_
      refine Wp.br (fun hc => absurd hc (by decide)) (fun _ => ?_)
      refine Wp.blk (by decide) ol_66 35 1 (pc' := 66) (L' := [.ref 20, .int v1, mk0, .int v3, .int v4, .int v5, .int s0]) (S' := [.ref 20]) (h' := h) rfl ?_
      refine Wp.getf (op_ix (by decide) ol_66 36 rfl) (okS HS 20 rfl rfl) (v := .ref 5) (congrArg va_rf (rS HS 20 0 rfl)) rfl ?_
      refine Wp.blk (by decide) ol_66 37 8 (pc' := 79) (L' := [.ref 20, .int v1, mk0, .int v3, .int v4, .int v5, .int s0]) (S' := [.int v4, .int (((v3 &&& ((v5 ^^^ ((-1 : Int32)))))) ||| v1), .ref 5]) (h' := h) rfl ?_
      refine Wp.callI (op_ix (by decide) ol_66 45 rfl) (act_virt (c2 := 2) rfl (lk1 (kS HS 5 rfl)) rfl) rfl (Cl.enter (L := [.ref 5, .int (((v3 &&& ((v5 ^^^ ((-1 : Int32)))))) ||| v1), .int v4]) rfl ?_)
      refine Wp.blk (by decide) ol_36 0 2 (pc' := 2) (L' := [.ref 5, .int (((v3 &&& ((v5 ^^^ ((-1 : Int32)))))) ||| v1), .int v4]) (S' := [.ref 5, .int v4]) (h' := h) rfl ?_
      refine Wp.getf (op_ix (by decide) ol_36 2 rfl) (okS HS 5 rfl rfl) (v := .ref 10) (congrArg va_rf (rS HS 5 4 rfl)) rfl ?_
      refine Wp.blk (by decide) ol_36 3 1 (pc' := 6) (L' := [.ref 5, .int (((v3 &&& ((v5 ^^^ ((-1 : Int32)))))) ||| v1), .int v4]) (S' := [.int (((v3 &&& ((v5 ^^^ ((-1 : Int32)))))) ||| v1), .ref 10, .int v4]) (h' := h) rfl ?_
      refine Wp.callI (op_ix (by decide) ol_36 4 rfl) rfl rfl (sp_at (kS HS 10 rfl) (nS HS 10 rfl) ?_)
      refine ⟨_, rfl, ?_⟩
      refine Wp.blk (by decide) ol_36 5 4 (pc' := (if (v4 &&& ((((atv h 10 ((((v3 &&& ((v5 ^^^ ((-1 : Int32)))))) ||| v1)))) ^^^ ((-1 : Int32))))) = (0 : Int32) then 15 else 19)) (L' := [.ref 5, .int (((v3 &&& ((v5 ^^^ ((-1 : Int32)))))) ||| v1), .int v4]) (S' := []) (h' := h) rfl ?_
      refine Wp.br (fun c3 => ?_) (fun c3 => ?_)
      · replace K := K.1 c3
        refine Wp.blk (by decide) ol_36 9 2 (pc' := 20) (L' := [.ref 5, .int (((v3 &&& ((v5 ^^^ ((-1 : Int32)))))) ||| v1), .int v4]) (S' := [.int (1 : Int32)]) (h' := h) rfl ?_
        refine Wp.ret (op_ix (by decide) ol_36 12 rfl) rfl ⟨_, rfl, ?_⟩
        refine Wp.blk (by decide) ol_66 46 1 (pc' := (if (1 : Int32) = (0 : Int32) then 88 else 85)) (L' := [.ref 20, .int v1, mk0, .int v3, .int v4, .int v5, .int s0]) (S' := []) (h' := h) rfl ?_
        refine Wp.br (fun hc => absurd hc (by decide)) (fun _ => ?_)
        refine Wp.blk (by decide) ol_66 47 1 (pc' := 87) (L' := [.ref 20, .int v1, mk0, .int v3, .int v4, .int v5, .int s0]) (S' := [.int v5]) (h' := h) rfl ?_
        exact Wp.ret (op_ix (by decide) ol_66 48 rfl) rfl K
      · replace K := K.2 c3
        refine Wp.blk (by decide) ol_36 11 1 (pc' := 20) (L' := [.ref 5, .int (((v3 &&& ((v5 ^^^ ((-1 : Int32)))))) ||| v1), .int v4]) (S' := [.int (0 : Int32)]) (h' := h) rfl ?_
        refine Wp.ret (op_ix (by decide) ol_36 12 rfl) rfl ⟨_, rfl, ?_⟩
        refine Wp.blk (by decide) ol_66 46 1 (pc' := (if (0 : Int32) = (0 : Int32) then 88 else 85)) (L' := [.ref 20, .int v1, mk0, .int v3, .int v4, .int v5, .int s0]) (S' := []) (h' := h) rfl ?_
        refine Wp.br (fun _ => ?_) (fun hc => absurd (by decide) hc)
        refine Wp.blk (by decide) ol_66 49 2 (pc' := 24) (L' := [.ref 20, .int v1, mk0, .int v3, .int v4, .int (v5 + (1 : Int32)), .int s0]) (S' := []) (h' := h) rfl ?_
        refine Wp.forget (L := [.ref 20, .int v1, mk0, .int v3, .int v4, .int (v5 + (1 : Int32)), mk0]) (⟨Or.inr rfl, ⟨Or.inr rfl, ⟨Or.inr rfl, ⟨Or.inr rfl, ⟨Or.inr rfl, ⟨Or.inr rfl, ⟨Or.inl rfl, trivial⟩⟩⟩⟩⟩⟩⟩) ?_
        exact K
    · replace K := K.2 c2
      refine Wp.blk (by decide) ol_36 11 1 (pc' := 20) (L' := [.ref 5, .int v5, .int v4]) (S' := [.int (0 : Int32)]) (h' := h) rfl ?_
      refine Wp.ret (op_ix (by decide) ol_36 12 rfl) rfl ⟨_, rfl, ?_⟩
      refine Wp.blk (by decide) ol_66 34 1 (pc' := (if (0 : Int32) = (0 : Int32) then 88 else 65)) (L' := [.ref 20, .int v1, mk0, .int v3, .int v4, .int v5, .int s0]) (S' := []) (h' := h) rfl ?_
      refine Wp.br (fun _ => ?_) (fun hc => absurd (by decide) hc)
      refine Wp.blk (by decide) ol_66 49 2 (pc' := 24) (L' := [.ref 20, .int v1, mk0, .int v3, .int v4, .int (v5 + (1 : Int32)), .int s0]) (S' := []) (h' := h) rfl ?_
      refine Wp.forget (L := [.ref 20, .int v1, mk0, .int v3, .int v4, .int (v5 + (1 : Int32)), mk0]) (⟨Or.inr rfl, ⟨Or.inr rfl, ⟨Or.inr rfl, ⟨Or.inr rfl, ⟨Or.inr rfl, ⟨Or.inr rfl, ⟨Or.inl rfl, trivial⟩⟩⟩⟩⟩⟩⟩) ?_
      exact K
/-- CutsOrFast$Sets.fewestCuts at 0 (II)I -/
theorem g67_0 (d : Nat) (v1 : Int32) (v2 : Int32) (h : AH) (HS : Sh h)  (Q : Option Value → AH → Prop) (K : Wp (d + 1) 67 29 [.ref 20, mk0, mk0, .int (((((((1 : Int32)) <<< (((AI h 5 5)) &&& 31))) - ((1 : Int32)))) &&& ((v2 ^^^ ((-1 : Int32))))), .int (((((((((1 : Int32)) <<< (((AI h 5 5)) &&& 31))) - ((1 : Int32)))) &&& ((v2 ^^^ ((-1 : Int32)))))) &&& ((v1 ^^^ ((-1 : Int32))))), .int (-1 : Int32), .int (10 : Int32), .int (0 : Int32), mk0] [] h Q) : Wp (d + 1) 67 0 [.ref 20, .int v1, .int v2, mk0, mk0, mk0, mk0, mk0, mk0] [] h Q := by
  refine Wp.blk (by decide) ol_67 0 1 (pc' := 1) (L' := [.ref 20, .int v1, .int v2, mk0, mk0, mk0, mk0, mk0, mk0]) (S' := [.ref 20]) (h' := h) rfl ?_
  refine Wp.getf (op_ix (by decide) ol_67 1 rfl) (okS HS 20 rfl rfl) (v := .ref 5) (congrArg va_rf (rS HS 20 0 rfl)) rfl ?_
  refine Wp.callI (op_ix (by decide) ol_67 2 rfl) (act_virt (c2 := 0) rfl (lk1 (kS HS 5 rfl)) rfl) rfl (Cl.enter (L := [.ref 5]) rfl ?_)
  refine Wp.blk (by decide) ol_27 0 2 (pc' := 2) (L' := [.ref 5]) (S' := [.ref 5, .int (1 : Int32)]) (h' := h) rfl ?_
  refine Wp.getf (op_ix (by decide) ol_27 2 rfl) (okS HS 5 rfl rfl) (v := .int (AI h 5 5)) rfl rfl ?_
  refine Wp.blk (by decide) ol_27 3 3 (pc' := 8) (L' := [.ref 5]) (S' := [.int (((((1 : Int32)) <<< (((AI h 5 5)) &&& 31))) - ((1 : Int32)))]) (h' := h) rfl ?_
  refine Wp.ret (op_ix (by decide) ol_27 6 rfl) rfl ⟨_, rfl, ?_⟩
  refine Wp.blk (by decide) ol_67 3 17 (pc' := 29) (L' := [.ref 20, .int v1, .int v2, .int (((((((1 : Int32)) <<< (((AI h 5 5)) &&& 31))) - ((1 : Int32)))) &&& ((v2 ^^^ ((-1 : Int32))))), .int (((((((((1 : Int32)) <<< (((AI h 5 5)) &&& 31))) - ((1 : Int32)))) &&& ((v2 ^^^ ((-1 : Int32)))))) &&& ((v1 ^^^ ((-1 : Int32))))), .int (-1 : Int32), .int (10 : Int32), .int (0 : Int32), mk0]) (S' := []) (h' := h) rfl ?_
  refine Wp.forget (L := [.ref 20, mk0, mk0, .int (((((((1 : Int32)) <<< (((AI h 5 5)) &&& 31))) - ((1 : Int32)))) &&& ((v2 ^^^ ((-1 : Int32))))), .int (((((((((1 : Int32)) <<< (((AI h 5 5)) &&& 31))) - ((1 : Int32)))) &&& ((v2 ^^^ ((-1 : Int32)))))) &&& ((v1 ^^^ ((-1 : Int32))))), .int (-1 : Int32), .int (10 : Int32), .int (0 : Int32), mk0]) (⟨Or.inr rfl, ⟨Or.inl rfl, ⟨Or.inl rfl, ⟨Or.inr rfl, ⟨Or.inr rfl, ⟨Or.inr rfl, ⟨Or.inr rfl, ⟨Or.inr rfl, ⟨Or.inr rfl, trivial⟩⟩⟩⟩⟩⟩⟩⟩⟩) ?_
  exact K
/-- CutsOrFast$Sets.fewestCuts at 29 -/
theorem g67_29 (d : Nat) (v3 : Int32) (v4 : Int32) (v5 : Int32) (v6 : Int32) (v7 : Int32) (h : AH) (HS : Sh h)  (Q : Option Value → AH → Prop) (K : ((v4 < v7 → Q (some (.int v5)) h) ∧ (¬ v4 < v7 → (Cl (d + 1) 199 [.int v7] h (fun r h2 => ∃ x4 : Int32, r = some (.int x4) ∧ Sh h2 ∧ (((v7 &&& ((v4 ^^^ ((-1 : Int32))))) = (0 : Int32) → ((x4 < v6 → (((((atv h2 10 ((v3 &&& ((v7 ^^^ ((-1 : Int32)))))))) &&& ((((1 : Int32)) <<< (((AI h2 5 7)) &&& 31)))) = (0 : Int32) → Wp (d + 2) 67 29 [.ref 20, mk0, mk0, .int v3, .int v4, .int v7, .int x4, .int (v7 + (1 : Int32)), mk0] [] h2 Q) ∧ (¬ (((atv h2 10 ((v3 &&& ((v7 ^^^ ((-1 : Int32)))))))) &&& ((((1 : Int32)) <<< (((AI h2 5 7)) &&& 31)))) = (0 : Int32) → Wp (d + 2) 67 29 [.ref 20, mk0, mk0, .int v3, .int v4, .int v5, .int v6, .int (v7 + (1 : Int32)), mk0] [] h2 Q))) ∧ (¬ x4 < v6 → Wp (d + 2) 67 29 [.ref 20, mk0, mk0, .int v3, .int v4, .int v5, .int v6, .int (v7 + (1 : Int32)), mk0] [] h2 Q))) ∧ (¬ (v7 &&& ((v4 ^^^ ((-1 : Int32))))) = (0 : Int32) → Wp (d + 2) 67 29 [.ref 20, mk0, mk0, .int v3, .int v4, .int v5, .int v6, .int (v7 + (1 : Int32)), mk0] [] h2 Q))))))) : Wp (d + 2) 67 29 [.ref 20, mk0, mk0, .int v3, .int v4, .int v5, .int v6, .int v7, mk0] [] h Q := by
  refine Wp.blk (by decide) ol_67 20 3 (pc' := (if v4 < v7 then 90 else 36)) (L' := [.ref 20, mk0, mk0, .int v3, .int v4, .int v5, .int v6, .int v7, mk0]) (S' := []) (h' := h) rfl ?_
  refine Wp.br (fun c1 => ?_) (fun c1 => ?_)
  · replace K := K.1 c1
    refine Wp.blk (by decide) ol_67 50 1 (pc' := 92) (L' := [.ref 20, mk0, mk0, .int v3, .int v4, .int v5, .int v6, .int v7, mk0]) (S' := [.int v5]) (h' := h) rfl ?_
    exact Wp.ret (op_ix (by decide) ol_67 51 rfl) rfl K
  · replace K := K.2 c1
    refine Wp.blk (by decide) ol_67 23 1 (pc' := 38) (L' := [.ref 20, mk0, mk0, .int v3, .int v4, .int v5, .int v6, .int v7, mk0]) (S' := [.int v7]) (h' := h) rfl ?_
    refine Wp.callI (op_ix (by decide) ol_67 24 rfl) rfl rfl (K.mono ?_)
    rintro _ h2 ⟨x4, rfl, hs3, K⟩
    refine ⟨x4, rfl, ?_⟩
    refine Wp.blk (by decide) ol_67 25 7 (pc' := (if (v7 &&& ((v4 ^^^ ((-1 : Int32))))) = (0 : Int32) then 53 else 84)) (L' := [.ref 20, mk0, mk0, .int v3, .int v4, .int v5, .int v6, .int v7, .int x4]) (S' := []) (h' := h2) rfl ?_
    refine Wp.br (fun c5 => ?_) (fun c5 => ?_)
    · replace K := K.1 c5
      refine Wp.blk (by decide) ol_67 32 3 (pc' := (if x4 < v6 then 60 else 84)) (L' := [.ref 20, mk0, mk0, .int v3, .int v4, .int v5, .int v6, .int v7, .int x4]) (S' := []) (h' := h2) rfl ?_
      refine Wp.br (fun c6 => ?_) (fun c6 => ?_)
      · replace K := K.1 c6
        refine Wp.blk (by decide) ol_67 35 1 (pc' := 61) (L' := [.ref 20, mk0, mk0, .int v3, .int v4, .int v5, .int v6, .int v7, .int x4]) (S' := [.ref 20]) (h' := h2) rfl ?_
        refine Wp.getf (op_ix (by decide) ol_67 36 rfl) (okS hs3 20 rfl rfl) (v := .ref 5) (congrArg va_rf (rS hs3 20 0 rfl)) rfl ?_
        refine Wp.blk (by decide) ol_67 37 5 (pc' := 70) (L' := [.ref 20, mk0, mk0, .int v3, .int v4, .int v5, .int v6, .int v7, .int x4]) (S' := [.int (v3 &&& ((v7 ^^^ ((-1 : Int32))))), .ref 5]) (h' := h2) rfl ?_
        refine Wp.callI (op_ix (by decide) ol_67 42 rfl) (act_virt (c2 := 1) rfl (lk1 (kS hs3 5 rfl)) rfl) rfl (Cl.enter (L := [.ref 5, .int (v3 &&& ((v7 ^^^ ((-1 : Int32)))))]) rfl ?_)
        refine Wp.blk (by decide) ol_34 0 1 (pc' := 1) (L' := [.ref 5, .int (v3 &&& ((v7 ^^^ ((-1 : Int32)))))]) (S' := [.ref 5]) (h' := h2) rfl ?_
        refine Wp.getf (op_ix (by decide) ol_34 1 rfl) (okS hs3 5 rfl rfl) (v := .ref 10) (congrArg va_rf (rS hs3 5 4 rfl)) rfl ?_
        refine Wp.blk (by decide) ol_34 2 1 (pc' := 5) (L' := [.ref 5, .int (v3 &&& ((v7 ^^^ ((-1 : Int32)))))]) (S' := [.int (v3 &&& ((v7 ^^^ ((-1 : Int32))))), .ref 10]) (h' := h2) rfl ?_
        refine Wp.callI (op_ix (by decide) ol_34 3 rfl) rfl rfl (sp_at (kS hs3 10 rfl) (nS hs3 10 rfl) ?_)
        refine ⟨_, rfl, ?_⟩
        refine Wp.blk (by decide) ol_34 4 2 (pc' := 10) (L' := [.ref 5, .int (v3 &&& ((v7 ^^^ ((-1 : Int32)))))]) (S' := [.ref 5, .int (1 : Int32), .int (atv h2 10 ((v3 &&& ((v7 ^^^ ((-1 : Int32)))))))]) (h' := h2) rfl ?_
        refine Wp.getf (op_ix (by decide) ol_34 6 rfl) (okS hs3 5 rfl rfl) (v := .int (AI h2 5 7)) rfl rfl ?_
        refine Wp.blk (by decide) ol_34 7 3 (pc' := (if (((atv h2 10 ((v3 &&& ((v7 ^^^ ((-1 : Int32)))))))) &&& ((((1 : Int32)) <<< (((AI h2 5 7)) &&& 31)))) = (0 : Int32) then 22 else 18)) (L' := [.ref 5, .int (v3 &&& ((v7 ^^^ ((-1 : Int32)))))]) (S' := []) (h' := h2) rfl ?_
        refine Wp.br (fun c7 => ?_) (fun c7 => ?_)
        · replace K := K.1 c7
          refine Wp.blk (by decide) ol_34 12 1 (pc' := 23) (L' := [.ref 5, .int (v3 &&& ((v7 ^^^ ((-1 : Int32)))))]) (S' := [.int (0 : Int32)]) (h' := h2) rfl ?_
          refine Wp.ret (op_ix (by decide) ol_34 13 rfl) rfl ⟨_, rfl, ?_⟩
          refine Wp.blk (by decide) ol_67 43 1 (pc' := (if (0 : Int32) = (0 : Int32) then 76 else 84)) (L' := [.ref 20, mk0, mk0, .int v3, .int v4, .int v5, .int v6, .int v7, .int x4]) (S' := []) (h' := h2) rfl ?_
          refine Wp.br (fun _ => ?_) (fun hc => absurd (by decide) hc)
          refine Wp.blk (by decide) ol_67 44 6 (pc' := 29) (L' := [.ref 20, mk0, mk0, .int v3, .int v4, .int v7, .int x4, .int (v7 + (1 : Int32)), .int x4]) (S' := []) (h' := h2) rfl ?_
          refine Wp.forget (L := [.ref 20, mk0, mk0, .int v3, .int v4, .int v7, .int x4, .int (v7 + (1 : Int32)), mk0]) (⟨Or.inr rfl, ⟨Or.inr rfl, ⟨Or.inr rfl, ⟨Or.inr rfl, ⟨Or.inr rfl, ⟨Or.inr rfl, ⟨Or.inr rfl, ⟨Or.inr rfl, ⟨Or.inl rfl, trivial⟩⟩⟩⟩⟩⟩⟩⟩⟩) ?_
          exact K
        · replace K := K.2 c7
          refine Wp.blk (by decide) ol_34 10 2 (pc' := 23) (L' := [.ref 5, .int (v3 &&& ((v7 ^^^ ((-1 : Int32)))))]) (S' := [.int (1 : Int32)]) (h' := h2) rfl ?_
          refine Wp.ret (op_ix (by decide) ol_34 13 rfl) rfl ⟨_, rfl, ?_⟩
          refine Wp.blk (by decide) ol_67 43 1 (pc' := (if (1 : Int32) = (0 : Int32) then 76 else 84)) (L' := [.ref 20, mk0, mk0, .int v3, .int v4, .int v5, .int v6, .int v7, .int x4]) (S' := []) (h' := h2) rfl ?_
          refine Wp.br (fun hc => absurd hc (by decide)) (fun _ => ?_)
          refine Wp.blk (by decide) ol_67 48 2 (pc' := 29) (L' := [.ref 20, mk0, mk0, .int v3, .int v4, .int v5, .int v6, .int (v7 + (1 : Int32)), .int x4]) (S' := []) (h' := h2) rfl ?_
          refine Wp.forget (L := [.ref 20, mk0, mk0, .int v3, .int v4, .int v5, .int v6, .int (v7 + (1 : Int32)), mk0]) (⟨Or.inr rfl, ⟨Or.inr rfl, ⟨Or.inr rfl, ⟨Or.inr rfl, ⟨Or.inr rfl, ⟨Or.inr rfl, ⟨Or.inr rfl, ⟨Or.inr rfl, ⟨Or.inl rfl, trivial⟩⟩⟩⟩⟩⟩⟩⟩⟩) ?_
          exact K
      · replace K := K.2 c6
        refine Wp.blk (by decide) ol_67 48 2 (pc' := 29) (L' := [.ref 20, mk0, mk0, .int v3, .int v4, .int v5, .int v6, .int (v7 + (1 : Int32)), .int x4]) (S' := []) (h' := h2) rfl ?_
        refine Wp.forget (L := [.ref 20, mk0, mk0, .int v3, .int v4, .int v5, .int v6, .int (v7 + (1 : Int32)), mk0]) (⟨Or.inr rfl, ⟨Or.inr rfl, ⟨Or.inr rfl, ⟨Or.inr rfl, ⟨Or.inr rfl, ⟨Or.inr rfl, ⟨Or.inr rfl, ⟨Or.inr rfl, ⟨Or.inl rfl, trivial⟩⟩⟩⟩⟩⟩⟩⟩⟩) ?_
        exact K
    · replace K := K.2 c5
      refine Wp.blk (by decide) ol_67 48 2 (pc' := 29) (L' := [.ref 20, mk0, mk0, .int v3, .int v4, .int v5, .int v6, .int (v7 + (1 : Int32)), .int x4]) (S' := []) (h' := h2) rfl ?_
      refine Wp.forget (L := [.ref 20, mk0, mk0, .int v3, .int v4, .int v5, .int v6, .int (v7 + (1 : Int32)), mk0]) (⟨Or.inr rfl, ⟨Or.inr rfl, ⟨Or.inr rfl, ⟨Or.inr rfl, ⟨Or.inr rfl, ⟨Or.inr rfl, ⟨Or.inr rfl, ⟨Or.inr rfl, ⟨Or.inl rfl, trivial⟩⟩⟩⟩⟩⟩⟩⟩⟩) ?_
      exact K
/-- CutsOrFast$Sets.cheapest at 0 (II)I -/
theorem g68_0 (d : Nat) (v1 : Int32) (v2 : Int32) (h : AH) (HS : Sh h)  (Q : Option Value → AH → Prop) (K : (Cl d 33 [.ref 5, .int (((((((((1 : Int32)) <<< (((AI h 5 5)) &&& 31))) - ((1 : Int32)))) &&& ((v1 ^^^ ((-1 : Int32)))))) &&& ((v2 ^^^ ((-1 : Int32)))))] h (fun r h1 => ∃ x3 : Int32, r = some (.int x3) ∧ Sh h1 ∧ Wp (d + 1) 68 34 [.ref 20, .int v1, .int v2, .int (((((((((1 : Int32)) <<< (((AI h 5 5)) &&& 31))) - ((1 : Int32)))) &&& ((v1 ^^^ ((-1 : Int32)))))) &&& ((v2 ^^^ ((-1 : Int32))))), .int (-1 : Int32), .int (x3 + ((1 : Int32))), .int (0 : Int32), mk0] [] h1 Q))) : Wp (d + 1) 68 0 [.ref 20, .int v1, .int v2, mk0, mk0, mk0, mk0, mk0] [] h Q := by
  refine Wp.blk (by decide) ol_68 0 1 (pc' := 1) (L' := [.ref 20, .int v1, .int v2, mk0, mk0, mk0, mk0, mk0]) (S' := [.ref 20]) (h' := h) rfl ?_
  refine Wp.getf (op_ix (by decide) ol_68 1 rfl) (okS HS 20 rfl rfl) (v := .ref 5) (congrArg va_rf (rS HS 20 0 rfl)) rfl ?_
  refine Wp.callI (op_ix (by decide) ol_68 2 rfl) (act_virt (c2 := 0) rfl (lk1 (kS HS 5 rfl)) rfl) rfl (Cl.enter (L := [.ref 5]) rfl ?_)
  refine Wp.blk (by decide) ol_27 0 2 (pc' := 2) (L' := [.ref 5]) (S' := [.ref 5, .int (1 : Int32)]) (h' := h) rfl ?_
  refine Wp.getf (op_ix (by decide) ol_27 2 rfl) (okS HS 5 rfl rfl) (v := .int (AI h 5 5)) rfl rfl ?_
  refine Wp.blk (by decide) ol_27 3 3 (pc' := 8) (L' := [.ref 5]) (S' := [.int (((((1 : Int32)) <<< (((AI h 5 5)) &&& 31))) - ((1 : Int32)))]) (h' := h) rfl ?_
  refine Wp.ret (op_ix (by decide) ol_27 6 rfl) rfl ⟨_, rfl, ?_⟩
  refine Wp.blk (by decide) ol_68 3 12 (pc' := 20) (L' := [.ref 20, .int v1, .int v2, .int (((((((((1 : Int32)) <<< (((AI h 5 5)) &&& 31))) - ((1 : Int32)))) &&& ((v1 ^^^ ((-1 : Int32)))))) &&& ((v2 ^^^ ((-1 : Int32))))), .int (-1 : Int32), mk0, mk0, mk0]) (S' := [.ref 20]) (h' := h) rfl ?_
  refine Wp.getf (op_ix (by decide) ol_68 15 rfl) (okS HS 20 rfl rfl) (v := .ref 5) (congrArg va_rf (rS HS 20 0 rfl)) rfl ?_
  refine Wp.blk (by decide) ol_68 16 1 (pc' := 24) (L' := [.ref 20, .int v1, .int v2, .int (((((((((1 : Int32)) <<< (((AI h 5 5)) &&& 31))) - ((1 : Int32)))) &&& ((v1 ^^^ ((-1 : Int32)))))) &&& ((v2 ^^^ ((-1 : Int32))))), .int (-1 : Int32), mk0, mk0, mk0]) (S' := [.int (((((((((1 : Int32)) <<< (((AI h 5 5)) &&& 31))) - ((1 : Int32)))) &&& ((v1 ^^^ ((-1 : Int32)))))) &&& ((v2 ^^^ ((-1 : Int32))))), .ref 5]) (h' := h) rfl ?_
  refine Wp.callI (op_ix (by decide) ol_68 17 rfl) (act_virt (c2 := 1) rfl (lk1 (kS HS 5 rfl)) rfl) rfl (K.mono ?_)
  rintro _ h1 ⟨x3, rfl, hs2, K⟩
  refine ⟨x3, rfl, ?_⟩
  refine Wp.blk (by decide) ol_68 18 5 (pc' := 34) (L' := [.ref 20, .int v1, .int v2, .int (((((((((1 : Int32)) <<< (((AI h 5 5)) &&& 31))) - ((1 : Int32)))) &&& ((v1 ^^^ ((-1 : Int32)))))) &&& ((v2 ^^^ ((-1 : Int32))))), .int (-1 : Int32), .int (x3 + ((1 : Int32))), .int (0 : Int32), mk0]) (S' := []) (h' := h1) rfl ?_
  exact K
/-- CutsOrFast$Sets.cheapest at 34 -/
theorem g68_34 (d : Nat) (v1 : Int32) (v2 : Int32) (v3 : Int32) (v4 : Int32) (v5 : Int32) (v6 : Int32) (h : AH) (HS : Sh h)  (Q : Option Value → AH → Prop) (K : ((v3 < v6 → Q (some (.int v4)) h) ∧ (¬ v3 < v6 → (((v6 &&& ((v3 ^^^ ((-1 : Int32))))) = (0 : Int32) → (Cl d 33 [.ref 5, .int v6] h (fun r h3 => ∃ x5 : Int32, r = some (.int x5) ∧ Sh h3 ∧ ((x5 < v5 → (Cl d 58 [.ref 17, .int (v1 ||| v6), .int v2, .int (1 : Int32)] h3 (fun r h7 => ∃ x9 : Int32, r = some (.int x9) ∧ Sh h7 ∧ ((x9 = (0 : Int32) → Wp (d + 1) 68 34 [.ref 20, .int v1, .int v2, .int v3, .int v6, .int x5, .int (v6 + (1 : Int32)), mk0] [] h7 Q) ∧ (¬ x9 = (0 : Int32) → Wp (d + 1) 68 34 [.ref 20, .int v1, .int v2, .int v3, .int v4, .int v5, .int (v6 + (1 : Int32)), mk0] [] h7 Q))))) ∧ (¬ x5 < v5 → Wp (d + 1) 68 34 [.ref 20, .int v1, .int v2, .int v3, .int v4, .int v5, .int (v6 + (1 : Int32)), mk0] [] h3 Q))))) ∧ (¬ (v6 &&& ((v3 ^^^ ((-1 : Int32))))) = (0 : Int32) → Wp (d + 1) 68 34 [.ref 20, .int v1, .int v2, .int v3, .int v4, .int v5, .int (v6 + (1 : Int32)), mk0] [] h Q))))) : Wp (d + 1) 68 34 [.ref 20, .int v1, .int v2, .int v3, .int v4, .int v5, .int v6, mk0] [] h Q := by
  refine Wp.blk (by decide) ol_68 23 3 (pc' := (if v3 < v6 then 97 else 40)) (L' := [.ref 20, .int v1, .int v2, .int v3, .int v4, .int v5, .int v6, mk0]) (S' := []) (h' := h) rfl ?_
  refine Wp.br (fun c1 => ?_) (fun c1 => ?_)
  · replace K := K.1 c1
    refine Wp.blk (by decide) ol_68 55 1 (pc' := 99) (L' := [.ref 20, .int v1, .int v2, .int v3, .int v4, .int v5, .int v6, mk0]) (S' := [.int v4]) (h' := h) rfl ?_
    exact Wp.ret (op_ix (by decide) ol_68 56 rfl) rfl K
  · replace K := K.2 c1
    refine Wp.blk (by decide) ol_68 26 6 (pc' := (if (v6 &&& ((v3 ^^^ ((-1 : Int32))))) = (0 : Int32) then 49 else 91)) (L' := [.ref 20, .int v1, .int v2, .int v3, .int v4, .int v5, .int v6, mk0]) (S' := []) (h' := h) rfl ?_
    refine Wp.br (fun c2 => ?_) (fun c2 => ?_)
    · replace K := K.1 c2
      refine Wp.blk (by decide) ol_68 32 1 (pc' := 50) (L' := [.ref 20, .int v1, .int v2, .int v3, .int v4, .int v5, .int v6, mk0]) (S' := [.ref 20]) (h' := h) rfl ?_
      refine Wp.getf (op_ix (by decide) ol_68 33 rfl) (okS HS 20 rfl rfl) (v := .ref 5) (congrArg va_rf (rS HS 20 0 rfl)) rfl ?_
      refine Wp.blk (by decide) ol_68 34 1 (pc' := 55) (L' := [.ref 20, .int v1, .int v2, .int v3, .int v4, .int v5, .int v6, mk0]) (S' := [.int v6, .ref 5]) (h' := h) rfl ?_
      refine Wp.callI (op_ix (by decide) ol_68 35 rfl) (act_virt (c2 := 1) rfl (lk1 (kS HS 5 rfl)) rfl) rfl (K.mono ?_)
      rintro _ h3 ⟨x5, rfl, hs4, K⟩
      refine ⟨x5, rfl, ?_⟩
      refine Wp.blk (by decide) ol_68 36 4 (pc' := (if x5 < v5 then 67 else 91)) (L' := [.ref 20, .int v1, .int v2, .int v3, .int v4, .int v5, .int v6, .int x5]) (S' := []) (h' := h3) rfl ?_
      refine Wp.br (fun c6 => ?_) (fun c6 => ?_)
      · replace K := K.1 c6
        refine Wp.blk (by decide) ol_68 40 1 (pc' := 68) (L' := [.ref 20, .int v1, .int v2, .int v3, .int v4, .int v5, .int v6, .int x5]) (S' := [.ref 20]) (h' := h3) rfl ?_
        refine Wp.getf (op_ix (by decide) ol_68 41 rfl) (okS hs4 20 rfl rfl) (v := .ref 17) (congrArg va_rf (rS hs4 20 1 rfl)) rfl ?_
        refine Wp.blk (by decide) ol_68 42 5 (pc' := 77) (L' := [.ref 20, .int v1, .int v2, .int v3, .int v4, .int v5, .int v6, .int x5]) (S' := [.int (1 : Int32), .int v2, .int (v1 ||| v6), .ref 17]) (h' := h3) rfl ?_
        refine Wp.callI (op_ix (by decide) ol_68 47 rfl) (act_virt (c2 := 3) rfl (lk1 (kS hs4 17 rfl)) rfl) rfl (K.mono ?_)
        rintro _ h7 ⟨x9, rfl, hs8, K⟩
        refine ⟨x9, rfl, ?_⟩
        refine Wp.blk (by decide) ol_68 48 1 (pc' := (if x9 = (0 : Int32) then 83 else 91)) (L' := [.ref 20, .int v1, .int v2, .int v3, .int v4, .int v5, .int v6, .int x5]) (S' := []) (h' := h7) rfl ?_
        refine Wp.br (fun c10 => ?_) (fun c10 => ?_)
        · replace K := K.1 c10
          refine Wp.blk (by decide) ol_68 49 6 (pc' := 34) (L' := [.ref 20, .int v1, .int v2, .int v3, .int v6, .int x5, .int (v6 + (1 : Int32)), .int x5]) (S' := []) (h' := h7) rfl ?_
          refine Wp.forget (L := [.ref 20, .int v1, .int v2, .int v3, .int v6, .int x5, .int (v6 + (1 : Int32)), mk0]) (⟨Or.inr rfl, ⟨Or.inr rfl, ⟨Or.inr rfl, ⟨Or.inr rfl, ⟨Or.inr rfl, ⟨Or.inr rfl, ⟨Or.inr rfl, ⟨Or.inl rfl, trivial⟩⟩⟩⟩⟩⟩⟩⟩) ?_
          exact K
        · replace K := K.2 c10
          refine Wp.blk (by decide) ol_68 53 2 (pc' := 34) (L' := [.ref 20, .int v1, .int v2, .int v3, .int v4, .int v5, .int (v6 + (1 : Int32)), .int x5]) (S' := []) (h' := h7) rfl ?_
          refine Wp.forget (L := [.ref 20, .int v1, .int v2, .int v3, .int v4, .int v5, .int (v6 + (1 : Int32)), mk0]) (⟨Or.inr rfl, ⟨Or.inr rfl, ⟨Or.inr rfl, ⟨Or.inr rfl, ⟨Or.inr rfl, ⟨Or.inr rfl, ⟨Or.inr rfl, ⟨Or.inl rfl, trivial⟩⟩⟩⟩⟩⟩⟩⟩) ?_
          exact K
      · replace K := K.2 c6
        refine Wp.blk (by decide) ol_68 53 2 (pc' := 34) (L' := [.ref 20, .int v1, .int v2, .int v3, .int v4, .int v5, .int (v6 + (1 : Int32)), .int x5]) (S' := []) (h' := h3) rfl ?_
        refine Wp.forget (L := [.ref 20, .int v1, .int v2, .int v3, .int v4, .int v5, .int (v6 + (1 : Int32)), mk0]) (⟨Or.inr rfl, ⟨Or.inr rfl, ⟨Or.inr rfl, ⟨Or.inr rfl, ⟨Or.inr rfl, ⟨Or.inr rfl, ⟨Or.inr rfl, ⟨Or.inl rfl, trivial⟩⟩⟩⟩⟩⟩⟩⟩) ?_
        exact K
    · replace K := K.2 c2
      refine Wp.blk (by decide) ol_68 53 2 (pc' := 34) (L' := [.ref 20, .int v1, .int v2, .int v3, .int v4, .int v5, .int (v6 + (1 : Int32)), mk0]) (S' := []) (h' := h) rfl ?_
      exact K
/-- CutsOrFast$Sets.oneMore at 0 (II)I -/
theorem g69_0 (d : Nat) (v1 : Int32) (v2 : Int32) (h : AH) (HS : Sh h)  (Q : Option Value → AH → Prop) (K : (Cl d 58 [.ref 17, .int v1, .int v2, .int (1 : Int32)] h (fun r h1 => ∃ x3 : Int32, r = some (.int x3) ∧ Sh h1 ∧ ((x3 = (0 : Int32) → Q (some (.int (-1 : Int32))) h1) ∧ (¬ x3 = (0 : Int32) → (Cl d 58 [.ref 17, .int v1, .int v2, .int (0 : Int32)] h1 (fun r h5 => ∃ x7 : Int32, r = some (.int x7) ∧ Sh h5 ∧ ((x7 = (1 : Int32) → Q (some (.int (-2 : Int32))) h5) ∧ (¬ x7 = (1 : Int32) → Wp (d + 1) 69 38 [.ref 20, .int v1, .int v2, .int (-2 : Int32), .int (0 : Int32)] [] h5 Q))))))))) : Wp (d + 1) 69 0 [.ref 20, .int v1, .int v2, mk0, mk0] [] h Q := by
  refine Wp.blk (by decide) ol_69 0 1 (pc' := 1) (L' := [.ref 20, .int v1, .int v2, mk0, mk0]) (S' := [.ref 20]) (h' := h) rfl ?_
  refine Wp.getf (op_ix (by decide) ol_69 1 rfl) (okS HS 20 rfl rfl) (v := .ref 17) (congrArg va_rf (rS HS 20 1 rfl)) rfl ?_
  refine Wp.blk (by decide) ol_69 2 3 (pc' := 7) (L' := [.ref 20, .int v1, .int v2, mk0, mk0]) (S' := [.int (1 : Int32), .int v2, .int v1, .ref 17]) (h' := h) rfl ?_
  refine Wp.callI (op_ix (by decide) ol_69 5 rfl) (act_virt (c2 := 3) rfl (lk1 (kS HS 17 rfl)) rfl) rfl (K.mono ?_)
  rintro _ h1 ⟨x3, rfl, hs2, K⟩
  refine ⟨x3, rfl, ?_⟩
  refine Wp.blk (by decide) ol_69 6 1 (pc' := (if x3 = (0 : Int32) then 13 else 15)) (L' := [.ref 20, .int v1, .int v2, mk0, mk0]) (S' := []) (h' := h1) rfl ?_
  refine Wp.br (fun c4 => ?_) (fun c4 => ?_)
  · replace K := K.1 c4
    refine Wp.blk (by decide) ol_69 7 1 (pc' := 14) (L' := [.ref 20, .int v1, .int v2, mk0, mk0]) (S' := [.int (-1 : Int32)]) (h' := h1) rfl ?_
    exact Wp.ret (op_ix (by decide) ol_69 8 rfl) rfl K
  · replace K := K.2 c4
    refine Wp.blk (by decide) ol_69 9 1 (pc' := 16) (L' := [.ref 20, .int v1, .int v2, mk0, mk0]) (S' := [.ref 20]) (h' := h1) rfl ?_
    refine Wp.getf (op_ix (by decide) ol_69 10 rfl) (okS hs2 20 rfl rfl) (v := .ref 17) (congrArg va_rf (rS hs2 20 1 rfl)) rfl ?_
    refine Wp.blk (by decide) ol_69 11 3 (pc' := 22) (L' := [.ref 20, .int v1, .int v2, mk0, mk0]) (S' := [.int (0 : Int32), .int v2, .int v1, .ref 17]) (h' := h1) rfl ?_
    refine Wp.callI (op_ix (by decide) ol_69 14 rfl) (act_virt (c2 := 3) rfl (lk1 (kS hs2 17 rfl)) rfl) rfl (K.mono ?_)
    rintro _ h5 ⟨x7, rfl, hs6, K⟩
    refine ⟨x7, rfl, ?_⟩
    refine Wp.blk (by decide) ol_69 15 2 (pc' := (if x7 = (1 : Int32) then 29 else 32)) (L' := [.ref 20, .int v1, .int v2, mk0, mk0]) (S' := []) (h' := h5) rfl ?_
    refine Wp.br (fun c8 => ?_) (fun c8 => ?_)
    · replace K := K.1 c8
      refine Wp.blk (by decide) ol_69 17 1 (pc' := 31) (L' := [.ref 20, .int v1, .int v2, mk0, mk0]) (S' := [.int (-2 : Int32)]) (h' := h5) rfl ?_
      exact Wp.ret (op_ix (by decide) ol_69 18 rfl) rfl K
    · replace K := K.2 c8
      refine Wp.blk (by decide) ol_69 19 4 (pc' := 38) (L' := [.ref 20, .int v1, .int v2, .int (-2 : Int32), .int (0 : Int32)]) (S' := []) (h' := h5) rfl ?_
      exact K
/-- CutsOrFast$Sets.oneMore at 38 -/
theorem g69_38 (d : Nat) (v1 : Int32) (v2 : Int32) (v3 : Int32) (v4 : Int32) (h : AH) (HS : Sh h)  (Q : Option Value → AH → Prop) (K : ((v4 < (36 : Int32) → ((v3 = (-2 : Int32) → (((v4 / (6 : Int32)) < (v4 - v4 / (6 : Int32) * (6 : Int32)) → (Cl (d + 1) 70 [.ref 20, .int (v4 / (6 : Int32)), .int (v4 - v4 / (6 : Int32) * (6 : Int32)), .int v1, .int v2] h (fun r h4 => ∃ x6 : Int32, r = some (.int x6) ∧ Sh h4 ∧ ((x6 = (0 : Int32) → Wp (d + 2) 69 38 [.ref 20, .int v1, .int v2, .int v3, .int (v4 + (1 : Int32))] [] h4 Q) ∧ (¬ x6 = (0 : Int32) → Wp (d + 2) 69 38 [.ref 20, .int v1, .int v2, .int v4, .int (v4 + (1 : Int32))] [] h4 Q))))) ∧ (¬ (v4 / (6 : Int32)) < (v4 - v4 / (6 : Int32) * (6 : Int32)) → Wp (d + 2) 69 38 [.ref 20, .int v1, .int v2, .int v3, .int (v4 + (1 : Int32))] [] h Q))) ∧ (¬ v3 = (-2 : Int32) → (Cl d 56 [.ref 19] h (fun r h8 => r = none ∧ Sh h8 ∧ Q (some (.int v3)) (stI h8 17 4 ((-1 : Int32)))))))) ∧ (¬ v4 < (36 : Int32) → (Cl d 56 [.ref 19] h (fun r h10 => r = none ∧ Sh h10 ∧ Q (some (.int v3)) (stI h10 17 4 ((-1 : Int32)))))))) : Wp (d + 2) 69 38 [.ref 20, .int v1, .int v2, .int v3, .int v4] [] h Q := by
  refine Wp.blk (by decide) ol_69 23 3 (pc' := (if v4 < (36 : Int32) then 45 else 92)) (L' := [.ref 20, .int v1, .int v2, .int v3, .int v4]) (S' := []) (h' := h) rfl ?_
  refine Wp.br (fun c1 => ?_) (fun c1 => ?_)
  · replace K := K.1 c1
    refine Wp.blk (by decide) ol_69 26 3 (pc' := (if v3 = (-2 : Int32) then 51 else 92)) (L' := [.ref 20, .int v1, .int v2, .int v3, .int v4]) (S' := []) (h' := h) rfl ?_
    refine Wp.br (fun c2 => ?_) (fun c2 => ?_)
    · replace K := K.1 c2
      refine Wp.blk (by decide) ol_69 29 7 (pc' := (if (v4 / (6 : Int32)) < (v4 - v4 / (6 : Int32) * (6 : Int32)) then 64 else 86)) (L' := [.ref 20, .int v1, .int v2, .int v3, .int v4]) (S' := []) (h' := h) rfl ?_
      refine Wp.br (fun c3 => ?_) (fun c3 => ?_)
      · replace K := K.1 c3
        refine Wp.blk (by decide) ol_69 36 9 (pc' := 77) (L' := [.ref 20, .int v1, .int v2, .int v3, .int v4]) (S' := [.int v2, .int v1, .int (v4 - v4 / (6 : Int32) * (6 : Int32)), .int (v4 / (6 : Int32)), .ref 20]) (h' := h) rfl ?_
        refine Wp.callI (op_ix (by decide) ol_69 45 rfl) (act_virt (c2 := 4) rfl (lk1 (kS HS 20 rfl)) rfl) rfl (K.mono ?_)
        rintro _ h4 ⟨x6, rfl, hs5, K⟩
        refine ⟨x6, rfl, ?_⟩
        refine Wp.blk (by decide) ol_69 46 1 (pc' := (if x6 = (0 : Int32) then 86 else 83)) (L' := [.ref 20, .int v1, .int v2, .int v3, .int v4]) (S' := []) (h' := h4) rfl ?_
        refine Wp.br (fun c7 => ?_) (fun c7 => ?_)
        · replace K := K.1 c7
          refine Wp.blk (by decide) ol_69 49 2 (pc' := 38) (L' := [.ref 20, .int v1, .int v2, .int v3, .int (v4 + (1 : Int32))]) (S' := []) (h' := h4) rfl ?_
          exact K
        · replace K := K.2 c7
          refine Wp.blk (by decide) ol_69 47 4 (pc' := 38) (L' := [.ref 20, .int v1, .int v2, .int v4, .int (v4 + (1 : Int32))]) (S' := []) (h' := h4) rfl ?_
          exact K
      · replace K := K.2 c3
        refine Wp.blk (by decide) ol_69 49 2 (pc' := 38) (L' := [.ref 20, .int v1, .int v2, .int v3, .int (v4 + (1 : Int32))]) (S' := []) (h' := h) rfl ?_
        exact K
    · replace K := K.2 c2
      refine Wp.blk (by decide) ol_69 51 1 (pc' := 93) (L' := [.ref 20, .int v1, .int v2, .int v3, .int v4]) (S' := [.ref 20]) (h' := h) rfl ?_
      refine Wp.getf (op_ix (by decide) ol_69 52 rfl) (okS HS 20 rfl rfl) (v := .ref 17) (congrArg va_rf (rS HS 20 1 rfl)) rfl ?_
      refine Wp.callV (op_ix (by decide) ol_69 53 rfl) (act_virt (c2 := 0) rfl (lk1 (kS HS 17 rfl)) rfl) rfl (Cl.enter (L := [.ref 17]) rfl ?_)
      refine Wp.blk (by decide) ol_55 0 1 (pc' := 1) (L' := [.ref 17]) (S' := [.ref 17]) (h' := h) rfl ?_
      refine Wp.getf (op_ix (by decide) ol_55 1 rfl) (okS HS 17 rfl rfl) (v := .ref 19) (congrArg va_rf (rS HS 17 2 rfl)) rfl ?_
      refine Wp.callV (op_ix (by decide) ol_55 2 rfl) rfl rfl (K.mono ?_)
      rintro _ h8 ⟨rfl, hs9, K⟩
      refine ⟨rfl, ?_⟩
      refine Wp.blk (by decide) ol_55 3 2 (pc' := 9) (L' := [.ref 17]) (S' := [.int (-1 : Int32), .ref 17]) (h' := h8) rfl ?_
      refine Wp.putf (op_ix (by decide) ol_55 5 rfl) (by decide) (okS hs9 17 rfl rfl) (h' := (stI h8 17 4 ((-1 : Int32)))) rfl rfl ?_
      refine Wp.ret (op_ix (by decide) ol_55 6 rfl) rfl ⟨rfl, ?_⟩
      refine Wp.blk (by decide) ol_69 54 1 (pc' := 100) (L' := [.ref 20, .int v1, .int v2, .int v3, .int v4]) (S' := [.int v3]) (h' := (stI h8 17 4 ((-1 : Int32)))) rfl ?_
      exact Wp.ret (op_ix (by decide) ol_69 55 rfl) rfl K
  · replace K := K.2 c1
    refine Wp.blk (by decide) ol_69 51 1 (pc' := 93) (L' := [.ref 20, .int v1, .int v2, .int v3, .int v4]) (S' := [.ref 20]) (h' := h) rfl ?_
    refine Wp.getf (op_ix (by decide) ol_69 52 rfl) (okS HS 20 rfl rfl) (v := .ref 17) (congrArg va_rf (rS HS 20 1 rfl)) rfl ?_
    refine Wp.callV (op_ix (by decide) ol_69 53 rfl) (act_virt (c2 := 0) rfl (lk1 (kS HS 17 rfl)) rfl) rfl (Cl.enter (L := [.ref 17]) rfl ?_)
    refine Wp.blk (by decide) ol_55 0 1 (pc' := 1) (L' := [.ref 17]) (S' := [.ref 17]) (h' := h) rfl ?_
    refine Wp.getf (op_ix (by decide) ol_55 1 rfl) (okS HS 17 rfl rfl) (v := .ref 19) (congrArg va_rf (rS HS 17 2 rfl)) rfl ?_
    refine Wp.callV (op_ix (by decide) ol_55 2 rfl) rfl rfl (K.mono ?_)
    rintro _ h10 ⟨rfl, hs11, K⟩
    refine ⟨rfl, ?_⟩
    refine Wp.blk (by decide) ol_55 3 2 (pc' := 9) (L' := [.ref 17]) (S' := [.int (-1 : Int32), .ref 17]) (h' := h10) rfl ?_
    refine Wp.putf (op_ix (by decide) ol_55 5 rfl) (by decide) (okS hs11 17 rfl rfl) (h' := (stI h10 17 4 ((-1 : Int32)))) rfl rfl ?_
    refine Wp.ret (op_ix (by decide) ol_55 6 rfl) rfl ⟨rfl, ?_⟩
    refine Wp.blk (by decide) ol_69 54 1 (pc' := 100) (L' := [.ref 20, .int v1, .int v2, .int v3, .int v4]) (S' := [.int v3]) (h' := (stI h10 17 4 ((-1 : Int32)))) rfl ?_
    exact Wp.ret (op_ix (by decide) ol_69 55 rfl) rfl K
/-- CutsOrFast$Sets.mends at 0 (IIII)Z -/
theorem g70_0 (d : Nat) (v1 : Int32) (v2 : Int32) (v3 : Int32) (v4 : Int32) (h : AH) (HS : Sh h)  (Q : Option Value → AH → Prop) (K : (Cl (d + 1) 22 [.ref 5, .int v1, .int v2, .int (1 : Int32)] h (fun r h1 => r = none ∧ Sh h1 ∧ (Cl d 56 [.ref 19] h1 (fun r h3 => r = none ∧ Sh h3 ∧ (Cl (d + 1) 58 [.ref 17, .int v3, .int v4, .int (1 : Int32)] ((stI h3 17 4 ((-1 : Int32)))) (fun r h5 => ∃ x7 : Int32, r = some (.int x7) ∧ Sh h5 ∧ ((x7 = (0 : Int32) → (((0 : Int32) < (AI h5 5 5) → Q (some (.int (1 : Int32))) (stI h5 5 5 ((((AI h5 5 5)) - ((1 : Int32)))))) ∧ (¬ (0 : Int32) < (AI h5 5 5) → Q (some (.int (1 : Int32))) h5))) ∧ (¬ x7 = (0 : Int32) → (((0 : Int32) < (AI h5 5 5) → Q (some (.int (0 : Int32))) (stI h5 5 5 ((((AI h5 5 5)) - ((1 : Int32)))))) ∧ (¬ (0 : Int32) < (AI h5 5 5) → Q (some (.int (0 : Int32))) h5))))))))))) : Wp (d + 2) 70 0 [.ref 20, .int v1, .int v2, .int v3, .int v4, mk0] [] h Q := by
  refine Wp.blk (by decide) ol_70 0 1 (pc' := 1) (L' := [.ref 20, .int v1, .int v2, .int v3, .int v4, mk0]) (S' := [.ref 20]) (h' := h) rfl ?_
  refine Wp.getf (op_ix (by decide) ol_70 1 rfl) (okS HS 20 rfl rfl) (v := .ref 5) (congrArg va_rf (rS HS 20 0 rfl)) rfl ?_
  refine Wp.blk (by decide) ol_70 2 3 (pc' := 7) (L' := [.ref 20, .int v1, .int v2, .int v3, .int v4, mk0]) (S' := [.int (1 : Int32), .int v2, .int v1, .ref 5]) (h' := h) rfl ?_
  refine Wp.callV (op_ix (by decide) ol_70 5 rfl) (act_virt (c2 := 3) rfl (lk1 (kS HS 5 rfl)) rfl) rfl (K.mono ?_)
  rintro _ h1 ⟨rfl, hs2, K⟩
  refine ⟨rfl, ?_⟩
  refine Wp.blk (by decide) ol_70 6 1 (pc' := 11) (L' := [.ref 20, .int v1, .int v2, .int v3, .int v4, mk0]) (S' := [.ref 20]) (h' := h1) rfl ?_
  refine Wp.getf (op_ix (by decide) ol_70 7 rfl) (okS hs2 20 rfl rfl) (v := .ref 17) (congrArg va_rf (rS hs2 20 1 rfl)) rfl ?_
  refine Wp.callV (op_ix (by decide) ol_70 8 rfl) (act_virt (c2 := 0) rfl (lk1 (kS hs2 17 rfl)) rfl) rfl (Cl.enter (L := [.ref 17]) rfl ?_)
  refine Wp.blk (by decide) ol_55 0 1 (pc' := 1) (L' := [.ref 17]) (S' := [.ref 17]) (h' := h1) rfl ?_
  refine Wp.getf (op_ix (by decide) ol_55 1 rfl) (okS hs2 17 rfl rfl) (v := .ref 19) (congrArg va_rf (rS hs2 17 2 rfl)) rfl ?_
  refine Wp.callV (op_ix (by decide) ol_55 2 rfl) rfl rfl (K.mono ?_)
  rintro _ h3 ⟨rfl, hs4, K⟩
  refine ⟨rfl, ?_⟩
  refine Wp.blk (by decide) ol_55 3 2 (pc' := 9) (L' := [.ref 17]) (S' := [.int (-1 : Int32), .ref 17]) (h' := h3) rfl ?_
  refine Wp.putf (op_ix (by decide) ol_55 5 rfl) (by decide) (okS hs4 17 rfl rfl) (h' := (stI h3 17 4 ((-1 : Int32)))) rfl rfl ?_
  refine Wp.ret (op_ix (by decide) ol_55 6 rfl) rfl ⟨rfl, ?_⟩
  refine Wp.blk (by decide) ol_70 9 1 (pc' := 18) (L' := [.ref 20, .int v1, .int v2, .int v3, .int v4, mk0]) (S' := [.ref 20]) (h' := (stI h3 17 4 ((-1 : Int32)))) rfl ?_
  refine Wp.getf (op_ix (by decide) ol_70 10 rfl) (okS hs4 20 rfl rfl) (v := .ref 17) (congrArg va_rf (rS hs4 20 1 rfl)) rfl ?_
  refine Wp.blk (by decide) ol_70 11 3 (pc' := 25) (L' := [.ref 20, .int v1, .int v2, .int v3, .int v4, mk0]) (S' := [.int (1 : Int32), .int v4, .int v3, .ref 17]) (h' := (stI h3 17 4 ((-1 : Int32)))) rfl ?_
  refine Wp.callI (op_ix (by decide) ol_70 14 rfl) (act_virt (c2 := 3) rfl (lk1 (kS hs4 17 rfl)) rfl) rfl (K.mono ?_)
  rintro _ h5 ⟨x7, rfl, hs6, K⟩
  refine ⟨x7, rfl, ?_⟩
  refine Wp.blk (by decide) ol_70 15 1 (pc' := (if x7 = (0 : Int32) then 31 else 35)) (L' := [.ref 20, .int v1, .int v2, .int v3, .int v4, mk0]) (S' := []) (h' := h5) rfl ?_
  refine Wp.br (fun c8 => ?_) (fun c8 => ?_)
  · replace K := K.1 c8
    refine Wp.blk (by decide) ol_70 16 2 (pc' := 36) (L' := [.ref 20, .int v1, .int v2, .int v3, .int v4, mk0]) (S' := [.int (1 : Int32)]) (h' := h5) rfl ?_
    refine Wp.blk (by decide) ol_70 19 2 (pc' := 39) (L' := [.ref 20, .int v1, .int v2, .int v3, .int v4, .int (1 : Int32)]) (S' := [.ref 20]) (h' := h5) rfl ?_
    refine Wp.getf (op_ix (by decide) ol_70 21 rfl) (okS hs6 20 rfl rfl) (v := .ref 5) (congrArg va_rf (rS hs6 20 0 rfl)) rfl ?_
    refine Wp.callV (op_ix (by decide) ol_70 22 rfl) (act_virt (c2 := 0) rfl (lk1 (kS hs6 5 rfl)) rfl) rfl (Cl.enter (L := [.ref 5]) rfl ?_)
    refine Wp.blk (by decide) ol_23 0 1 (pc' := 1) (L' := [.ref 5]) (S' := [.ref 5]) (h' := h5) rfl ?_
    refine Wp.getf (op_ix (by decide) ol_23 1 rfl) (okS hs6 5 rfl rfl) (v := .int (AI h5 5 5)) rfl rfl ?_
    refine Wp.blk (by decide) ol_23 2 1 (pc' := (if (0 : Int32) < (AI h5 5 5) then 7 else 17)) (L' := [.ref 5]) (S' := []) (h' := h5) rfl ?_
    refine Wp.br (fun c9 => ?_) (fun c9 => ?_)
    · replace K := K.1 c9
      refine Wp.blk (by decide) ol_23 3 2 (pc' := 9) (L' := [.ref 5]) (S' := [.ref 5, .ref 5]) (h' := h5) rfl ?_
      refine Wp.getf (op_ix (by decide) ol_23 5 rfl) (okS hs6 5 rfl rfl) (v := .int (AI h5 5 5)) rfl rfl ?_
      refine Wp.blk (by decide) ol_23 6 2 (pc' := 14) (L' := [.ref 5]) (S' := [.int (((AI h5 5 5)) - ((1 : Int32))), .ref 5]) (h' := h5) rfl ?_
      refine Wp.putf (op_ix (by decide) ol_23 8 rfl) (by decide) (okS hs6 5 rfl rfl) (h' := (stI h5 5 5 ((((AI h5 5 5)) - ((1 : Int32)))))) rfl rfl ?_
      refine Wp.ret (op_ix (by decide) ol_23 9 rfl) rfl ⟨rfl, ?_⟩
      refine Wp.blk (by decide) ol_70 23 1 (pc' := 47) (L' := [.ref 20, .int v1, .int v2, .int v3, .int v4, .int (1 : Int32)]) (S' := [.int (1 : Int32)]) (h' := (stI h5 5 5 ((((AI h5 5 5)) - ((1 : Int32)))))) rfl ?_
      exact Wp.ret (op_ix (by decide) ol_70 24 rfl) rfl K
    · replace K := K.2 c9
      refine Wp.ret (op_ix (by decide) ol_23 9 rfl) rfl ⟨rfl, ?_⟩
      refine Wp.blk (by decide) ol_70 23 1 (pc' := 47) (L' := [.ref 20, .int v1, .int v2, .int v3, .int v4, .int (1 : Int32)]) (S' := [.int (1 : Int32)]) (h' := h5) rfl ?_
      exact Wp.ret (op_ix (by decide) ol_70 24 rfl) rfl K
  · replace K := K.2 c8
    refine Wp.blk (by decide) ol_70 18 3 (pc' := 39) (L' := [.ref 20, .int v1, .int v2, .int v3, .int v4, .int (0 : Int32)]) (S' := [.ref 20]) (h' := h5) rfl ?_
    refine Wp.getf (op_ix (by decide) ol_70 21 rfl) (okS hs6 20 rfl rfl) (v := .ref 5) (congrArg va_rf (rS hs6 20 0 rfl)) rfl ?_
    refine Wp.callV (op_ix (by decide) ol_70 22 rfl) (act_virt (c2 := 0) rfl (lk1 (kS hs6 5 rfl)) rfl) rfl (Cl.enter (L := [.ref 5]) rfl ?_)
    refine Wp.blk (by decide) ol_23 0 1 (pc' := 1) (L' := [.ref 5]) (S' := [.ref 5]) (h' := h5) rfl ?_
    refine Wp.getf (op_ix (by decide) ol_23 1 rfl) (okS hs6 5 rfl rfl) (v := .int (AI h5 5 5)) rfl rfl ?_
    refine Wp.blk (by decide) ol_23 2 1 (pc' := (if (0 : Int32) < (AI h5 5 5) then 7 else 17)) (L' := [.ref 5]) (S' := []) (h' := h5) rfl ?_
    refine Wp.br (fun c10 => ?_) (fun c10 => ?_)
    · replace K := K.1 c10
      refine Wp.blk (by decide) ol_23 3 2 (pc' := 9) (L' := [.ref 5]) (S' := [.ref 5, .ref 5]) (h' := h5) rfl ?_
      refine Wp.getf (op_ix (by decide) ol_23 5 rfl) (okS hs6 5 rfl rfl) (v := .int (AI h5 5 5)) rfl rfl ?_
      refine Wp.blk (by decide) ol_23 6 2 (pc' := 14) (L' := [.ref 5]) (S' := [.int (((AI h5 5 5)) - ((1 : Int32))), .ref 5]) (h' := h5) rfl ?_
      refine Wp.putf (op_ix (by decide) ol_23 8 rfl) (by decide) (okS hs6 5 rfl rfl) (h' := (stI h5 5 5 ((((AI h5 5 5)) - ((1 : Int32)))))) rfl rfl ?_
      refine Wp.ret (op_ix (by decide) ol_23 9 rfl) rfl ⟨rfl, ?_⟩
      refine Wp.blk (by decide) ol_70 23 1 (pc' := 47) (L' := [.ref 20, .int v1, .int v2, .int v3, .int v4, .int (0 : Int32)]) (S' := [.int (0 : Int32)]) (h' := (stI h5 5 5 ((((AI h5 5 5)) - ((1 : Int32)))))) rfl ?_
      exact Wp.ret (op_ix (by decide) ol_70 24 rfl) rfl K
    · replace K := K.2 c10
      refine Wp.ret (op_ix (by decide) ol_23 9 rfl) rfl ⟨rfl, ?_⟩
      refine Wp.blk (by decide) ol_70 23 1 (pc' := 47) (L' := [.ref 20, .int v1, .int v2, .int v3, .int v4, .int (0 : Int32)]) (S' := [.int (0 : Int32)]) (h' := h5) rfl ?_
      exact Wp.ret (op_ix (by decide) ol_70 24 rfl) rfl K
/-- CutsOrFast$Stand.<init> at 0 (LCutsOrFast$Net;)V -/
theorem g71_0 (d : Nat) (v0 : Nat) (v1 : Nat) (h : AH)  (Q : Option Value → AH → Prop) (K : (∀ n1, n1 = (NX h) → ∀ h2, h2 = (newO h 20 9) → (okC 10 (AK h2 v0).1 = true ∧ 2 ≤ v0 ∧ Q none (stR ((stR h2 v0 1 (some n1))) v0 0 (some v1))))) : Wp d 71 0 [.ref v0, .ref v1] [] h Q := by
  refine Wp.blk (by decide) ol_71 0 4 (pc' := 7) (L' := [.ref v0, .ref v1]) (S' := [.int (9 : Int32), .ref v0]) (h' := h) rfl ?_
  refine Wp.blk (by decide) ol_71 4 1 (pc' := 9) (L' := [.ref v0, .ref v1]) (S' := [.ref (NX h), .ref v0]) (h' := (newO h 20 9)) rfl ?_
  obtain ⟨n1, e3⟩ : ∃ x, x = (NX h) := ⟨_, rfl⟩
  obtain ⟨h2, e4⟩ : ∃ x, x = (newO h 20 9) := ⟨_, rfl⟩
  rw [← e4, ← e3]
  replace K := K n1 e3 h2 e4
  obtain ⟨k5, K⟩ := K
  obtain ⟨b6, K⟩ := K
  refine Wp.putf (op_ix (by decide) ol_71 5 rfl) b6 k5 (h' := (stR h2 v0 1 (some n1))) rfl rfl ?_
  refine Wp.blk (by decide) ol_71 6 2 (pc' := 14) (L' := [.ref v0, .ref v1]) (S' := [.ref v1, .ref v0]) (h' := (stR h2 v0 1 (some n1))) rfl ?_
  refine Wp.putf (op_ix (by decide) ol_71 8 rfl) b6 k5 (h' := (stR ((stR h2 v0 1 (some n1))) v0 0 (some v1))) rfl rfl ?_
  exact Wp.ret (op_ix (by decide) ol_71 9 rfl) rfl K
/-- CutsOrFast$Stand.start at 0 (II)V -/
theorem g72_0 (d : Nat) (v0 : Nat) (v1 : Int32) (v2 : Int32) (h : AH) (HS : Sh h) (t0 : St3 v0) (Q : Option Value → AH → Prop) (K : Q none (stI ((stI ((stI ((stI h v0 3 v1)) v0 4 v2)) v0 5 ((0 : Int32)))) v0 2 ((0 : Int32)))) : Wp d 72 0 [.ref v0, .int v1, .int v2] [] h Q := by
  refine Wp.blk (by decide) ol_72 0 2 (pc' := 2) (L' := [.ref v0, .int v1, .int v2]) (S' := [.int v1, .ref v0]) (h' := h) rfl ?_
  refine Wp.putf (op_ix (by decide) ol_72 2 rfl) (twoT t0) (okT HS t0) (h' := (stI h v0 3 v1)) rfl rfl ?_
  refine Wp.blk (by decide) ol_72 3 2 (pc' := 7) (L' := [.ref v0, .int v1, .int v2]) (S' := [.int v2, .ref v0]) (h' := (stI h v0 3 v1)) rfl ?_
  refine Wp.putf (op_ix (by decide) ol_72 5 rfl) (twoT t0) (okT HS t0) (h' := (stI ((stI h v0 3 v1)) v0 4 v2)) rfl rfl ?_
  refine Wp.blk (by decide) ol_72 6 2 (pc' := 12) (L' := [.ref v0, .int v1, .int v2]) (S' := [.int (0 : Int32), .ref v0]) (h' := (stI ((stI h v0 3 v1)) v0 4 v2)) rfl ?_
  refine Wp.putf (op_ix (by decide) ol_72 8 rfl) (twoT t0) (okT HS t0) (h' := (stI ((stI ((stI h v0 3 v1)) v0 4 v2)) v0 5 ((0 : Int32)))) rfl rfl ?_
  refine Wp.blk (by decide) ol_72 9 2 (pc' := 17) (L' := [.ref v0, .int v1, .int v2]) (S' := [.int (0 : Int32), .ref v0]) (h' := (stI ((stI ((stI h v0 3 v1)) v0 4 v2)) v0 5 ((0 : Int32)))) rfl ?_
  refine Wp.putf (op_ix (by decide) ol_72 11 rfl) (twoT t0) (okT HS t0) (h' := (stI ((stI ((stI ((stI h v0 3 v1)) v0 4 v2)) v0 5 ((0 : Int32)))) v0 2 ((0 : Int32)))) rfl rfl ?_
  exact Wp.ret (op_ix (by decide) ol_72 12 rfl) rfl K
/-- CutsOrFast$Stand.copyFrom at 0 (LCutsOrFast$Stand;)V -/
theorem g73_0 (d : Nat) (v0 : Nat) (v1 : Nat) (h : AH) (HS : Sh h) (t0 : St3 v0) (t1 : St3 v1) (Q : Option Value → AH → Prop) (K : Wp d 73 34 [.ref v0, .ref v1, .int (0 : Int32)] [] (stI ((stI ((stI ((stI h v0 3 ((AI h v1 3)))) v0 4 ((AI ((stI h v0 3 ((AI h v1 3)))) v1 4)))) v0 5 ((AI ((stI ((stI h v0 3 ((AI h v1 3)))) v0 4 ((AI ((stI h v0 3 ((AI h v1 3)))) v1 4)))) v1 5)))) v0 2 ((AI ((stI ((stI ((stI h v0 3 ((AI h v1 3)))) v0 4 ((AI ((stI h v0 3 ((AI h v1 3)))) v1 4)))) v0 5 ((AI ((stI ((stI h v0 3 ((AI h v1 3)))) v0 4 ((AI ((stI h v0 3 ((AI h v1 3)))) v1 4)))) v1 5)))) v1 2))) Q) : Wp d 73 0 [.ref v0, .ref v1, mk0] [] h Q := by
  refine Wp.blk (by decide) ol_73 0 2 (pc' := 2) (L' := [.ref v0, .ref v1, mk0]) (S' := [.ref v1, .ref v0]) (h' := h) rfl ?_
  refine Wp.getf (op_ix (by decide) ol_73 2 rfl) (okT HS t1) (v := .int (AI h v1 3)) rfl rfl ?_
  refine Wp.putf (op_ix (by decide) ol_73 3 rfl) (twoT t0) (okT HS t0) (h' := (stI h v0 3 ((AI h v1 3)))) rfl rfl ?_
  refine Wp.blk (by decide) ol_73 4 2 (pc' := 10) (L' := [.ref v0, .ref v1, mk0]) (S' := [.ref v1, .ref v0]) (h' := (stI h v0 3 ((AI h v1 3)))) rfl ?_
  refine Wp.getf (op_ix (by decide) ol_73 6 rfl) (okT HS t1) (v := .int (AI ((stI h v0 3 ((AI h v1 3)))) v1 4)) rfl rfl ?_
  refine Wp.putf (op_ix (by decide) ol_73 7 rfl) (twoT t0) (okT HS t0) (h' := (stI ((stI h v0 3 ((AI h v1 3)))) v0 4 ((AI ((stI h v0 3 ((AI h v1 3)))) v1 4)))) rfl rfl ?_
  refine Wp.blk (by decide) ol_73 8 2 (pc' := 18) (L' := [.ref v0, .ref v1, mk0]) (S' := [.ref v1, .ref v0]) (h' := (stI ((stI h v0 3 ((AI h v1 3)))) v0 4 ((AI ((stI h v0 3 ((AI h v1 3)))) v1 4)))) rfl ?_
  refine Wp.getf (op_ix (by decide) ol_73 10 rfl) (okT HS t1) (v := .int (AI ((stI ((stI h v0 3 ((AI h v1 3)))) v0 4 ((AI ((stI h v0 3 ((AI h v1 3)))) v1 4)))) v1 5)) rfl rfl ?_
  refine Wp.putf (op_ix (by decide) ol_73 11 rfl) (twoT t0) (okT HS t0) (h' := (stI ((stI ((stI h v0 3 ((AI h v1 3)))) v0 4 ((AI ((stI h v0 3 ((AI h v1 3)))) v1 4)))) v0 5 ((AI ((stI ((stI h v0 3 ((AI h v1 3)))) v0 4 ((AI ((stI h v0 3 ((AI h v1 3)))) v1 4)))) v1 5)))) rfl rfl ?_
  refine Wp.blk (by decide) ol_73 12 2 (pc' := 26) (L' := [.ref v0, .ref v1, mk0]) (S' := [.ref v1, .ref v0]) (h' := (stI ((stI ((stI h v0 3 ((AI h v1 3)))) v0 4 ((AI ((stI h v0 3 ((AI h v1 3)))) v1 4)))) v0 5 ((AI ((stI ((stI h v0 3 ((AI h v1 3)))) v0 4 ((AI ((stI h v0 3 ((AI h v1 3)))) v1 4)))) v1 5)))) rfl ?_
  refine Wp.getf (op_ix (by decide) ol_73 14 rfl) (okT HS t1) (v := .int (AI ((stI ((stI ((stI h v0 3 ((AI h v1 3)))) v0 4 ((AI ((stI h v0 3 ((AI h v1 3)))) v1 4)))) v0 5 ((AI ((stI ((stI h v0 3 ((AI h v1 3)))) v0 4 ((AI ((stI h v0 3 ((AI h v1 3)))) v1 4)))) v1 5)))) v1 2)) rfl rfl ?_
  refine Wp.putf (op_ix (by decide) ol_73 15 rfl) (twoT t0) (okT HS t0) (h' := (stI ((stI ((stI ((stI h v0 3 ((AI h v1 3)))) v0 4 ((AI ((stI h v0 3 ((AI h v1 3)))) v1 4)))) v0 5 ((AI ((stI ((stI h v0 3 ((AI h v1 3)))) v0 4 ((AI ((stI h v0 3 ((AI h v1 3)))) v1 4)))) v1 5)))) v0 2 ((AI ((stI ((stI ((stI h v0 3 ((AI h v1 3)))) v0 4 ((AI ((stI h v0 3 ((AI h v1 3)))) v1 4)))) v0 5 ((AI ((stI ((stI h v0 3 ((AI h v1 3)))) v0 4 ((AI ((stI h v0 3 ((AI h v1 3)))) v1 4)))) v1 5)))) v1 2)))) rfl rfl ?_
  refine Wp.blk (by decide) ol_73 16 2 (pc' := 34) (L' := [.ref v0, .ref v1, .int (0 : Int32)]) (S' := []) (h' := (stI ((stI ((stI ((stI h v0 3 ((AI h v1 3)))) v0 4 ((AI ((stI h v0 3 ((AI h v1 3)))) v1 4)))) v0 5 ((AI ((stI ((stI h v0 3 ((AI h v1 3)))) v0 4 ((AI ((stI h v0 3 ((AI h v1 3)))) v1 4)))) v1 5)))) v0 2 ((AI ((stI ((stI ((stI h v0 3 ((AI h v1 3)))) v0 4 ((AI ((stI h v0 3 ((AI h v1 3)))) v1 4)))) v0 5 ((AI ((stI ((stI h v0 3 ((AI h v1 3)))) v0 4 ((AI ((stI h v0 3 ((AI h v1 3)))) v1 4)))) v1 5)))) v1 2)))) rfl ?_
  exact K
/-- CutsOrFast$Stand.copyFrom at 34 -/
theorem g73_34 (d : Nat) (v0 : Nat) (v1 : Nat) (v2 : Int32) (h : AH) (HS : Sh h) (t0 : St3 v0) (t1 : St3 v1) (Q : Option Value → AH → Prop) (K : ((v2 < (AI h v0 2) → (∀ h2, h2 = (putv h ((v0 + 1)) v2 ((atv h ((v1 + 1)) v2))) → Wp (d + 1) 73 34 [.ref v0, .ref v1, .int (v2 + (1 : Int32))] [] h2 Q)) ∧ (¬ v2 < (AI h v0 2) → Q none h))) : Wp (d + 1) 73 34 [.ref v0, .ref v1, .int v2] [] h Q := by
  refine Wp.blk (by decide) ol_73 18 2 (pc' := 36) (L' := [.ref v0, .ref v1, .int v2]) (S' := [.ref v0, .int v2]) (h' := h) rfl ?_
  refine Wp.getf (op_ix (by decide) ol_73 20 rfl) (okT HS t0) (v := .int (AI h v0 2)) rfl rfl ?_
  refine Wp.blk (by decide) ol_73 21 1 (pc' := (if v2 < (AI h v0 2) then 42 else 64)) (L' := [.ref v0, .ref v1, .int v2]) (S' := []) (h' := h) rfl ?_
  refine Wp.br (fun c1 => ?_) (fun c1 => ?_)
  · replace K := K.1 c1
    refine Wp.blk (by decide) ol_73 22 1 (pc' := 43) (L' := [.ref v0, .ref v1, .int v2]) (S' := [.ref v0]) (h' := h) rfl ?_
    refine Wp.getf (op_ix (by decide) ol_73 23 rfl) (okT HS t0) (v := .ref (v0 + 1)) (congrArg va_rf (rT1 HS t0)) rfl ?_
    refine Wp.blk (by decide) ol_73 24 2 (pc' := 48) (L' := [.ref v0, .ref v1, .int v2]) (S' := [.ref v1, .int v2, .ref (v0 + 1)]) (h' := h) rfl ?_
    refine Wp.getf (op_ix (by decide) ol_73 26 rfl) (okT HS t1) (v := .ref (v1 + 1)) (congrArg va_rf (rT1 HS t1)) rfl ?_
    refine Wp.blk (by decide) ol_73 27 1 (pc' := 52) (L' := [.ref v0, .ref v1, .int v2]) (S' := [.int v2, .ref (v1 + 1), .int v2, .ref (v0 + 1)]) (h' := h) rfl ?_
    refine Wp.callI (op_ix (by decide) ol_73 28 rfl) rfl rfl (sp_at (kM HS t1) (nM HS t1) ?_)
    refine ⟨_, rfl, ?_⟩
    refine Wp.callV (op_ix (by decide) ol_73 29 rfl) rfl rfl (sp_put (kM HS t0) (nM HS t0) (Nat.le_succ_of_le (twoT t0)) ?_)
    refine ⟨rfl, ?_⟩
    obtain ⟨h2, e3⟩ : ∃ y, y = (putv h ((v0 + 1)) v2 ((atv h ((v1 + 1)) v2))) := ⟨_, rfl⟩
    rw [← e3]
    replace K := K h2 e3
    have hs4 : Sh h2 := by rw [e3]; exact Sh.putv HS _ _ _
    refine Wp.blk (by decide) ol_73 30 2 (pc' := 34) (L' := [.ref v0, .ref v1, .int (v2 + (1 : Int32))]) (S' := []) (h' := h2) rfl ?_
    exact K
  · replace K := K.2 c1
    exact Wp.ret (op_ix (by decide) ol_73 32 rfl) rfl K
/-- CutsOrFast$Stand.play at 0 (I)V -/
theorem g74_0 (d : Nat) (v0 : Nat) (v1 : Int32) (h : AH) (HS : Sh h) (t0 : St3 v0) (Q : Option Value → AH → Prop) (K : (((AI h v0 5) = (0 : Int32) → Wp d 74 34 [.ref v0, .int v1] [] (stI h v0 3 ((((AI h v0 3)) ||| ((((1 : Int32)) <<< (v1 &&& 31)))))) Q) ∧ (¬ (AI h v0 5) = (0 : Int32) → Wp d 74 34 [.ref v0, .int v1] [] (stI h v0 4 ((((AI h v0 4)) ||| ((((1 : Int32)) <<< (v1 &&& 31)))))) Q))) : Wp d 74 0 [.ref v0, .int v1] [] h Q := by
  refine Wp.blk (by decide) ol_74 0 1 (pc' := 1) (L' := [.ref v0, .int v1]) (S' := [.ref v0]) (h' := h) rfl ?_
  refine Wp.getf (op_ix (by decide) ol_74 1 rfl) (okT HS t0) (v := .int (AI h v0 5)) rfl rfl ?_
  refine Wp.blk (by decide) ol_74 2 1 (pc' := (if (AI h v0 5) = (0 : Int32) then 7 else 22)) (L' := [.ref v0, .int v1]) (S' := []) (h' := h) rfl ?_
  refine Wp.br (fun c1 => ?_) (fun c1 => ?_)
  · replace K := K.1 c1
    refine Wp.blk (by decide) ol_74 3 2 (pc' := 9) (L' := [.ref v0, .int v1]) (S' := [.ref v0, .ref v0]) (h' := h) rfl ?_
    refine Wp.getf (op_ix (by decide) ol_74 5 rfl) (okT HS t0) (v := .int (AI h v0 3)) rfl rfl ?_
    refine Wp.blk (by decide) ol_74 6 4 (pc' := 16) (L' := [.ref v0, .int v1]) (S' := [.int (((AI h v0 3)) ||| ((((1 : Int32)) <<< (v1 &&& 31)))), .ref v0]) (h' := h) rfl ?_
    refine Wp.putf (op_ix (by decide) ol_74 10 rfl) (twoT t0) (okT HS t0) (h' := (stI h v0 3 ((((AI h v0 3)) ||| ((((1 : Int32)) <<< (v1 &&& 31))))))) rfl rfl ?_
    refine Wp.blk (by decide) ol_74 11 1 (pc' := 34) (L' := [.ref v0, .int v1]) (S' := []) (h' := (stI h v0 3 ((((AI h v0 3)) ||| ((((1 : Int32)) <<< (v1 &&& 31))))))) rfl ?_
    exact K
  · replace K := K.2 c1
    refine Wp.blk (by decide) ol_74 12 2 (pc' := 24) (L' := [.ref v0, .int v1]) (S' := [.ref v0, .ref v0]) (h' := h) rfl ?_
    refine Wp.getf (op_ix (by decide) ol_74 14 rfl) (okT HS t0) (v := .int (AI h v0 4)) rfl rfl ?_
    refine Wp.blk (by decide) ol_74 15 4 (pc' := 31) (L' := [.ref v0, .int v1]) (S' := [.int (((AI h v0 4)) ||| ((((1 : Int32)) <<< (v1 &&& 31)))), .ref v0]) (h' := h) rfl ?_
    refine Wp.putf (op_ix (by decide) ol_74 19 rfl) (twoT t0) (okT HS t0) (h' := (stI h v0 4 ((((AI h v0 4)) ||| ((((1 : Int32)) <<< (v1 &&& 31))))))) rfl rfl ?_
    exact K
/-- CutsOrFast$Stand.play at 34 -/
theorem g74_34 (d : Nat) (v0 : Nat) (v1 : Int32) (h : AH) (HS : Sh h) (t0 : St3 v0) (Q : Option Value → AH → Prop) (K : (∀ h1, h1 = (putv h ((v0 + 1)) ((AI h v0 2)) v1) → Q none (stI ((stI h1 v0 2 ((((AI h1 v0 2)) + ((1 : Int32)))))) v0 5 ((((1 : Int32)) - ((AI ((stI h1 v0 2 ((((AI h1 v0 2)) + ((1 : Int32)))))) v0 5))))))) : Wp (d + 1) 74 34 [.ref v0, .int v1] [] h Q := by
  refine Wp.blk (by decide) ol_74 20 1 (pc' := 35) (L' := [.ref v0, .int v1]) (S' := [.ref v0]) (h' := h) rfl ?_
  refine Wp.getf (op_ix (by decide) ol_74 21 rfl) (okT HS t0) (v := .ref (v0 + 1)) (congrArg va_rf (rT1 HS t0)) rfl ?_
  refine Wp.blk (by decide) ol_74 22 1 (pc' := 39) (L' := [.ref v0, .int v1]) (S' := [.ref v0, .ref (v0 + 1)]) (h' := h) rfl ?_
  refine Wp.getf (op_ix (by decide) ol_74 23 rfl) (okT HS t0) (v := .int (AI h v0 2)) rfl rfl ?_
  refine Wp.blk (by decide) ol_74 24 1 (pc' := 43) (L' := [.ref v0, .int v1]) (S' := [.int v1, .int (AI h v0 2), .ref (v0 + 1)]) (h' := h) rfl ?_
  refine Wp.callV (op_ix (by decide) ol_74 25 rfl) rfl rfl (sp_put (kM HS t0) (nM HS t0) (Nat.le_succ_of_le (twoT t0)) ?_)
  refine ⟨rfl, ?_⟩
  obtain ⟨h1, e2⟩ : ∃ y, y = (putv h ((v0 + 1)) ((AI h v0 2)) v1) := ⟨_, rfl⟩
  rw [← e2]
  replace K := K h1 e2
  have hs3 : Sh h1 := by rw [e2]; exact Sh.putv HS _ _ _
  refine Wp.blk (by decide) ol_74 26 2 (pc' := 48) (L' := [.ref v0, .int v1]) (S' := [.ref v0, .ref v0]) (h' := h1) rfl ?_
  refine Wp.getf (op_ix (by decide) ol_74 28 rfl) (okT hs3 t0) (v := .int (AI h1 v0 2)) rfl rfl ?_
  refine Wp.blk (by decide) ol_74 29 2 (pc' := 53) (L' := [.ref v0, .int v1]) (S' := [.int (((AI h1 v0 2)) + ((1 : Int32))), .ref v0]) (h' := h1) rfl ?_
  refine Wp.putf (op_ix (by decide) ol_74 31 rfl) (twoT t0) (okT hs3 t0) (h' := (stI h1 v0 2 ((((AI h1 v0 2)) + ((1 : Int32)))))) rfl rfl ?_
  refine Wp.blk (by decide) ol_74 32 3 (pc' := 59) (L' := [.ref v0, .int v1]) (S' := [.ref v0, .int (1 : Int32), .ref v0]) (h' := (stI h1 v0 2 ((((AI h1 v0 2)) + ((1 : Int32)))))) rfl ?_
  refine Wp.getf (op_ix (by decide) ol_74 35 rfl) (okT hs3 t0) (v := .int (AI ((stI h1 v0 2 ((((AI h1 v0 2)) + ((1 : Int32)))))) v0 5)) rfl rfl ?_
  refine Wp.blk (by decide) ol_74 36 1 (pc' := 63) (L' := [.ref v0, .int v1]) (S' := [.int (((1 : Int32)) - ((AI ((stI h1 v0 2 ((((AI h1 v0 2)) + ((1 : Int32)))))) v0 5))), .ref v0]) (h' := (stI h1 v0 2 ((((AI h1 v0 2)) + ((1 : Int32)))))) rfl ?_
  refine Wp.putf (op_ix (by decide) ol_74 37 rfl) (twoT t0) (okT hs3 t0) (h' := (stI ((stI h1 v0 2 ((((AI h1 v0 2)) + ((1 : Int32)))))) v0 5 ((((1 : Int32)) - ((AI ((stI h1 v0 2 ((((AI h1 v0 2)) + ((1 : Int32)))))) v0 5)))))) rfl rfl ?_
  exact Wp.ret (op_ix (by decide) ol_74 38 rfl) rfl K
/-- CutsOrFast$Stand.undo at 0 ()V -/
theorem g75_0 (d : Nat) (v0 : Nat) (h : AH) (HS : Sh h) (t0 : St3 v0) (Q : Option Value → AH → Prop) (K : (((0 : Int32) < (AI h v0 2) → Q none (stI ((stI ((stI ((stI h v0 2 ((((AI h v0 2)) - ((1 : Int32)))))) v0 3 ((((AI ((stI h v0 2 ((((AI h v0 2)) - ((1 : Int32)))))) v0 3)) &&& ((((((1 : Int32)) <<< (((atv ((stI h v0 2 ((((AI h v0 2)) - ((1 : Int32)))))) ((v0 + 1)) ((AI ((stI h v0 2 ((((AI h v0 2)) - ((1 : Int32)))))) v0 2)))) &&& 31))) ^^^ ((-1 : Int32)))))))) v0 4 ((((AI ((stI ((stI h v0 2 ((((AI h v0 2)) - ((1 : Int32)))))) v0 3 ((((AI ((stI h v0 2 ((((AI h v0 2)) - ((1 : Int32)))))) v0 3)) &&& ((((((1 : Int32)) <<< (((atv ((stI h v0 2 ((((AI h v0 2)) - ((1 : Int32)))))) ((v0 + 1)) ((AI ((stI h v0 2 ((((AI h v0 2)) - ((1 : Int32)))))) v0 2)))) &&& 31))) ^^^ ((-1 : Int32)))))))) v0 4)) &&& ((((((1 : Int32)) <<< (((atv ((stI h v0 2 ((((AI h v0 2)) - ((1 : Int32)))))) ((v0 + 1)) ((AI ((stI h v0 2 ((((AI h v0 2)) - ((1 : Int32)))))) v0 2)))) &&& 31))) ^^^ ((-1 : Int32)))))))) v0 5 ((((1 : Int32)) - ((AI ((stI ((stI ((stI h v0 2 ((((AI h v0 2)) - ((1 : Int32)))))) v0 3 ((((AI ((stI h v0 2 ((((AI h v0 2)) - ((1 : Int32)))))) v0 3)) &&& ((((((1 : Int32)) <<< (((atv ((stI h v0 2 ((((AI h v0 2)) - ((1 : Int32)))))) ((v0 + 1)) ((AI ((stI h v0 2 ((((AI h v0 2)) - ((1 : Int32)))))) v0 2)))) &&& 31))) ^^^ ((-1 : Int32)))))))) v0 4 ((((AI ((stI ((stI h v0 2 ((((AI h v0 2)) - ((1 : Int32)))))) v0 3 ((((AI ((stI h v0 2 ((((AI h v0 2)) - ((1 : Int32)))))) v0 3)) &&& ((((((1 : Int32)) <<< (((atv ((stI h v0 2 ((((AI h v0 2)) - ((1 : Int32)))))) ((v0 + 1)) ((AI ((stI h v0 2 ((((AI h v0 2)) - ((1 : Int32)))))) v0 2)))) &&& 31))) ^^^ ((-1 : Int32)))))))) v0 4)) &&& ((((((1 : Int32)) <<< (((atv ((stI h v0 2 ((((AI h v0 2)) - ((1 : Int32)))))) ((v0 + 1)) ((AI ((stI h v0 2 ((((AI h v0 2)) - ((1 : Int32)))))) v0 2)))) &&& 31))) ^^^ ((-1 : Int32)))))))) v0 5)))))) ∧ (¬ (0 : Int32) < (AI h v0 2) → Q none h))) : Wp (d + 1) 75 0 [.ref v0, mk0] [] h Q := by
  refine Wp.blk (by decide) ol_75 0 1 (pc' := 1) (L' := [.ref v0, mk0]) (S' := [.ref v0]) (h' := h) rfl ?_
  refine Wp.getf (op_ix (by decide) ol_75 1 rfl) (okT HS t0) (v := .int (AI h v0 2)) rfl rfl ?_
  refine Wp.blk (by decide) ol_75 2 1 (pc' := (if (0 : Int32) < (AI h v0 2) then 7 else 65)) (L' := [.ref v0, mk0]) (S' := []) (h' := h) rfl ?_
  refine Wp.br (fun c1 => ?_) (fun c1 => ?_)
  · replace K := K.1 c1
    refine Wp.blk (by decide) ol_75 3 2 (pc' := 9) (L' := [.ref v0, mk0]) (S' := [.ref v0, .ref v0]) (h' := h) rfl ?_
    refine Wp.getf (op_ix (by decide) ol_75 5 rfl) (okT HS t0) (v := .int (AI h v0 2)) rfl rfl ?_
    refine Wp.blk (by decide) ol_75 6 2 (pc' := 14) (L' := [.ref v0, mk0]) (S' := [.int (((AI h v0 2)) - ((1 : Int32))), .ref v0]) (h' := h) rfl ?_
    refine Wp.putf (op_ix (by decide) ol_75 8 rfl) (twoT t0) (okT HS t0) (h' := (stI h v0 2 ((((AI h v0 2)) - ((1 : Int32)))))) rfl rfl ?_
    refine Wp.blk (by decide) ol_75 9 2 (pc' := 19) (L' := [.ref v0, mk0]) (S' := [.ref v0, .int (1 : Int32)]) (h' := (stI h v0 2 ((((AI h v0 2)) - ((1 : Int32)))))) rfl ?_
    refine Wp.getf (op_ix (by decide) ol_75 11 rfl) (okT HS t0) (v := .ref (v0 + 1)) (congrArg va_rf (rT1 HS t0)) rfl ?_
    refine Wp.blk (by decide) ol_75 12 1 (pc' := 23) (L' := [.ref v0, mk0]) (S' := [.ref v0, .ref (v0 + 1), .int (1 : Int32)]) (h' := (stI h v0 2 ((((AI h v0 2)) - ((1 : Int32)))))) rfl ?_
    refine Wp.getf (op_ix (by decide) ol_75 13 rfl) (okT HS t0) (v := .int (AI ((stI h v0 2 ((((AI h v0 2)) - ((1 : Int32)))))) v0 2)) rfl rfl ?_
    refine Wp.callI (op_ix (by decide) ol_75 14 rfl) rfl rfl (sp_at (kM HS t0) (nM HS t0) ?_)
    refine ⟨_, rfl, ?_⟩
    refine Wp.blk (by decide) ol_75 15 4 (pc' := 33) (L' := [.ref v0, .int (((1 : Int32)) <<< (((atv ((stI h v0 2 ((((AI h v0 2)) - ((1 : Int32)))))) ((v0 + 1)) ((AI ((stI h v0 2 ((((AI h v0 2)) - ((1 : Int32)))))) v0 2)))) &&& 31))]) (S' := [.ref v0, .ref v0]) (h' := (stI h v0 2 ((((AI h v0 2)) - ((1 : Int32)))))) rfl ?_
    refine Wp.getf (op_ix (by decide) ol_75 19 rfl) (okT HS t0) (v := .int (AI ((stI h v0 2 ((((AI h v0 2)) - ((1 : Int32)))))) v0 3)) rfl rfl ?_
    refine Wp.blk (by decide) ol_75 20 4 (pc' := 40) (L' := [.ref v0, .int (((1 : Int32)) <<< (((atv ((stI h v0 2 ((((AI h v0 2)) - ((1 : Int32)))))) ((v0 + 1)) ((AI ((stI h v0 2 ((((AI h v0 2)) - ((1 : Int32)))))) v0 2)))) &&& 31))]) (S' := [.int (((AI ((stI h v0 2 ((((AI h v0 2)) - ((1 : Int32)))))) v0 3)) &&& ((((((1 : Int32)) <<< (((atv ((stI h v0 2 ((((AI h v0 2)) - ((1 : Int32)))))) ((v0 + 1)) ((AI ((stI h v0 2 ((((AI h v0 2)) - ((1 : Int32)))))) v0 2)))) &&& 31))) ^^^ ((-1 : Int32))))), .ref v0]) (h' := (stI h v0 2 ((((AI h v0 2)) - ((1 : Int32)))))) rfl ?_
    refine Wp.putf (op_ix (by decide) ol_75 24 rfl) (twoT t0) (okT HS t0) (h' := (stI ((stI h v0 2 ((((AI h v0 2)) - ((1 : Int32)))))) v0 3 ((((AI ((stI h v0 2 ((((AI h v0 2)) - ((1 : Int32)))))) v0 3)) &&& ((((((1 : Int32)) <<< (((atv ((stI h v0 2 ((((AI h v0 2)) - ((1 : Int32)))))) ((v0 + 1)) ((AI ((stI h v0 2 ((((AI h v0 2)) - ((1 : Int32)))))) v0 2)))) &&& 31))) ^^^ ((-1 : Int32)))))))) rfl rfl ?_
    refine Wp.blk (by decide) ol_75 25 2 (pc' := 45) (L' := [.ref v0, .int (((1 : Int32)) <<< (((atv ((stI h v0 2 ((((AI h v0 2)) - ((1 : Int32)))))) ((v0 + 1)) ((AI ((stI h v0 2 ((((AI h v0 2)) - ((1 : Int32)))))) v0 2)))) &&& 31))]) (S' := [.ref v0, .ref v0]) (h' := (stI ((stI h v0 2 ((((AI h v0 2)) - ((1 : Int32)))))) v0 3 ((((AI ((stI h v0 2 ((((AI h v0 2)) - ((1 : Int32)))))) v0 3)) &&& ((((((1 : Int32)) <<< (((atv ((stI h v0 2 ((((AI h v0 2)) - ((1 : Int32)))))) ((v0 + 1)) ((AI ((stI h v0 2 ((((AI h v0 2)) - ((1 : Int32)))))) v0 2)))) &&& 31))) ^^^ ((-1 : Int32)))))))) rfl ?_
    refine Wp.getf (op_ix (by decide) ol_75 27 rfl) (okT HS t0) (v := .int (AI ((stI ((stI h v0 2 ((((AI h v0 2)) - ((1 : Int32)))))) v0 3 ((((AI ((stI h v0 2 ((((AI h v0 2)) - ((1 : Int32)))))) v0 3)) &&& ((((((1 : Int32)) <<< (((atv ((stI h v0 2 ((((AI h v0 2)) - ((1 : Int32)))))) ((v0 + 1)) ((AI ((stI h v0 2 ((((AI h v0 2)) - ((1 : Int32)))))) v0 2)))) &&& 31))) ^^^ ((-1 : Int32)))))))) v0 4)) rfl rfl ?_
    refine Wp.blk (by decide) ol_75 28 4 (pc' := 52) (L' := [.ref v0, .int (((1 : Int32)) <<< (((atv ((stI h v0 2 ((((AI h v0 2)) - ((1 : Int32)))))) ((v0 + 1)) ((AI ((stI h v0 2 ((((AI h v0 2)) - ((1 : Int32)))))) v0 2)))) &&& 31))]) (S' := [.int (((AI ((stI ((stI h v0 2 ((((AI h v0 2)) - ((1 : Int32)))))) v0 3 ((((AI ((stI h v0 2 ((((AI h v0 2)) - ((1 : Int32)))))) v0 3)) &&& ((((((1 : Int32)) <<< (((atv ((stI h v0 2 ((((AI h v0 2)) - ((1 : Int32)))))) ((v0 + 1)) ((AI ((stI h v0 2 ((((AI h v0 2)) - ((1 : Int32)))))) v0 2)))) &&& 31))) ^^^ ((-1 : Int32)))))))) v0 4)) &&& ((((((1 : Int32)) <<< (((atv ((stI h v0 2 ((((AI h v0 2)) - ((1 : Int32)))))) ((v0 + 1)) ((AI ((stI h v0 2 ((((AI h v0 2)) - ((1 : Int32)))))) v0 2)))) &&& 31))) ^^^ ((-1 : Int32))))), .ref v0]) (h' := (stI ((stI h v0 2 ((((AI h v0 2)) - ((1 : Int32)))))) v0 3 ((((AI ((stI h v0 2 ((((AI h v0 2)) - ((1 : Int32)))))) v0 3)) &&& ((((((1 : Int32)) <<< (((atv ((stI h v0 2 ((((AI h v0 2)) - ((1 : Int32)))))) ((v0 + 1)) ((AI ((stI h v0 2 ((((AI h v0 2)) - ((1 : Int32)))))) v0 2)))) &&& 31))) ^^^ ((-1 : Int32)))))))) rfl ?_
    refine Wp.putf (op_ix (by decide) ol_75 32 rfl) (twoT t0) (okT HS t0) (h' := (stI ((stI ((stI h v0 2 ((((AI h v0 2)) - ((1 : Int32)))))) v0 3 ((((AI ((stI h v0 2 ((((AI h v0 2)) - ((1 : Int32)))))) v0 3)) &&& ((((((1 : Int32)) <<< (((atv ((stI h v0 2 ((((AI h v0 2)) - ((1 : Int32)))))) ((v0 + 1)) ((AI ((stI h v0 2 ((((AI h v0 2)) - ((1 : Int32)))))) v0 2)))) &&& 31))) ^^^ ((-1 : Int32)))))))) v0 4 ((((AI ((stI ((stI h v0 2 ((((AI h v0 2)) - ((1 : Int32)))))) v0 3 ((((AI ((stI h v0 2 ((((AI h v0 2)) - ((1 : Int32)))))) v0 3)) &&& ((((((1 : Int32)) <<< (((atv ((stI h v0 2 ((((AI h v0 2)) - ((1 : Int32)))))) ((v0 + 1)) ((AI ((stI h v0 2 ((((AI h v0 2)) - ((1 : Int32)))))) v0 2)))) &&& 31))) ^^^ ((-1 : Int32)))))))) v0 4)) &&& ((((((1 : Int32)) <<< (((atv ((stI h v0 2 ((((AI h v0 2)) - ((1 : Int32)))))) ((v0 + 1)) ((AI ((stI h v0 2 ((((AI h v0 2)) - ((1 : Int32)))))) v0 2)))) &&& 31))) ^^^ ((-1 : Int32)))))))) rfl rfl ?_
    refine Wp.blk (by decide) ol_75 33 3 (pc' := 58) (L' := [.ref v0, .int (((1 : Int32)) <<< (((atv ((stI h v0 2 ((((AI h v0 2)) - ((1 : Int32)))))) ((v0 + 1)) ((AI ((stI h v0 2 ((((AI h v0 2)) - ((1 : Int32)))))) v0 2)))) &&& 31))]) (S' := [.ref v0, .int (1 : Int32), .ref v0]) (h' := (stI ((stI ((stI h v0 2 ((((AI h v0 2)) - ((1 : Int32)))))) v0 3 ((((AI ((stI h v0 2 ((((AI h v0 2)) - ((1 : Int32)))))) v0 3)) &&& ((((((1 : Int32)) <<< (((atv ((stI h v0 2 ((((AI h v0 2)) - ((1 : Int32)))))) ((v0 + 1)) ((AI ((stI h v0 2 ((((AI h v0 2)) - ((1 : Int32)))))) v0 2)))) &&& 31))) ^^^ ((-1 : Int32)))))))) v0 4 ((((AI ((stI ((stI h v0 2 ((((AI h v0 2)) - ((1 : Int32)))))) v0 3 ((((AI ((stI h v0 2 ((((AI h v0 2)) - ((1 : Int32)))))) v0 3)) &&& ((((((1 : Int32)) <<< (((atv ((stI h v0 2 ((((AI h v0 2)) - ((1 : Int32)))))) ((v0 + 1)) ((AI ((stI h v0 2 ((((AI h v0 2)) - ((1 : Int32)))))) v0 2)))) &&& 31))) ^^^ ((-1 : Int32)))))))) v0 4)) &&& ((((((1 : Int32)) <<< (((atv ((stI h v0 2 ((((AI h v0 2)) - ((1 : Int32)))))) ((v0 + 1)) ((AI ((stI h v0 2 ((((AI h v0 2)) - ((1 : Int32)))))) v0 2)))) &&& 31))) ^^^ ((-1 : Int32)))))))) rfl ?_
    refine Wp.getf (op_ix (by decide) ol_75 36 rfl) (okT HS t0) (v := .int (AI ((stI ((stI ((stI h v0 2 ((((AI h v0 2)) - ((1 : Int32)))))) v0 3 ((((AI ((stI h v0 2 ((((AI h v0 2)) - ((1 : Int32)))))) v0 3)) &&& ((((((1 : Int32)) <<< (((atv ((stI h v0 2 ((((AI h v0 2)) - ((1 : Int32)))))) ((v0 + 1)) ((AI ((stI h v0 2 ((((AI h v0 2)) - ((1 : Int32)))))) v0 2)))) &&& 31))) ^^^ ((-1 : Int32)))))))) v0 4 ((((AI ((stI ((stI h v0 2 ((((AI h v0 2)) - ((1 : Int32)))))) v0 3 ((((AI ((stI h v0 2 ((((AI h v0 2)) - ((1 : Int32)))))) v0 3)) &&& ((((((1 : Int32)) <<< (((atv ((stI h v0 2 ((((AI h v0 2)) - ((1 : Int32)))))) ((v0 + 1)) ((AI ((stI h v0 2 ((((AI h v0 2)) - ((1 : Int32)))))) v0 2)))) &&& 31))) ^^^ ((-1 : Int32)))))))) v0 4)) &&& ((((((1 : Int32)) <<< (((atv ((stI h v0 2 ((((AI h v0 2)) - ((1 : Int32)))))) ((v0 + 1)) ((AI ((stI h v0 2 ((((AI h v0 2)) - ((1 : Int32)))))) v0 2)))) &&& 31))) ^^^ ((-1 : Int32)))))))) v0 5)) rfl rfl ?_
    refine Wp.blk (by decide) ol_75 37 1 (pc' := 62) (L' := [.ref v0, .int (((1 : Int32)) <<< (((atv ((stI h v0 2 ((((AI h v0 2)) - ((1 : Int32)))))) ((v0 + 1)) ((AI ((stI h v0 2 ((((AI h v0 2)) - ((1 : Int32)))))) v0 2)))) &&& 31))]) (S' := [.int (((1 : Int32)) - ((AI ((stI ((stI ((stI h v0 2 ((((AI h v0 2)) - ((1 : Int32)))))) v0 3 ((((AI ((stI h v0 2 ((((AI h v0 2)) - ((1 : Int32)))))) v0 3)) &&& ((((((1 : Int32)) <<< (((atv ((stI h v0 2 ((((AI h v0 2)) - ((1 : Int32)))))) ((v0 + 1)) ((AI ((stI h v0 2 ((((AI h v0 2)) - ((1 : Int32)))))) v0 2)))) &&& 31))) ^^^ ((-1 : Int32)))))))) v0 4 ((((AI ((stI ((stI h v0 2 ((((AI h v0 2)) - ((1 : Int32)))))) v0 3 ((((AI ((stI h v0 2 ((((AI h v0 2)) - ((1 : Int32)))))) v0 3)) &&& ((((((1 : Int32)) <<< (((atv ((stI h v0 2 ((((AI h v0 2)) - ((1 : Int32)))))) ((v0 + 1)) ((AI ((stI h v0 2 ((((AI h v0 2)) - ((1 : Int32)))))) v0 2)))) &&& 31))) ^^^ ((-1 : Int32)))))))) v0 4)) &&& ((((((1 : Int32)) <<< (((atv ((stI h v0 2 ((((AI h v0 2)) - ((1 : Int32)))))) ((v0 + 1)) ((AI ((stI h v0 2 ((((AI h v0 2)) - ((1 : Int32)))))) v0 2)))) &&& 31))) ^^^ ((-1 : Int32)))))))) v0 5))), .ref v0]) (h' := (stI ((stI ((stI h v0 2 ((((AI h v0 2)) - ((1 : Int32)))))) v0 3 ((((AI ((stI h v0 2 ((((AI h v0 2)) - ((1 : Int32)))))) v0 3)) &&& ((((((1 : Int32)) <<< (((atv ((stI h v0 2 ((((AI h v0 2)) - ((1 : Int32)))))) ((v0 + 1)) ((AI ((stI h v0 2 ((((AI h v0 2)) - ((1 : Int32)))))) v0 2)))) &&& 31))) ^^^ ((-1 : Int32)))))))) v0 4 ((((AI ((stI ((stI h v0 2 ((((AI h v0 2)) - ((1 : Int32)))))) v0 3 ((((AI ((stI h v0 2 ((((AI h v0 2)) - ((1 : Int32)))))) v0 3)) &&& ((((((1 : Int32)) <<< (((atv ((stI h v0 2 ((((AI h v0 2)) - ((1 : Int32)))))) ((v0 + 1)) ((AI ((stI h v0 2 ((((AI h v0 2)) - ((1 : Int32)))))) v0 2)))) &&& 31))) ^^^ ((-1 : Int32)))))))) v0 4)) &&& ((((((1 : Int32)) <<< (((atv ((stI h v0 2 ((((AI h v0 2)) - ((1 : Int32)))))) ((v0 + 1)) ((AI ((stI h v0 2 ((((AI h v0 2)) - ((1 : Int32)))))) v0 2)))) &&& 31))) ^^^ ((-1 : Int32)))))))) rfl ?_
    refine Wp.putf (op_ix (by decide) ol_75 38 rfl) (twoT t0) (okT HS t0) (h' := (stI ((stI ((stI ((stI h v0 2 ((((AI h v0 2)) - ((1 : Int32)))))) v0 3 ((((AI ((stI h v0 2 ((((AI h v0 2)) - ((1 : Int32)))))) v0 3)) &&& ((((((1 : Int32)) <<< (((atv ((stI h v0 2 ((((AI h v0 2)) - ((1 : Int32)))))) ((v0 + 1)) ((AI ((stI h v0 2 ((((AI h v0 2)) - ((1 : Int32)))))) v0 2)))) &&& 31))) ^^^ ((-1 : Int32)))))))) v0 4 ((((AI ((stI ((stI h v0 2 ((((AI h v0 2)) - ((1 : Int32)))))) v0 3 ((((AI ((stI h v0 2 ((((AI h v0 2)) - ((1 : Int32)))))) v0 3)) &&& ((((((1 : Int32)) <<< (((atv ((stI h v0 2 ((((AI h v0 2)) - ((1 : Int32)))))) ((v0 + 1)) ((AI ((stI h v0 2 ((((AI h v0 2)) - ((1 : Int32)))))) v0 2)))) &&& 31))) ^^^ ((-1 : Int32)))))))) v0 4)) &&& ((((((1 : Int32)) <<< (((atv ((stI h v0 2 ((((AI h v0 2)) - ((1 : Int32)))))) ((v0 + 1)) ((AI ((stI h v0 2 ((((AI h v0 2)) - ((1 : Int32)))))) v0 2)))) &&& 31))) ^^^ ((-1 : Int32)))))))) v0 5 ((((1 : Int32)) - ((AI ((stI ((stI ((stI h v0 2 ((((AI h v0 2)) - ((1 : Int32)))))) v0 3 ((((AI ((stI h v0 2 ((((AI h v0 2)) - ((1 : Int32)))))) v0 3)) &&& ((((((1 : Int32)) <<< (((atv ((stI h v0 2 ((((AI h v0 2)) - ((1 : Int32)))))) ((v0 + 1)) ((AI ((stI h v0 2 ((((AI h v0 2)) - ((1 : Int32)))))) v0 2)))) &&& 31))) ^^^ ((-1 : Int32)))))))) v0 4 ((((AI ((stI ((stI h v0 2 ((((AI h v0 2)) - ((1 : Int32)))))) v0 3 ((((AI ((stI h v0 2 ((((AI h v0 2)) - ((1 : Int32)))))) v0 3)) &&& ((((((1 : Int32)) <<< (((atv ((stI h v0 2 ((((AI h v0 2)) - ((1 : Int32)))))) ((v0 + 1)) ((AI ((stI h v0 2 ((((AI h v0 2)) - ((1 : Int32)))))) v0 2)))) &&& 31))) ^^^ ((-1 : Int32)))))))) v0 4)) &&& ((((((1 : Int32)) <<< (((atv ((stI h v0 2 ((((AI h v0 2)) - ((1 : Int32)))))) ((v0 + 1)) ((AI ((stI h v0 2 ((((AI h v0 2)) - ((1 : Int32)))))) v0 2)))) &&& 31))) ^^^ ((-1 : Int32)))))))) v0 5)))))) rfl rfl ?_
    exact Wp.ret (op_ix (by decide) ol_75 39 rfl) rfl K
  · replace K := K.2 c1
    exact Wp.ret (op_ix (by decide) ol_75 39 rfl) rfl K
/-- CutsOrFast$Stand.undoAll at 0 ()V -/
theorem g76_0 (d : Nat) (v0 : Nat) (h : AH) (HS : Sh h) (t0 : St3 v0) (Q : Option Value → AH → Prop) (K : Wp d 76 5 [.ref v0, .int (AI h v0 2)] [] h Q) : Wp d 76 0 [.ref v0, mk0] [] h Q := by
  refine Wp.blk (by decide) ol_76 0 1 (pc' := 1) (L' := [.ref v0, mk0]) (S' := [.ref v0]) (h' := h) rfl ?_
  refine Wp.getf (op_ix (by decide) ol_76 1 rfl) (okT HS t0) (v := .int (AI h v0 2)) rfl rfl ?_
  refine Wp.blk (by decide) ol_76 2 1 (pc' := 5) (L' := [.ref v0, .int (AI h v0 2)]) (S' := []) (h' := h) rfl ?_
  exact K
/-- CutsOrFast$Stand.undoAll at 5 -/
theorem g76_5 (d : Nat) (v0 : Nat) (v1 : Int32) (h : AH) (HS : Sh h) (t0 : St3 v0) (Q : Option Value → AH → Prop) (K : (((0 : Int32) < v1 → (Cl d 75 [.ref v0] h (fun r h2 => r = none ∧ Sh h2 ∧ Wp (d + 1) 76 5 [.ref v0, .int (v1 + (-1 : Int32))] [] h2 Q))) ∧ (¬ (0 : Int32) < v1 → Q none h))) : Wp (d + 1) 76 5 [.ref v0, .int v1] [] h Q := by
  refine Wp.blk (by decide) ol_76 3 2 (pc' := (if (0 : Int32) < v1 then 9 else 19)) (L' := [.ref v0, .int v1]) (S' := []) (h' := h) rfl ?_
  refine Wp.br (fun c1 => ?_) (fun c1 => ?_)
  · replace K := K.1 c1
    refine Wp.blk (by decide) ol_76 5 1 (pc' := 10) (L' := [.ref v0, .int v1]) (S' := [.ref v0]) (h' := h) rfl ?_
    refine Wp.callV (op_ix (by decide) ol_76 6 rfl) (act_virt (c2 := 0) rfl (lk1 (kT HS t0)) rfl) rfl (K.mono ?_)
    rintro _ h2 ⟨rfl, hs3, K⟩
    refine ⟨rfl, ?_⟩
    refine Wp.blk (by decide) ol_76 7 2 (pc' := 5) (L' := [.ref v0, .int (v1 + (-1 : Int32))]) (S' := []) (h' := h2) rfl ?_
    exact K
  · replace K := K.2 c1
    exact Wp.ret (op_ix (by decide) ol_76 9 rfl) rfl K
/-- CutsOrFast$Stand.outcome at 0 ()I -/
theorem g77_0 (d : Nat) (v0 : Nat) (h : AH) (HS : Sh h) (t0 : St3 v0) (Q : Option Value → AH → Prop) (K : (Cl d 37 [.ref 5, .int (AI h v0 3), .int (AI h v0 4)] h (fun r h1 => ∃ x3 : Int32, r = some (.int x3) ∧ Sh h1 ∧ Q (some (.int x3)) h1))) : Wp (d + 1) 77 0 [.ref v0] [] h Q := by
  refine Wp.blk (by decide) ol_77 0 1 (pc' := 1) (L' := [.ref v0]) (S' := [.ref v0]) (h' := h) rfl ?_
  refine Wp.getf (op_ix (by decide) ol_77 1 rfl) (okT HS t0) (v := .ref 5) (congrArg va_rf (rT0 HS t0)) rfl ?_
  refine Wp.blk (by decide) ol_77 2 1 (pc' := 5) (L' := [.ref v0]) (S' := [.ref v0, .ref 5]) (h' := h) rfl ?_
  refine Wp.getf (op_ix (by decide) ol_77 3 rfl) (okT HS t0) (v := .int (AI h v0 3)) rfl rfl ?_
  refine Wp.blk (by decide) ol_77 4 1 (pc' := 9) (L' := [.ref v0]) (S' := [.ref v0, .int (AI h v0 3), .ref 5]) (h' := h) rfl ?_
  refine Wp.getf (op_ix (by decide) ol_77 5 rfl) (okT HS t0) (v := .int (AI h v0 4)) rfl rfl ?_
  refine Wp.callI (op_ix (by decide) ol_77 6 rfl) (act_virt (c2 := 2) rfl (lk1 (kS HS 5 rfl)) rfl) rfl (K.mono ?_)
  rintro _ h1 ⟨x3, rfl, hs2, K⟩
  refine ⟨x3, rfl, ?_⟩
  exact Wp.ret (op_ix (by decide) ol_77 7 rfl) rfl K
/-- CutsOrFast$Stand.stateOf at 0 (I)I -/
theorem g78_0 (d : Nat) (v0 : Nat) (v1 : Int32) (h : AH) (HS : Sh h) (t0 : St3 v0) (Q : Option Value → AH → Prop) (K : (((((AI h v0 3)) &&& ((((1 : Int32)) <<< (v1 &&& 31)))) = (0 : Int32) → (((((AI h v0 4)) &&& ((((1 : Int32)) <<< (v1 &&& 31)))) = (0 : Int32) → Q (some (.int (0 : Int32))) h) ∧ (¬ (((AI h v0 4)) &&& ((((1 : Int32)) <<< (v1 &&& 31)))) = (0 : Int32) → Q (some (.int (2 : Int32))) h))) ∧ (¬ (((AI h v0 3)) &&& ((((1 : Int32)) <<< (v1 &&& 31)))) = (0 : Int32) → Q (some (.int (1 : Int32))) h))) : Wp d 78 0 [.ref v0, .int v1, mk0] [] h Q := by
  refine Wp.blk (by decide) ol_78 0 5 (pc' := 5) (L' := [.ref v0, .int v1, .int (((1 : Int32)) <<< (v1 &&& 31))]) (S' := [.ref v0]) (h' := h) rfl ?_
  refine Wp.getf (op_ix (by decide) ol_78 5 rfl) (okT HS t0) (v := .int (AI h v0 3)) rfl rfl ?_
  refine Wp.blk (by decide) ol_78 6 3 (pc' := (if (((AI h v0 3)) &&& ((((1 : Int32)) <<< (v1 &&& 31)))) = (0 : Int32) then 15 else 13)) (L' := [.ref v0, .int v1, .int (((1 : Int32)) <<< (v1 &&& 31))]) (S' := []) (h' := h) rfl ?_
  refine Wp.br (fun c1 => ?_) (fun c1 => ?_)
  · replace K := K.1 c1
    refine Wp.blk (by decide) ol_78 11 1 (pc' := 16) (L' := [.ref v0, .int v1, .int (((1 : Int32)) <<< (v1 &&& 31))]) (S' := [.ref v0]) (h' := h) rfl ?_
    refine Wp.getf (op_ix (by decide) ol_78 12 rfl) (okT HS t0) (v := .int (AI h v0 4)) rfl rfl ?_
    refine Wp.blk (by decide) ol_78 13 3 (pc' := (if (((AI h v0 4)) &&& ((((1 : Int32)) <<< (v1 &&& 31)))) = (0 : Int32) then 28 else 24)) (L' := [.ref v0, .int v1, .int (((1 : Int32)) <<< (v1 &&& 31))]) (S' := []) (h' := h) rfl ?_
    refine Wp.br (fun c2 => ?_) (fun c2 => ?_)
    · replace K := K.1 c2
      refine Wp.blk (by decide) ol_78 18 1 (pc' := 29) (L' := [.ref v0, .int v1, .int (((1 : Int32)) <<< (v1 &&& 31))]) (S' := [.int (0 : Int32)]) (h' := h) rfl ?_
      exact Wp.ret (op_ix (by decide) ol_78 19 rfl) rfl K
    · replace K := K.2 c2
      refine Wp.blk (by decide) ol_78 16 2 (pc' := 29) (L' := [.ref v0, .int v1, .int (((1 : Int32)) <<< (v1 &&& 31))]) (S' := [.int (2 : Int32)]) (h' := h) rfl ?_
      exact Wp.ret (op_ix (by decide) ol_78 19 rfl) rfl K
  · replace K := K.2 c1
    refine Wp.blk (by decide) ol_78 9 1 (pc' := 14) (L' := [.ref v0, .int v1, .int (((1 : Int32)) <<< (v1 &&& 31))]) (S' := [.int (1 : Int32)]) (h' := h) rfl ?_
    exact Wp.ret (op_ix (by decide) ol_78 10 rfl) rfl K
/-- CutsOrFast$Stand.itsNet at 0 ()LCutsOrFast$Net; -/
theorem g79_0 (d : Nat) (v0 : Nat) (h : AH) (HS : Sh h) (t0 : St3 v0) (Q : Option Value → AH → Prop) (K : Q (some (.ref 5)) h) : Wp d 79 0 [.ref v0] [] h Q := by
  refine Wp.blk (by decide) ol_79 0 1 (pc' := 1) (L' := [.ref v0]) (S' := [.ref v0]) (h' := h) rfl ?_
  refine Wp.getf (op_ix (by decide) ol_79 1 rfl) (okT HS t0) (v := .ref 5) (congrArg va_rf (rT0 HS t0)) rfl ?_
  exact Wp.ret (op_ix (by decide) ol_79 2 rfl) rfl K
/-- CutsOrFast$Stand.movesMade at 0 ()I -/
theorem g80_0 (d : Nat) (v0 : Nat) (h : AH) (HS : Sh h) (t0 : St3 v0) (Q : Option Value → AH → Prop) (K : Q (some (.int (AI h v0 2))) h) : Wp d 80 0 [.ref v0] [] h Q := by
  refine Wp.blk (by decide) ol_80 0 1 (pc' := 1) (L' := [.ref v0]) (S' := [.ref v0]) (h' := h) rfl ?_
  refine Wp.getf (op_ix (by decide) ol_80 1 rfl) (okT HS t0) (v := .int (AI h v0 2)) rfl rfl ?_
  exact Wp.ret (op_ix (by decide) ol_80 2 rfl) rfl K
/-- CutsOrFast$Stand.moveAt at 0 (I)I -/
theorem g81_0 (d : Nat) (v0 : Nat) (v1 : Int32) (h : AH) (HS : Sh h) (t0 : St3 v0) (Q : Option Value → AH → Prop) (K : Q (some (.int (atv h ((v0 + 1)) v1))) h) : Wp (d + 1) 81 0 [.ref v0, .int v1] [] h Q := by
  refine Wp.blk (by decide) ol_81 0 1 (pc' := 1) (L' := [.ref v0, .int v1]) (S' := [.ref v0]) (h' := h) rfl ?_
  refine Wp.getf (op_ix (by decide) ol_81 1 rfl) (okT HS t0) (v := .ref (v0 + 1)) (congrArg va_rf (rT1 HS t0)) rfl ?_
  refine Wp.blk (by decide) ol_81 2 1 (pc' := 5) (L' := [.ref v0, .int v1]) (S' := [.int v1, .ref (v0 + 1)]) (h' := h) rfl ?_
  refine Wp.callI (op_ix (by decide) ol_81 3 rfl) rfl rfl (sp_at (kM HS t0) (nM HS t0) ?_)
  refine ⟨_, rfl, ?_⟩
  exact Wp.ret (op_ix (by decide) ol_81 4 rfl) rfl K
/-- CutsOrFast$Stand.side at 0 ()I -/
theorem g82_0 (d : Nat) (v0 : Nat) (h : AH) (HS : Sh h) (t0 : St3 v0) (Q : Option Value → AH → Prop) (K : Q (some (.int (AI h v0 5))) h) : Wp d 82 0 [.ref v0] [] h Q := by
  refine Wp.blk (by decide) ol_82 0 1 (pc' := 1) (L' := [.ref v0]) (S' := [.ref v0]) (h' := h) rfl ?_
  refine Wp.getf (op_ix (by decide) ol_82 1 rfl) (okT HS t0) (v := .int (AI h v0 5)) rfl rfl ?_
  exact Wp.ret (op_ix (by decide) ol_82 2 rfl) rfl K
/-- CutsOrFast$Stand.setSide at 0 (I)V -/
theorem g83_0 (d : Nat) (v0 : Nat) (v1 : Int32) (h : AH) (HS : Sh h) (t0 : St3 v0) (Q : Option Value → AH → Prop) (K : Q none (stI h v0 5 v1)) : Wp d 83 0 [.ref v0, .int v1] [] h Q := by
  refine Wp.blk (by decide) ol_83 0 2 (pc' := 2) (L' := [.ref v0, .int v1]) (S' := [.int v1, .ref v0]) (h' := h) rfl ?_
  refine Wp.putf (op_ix (by decide) ol_83 2 rfl) (twoT t0) (okT HS t0) (h' := (stI h v0 5 v1)) rfl rfl ?_
  exact Wp.ret (op_ix (by decide) ol_83 3 rfl) rfl K
/-- CutsOrFast$Stand.fastSet at 0 ()I -/
theorem g84_0 (d : Nat) (v0 : Nat) (h : AH) (HS : Sh h) (t0 : St3 v0) (Q : Option Value → AH → Prop) (K : Q (some (.int (AI h v0 3))) h) : Wp d 84 0 [.ref v0] [] h Q := by
  refine Wp.blk (by decide) ol_84 0 1 (pc' := 1) (L' := [.ref v0]) (S' := [.ref v0]) (h' := h) rfl ?_
  refine Wp.getf (op_ix (by decide) ol_84 1 rfl) (okT HS t0) (v := .int (AI h v0 3)) rfl rfl ?_
  exact Wp.ret (op_ix (by decide) ol_84 2 rfl) rfl K
/-- CutsOrFast$Stand.cutSet at 0 ()I -/
theorem g85_0 (d : Nat) (v0 : Nat) (h : AH) (HS : Sh h) (t0 : St3 v0) (Q : Option Value → AH → Prop) (K : Q (some (.int (AI h v0 4))) h) : Wp d 85 0 [.ref v0] [] h Q := by
  refine Wp.blk (by decide) ol_85 0 1 (pc' := 1) (L' := [.ref v0]) (S' := [.ref v0]) (h' := h) rfl ?_
  refine Wp.getf (op_ix (by decide) ol_85 1 rfl) (okT HS t0) (v := .int (AI h v0 4)) rfl rfl ?_
  exact Wp.ret (op_ix (by decide) ol_85 2 rfl) rfl K
/-- CutsOrFast$Stand.openSet at 0 ()I -/
theorem g86_0 (d : Nat) (v0 : Nat) (h : AH) (HS : Sh h) (t0 : St3 v0) (Q : Option Value → AH → Prop) (K : Q (some (.int (((((((((1 : Int32)) <<< (((AI h 5 5)) &&& 31))) - ((1 : Int32)))) &&& ((((AI h v0 3)) ^^^ ((-1 : Int32)))))) &&& ((((AI h v0 4)) ^^^ ((-1 : Int32))))))) h) : Wp (d + 1) 86 0 [.ref v0] [] h Q := by
  refine Wp.blk (by decide) ol_86 0 1 (pc' := 1) (L' := [.ref v0]) (S' := [.ref v0]) (h' := h) rfl ?_
  refine Wp.getf (op_ix (by decide) ol_86 1 rfl) (okT HS t0) (v := .ref 5) (congrArg va_rf (rT0 HS t0)) rfl ?_
  refine Wp.callI (op_ix (by decide) ol_86 2 rfl) (act_virt (c2 := 0) rfl (lk1 (kS HS 5 rfl)) rfl) rfl (Cl.enter (L := [.ref 5]) rfl ?_)
  refine Wp.blk (by decide) ol_27 0 2 (pc' := 2) (L' := [.ref 5]) (S' := [.ref 5, .int (1 : Int32)]) (h' := h) rfl ?_
  refine Wp.getf (op_ix (by decide) ol_27 2 rfl) (okS HS 5 rfl rfl) (v := .int (AI h 5 5)) rfl rfl ?_
  refine Wp.blk (by decide) ol_27 3 3 (pc' := 8) (L' := [.ref 5]) (S' := [.int (((((1 : Int32)) <<< (((AI h 5 5)) &&& 31))) - ((1 : Int32)))]) (h' := h) rfl ?_
  refine Wp.ret (op_ix (by decide) ol_27 6 rfl) rfl ⟨_, rfl, ?_⟩
  refine Wp.blk (by decide) ol_86 3 1 (pc' := 8) (L' := [.ref v0]) (S' := [.ref v0, .int (((((1 : Int32)) <<< (((AI h 5 5)) &&& 31))) - ((1 : Int32)))]) (h' := h) rfl ?_
  refine Wp.getf (op_ix (by decide) ol_86 4 rfl) (okT HS t0) (v := .int (AI h v0 3)) rfl rfl ?_
  refine Wp.blk (by decide) ol_86 5 4 (pc' := 15) (L' := [.ref v0]) (S' := [.ref v0, .int (((((((1 : Int32)) <<< (((AI h 5 5)) &&& 31))) - ((1 : Int32)))) &&& ((((AI h v0 3)) ^^^ ((-1 : Int32)))))]) (h' := h) rfl ?_
  refine Wp.getf (op_ix (by decide) ol_86 9 rfl) (okT HS t0) (v := .int (AI h v0 4)) rfl rfl ?_
  refine Wp.blk (by decide) ol_86 10 3 (pc' := 21) (L' := [.ref v0]) (S' := [.int (((((((((1 : Int32)) <<< (((AI h 5 5)) &&& 31))) - ((1 : Int32)))) &&& ((((AI h v0 3)) ^^^ ((-1 : Int32)))))) &&& ((((AI h v0 4)) ^^^ ((-1 : Int32)))))]) (h' := h) rfl ?_
  exact Wp.ret (op_ix (by decide) ol_86 13 rfl) rfl K
/-- CutsOrFast$Stand.openLane at 0 (I)I -/
theorem g87_0 (d : Nat) (v0 : Nat) (v1 : Int32) (h : AH) (HS : Sh h) (t0 : St3 v0) (Q : Option Value → AH → Prop) (K : Wp d 87 4 [.ref v0, mk0, .int v1, .int (0 : Int32)] [] h Q) : Wp d 87 0 [.ref v0, .int v1, mk0, mk0] [] h Q := by
  refine Wp.blk (by decide) ol_87 0 4 (pc' := 4) (L' := [.ref v0, .int v1, .int v1, .int (0 : Int32)]) (S' := []) (h' := h) rfl ?_
  refine Wp.forget (L := [.ref v0, mk0, .int v1, .int (0 : Int32)]) (⟨Or.inr rfl, ⟨Or.inl rfl, ⟨Or.inr rfl, ⟨Or.inr rfl, trivial⟩⟩⟩⟩) ?_
  exact K
/-- CutsOrFast$Stand.openLane at 4 -/
theorem g87_4 (d : Nat) (v0 : Nat) (v2 : Int32) (v3 : Int32) (h : AH) (HS : Sh h) (t0 : St3 v0) (Q : Option Value → AH → Prop) (K : ((v3 < (AI h 5 5) → (Cl d 78 [.ref v0, .int v3] h (fun r h2 => ∃ x4 : Int32, r = some (.int x4) ∧ Sh h2 ∧ ((x4 = (0 : Int32) → ((v2 = (0 : Int32) → Q (some (.int v3)) h2) ∧ (¬ v2 = (0 : Int32) → Wp (d + 1) 87 4 [.ref v0, mk0, .int (v2 + (-1 : Int32)), .int (v3 + (1 : Int32))] [] h2 Q))) ∧ (¬ x4 = (0 : Int32) → Wp (d + 1) 87 4 [.ref v0, mk0, .int v2, .int (v3 + (1 : Int32))] [] h2 Q))))) ∧ (¬ v3 < (AI h 5 5) → Q (some (.int (-1 : Int32))) h))) : Wp (d + 1) 87 4 [.ref v0, mk0, .int v2, .int v3] [] h Q := by
  refine Wp.blk (by decide) ol_87 4 2 (pc' := 6) (L' := [.ref v0, mk0, .int v2, .int v3]) (S' := [.ref v0, .int v3]) (h' := h) rfl ?_
  refine Wp.getf (op_ix (by decide) ol_87 6 rfl) (okT HS t0) (v := .ref 5) (congrArg va_rf (rT0 HS t0)) rfl ?_
  refine Wp.callI (op_ix (by decide) ol_87 7 rfl) (act_virt (c2 := 0) rfl (lk1 (kS HS 5 rfl)) rfl) rfl (Cl.enter (L := [.ref 5]) rfl ?_)
  refine Wp.blk (by decide) ol_26 0 1 (pc' := 1) (L' := [.ref 5]) (S' := [.ref 5]) (h' := h) rfl ?_
  refine Wp.getf (op_ix (by decide) ol_26 1 rfl) (okS HS 5 rfl rfl) (v := .int (AI h 5 5)) rfl rfl ?_
  refine Wp.ret (op_ix (by decide) ol_26 2 rfl) rfl ⟨_, rfl, ?_⟩
  refine Wp.blk (by decide) ol_87 8 1 (pc' := (if v3 < (AI h 5 5) then 15 else 38)) (L' := [.ref v0, mk0, .int v2, .int v3]) (S' := []) (h' := h) rfl ?_
  refine Wp.br (fun c1 => ?_) (fun c1 => ?_)
  · replace K := K.1 c1
    refine Wp.blk (by decide) ol_87 9 2 (pc' := 17) (L' := [.ref v0, mk0, .int v2, .int v3]) (S' := [.int v3, .ref v0]) (h' := h) rfl ?_
    refine Wp.callI (op_ix (by decide) ol_87 11 rfl) (act_virt (c2 := 1) rfl (lk1 (kT HS t0)) rfl) rfl (K.mono ?_)
    rintro _ h2 ⟨x4, rfl, hs3, K⟩
    refine ⟨x4, rfl, ?_⟩
    refine Wp.blk (by decide) ol_87 12 1 (pc' := (if x4 = (0 : Int32) then 23 else 32)) (L' := [.ref v0, mk0, .int v2, .int v3]) (S' := []) (h' := h2) rfl ?_
    refine Wp.br (fun c5 => ?_) (fun c5 => ?_)
    · replace K := K.1 c5
      refine Wp.blk (by decide) ol_87 13 2 (pc' := (if v2 = (0 : Int32) then 27 else 29)) (L' := [.ref v0, mk0, .int v2, .int v3]) (S' := []) (h' := h2) rfl ?_
      refine Wp.br (fun c6 => ?_) (fun c6 => ?_)
      · replace K := K.1 c6
        refine Wp.blk (by decide) ol_87 15 1 (pc' := 28) (L' := [.ref v0, mk0, .int v2, .int v3]) (S' := [.int v3]) (h' := h2) rfl ?_
        exact Wp.ret (op_ix (by decide) ol_87 16 rfl) rfl K
      · replace K := K.2 c6
        refine Wp.blk (by decide) ol_87 17 3 (pc' := 4) (L' := [.ref v0, mk0, .int (v2 + (-1 : Int32)), .int (v3 + (1 : Int32))]) (S' := []) (h' := h2) rfl ?_
        exact K
    · replace K := K.2 c5
      refine Wp.blk (by decide) ol_87 18 2 (pc' := 4) (L' := [.ref v0, mk0, .int v2, .int (v3 + (1 : Int32))]) (S' := []) (h' := h2) rfl ?_
      exact K
  · replace K := K.2 c1
    refine Wp.blk (by decide) ol_87 20 1 (pc' := 39) (L' := [.ref v0, mk0, .int v2, .int v3]) (S' := [.int (-1 : Int32)]) (h' := h) rfl ?_
    exact Wp.ret (op_ix (by decide) ol_87 21 rfl) rfl K
/-- CutsOrFast$Search.openSet at 0 (II)I -/
theorem g200_0 (d : Nat) (v1 : Int32) (v2 : Int32) (h : AH) (HS : Sh h)  (Q : Option Value → AH → Prop) (K : Q (some (.int (((((((((1 : Int32)) <<< (((AI h 5 5)) &&& 31))) - ((1 : Int32)))) &&& ((v1 ^^^ ((-1 : Int32)))))) &&& ((v2 ^^^ ((-1 : Int32))))))) h) : Wp (d + 1) 200 0 [.ref 17, .int v1, .int v2] [] h Q := by
  refine Wp.blk (by decide) ol_200 0 1 (pc' := 1) (L' := [.ref 17, .int v1, .int v2]) (S' := [.ref 17]) (h' := h) rfl ?_
  refine Wp.getf (op_ix (by decide) ol_200 1 rfl) (okS HS 17 rfl rfl) (v := .ref 5) (congrArg va_rf (rS HS 17 0 rfl)) rfl ?_
  refine Wp.callI (op_ix (by decide) ol_200 2 rfl) (act_virt (c2 := 0) rfl (lk1 (kS HS 5 rfl)) rfl) rfl (Cl.enter (L := [.ref 5]) rfl ?_)
  refine Wp.blk (by decide) ol_27 0 2 (pc' := 2) (L' := [.ref 5]) (S' := [.ref 5, .int (1 : Int32)]) (h' := h) rfl ?_
  refine Wp.getf (op_ix (by decide) ol_27 2 rfl) (okS HS 5 rfl rfl) (v := .int (AI h 5 5)) rfl rfl ?_
  refine Wp.blk (by decide) ol_27 3 3 (pc' := 8) (L' := [.ref 5]) (S' := [.int (((((1 : Int32)) <<< (((AI h 5 5)) &&& 31))) - ((1 : Int32)))]) (h' := h) rfl ?_
  refine Wp.ret (op_ix (by decide) ol_27 6 rfl) rfl ⟨_, rfl, ?_⟩
  refine Wp.blk (by decide) ol_200 3 8 (pc' := 15) (L' := [.ref 17, .int v1, .int v2]) (S' := [.int (((((((((1 : Int32)) <<< (((AI h 5 5)) &&& 31))) - ((1 : Int32)))) &&& ((v1 ^^^ ((-1 : Int32)))))) &&& ((v2 ^^^ ((-1 : Int32)))))]) (h' := h) rfl ?_
  exact Wp.ret (op_ix (by decide) ol_200 11 rfl) rfl K
/-- CutsOrFast$Search.standOf at 0 (II)I -/
theorem g201_0 (d : Nat) (v1 : Int32) (v2 : Int32) (h : AH) (HS : Sh h)  (Q : Option Value → AH → Prop) (K : Q (some (.int (((atv h 18 v1)) + ((((2 : Int32)) * ((atv h 18 v2))))))) h) : Wp (d + 1) 201 0 [.ref 17, .int v1, .int v2] [] h Q := by
  refine Wp.blk (by decide) ol_201 0 1 (pc' := 1) (L' := [.ref 17, .int v1, .int v2]) (S' := [.ref 17]) (h' := h) rfl ?_
  refine Wp.getf (op_ix (by decide) ol_201 1 rfl) (okS HS 17 rfl rfl) (v := .ref 18) (congrArg va_rf (rS HS 17 1 rfl)) rfl ?_
  refine Wp.blk (by decide) ol_201 2 1 (pc' := 5) (L' := [.ref 17, .int v1, .int v2]) (S' := [.int v1, .ref 18]) (h' := h) rfl ?_
  refine Wp.callI (op_ix (by decide) ol_201 3 rfl) rfl rfl (sp_at (kS HS 18 rfl) (nS HS 18 rfl) ?_)
  refine ⟨_, rfl, ?_⟩
  refine Wp.blk (by decide) ol_201 4 2 (pc' := 10) (L' := [.ref 17, .int v1, .int v2]) (S' := [.ref 17, .int (2 : Int32), .int (atv h 18 v1)]) (h' := h) rfl ?_
  refine Wp.getf (op_ix (by decide) ol_201 6 rfl) (okS HS 17 rfl rfl) (v := .ref 18) (congrArg va_rf (rS HS 17 1 rfl)) rfl ?_
  refine Wp.blk (by decide) ol_201 7 1 (pc' := 14) (L' := [.ref 17, .int v1, .int v2]) (S' := [.int v2, .ref 18, .int (2 : Int32), .int (atv h 18 v1)]) (h' := h) rfl ?_
  refine Wp.callI (op_ix (by decide) ol_201 8 rfl) rfl rfl (sp_at (kS HS 18 rfl) (nS HS 18 rfl) ?_)
  refine ⟨_, rfl, ?_⟩
  refine Wp.blk (by decide) ol_201 9 2 (pc' := 19) (L' := [.ref 17, .int v1, .int v2]) (S' := [.int (((atv h 18 v1)) + ((((2 : Int32)) * ((atv h 18 v2)))))]) (h' := h) rfl ?_
  exact Wp.ret (op_ix (by decide) ol_201 11 rfl) rfl K
