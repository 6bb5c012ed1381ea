/-- CutsOrFastLaw.cell at 0 ([II)I -/
theorem g128_0 (d : Nat) (v1 : Int32) (h : AH) (HS : Sh h)  (Q : Option Value → AH → Prop) (K : (((AK h 0).1 = 20 ∨ (AK h 0).1 = 21 ∨ (AK h 0).1 = 24) ∧ ((v1 < (Int32.ofNat (AK h 0).2) → ((AK h 0).1 = 20 ∧ inR h 0 v1 = true ∧ Q (some (.int (((AI h 0 v1.toNatClampNeg)) &&& ((2147483647 : Int32))))) h)) ∧ (¬ v1 < (Int32.ofNat (AK h 0).2) → Q (some (.int (((((((7919 : Int32)) * v1)) + ((13 : Int32)))) &&& ((2147483647 : Int32))))) h)))) : Wp d 128 0 [.ref 0, .int v1] [] h Q := by
  refine Wp.blk (by decide) ol_128 0 2 (pc' := 2) (L' := [.ref 0, .int v1]) (S' := [.ref 0, .int v1]) (h' := h) rfl ?_
  obtain ⟨k1, K⟩ := K
  refine Wp.alen (op_ix (by decide) ol_128 2 rfl) k1 rfl ?_
  refine Wp.blk (by decide) ol_128 3 1 (pc' := (if v1 < (Int32.ofNat (AK h 0).2) then 6 else 12)) (L' := [.ref 0, .int v1]) (S' := []) (h' := h) rfl ?_
  refine Wp.br (fun c2 => ?_) (fun c2 => ?_)
  · replace K := K.1 c2
    refine Wp.blk (by decide) ol_128 4 2 (pc' := 8) (L' := [.ref 0, .int v1]) (S' := [.int v1, .ref 0]) (h' := h) rfl ?_
    obtain ⟨k3, K⟩ := K
    obtain ⟨r4, K⟩ := K
    refine Wp.iald (op_ix (by decide) ol_128 6 rfl) k3 r4 rfl ?_
    refine Wp.blk (by decide) ol_128 7 1 (pc' := 20) (L' := [.ref 0, .int v1]) (S' := [.int (AI h 0 v1.toNatClampNeg)]) (h' := h) rfl ?_
    refine Wp.blk (by decide) ol_128 13 2 (pc' := 23) (L' := [.ref 0, .int v1]) (S' := [.int (((AI h 0 v1.toNatClampNeg)) &&& ((2147483647 : Int32)))]) (h' := h) rfl ?_
    exact Wp.ret (op_ix (by decide) ol_128 15 rfl) rfl K
  · replace K := K.2 c2
    refine Wp.blk (by decide) ol_128 8 7 (pc' := 23) (L' := [.ref 0, .int v1]) (S' := [.int (((((((7919 : Int32)) * v1)) + ((13 : Int32)))) &&& ((2147483647 : Int32)))]) (h' := h) rfl ?_
    exact Wp.ret (op_ix (by decide) ol_128 15 rfl) rfl K
/-- CutsOrFastLaw.put at 0 (LCutsOrFast;I)Z -/
theorem g129_0 (d : Nat) (v1 : Int32) (h : AH) (HS : Sh h)  (Q : Option Value → AH → Prop) (K : (Cl d 89 [.ref 2, .long v1.toInt64] h (fun r h1 => ∃ x3 : Int32, r = some (.int x3) ∧ Sh h1 ∧ (((0 : Int32) < x3 → Q (some (.int (1 : Int32))) h1) ∧ (¬ (0 : Int32) < x3 → Q (some (.int (0 : Int32))) h1))))) : Wp (d + 1) 129 0 [.ref 2, .int v1] [] h Q := by
  refine Wp.blk (by decide) ol_129 0 3 (pc' := 3) (L' := [.ref 2, .int v1]) (S' := [.long v1.toInt64, .ref 2]) (h' := h) rfl ?_
  refine Wp.callI (op_ix (by decide) ol_129 3 rfl) (act_virt (c2 := 1) rfl (lk1 (kS HS 2 rfl)) rfl) rfl (K.mono ?_)
  rintro _ h1 ⟨x3, rfl, hs2, K⟩
  refine ⟨x3, rfl, ?_⟩
  refine Wp.blk (by decide) ol_129 4 1 (pc' := (if (0 : Int32) < x3 then 9 else 13)) (L' := [.ref 2, .int v1]) (S' := []) (h' := h1) rfl ?_
  refine Wp.br (fun c4 => ?_) (fun c4 => ?_)
  · replace K := K.1 c4
    refine Wp.blk (by decide) ol_129 5 2 (pc' := 14) (L' := [.ref 2, .int v1]) (S' := [.int (1 : Int32)]) (h' := h1) rfl ?_
    exact Wp.ret (op_ix (by decide) ol_129 8 rfl) rfl K
  · replace K := K.2 c4
    refine Wp.blk (by decide) ol_129 7 1 (pc' := 14) (L' := [.ref 2, .int v1]) (S' := [.int (0 : Int32)]) (h' := h1) rfl ?_
    exact Wp.ret (op_ix (by decide) ol_129 8 rfl) rfl K
set_option maxRecDepth 4000 in
/-- CutsOrFastLaw.net at 0 (LCutsOrFast;[III[I[I[I)I -/
theorem g130_0 (d : Nat) (v2 : Int32) (v3 : Int32) (h : AH) (HS : Sh h)  (Q : Option Value → AH → Prop) (K : (Cl d 128 [.ref 0, .int v2] h (fun r h1 => ∃ x3 : Int32, r = some (.int x3) ∧ Sh h1 ∧ ((¬ v3 = 0) ∧ (¬ (((2 : Int32)) + (((x3 / (16 : Int32)) - (x3 / (16 : Int32)) / (5 : Int32) * (5 : Int32)))) = 0) ∧ ixR ((20 : Int32)) 22 ∧ (¬ (((((2 : Int32)) + (((x3 / (16 : Int32)) - (x3 / (16 : Int32)) / (5 : Int32) * (5 : Int32))))) - ((1 : Int32))) = 0) ∧ (¬ (((2 : Int32)) + (((x3 / (16 : Int32)) - (x3 / (16 : Int32)) / (5 : Int32) * (5 : Int32)))) = 0) ∧ ixR ((21 : Int32)) 22 ∧ (Cl d 129 [.ref 2, .int (((97 : Int32)) + ((AI ((stI ((stI h1 23 ((20 : Int32)).toNatClampNeg (((x3 / (128 : Int32)) - (x3 / (128 : Int32)) / (((2 : Int32)) + (((x3 / (16 : Int32)) - (x3 / (16 : Int32)) / (5 : Int32) * (5 : Int32)))) * (((2 : Int32)) + (((x3 / (16 : Int32)) - (x3 / (16 : Int32)) / (5 : Int32) * (5 : Int32)))))))) 23 ((21 : Int32)).toNatClampNeg (((((((AI ((stI h1 23 ((20 : Int32)).toNatClampNeg (((x3 / (128 : Int32)) - (x3 / (128 : Int32)) / (((2 : Int32)) + (((x3 / (16 : Int32)) - (x3 / (16 : Int32)) / (5 : Int32) * (5 : Int32)))) * (((2 : Int32)) + (((x3 / (16 : Int32)) - (x3 / (16 : Int32)) / (5 : Int32) * (5 : Int32)))))))) 23 ((20 : Int32)).toNatClampNeg)) + ((1 : Int32)))) + (((x3 / (1024 : Int32)) - (x3 / (1024 : Int32)) / (((((2 : Int32)) + (((x3 / (16 : Int32)) - (x3 / (16 : Int32)) / (5 : Int32) * (5 : Int32))))) - ((1 : Int32))) * (((((2 : Int32)) + (((x3 / (16 : Int32)) - (x3 / (16 : Int32)) / (5 : Int32) * (5 : Int32))))) - ((1 : Int32)))))) - (((((AI ((stI h1 23 ((20 : Int32)).toNatClampNeg (((x3 / (128 : Int32)) - (x3 / (128 : Int32)) / (((2 : Int32)) + (((x3 / (16 : Int32)) - (x3 / (16 : Int32)) / (5 : Int32) * (5 : Int32)))) * (((2 : Int32)) + (((x3 / (16 : Int32)) - (x3 / (16 : Int32)) / (5 : Int32) * (5 : Int32)))))))) 23 ((20 : Int32)).toNatClampNeg)) + ((1 : Int32)))) + (((x3 / (1024 : Int32)) - (x3 / (1024 : Int32)) / (((((2 : Int32)) + (((x3 / (16 : Int32)) - (x3 / (16 : Int32)) / (5 : Int32) * (5 : Int32))))) - ((1 : Int32))) * (((((2 : Int32)) + (((x3 / (16 : Int32)) - (x3 / (16 : Int32)) / (5 : Int32) * (5 : Int32))))) - ((1 : Int32)))))) / (((2 : Int32)) + (((x3 / (16 : Int32)) - (x3 / (16 : Int32)) / (5 : Int32) * (5 : Int32)))) * (((2 : Int32)) + (((x3 / (16 : Int32)) - (x3 / (16 : Int32)) / (5 : Int32) * (5 : Int32)))))))) 23 ((20 : Int32)).toNatClampNeg)))] ((stI ((stI h1 23 ((20 : Int32)).toNatClampNeg (((x3 / (128 : Int32)) - (x3 / (128 : Int32)) / (((2 : Int32)) + (((x3 / (16 : Int32)) - (x3 / (16 : Int32)) / (5 : Int32) * (5 : Int32)))) * (((2 : Int32)) + (((x3 / (16 : Int32)) - (x3 / (16 : Int32)) / (5 : Int32) * (5 : Int32)))))))) 23 ((21 : Int32)).toNatClampNeg (((((((AI ((stI h1 23 ((20 : Int32)).toNatClampNeg (((x3 / (128 : Int32)) - (x3 / (128 : Int32)) / (((2 : Int32)) + (((x3 / (16 : Int32)) - (x3 / (16 : Int32)) / (5 : Int32) * (5 : Int32)))) * (((2 : Int32)) + (((x3 / (16 : Int32)) - (x3 / (16 : Int32)) / (5 : Int32) * (5 : Int32)))))))) 23 ((20 : Int32)).toNatClampNeg)) + ((1 : Int32)))) + (((x3 / (1024 : Int32)) - (x3 / (1024 : Int32)) / (((((2 : Int32)) + (((x3 / (16 : Int32)) - (x3 / (16 : Int32)) / (5 : Int32) * (5 : Int32))))) - ((1 : Int32))) * (((((2 : Int32)) + (((x3 / (16 : Int32)) - (x3 / (16 : Int32)) / (5 : Int32) * (5 : Int32))))) - ((1 : Int32)))))) - (((((AI ((stI h1 23 ((20 : Int32)).toNatClampNeg (((x3 / (128 : Int32)) - (x3 / (128 : Int32)) / (((2 : Int32)) + (((x3 / (16 : Int32)) - (x3 / (16 : Int32)) / (5 : Int32) * (5 : Int32)))) * (((2 : Int32)) + (((x3 / (16 : Int32)) - (x3 / (16 : Int32)) / (5 : Int32) * (5 : Int32)))))))) 23 ((20 : Int32)).toNatClampNeg)) + ((1 : Int32)))) + (((x3 / (1024 : Int32)) - (x3 / (1024 : Int32)) / (((((2 : Int32)) + (((x3 / (16 : Int32)) - (x3 / (16 : Int32)) / (5 : Int32) * (5 : Int32))))) - ((1 : Int32))) * (((((2 : Int32)) + (((x3 / (16 : Int32)) - (x3 / (16 : Int32)) / (5 : Int32) * (5 : Int32))))) - ((1 : Int32)))))) / (((2 : Int32)) + (((x3 / (16 : Int32)) - (x3 / (16 : Int32)) / (5 : Int32) * (5 : Int32)))) * (((2 : Int32)) + (((x3 / (16 : Int32)) - (x3 / (16 : Int32)) / (5 : Int32) * (5 : Int32)))))))) (fun r h10 => ∃ x12 : Int32, r = some (.int x12) ∧ Sh h10 ∧ ((x12 = (0 : Int32) → Wp (d + 1) 130 116 [.ref 2, .ref 0, .int v2, mk0, .ref 23, .ref 24, .ref 25, mk0, .int (((1 : Int32)) + ((x3 - x3 / v3 * v3))), .int (((2 : Int32)) + (((x3 / (16 : Int32)) - (x3 / (16 : Int32)) / (5 : Int32) * (5 : Int32)))), .int (0 : Int32), .int (0 : Int32), mk0] [] h10 Q) ∧ (¬ x12 = (0 : Int32) → (ixR ((21 : Int32)) 22 ∧ (Cl d 129 [.ref 2, .int (((97 : Int32)) + ((AI h10 23 ((21 : Int32)).toNatClampNeg)))] h10 (fun r h15 => ∃ x17 : Int32, r = some (.int x17) ∧ Sh h15 ∧ ((x17 = (0 : Int32) → Wp (d + 1) 130 116 [.ref 2, .ref 0, .int v2, mk0, .ref 23, .ref 24, .ref 25, mk0, .int (((1 : Int32)) + ((x3 - x3 / v3 * v3))), .int (((2 : Int32)) + (((x3 / (16 : Int32)) - (x3 / (16 : Int32)) / (5 : Int32) * (5 : Int32)))), .int (0 : Int32), .int (0 : Int32), mk0] [] h15 Q) ∧ (¬ x17 = (0 : Int32) → (Cl d 129 [.ref 2, .int (58 : Int32)] h15 (fun r h19 => ∃ x21 : Int32, r = some (.int x21) ∧ Sh h19 ∧ ((x21 = (0 : Int32) → Wp (d + 1) 130 116 [.ref 2, .ref 0, .int v2, mk0, .ref 23, .ref 24, .ref 25, mk0, .int (((1 : Int32)) + ((x3 - x3 / v3 * v3))), .int (((2 : Int32)) + (((x3 / (16 : Int32)) - (x3 / (16 : Int32)) / (5 : Int32) * (5 : Int32)))), .int (0 : Int32), .int (0 : Int32), mk0] [] h19 Q) ∧ (¬ x21 = (0 : Int32) → Wp (d + 1) 130 116 [.ref 2, .ref 0, .int v2, mk0, .ref 23, .ref 24, .ref 25, mk0, .int (((1 : Int32)) + ((x3 - x3 / v3 * v3))), .int (((2 : Int32)) + (((x3 / (16 : Int32)) - (x3 / (16 : Int32)) / (5 : Int32) * (5 : Int32)))), .int (1 : Int32), .int (0 : Int32), mk0] [] h19 Q))))))))))))))))) : Wp (d + 1) 130 0 [.ref 2, .ref 0, .int v2, .int v3, .ref 23, .ref 24, .ref 25, mk0, mk0, mk0, mk0, mk0, mk0] [] h Q := by
  refine Wp.blk (by decide) ol_130 0 2 (pc' := 2) (L' := [.ref 2, .ref 0, .int v2, .int v3, .ref 23, .ref 24, .ref 25, mk0, mk0, mk0, mk0, mk0, mk0]) (S' := [.int v2, .ref 0]) (h' := h) rfl ?_
  refine Wp.callI (op_ix (by decide) ol_130 2 rfl) rfl rfl (K.mono ?_)
  rintro _ h1 ⟨x3, rfl, hs2, K⟩
  refine ⟨x3, rfl, ?_⟩
  refine Wp.blk (by decide) ol_130 3 4 (pc' := 11) (L' := [.ref 2, .ref 0, .int v2, .int v3, .ref 23, .ref 24, .ref 25, .int x3, mk0, mk0, mk0, mk0, mk0]) (S' := [.int v3, .int x3, .int (1 : Int32)]) (h' := h1) rfl ?_
  obtain ⟨z4, K⟩ := K
  refine Wp.rem (op_ix (by decide) ol_130 7 rfl) z4 rfl ?_
  refine Wp.blk (by decide) ol_130 8 16 (pc' := 38) (L' := [.ref 2, .ref 0, .int v2, .int v3, .ref 23, .ref 24, .ref 25, .int x3, .int (((1 : Int32)) + ((x3 - x3 / v3 * v3))), .int (((2 : Int32)) + (((x3 / (16 : Int32)) - (x3 / (16 : Int32)) / (5 : Int32) * (5 : Int32)))), mk0, mk0, mk0]) (S' := [.int (((2 : Int32)) + (((x3 / (16 : Int32)) - (x3 / (16 : Int32)) / (5 : Int32) * (5 : Int32)))), .int (x3 / (128 : Int32)), .int (20 : Int32), .ref 23]) (h' := h1) rfl ?_
  obtain ⟨z5, K⟩ := K
  refine Wp.rem (op_ix (by decide) ol_130 24 rfl) z5 rfl ?_
  obtain ⟨r6, K⟩ := K
  refine Wp.iast (op_ix (by decide) ol_130 25 rfl) (by decide) (kS hs2 23 rfl) (inS hs2 23 rfl r6) rfl ?_
  refine Wp.blk (by decide) ol_130 26 4 (pc' := 48) (L' := [.ref 2, .ref 0, .int v2, .int v3, .ref 23, .ref 24, .ref 25, .int x3, .int (((1 : Int32)) + ((x3 - x3 / v3 * v3))), .int (((2 : Int32)) + (((x3 / (16 : Int32)) - (x3 / (16 : Int32)) / (5 : Int32) * (5 : Int32)))), mk0, mk0, mk0]) (S' := [.int (20 : Int32), .ref 23, .int (21 : Int32), .ref 23]) (h' := (stI h1 23 ((20 : Int32)).toNatClampNeg (((x3 / (128 : Int32)) - (x3 / (128 : Int32)) / (((2 : Int32)) + (((x3 / (16 : Int32)) - (x3 / (16 : Int32)) / (5 : Int32) * (5 : Int32)))) * (((2 : Int32)) + (((x3 / (16 : Int32)) - (x3 / (16 : Int32)) / (5 : Int32) * (5 : Int32)))))))) rfl ?_
  refine Wp.iald (op_ix (by decide) ol_130 30 rfl) (kS hs2 23 rfl) (inS hs2 23 rfl r6) rfl ?_
  refine Wp.blk (by decide) ol_130 31 8 (pc' := 61) (L' := [.ref 2, .ref 0, .int v2, .int v3, .ref 23, .ref 24, .ref 25, .int x3, .int (((1 : Int32)) + ((x3 - x3 / v3 * v3))), .int (((2 : Int32)) + (((x3 / (16 : Int32)) - (x3 / (16 : Int32)) / (5 : Int32) * (5 : Int32)))), mk0, mk0, mk0]) (S' := [.int (((((2 : Int32)) + (((x3 / (16 : Int32)) - (x3 / (16 : Int32)) / (5 : Int32) * (5 : Int32))))) - ((1 : Int32))), .int (x3 / (1024 : Int32)), .int (((AI ((stI h1 23 ((20 : Int32)).toNatClampNeg (((x3 / (128 : Int32)) - (x3 / (128 : Int32)) / (((2 : Int32)) + (((x3 / (16 : Int32)) - (x3 / (16 : Int32)) / (5 : Int32) * (5 : Int32)))) * (((2 : Int32)) + (((x3 / (16 : Int32)) - (x3 / (16 : Int32)) / (5 : Int32) * (5 : Int32)))))))) 23 ((20 : Int32)).toNatClampNeg)) + ((1 : Int32))), .int (21 : Int32), .ref 23]) (h' := (stI h1 23 ((20 : Int32)).toNatClampNeg (((x3 / (128 : Int32)) - (x3 / (128 : Int32)) / (((2 : Int32)) + (((x3 / (16 : Int32)) - (x3 / (16 : Int32)) / (5 : Int32) * (5 : Int32)))) * (((2 : Int32)) + (((x3 / (16 : Int32)) - (x3 / (16 : Int32)) / (5 : Int32) * (5 : Int32)))))))) rfl ?_
  obtain ⟨z7, K⟩ := K
  refine Wp.rem (op_ix (by decide) ol_130 39 rfl) z7 rfl ?_
  refine Wp.blk (by decide) ol_130 40 2 (pc' := 65) (L' := [.ref 2, .ref 0, .int v2, .int v3, .ref 23, .ref 24, .ref 25, .int x3, .int (((1 : Int32)) + ((x3 - x3 / v3 * v3))), .int (((2 : Int32)) + (((x3 / (16 : Int32)) - (x3 / (16 : Int32)) / (5 : Int32) * (5 : Int32)))), mk0, mk0, mk0]) (S' := [.int (((2 : Int32)) + (((x3 / (16 : Int32)) - (x3 / (16 : Int32)) / (5 : Int32) * (5 : Int32)))), .int (((((AI ((stI h1 23 ((20 : Int32)).toNatClampNeg (((x3 / (128 : Int32)) - (x3 / (128 : Int32)) / (((2 : Int32)) + (((x3 / (16 : Int32)) - (x3 / (16 : Int32)) / (5 : Int32) * (5 : Int32)))) * (((2 : Int32)) + (((x3 / (16 : Int32)) - (x3 / (16 : Int32)) / (5 : Int32) * (5 : Int32)))))))) 23 ((20 : Int32)).toNatClampNeg)) + ((1 : Int32)))) + (((x3 / (1024 : Int32)) - (x3 / (1024 : Int32)) / (((((2 : Int32)) + (((x3 / (16 : Int32)) - (x3 / (16 : Int32)) / (5 : Int32) * (5 : Int32))))) - ((1 : Int32))) * (((((2 : Int32)) + (((x3 / (16 : Int32)) - (x3 / (16 : Int32)) / (5 : Int32) * (5 : Int32))))) - ((1 : Int32)))))), .int (21 : Int32), .ref 23]) (h' := (stI h1 23 ((20 : Int32)).toNatClampNeg (((x3 / (128 : Int32)) - (x3 / (128 : Int32)) / (((2 : Int32)) + (((x3 / (16 : Int32)) - (x3 / (16 : Int32)) / (5 : Int32) * (5 : Int32)))) * (((2 : Int32)) + (((x3 / (16 : Int32)) - (x3 / (16 : Int32)) / (5 : Int32) * (5 : Int32)))))))) rfl ?_
  obtain ⟨z8, K⟩ := K
  refine Wp.rem (op_ix (by decide) ol_130 42 rfl) z8 rfl ?_
  obtain ⟨r9, K⟩ := K
  refine Wp.iast (op_ix (by decide) ol_130 43 rfl) (by decide) (kS hs2 23 rfl) (inS hs2 23 rfl r9) rfl ?_
  refine Wp.blk (by decide) ol_130 44 4 (pc' := 74) (L' := [.ref 2, .ref 0, .int v2, .int v3, .ref 23, .ref 24, .ref 25, .int x3, .int (((1 : Int32)) + ((x3 - x3 / v3 * v3))), .int (((2 : Int32)) + (((x3 / (16 : Int32)) - (x3 / (16 : Int32)) / (5 : Int32) * (5 : Int32)))), mk0, mk0, mk0]) (S' := [.int (20 : Int32), .ref 23, .int (97 : Int32), .ref 2]) (h' := (stI ((stI h1 23 ((20 : Int32)).toNatClampNeg (((x3 / (128 : Int32)) - (x3 / (128 : Int32)) / (((2 : Int32)) + (((x3 / (16 : Int32)) - (x3 / (16 : Int32)) / (5 : Int32) * (5 : Int32)))) * (((2 : Int32)) + (((x3 / (16 : Int32)) - (x3 / (16 : Int32)) / (5 : Int32) * (5 : Int32)))))))) 23 ((21 : Int32)).toNatClampNeg (((((((AI ((stI h1 23 ((20 : Int32)).toNatClampNeg (((x3 / (128 : Int32)) - (x3 / (128 : Int32)) / (((2 : Int32)) + (((x3 / (16 : Int32)) - (x3 / (16 : Int32)) / (5 : Int32) * (5 : Int32)))) * (((2 : Int32)) + (((x3 / (16 : Int32)) - (x3 / (16 : Int32)) / (5 : Int32) * (5 : Int32)))))))) 23 ((20 : Int32)).toNatClampNeg)) + ((1 : Int32)))) + (((x3 / (1024 : Int32)) - (x3 / (1024 : Int32)) / (((((2 : Int32)) + (((x3 / (16 : Int32)) - (x3 / (16 : Int32)) / (5 : Int32) * (5 : Int32))))) - ((1 : Int32))) * (((((2 : Int32)) + (((x3 / (16 : Int32)) - (x3 / (16 : Int32)) / (5 : Int32) * (5 : Int32))))) - ((1 : Int32)))))) - (((((AI ((stI h1 23 ((20 : Int32)).toNatClampNeg (((x3 / (128 : Int32)) - (x3 / (128 : Int32)) / (((2 : Int32)) + (((x3 / (16 : Int32)) - (x3 / (16 : Int32)) / (5 : Int32) * (5 : Int32)))) * (((2 : Int32)) + (((x3 / (16 : Int32)) - (x3 / (16 : Int32)) / (5 : Int32) * (5 : Int32)))))))) 23 ((20 : Int32)).toNatClampNeg)) + ((1 : Int32)))) + (((x3 / (1024 : Int32)) - (x3 / (1024 : Int32)) / (((((2 : Int32)) + (((x3 / (16 : Int32)) - (x3 / (16 : Int32)) / (5 : Int32) * (5 : Int32))))) - ((1 : Int32))) * (((((2 : Int32)) + (((x3 / (16 : Int32)) - (x3 / (16 : Int32)) / (5 : Int32) * (5 : Int32))))) - ((1 : Int32)))))) / (((2 : Int32)) + (((x3 / (16 : Int32)) - (x3 / (16 : Int32)) / (5 : Int32) * (5 : Int32)))) * (((2 : Int32)) + (((x3 / (16 : Int32)) - (x3 / (16 : Int32)) / (5 : Int32) * (5 : Int32)))))))) rfl ?_
  refine Wp.iald (op_ix (by decide) ol_130 48 rfl) (kS hs2 23 rfl) (inS hs2 23 rfl r6) rfl ?_
  refine Wp.blk (by decide) ol_130 49 1 (pc' := 76) (L' := [.ref 2, .ref 0, .int v2, .int v3, .ref 23, .ref 24, .ref 25, .int x3, .int (((1 : Int32)) + ((x3 - x3 / v3 * v3))), .int (((2 : Int32)) + (((x3 / (16 : Int32)) - (x3 / (16 : Int32)) / (5 : Int32) * (5 : Int32)))), mk0, mk0, mk0]) (S' := [.int (((97 : Int32)) + ((AI ((stI ((stI h1 23 ((20 : Int32)).toNatClampNeg (((x3 / (128 : Int32)) - (x3 / (128 : Int32)) / (((2 : Int32)) + (((x3 / (16 : Int32)) - (x3 / (16 : Int32)) / (5 : Int32) * (5 : Int32)))) * (((2 : Int32)) + (((x3 / (16 : Int32)) - (x3 / (16 : Int32)) / (5 : Int32) * (5 : Int32)))))))) 23 ((21 : Int32)).toNatClampNeg (((((((AI ((stI h1 23 ((20 : Int32)).toNatClampNeg (((x3 / (128 : Int32)) - (x3 / (128 : Int32)) / (((2 : Int32)) + (((x3 / (16 : Int32)) - (x3 / (16 : Int32)) / (5 : Int32) * (5 : Int32)))) * (((2 : Int32)) + (((x3 / (16 : Int32)) - (x3 / (16 : Int32)) / (5 : Int32) * (5 : Int32)))))))) 23 ((20 : Int32)).toNatClampNeg)) + ((1 : Int32)))) + (((x3 / (1024 : Int32)) - (x3 / (1024 : Int32)) / (((((2 : Int32)) + (((x3 / (16 : Int32)) - (x3 / (16 : Int32)) / (5 : Int32) * (5 : Int32))))) - ((1 : Int32))) * (((((2 : Int32)) + (((x3 / (16 : Int32)) - (x3 / (16 : Int32)) / (5 : Int32) * (5 : Int32))))) - ((1 : Int32)))))) - (((((AI ((stI h1 23 ((20 : Int32)).toNatClampNeg (((x3 / (128 : Int32)) - (x3 / (128 : Int32)) / (((2 : Int32)) + (((x3 / (16 : Int32)) - (x3 / (16 : Int32)) / (5 : Int32) * (5 : Int32)))) * (((2 : Int32)) + (((x3 / (16 : Int32)) - (x3 / (16 : Int32)) / (5 : Int32) * (5 : Int32)))))))) 23 ((20 : Int32)).toNatClampNeg)) + ((1 : Int32)))) + (((x3 / (1024 : Int32)) - (x3 / (1024 : Int32)) / (((((2 : Int32)) + (((x3 / (16 : Int32)) - (x3 / (16 : Int32)) / (5 : Int32) * (5 : Int32))))) - ((1 : Int32))) * (((((2 : Int32)) + (((x3 / (16 : Int32)) - (x3 / (16 : Int32)) / (5 : Int32) * (5 : Int32))))) - ((1 : Int32)))))) / (((2 : Int32)) + (((x3 / (16 : Int32)) - (x3 / (16 : Int32)) / (5 : Int32) * (5 : Int32)))) * (((2 : Int32)) + (((x3 / (16 : Int32)) - (x3 / (16 : Int32)) / (5 : Int32) * (5 : Int32)))))))) 23 ((20 : Int32)).toNatClampNeg))), .ref 2]) (h' := (stI ((stI h1 23 ((20 : Int32)).toNatClampNeg (((x3 / (128 : Int32)) - (x3 / (128 : Int32)) / (((2 : Int32)) + (((x3 / (16 : Int32)) - (x3 / (16 : Int32)) / (5 : Int32) * (5 : Int32)))) * (((2 : Int32)) + (((x3 / (16 : Int32)) - (x3 / (16 : Int32)) / (5 : Int32) * (5 : Int32)))))))) 23 ((21 : Int32)).toNatClampNeg (((((((AI ((stI h1 23 ((20 : Int32)).toNatClampNeg (((x3 / (128 : Int32)) - (x3 / (128 : Int32)) / (((2 : Int32)) + (((x3 / (16 : Int32)) - (x3 / (16 : Int32)) / (5 : Int32) * (5 : Int32)))) * (((2 : Int32)) + (((x3 / (16 : Int32)) - (x3 / (16 : Int32)) / (5 : Int32) * (5 : Int32)))))))) 23 ((20 : Int32)).toNatClampNeg)) + ((1 : Int32)))) + (((x3 / (1024 : Int32)) - (x3 / (1024 : Int32)) / (((((2 : Int32)) + (((x3 / (16 : Int32)) - (x3 / (16 : Int32)) / (5 : Int32) * (5 : Int32))))) - ((1 : Int32))) * (((((2 : Int32)) + (((x3 / (16 : Int32)) - (x3 / (16 : Int32)) / (5 : Int32) * (5 : Int32))))) - ((1 : Int32)))))) - (((((AI ((stI h1 23 ((20 : Int32)).toNatClampNeg (((x3 / (128 : Int32)) - (x3 / (128 : Int32)) / (((2 : Int32)) + (((x3 / (16 : Int32)) - (x3 / (16 : Int32)) / (5 : Int32) * (5 : Int32)))) * (((2 : Int32)) + (((x3 / (16 : Int32)) - (x3 / (16 : Int32)) / (5 : Int32) * (5 : Int32)))))))) 23 ((20 : Int32)).toNatClampNeg)) + ((1 : Int32)))) + (((x3 / (1024 : Int32)) - (x3 / (1024 : Int32)) / (((((2 : Int32)) + (((x3 / (16 : Int32)) - (x3 / (16 : Int32)) / (5 : Int32) * (5 : Int32))))) - ((1 : Int32))) * (((((2 : Int32)) + (((x3 / (16 : Int32)) - (x3 / (16 : Int32)) / (5 : Int32) * (5 : Int32))))) - ((1 : Int32)))))) / (((2 : Int32)) + (((x3 / (16 : Int32)) - (x3 / (16 : Int32)) / (5 : Int32) * (5 : Int32)))) * (((2 : Int32)) + (((x3 / (16 : Int32)) - (x3 / (16 : Int32)) / (5 : Int32) * (5 : Int32)))))))) rfl ?_
  refine Wp.callI (op_ix (by decide) ol_130 50 rfl) rfl rfl (K.mono ?_)
  rintro _ h10 ⟨x12, rfl, hs11, K⟩
  refine ⟨x12, rfl, ?_⟩
  refine Wp.blk (by decide) ol_130 51 1 (pc' := (if x12 = (0 : Int32) then 110 else 82)) (L' := [.ref 2, .ref 0, .int v2, .int v3, .ref 23, .ref 24, .ref 25, .int x3, .int (((1 : Int32)) + ((x3 - x3 / v3 * v3))), .int (((2 : Int32)) + (((x3 / (16 : Int32)) - (x3 / (16 : Int32)) / (5 : Int32) * (5 : Int32)))), mk0, mk0, mk0]) (S' := []) (h' := h10) rfl ?_
  refine Wp.br (fun c13 => ?_) (fun c13 => ?_)
  · replace K := K.1 c13
    refine Wp.blk (by decide) ol_130 66 4 (pc' := 116) (L' := [.ref 2, .ref 0, .int v2, .int v3, .ref 23, .ref 24, .ref 25, .int x3, .int (((1 : Int32)) + ((x3 - x3 / v3 * v3))), .int (((2 : Int32)) + (((x3 / (16 : Int32)) - (x3 / (16 : Int32)) / (5 : Int32) * (5 : Int32)))), .int (0 : Int32), .int (0 : Int32), mk0]) (S' := []) (h' := h10) rfl ?_
    refine Wp.forget (L := [.ref 2, .ref 0, .int v2, mk0, .ref 23, .ref 24, .ref 25, mk0, .int (((1 : Int32)) + ((x3 - x3 / v3 * v3))), .int (((2 : Int32)) + (((x3 / (16 : Int32)) - (x3 / (16 : Int32)) / (5 : Int32) * (5 : Int32)))), .int (0 : Int32), .int (0 : Int32), mk0]) (⟨Or.inr rfl, ⟨Or.inr rfl, ⟨Or.inr rfl, ⟨Or.inl rfl, ⟨Or.inr rfl, ⟨Or.inr rfl, ⟨Or.inr rfl, ⟨Or.inl rfl, ⟨Or.inr rfl, ⟨Or.inr rfl, ⟨Or.inr rfl, ⟨Or.inr rfl, ⟨Or.inr rfl, trivial⟩⟩⟩⟩⟩⟩⟩⟩⟩⟩⟩⟩⟩) ?_
    exact K
  · replace K := K.2 c13
    refine Wp.blk (by decide) ol_130 52 4 (pc' := 89) (L' := [.ref 2, .ref 0, .int v2, .int v3, .ref 23, .ref 24, .ref 25, .int x3, .int (((1 : Int32)) + ((x3 - x3 / v3 * v3))), .int (((2 : Int32)) + (((x3 / (16 : Int32)) - (x3 / (16 : Int32)) / (5 : Int32) * (5 : Int32)))), mk0, mk0, mk0]) (S' := [.int (21 : Int32), .ref 23, .int (97 : Int32), .ref 2]) (h' := h10) rfl ?_
    obtain ⟨r14, K⟩ := K
    refine Wp.iald (op_ix (by decide) ol_130 56 rfl) (kS hs11 23 rfl) (inS hs11 23 rfl r14) rfl ?_
    refine Wp.blk (by decide) ol_130 57 1 (pc' := 91) (L' := [.ref 2, .ref 0, .int v2, .int v3, .ref 23, .ref 24, .ref 25, .int x3, .int (((1 : Int32)) + ((x3 - x3 / v3 * v3))), .int (((2 : Int32)) + (((x3 / (16 : Int32)) - (x3 / (16 : Int32)) / (5 : Int32) * (5 : Int32)))), mk0, mk0, mk0]) (S' := [.int (((97 : Int32)) + ((AI h10 23 ((21 : Int32)).toNatClampNeg))), .ref 2]) (h' := h10) rfl ?_
    refine Wp.callI (op_ix (by decide) ol_130 58 rfl) rfl rfl (K.mono ?_)
    rintro _ h15 ⟨x17, rfl, hs16, K⟩
    refine ⟨x17, rfl, ?_⟩
    refine Wp.blk (by decide) ol_130 59 1 (pc' := (if x17 = (0 : Int32) then 110 else 97)) (L' := [.ref 2, .ref 0, .int v2, .int v3, .ref 23, .ref 24, .ref 25, .int x3, .int (((1 : Int32)) + ((x3 - x3 / v3 * v3))), .int (((2 : Int32)) + (((x3 / (16 : Int32)) - (x3 / (16 : Int32)) / (5 : Int32) * (5 : Int32)))), mk0, mk0, mk0]) (S' := []) (h' := h15) rfl ?_
    refine Wp.br (fun c18 => ?_) (fun c18 => ?_)
    · replace K := K.1 c18
      refine Wp.blk (by decide) ol_130 66 4 (pc' := 116) (L' := [.ref 2, .ref 0, .int v2, .int v3, .ref 23, .ref 24, .ref 25, .int x3, .int (((1 : Int32)) + ((x3 - x3 / v3 * v3))), .int (((2 : Int32)) + (((x3 / (16 : Int32)) - (x3 / (16 : Int32)) / (5 : Int32) * (5 : Int32)))), .int (0 : Int32), .int (0 : Int32), mk0]) (S' := []) (h' := h15) rfl ?_
      refine Wp.forget (L := [.ref 2, .ref 0, .int v2, mk0, .ref 23, .ref 24, .ref 25, mk0, .int (((1 : Int32)) + ((x3 - x3 / v3 * v3))), .int (((2 : Int32)) + (((x3 / (16 : Int32)) - (x3 / (16 : Int32)) / (5 : Int32) * (5 : Int32)))), .int (0 : Int32), .int (0 : Int32), mk0]) (⟨Or.inr rfl, ⟨Or.inr rfl, ⟨Or.inr rfl, ⟨Or.inl rfl, ⟨Or.inr rfl, ⟨Or.inr rfl, ⟨Or.inr rfl, ⟨Or.inl rfl, ⟨Or.inr rfl, ⟨Or.inr rfl, ⟨Or.inr rfl, ⟨Or.inr rfl, ⟨Or.inr rfl, trivial⟩⟩⟩⟩⟩⟩⟩⟩⟩⟩⟩⟩⟩) ?_
      exact K
    · replace K := K.2 c18
      refine Wp.blk (by decide) ol_130 60 2 (pc' := 100) (L' := [.ref 2, .ref 0, .int v2, .int v3, .ref 23, .ref 24, .ref 25, .int x3, .int (((1 : Int32)) + ((x3 - x3 / v3 * v3))), .int (((2 : Int32)) + (((x3 / (16 : Int32)) - (x3 / (16 : Int32)) / (5 : Int32) * (5 : Int32)))), mk0, mk0, mk0]) (S' := [.int (58 : Int32), .ref 2]) (h' := h15) rfl ?_
      refine Wp.callI (op_ix (by decide) ol_130 62 rfl) rfl rfl (K.mono ?_)
      rintro _ h19 ⟨x21, rfl, hs20, K⟩
      refine ⟨x21, rfl, ?_⟩
      refine Wp.blk (by decide) ol_130 63 1 (pc' := (if x21 = (0 : Int32) then 110 else 106)) (L' := [.ref 2, .ref 0, .int v2, .int v3, .ref 23, .ref 24, .ref 25, .int x3, .int (((1 : Int32)) + ((x3 - x3 / v3 * v3))), .int (((2 : Int32)) + (((x3 / (16 : Int32)) - (x3 / (16 : Int32)) / (5 : Int32) * (5 : Int32)))), mk0, mk0, mk0]) (S' := []) (h' := h19) rfl ?_
      refine Wp.br (fun c22 => ?_) (fun c22 => ?_)
      · replace K := K.1 c22
        refine Wp.blk (by decide) ol_130 66 4 (pc' := 116) (L' := [.ref 2, .ref 0, .int v2, .int v3, .ref 23, .ref 24, .ref 25, .int x3, .int (((1 : Int32)) + ((x3 - x3 / v3 * v3))), .int (((2 : Int32)) + (((x3 / (16 : Int32)) - (x3 / (16 : Int32)) / (5 : Int32) * (5 : Int32)))), .int (0 : Int32), .int (0 : Int32), mk0]) (S' := []) (h' := h19) rfl ?_
        refine Wp.forget (L := [.ref 2, .ref 0, .int v2, mk0, .ref 23, .ref 24, .ref 25, mk0, .int (((1 : Int32)) + ((x3 - x3 / v3 * v3))), .int (((2 : Int32)) + (((x3 / (16 : Int32)) - (x3 / (16 : Int32)) / (5 : Int32) * (5 : Int32)))), .int (0 : Int32), .int (0 : Int32), mk0]) (⟨Or.inr rfl, ⟨Or.inr rfl, ⟨Or.inr rfl, ⟨Or.inl rfl, ⟨Or.inr rfl, ⟨Or.inr rfl, ⟨Or.inr rfl, ⟨Or.inl rfl, ⟨Or.inr rfl, ⟨Or.inr rfl, ⟨Or.inr rfl, ⟨Or.inr rfl, ⟨Or.inr rfl, trivial⟩⟩⟩⟩⟩⟩⟩⟩⟩⟩⟩⟩⟩) ?_
        exact K
      · replace K := K.2 c22
        refine Wp.blk (by decide) ol_130 64 2 (pc' := 111) (L' := [.ref 2, .ref 0, .int v2, .int v3, .ref 23, .ref 24, .ref 25, .int x3, .int (((1 : Int32)) + ((x3 - x3 / v3 * v3))), .int (((2 : Int32)) + (((x3 / (16 : Int32)) - (x3 / (16 : Int32)) / (5 : Int32) * (5 : Int32)))), mk0, mk0, mk0]) (S' := [.int (1 : Int32)]) (h' := h19) rfl ?_
        refine Wp.blk (by decide) ol_130 67 3 (pc' := 116) (L' := [.ref 2, .ref 0, .int v2, .int v3, .ref 23, .ref 24, .ref 25, .int x3, .int (((1 : Int32)) + ((x3 - x3 / v3 * v3))), .int (((2 : Int32)) + (((x3 / (16 : Int32)) - (x3 / (16 : Int32)) / (5 : Int32) * (5 : Int32)))), .int (1 : Int32), .int (0 : Int32), mk0]) (S' := []) (h' := h19) rfl ?_
        refine Wp.forget (L := [.ref 2, .ref 0, .int v2, mk0, .ref 23, .ref 24, .ref 25, mk0, .int (((1 : Int32)) + ((x3 - x3 / v3 * v3))), .int (((2 : Int32)) + (((x3 / (16 : Int32)) - (x3 / (16 : Int32)) / (5 : Int32) * (5 : Int32)))), .int (1 : Int32), .int (0 : Int32), mk0]) (⟨Or.inr rfl, ⟨Or.inr rfl, ⟨Or.inr rfl, ⟨Or.inl rfl, ⟨Or.inr rfl, ⟨Or.inr rfl, ⟨Or.inr rfl, ⟨Or.inl rfl, ⟨Or.inr rfl, ⟨Or.inr rfl, ⟨Or.inr rfl, ⟨Or.inr rfl, ⟨Or.inr rfl, trivial⟩⟩⟩⟩⟩⟩⟩⟩⟩⟩⟩⟩⟩) ?_
        exact K
set_option maxRecDepth 4000 in
/-- CutsOrFastLaw.net at 116 -/
theorem g130_116 (d : Nat) (v2 : Int32) (v8 : Int32) (v9 : Int32) (v10 : Int32) (v11 : Int32) (h : AH) (HS : Sh h)  (Q : Option Value → AH → Prop) (K : ((v11 < v8 → (Cl d 128 [.ref 0, .int (((v2 + ((1 : Int32)))) + ((v11 / (2 : Int32))))] h (fun r h2 => ∃ x4 : Int32, r = some (.int x4) ∧ Sh h2 ∧ ((¬ v9 = 0) ∧ ixR ((((2 : Int32)) * v11)) 22 ∧ (¬ (v9 - ((1 : Int32))) = 0) ∧ (¬ v9 = 0) ∧ ixR ((((((2 : Int32)) * v11)) + ((1 : Int32)))) 22 ∧ (((((((x4 >>> (((((14 : Int32)) * ((v11 - v11 / (2 : Int32) * (2 : Int32))))) &&& 31))) &&& ((16383 : Int32))) / (64 : Int32)) - ((((x4 >>> (((((14 : Int32)) * ((v11 - v11 / (2 : Int32) * (2 : Int32))))) &&& 31))) &&& ((16383 : Int32))) / (64 : Int32)) / (8 : Int32) * (8 : Int32)) < (6 : Int32) → Wp (d + 1) 130 224 [.ref 2, .ref 0, .int v2, mk0, .ref 23, .ref 24, .ref 25, mk0, .int v8, .int v9, .int v10, .int v11, .int (((x4 >>> (((((14 : Int32)) * ((v11 - v11 / (2 : Int32) * (2 : Int32))))) &&& 31))) &&& ((16383 : Int32)))] [.int (0 : Int32), .int v11, .ref 24] (stI ((stI h2 23 ((((2 : Int32)) * v11)).toNatClampNeg (((((x4 >>> (((((14 : Int32)) * ((v11 - v11 / (2 : Int32) * (2 : Int32))))) &&& 31))) &&& ((16383 : Int32))) - (((x4 >>> (((((14 : Int32)) * ((v11 - v11 / (2 : Int32) * (2 : Int32))))) &&& 31))) &&& ((16383 : Int32))) / v9 * v9)))) 23 ((((((2 : Int32)) * v11)) + ((1 : Int32)))).toNatClampNeg (((((((AI ((stI h2 23 ((((2 : Int32)) * v11)).toNatClampNeg (((((x4 >>> (((((14 : Int32)) * ((v11 - v11 / (2 : Int32) * (2 : Int32))))) &&& 31))) &&& ((16383 : Int32))) - (((x4 >>> (((((14 : Int32)) * ((v11 - v11 / (2 : Int32) * (2 : Int32))))) &&& 31))) &&& ((16383 : Int32))) / v9 * v9)))) 23 ((((2 : Int32)) * v11)).toNatClampNeg)) + ((1 : Int32)))) + ((((((x4 >>> (((((14 : Int32)) * ((v11 - v11 / (2 : Int32) * (2 : Int32))))) &&& 31))) &&& ((16383 : Int32))) / (8 : Int32)) - ((((x4 >>> (((((14 : Int32)) * ((v11 - v11 / (2 : Int32) * (2 : Int32))))) &&& 31))) &&& ((16383 : Int32))) / (8 : Int32)) / (v9 - ((1 : Int32))) * (v9 - ((1 : Int32)))))) - (((((AI ((stI h2 23 ((((2 : Int32)) * v11)).toNatClampNeg (((((x4 >>> (((((14 : Int32)) * ((v11 - v11 / (2 : Int32) * (2 : Int32))))) &&& 31))) &&& ((16383 : Int32))) - (((x4 >>> (((((14 : Int32)) * ((v11 - v11 / (2 : Int32) * (2 : Int32))))) &&& 31))) &&& ((16383 : Int32))) / v9 * v9)))) 23 ((((2 : Int32)) * v11)).toNatClampNeg)) + ((1 : Int32)))) + ((((((x4 >>> (((((14 : Int32)) * ((v11 - v11 / (2 : Int32) * (2 : Int32))))) &&& 31))) &&& ((16383 : Int32))) / (8 : Int32)) - ((((x4 >>> (((((14 : Int32)) * ((v11 - v11 / (2 : Int32) * (2 : Int32))))) &&& 31))) &&& ((16383 : Int32))) / (8 : Int32)) / (v9 - ((1 : Int32))) * (v9 - ((1 : Int32)))))) / v9 * v9))) Q) ∧ (¬ (((((x4 >>> (((((14 : Int32)) * ((v11 - v11 / (2 : Int32) * (2 : Int32))))) &&& 31))) &&& ((16383 : Int32))) / (64 : Int32)) - ((((x4 >>> (((((14 : Int32)) * ((v11 - v11 / (2 : Int32) * (2 : Int32))))) &&& 31))) &&& ((16383 : Int32))) / (64 : Int32)) / (8 : Int32) * (8 : Int32)) < (6 : Int32) → Wp (d + 1) 130 224 [.ref 2, .ref 0, .int v2, mk0, .ref 23, .ref 24, .ref 25, mk0, .int v8, .int v9, .int v10, .int v11, .int (((x4 >>> (((((14 : Int32)) * ((v11 - v11 / (2 : Int32) * (2 : Int32))))) &&& 31))) &&& ((16383 : Int32)))] [.int (((((((x4 >>> (((((14 : Int32)) * ((v11 - v11 / (2 : Int32) * (2 : Int32))))) &&& 31))) &&& ((16383 : Int32))) / (64 : Int32)) - ((((x4 >>> (((((14 : Int32)) * ((v11 - v11 / (2 : Int32) * (2 : Int32))))) &&& 31))) &&& ((16383 : Int32))) / (64 : Int32)) / (8 : Int32) * (8 : Int32))) - ((5 : Int32))), .int v11, .ref 24] (stI ((stI h2 23 ((((2 : Int32)) * v11)).toNatClampNeg (((((x4 >>> (((((14 : Int32)) * ((v11 - v11 / (2 : Int32) * (2 : Int32))))) &&& 31))) &&& ((16383 : Int32))) - (((x4 >>> (((((14 : Int32)) * ((v11 - v11 / (2 : Int32) * (2 : Int32))))) &&& 31))) &&& ((16383 : Int32))) / v9 * v9)))) 23 ((((((2 : Int32)) * v11)) + ((1 : Int32)))).toNatClampNeg (((((((AI ((stI h2 23 ((((2 : Int32)) * v11)).toNatClampNeg (((((x4 >>> (((((14 : Int32)) * ((v11 - v11 / (2 : Int32) * (2 : Int32))))) &&& 31))) &&& ((16383 : Int32))) - (((x4 >>> (((((14 : Int32)) * ((v11 - v11 / (2 : Int32) * (2 : Int32))))) &&& 31))) &&& ((16383 : Int32))) / v9 * v9)))) 23 ((((2 : Int32)) * v11)).toNatClampNeg)) + ((1 : Int32)))) + ((((((x4 >>> (((((14 : Int32)) * ((v11 - v11 / (2 : Int32) * (2 : Int32))))) &&& 31))) &&& ((16383 : Int32))) / (8 : Int32)) - ((((x4 >>> (((((14 : Int32)) * ((v11 - v11 / (2 : Int32) * (2 : Int32))))) &&& 31))) &&& ((16383 : Int32))) / (8 : Int32)) / (v9 - ((1 : Int32))) * (v9 - ((1 : Int32)))))) - (((((AI ((stI h2 23 ((((2 : Int32)) * v11)).toNatClampNeg (((((x4 >>> (((((14 : Int32)) * ((v11 - v11 / (2 : Int32) * (2 : Int32))))) &&& 31))) &&& ((16383 : Int32))) - (((x4 >>> (((((14 : Int32)) * ((v11 - v11 / (2 : Int32) * (2 : Int32))))) &&& 31))) &&& ((16383 : Int32))) / v9 * v9)))) 23 ((((2 : Int32)) * v11)).toNatClampNeg)) + ((1 : Int32)))) + ((((((x4 >>> (((((14 : Int32)) * ((v11 - v11 / (2 : Int32) * (2 : Int32))))) &&& 31))) &&& ((16383 : Int32))) / (8 : Int32)) - ((((x4 >>> (((((14 : Int32)) * ((v11 - v11 / (2 : Int32) * (2 : Int32))))) &&& 31))) &&& ((16383 : Int32))) / (8 : Int32)) / (v9 - ((1 : Int32))) * (v9 - ((1 : Int32)))))) / v9 * v9))) Q)))))) ∧ (¬ v11 < v8 → ((v10 = (0 : Int32) → Q (some (.int (-1 : Int32))) h) ∧ (¬ v10 = (0 : Int32) → (Cl d 91 [.ref 2] h (fun r h12 => ∃ x14 : Int32, r = some (.int x14) ∧ Sh h12 ∧ (Cl d 113 [.ref 2, .int (7 : Int32)] h12 (fun r h15 => ∃ x17 : Int32, r = some (.int x17) ∧ Sh h15 ∧ ((x14 = x17 → (Cl d 92 [.ref 2] h15 (fun r h19 => ∃ x21 : Int32, r = some (.int x21) ∧ Sh h19 ∧ ((x21 = v8 → Q (some (.int v8)) h19) ∧ (¬ x21 = v8 → Q (some (.int (-1 : Int32))) h19))))) ∧ (¬ x14 = x17 → Q (some (.int (-1 : Int32))) h15))))))))))) : Wp (d + 1) 130 116 [.ref 2, .ref 0, .int v2, mk0, .ref 23, .ref 24, .ref 25, mk0, .int v8, .int v9, .int v10, .int v11, mk0] [] h Q := by
  refine Wp.blk (by decide) ol_130 70 3 (pc' := (if v11 < v8 then 123 else 386)) (L' := [.ref 2, .ref 0, .int v2, mk0, .ref 23, .ref 24, .ref 25, mk0, .int v8, .int v9, .int v10, .int v11, mk0]) (S' := []) (h' := h) rfl ?_
  refine Wp.br (fun c1 => ?_) (fun c1 => ?_)
  · replace K := K.1 c1
    refine Wp.blk (by decide) ol_130 73 8 (pc' := 132) (L' := [.ref 2, .ref 0, .int v2, mk0, .ref 23, .ref 24, .ref 25, mk0, .int v8, .int v9, .int v10, .int v11, mk0]) (S' := [.int (((v2 + ((1 : Int32)))) + ((v11 / (2 : Int32)))), .ref 0]) (h' := h) rfl ?_
    refine Wp.callI (op_ix (by decide) ol_130 81 rfl) rfl rfl (K.mono ?_)
    rintro _ h2 ⟨x4, rfl, hs3, K⟩
    refine ⟨x4, rfl, ?_⟩
    refine Wp.blk (by decide) ol_130 82 15 (pc' := 159) (L' := [.ref 2, .ref 0, .int v2, mk0, .ref 23, .ref 24, .ref 25, mk0, .int v8, .int v9, .int v10, .int v11, .int (((x4 >>> (((((14 : Int32)) * ((v11 - v11 / (2 : Int32) * (2 : Int32))))) &&& 31))) &&& ((16383 : Int32)))]) (S' := [.int v9, .int (((x4 >>> (((((14 : Int32)) * ((v11 - v11 / (2 : Int32) * (2 : Int32))))) &&& 31))) &&& ((16383 : Int32))), .int (((2 : Int32)) * v11), .ref 23]) (h' := h2) rfl ?_
    obtain ⟨z5, K⟩ := K
    refine Wp.rem (op_ix (by decide) ol_130 97 rfl) z5 rfl ?_
    obtain ⟨r6, K⟩ := K
    refine Wp.iast (op_ix (by decide) ol_130 98 rfl) (by decide) (kS hs3 23 rfl) (inS hs3 23 rfl r6) rfl ?_
    refine Wp.blk (by decide) ol_130 99 10 (pc' := 175) (L' := [.ref 2, .ref 0, .int v2, mk0, .ref 23, .ref 24, .ref 25, mk0, .int v8, .int v9, .int v10, .int v11, .int (((x4 >>> (((((14 : Int32)) * ((v11 - v11 / (2 : Int32) * (2 : Int32))))) &&& 31))) &&& ((16383 : Int32)))]) (S' := [.int (((2 : Int32)) * v11), .ref 23, .int (((((2 : Int32)) * v11)) + ((1 : Int32))), .ref 23]) (h' := (stI h2 23 ((((2 : Int32)) * v11)).toNatClampNeg (((((x4 >>> (((((14 : Int32)) * ((v11 - v11 / (2 : Int32) * (2 : Int32))))) &&& 31))) &&& ((16383 : Int32))) - (((x4 >>> (((((14 : Int32)) * ((v11 - v11 / (2 : Int32) * (2 : Int32))))) &&& 31))) &&& ((16383 : Int32))) / v9 * v9)))) rfl ?_
    refine Wp.iald (op_ix (by decide) ol_130 109 rfl) (kS hs3 23 rfl) (inS hs3 23 rfl r6) rfl ?_
    refine Wp.blk (by decide) ol_130 110 8 (pc' := 187) (L' := [.ref 2, .ref 0, .int v2, mk0, .ref 23, .ref 24, .ref 25, mk0, .int v8, .int v9, .int v10, .int v11, .int (((x4 >>> (((((14 : Int32)) * ((v11 - v11 / (2 : Int32) * (2 : Int32))))) &&& 31))) &&& ((16383 : Int32)))]) (S' := [.int (v9 - ((1 : Int32))), .int ((((x4 >>> (((((14 : Int32)) * ((v11 - v11 / (2 : Int32) * (2 : Int32))))) &&& 31))) &&& ((16383 : Int32))) / (8 : Int32)), .int (((AI ((stI h2 23 ((((2 : Int32)) * v11)).toNatClampNeg (((((x4 >>> (((((14 : Int32)) * ((v11 - v11 / (2 : Int32) * (2 : Int32))))) &&& 31))) &&& ((16383 : Int32))) - (((x4 >>> (((((14 : Int32)) * ((v11 - v11 / (2 : Int32) * (2 : Int32))))) &&& 31))) &&& ((16383 : Int32))) / v9 * v9)))) 23 ((((2 : Int32)) * v11)).toNatClampNeg)) + ((1 : Int32))), .int (((((2 : Int32)) * v11)) + ((1 : Int32))), .ref 23]) (h' := (stI h2 23 ((((2 : Int32)) * v11)).toNatClampNeg (((((x4 >>> (((((14 : Int32)) * ((v11 - v11 / (2 : Int32) * (2 : Int32))))) &&& 31))) &&& ((16383 : Int32))) - (((x4 >>> (((((14 : Int32)) * ((v11 - v11 / (2 : Int32) * (2 : Int32))))) &&& 31))) &&& ((16383 : Int32))) / v9 * v9)))) rfl ?_
    obtain ⟨z7, K⟩ := K
    refine Wp.rem (op_ix (by decide) ol_130 118 rfl) z7 rfl ?_
    refine Wp.blk (by decide) ol_130 119 2 (pc' := 191) (L' := [.ref 2, .ref 0, .int v2, mk0, .ref 23, .ref 24, .ref 25, mk0, .int v8, .int v9, .int v10, .int v11, .int (((x4 >>> (((((14 : Int32)) * ((v11 - v11 / (2 : Int32) * (2 : Int32))))) &&& 31))) &&& ((16383 : Int32)))]) (S' := [.int v9, .int (((((AI ((stI h2 23 ((((2 : Int32)) * v11)).toNatClampNeg (((((x4 >>> (((((14 : Int32)) * ((v11 - v11 / (2 : Int32) * (2 : Int32))))) &&& 31))) &&& ((16383 : Int32))) - (((x4 >>> (((((14 : Int32)) * ((v11 - v11 / (2 : Int32) * (2 : Int32))))) &&& 31))) &&& ((16383 : Int32))) / v9 * v9)))) 23 ((((2 : Int32)) * v11)).toNatClampNeg)) + ((1 : Int32)))) + ((((((x4 >>> (((((14 : Int32)) * ((v11 - v11 / (2 : Int32) * (2 : Int32))))) &&& 31))) &&& ((16383 : Int32))) / (8 : Int32)) - ((((x4 >>> (((((14 : Int32)) * ((v11 - v11 / (2 : Int32) * (2 : Int32))))) &&& 31))) &&& ((16383 : Int32))) / (8 : Int32)) / (v9 - ((1 : Int32))) * (v9 - ((1 : Int32)))))), .int (((((2 : Int32)) * v11)) + ((1 : Int32))), .ref 23]) (h' := (stI h2 23 ((((2 : Int32)) * v11)).toNatClampNeg (((((x4 >>> (((((14 : Int32)) * ((v11 - v11 / (2 : Int32) * (2 : Int32))))) &&& 31))) &&& ((16383 : Int32))) - (((x4 >>> (((((14 : Int32)) * ((v11 - v11 / (2 : Int32) * (2 : Int32))))) &&& 31))) &&& ((16383 : Int32))) / v9 * v9)))) rfl ?_
    obtain ⟨z8, K⟩ := K
    refine Wp.rem (op_ix (by decide) ol_130 121 rfl) z8 rfl ?_
    obtain ⟨r9, K⟩ := K
    refine Wp.iast (op_ix (by decide) ol_130 122 rfl) (by decide) (kS hs3 23 rfl) (inS hs3 23 rfl r9) rfl ?_
    refine Wp.blk (by decide) ol_130 123 9 (pc' := (if (((((x4 >>> (((((14 : Int32)) * ((v11 - v11 / (2 : Int32) * (2 : Int32))))) &&& 31))) &&& ((16383 : Int32))) / (64 : Int32)) - ((((x4 >>> (((((14 : Int32)) * ((v11 - v11 / (2 : Int32) * (2 : Int32))))) &&& 31))) &&& ((16383 : Int32))) / (64 : Int32)) / (8 : Int32) * (8 : Int32)) < (6 : Int32) then 210 else 214)) (L' := [.ref 2, .ref 0, .int v2, mk0, .ref 23, .ref 24, .ref 25, mk0, .int v8, .int v9, .int v10, .int v11, .int (((x4 >>> (((((14 : Int32)) * ((v11 - v11 / (2 : Int32) * (2 : Int32))))) &&& 31))) &&& ((16383 : Int32)))]) (S' := [.int v11, .ref 24]) (h' := (stI ((stI h2 23 ((((2 : Int32)) * v11)).toNatClampNeg (((((x4 >>> (((((14 : Int32)) * ((v11 - v11 / (2 : Int32) * (2 : Int32))))) &&& 31))) &&& ((16383 : Int32))) - (((x4 >>> (((((14 : Int32)) * ((v11 - v11 / (2 : Int32) * (2 : Int32))))) &&& 31))) &&& ((16383 : Int32))) / v9 * v9)))) 23 ((((((2 : Int32)) * v11)) + ((1 : Int32)))).toNatClampNeg (((((((AI ((stI h2 23 ((((2 : Int32)) * v11)).toNatClampNeg (((((x4 >>> (((((14 : Int32)) * ((v11 - v11 / (2 : Int32) * (2 : Int32))))) &&& 31))) &&& ((16383 : Int32))) - (((x4 >>> (((((14 : Int32)) * ((v11 - v11 / (2 : Int32) * (2 : Int32))))) &&& 31))) &&& ((16383 : Int32))) / v9 * v9)))) 23 ((((2 : Int32)) * v11)).toNatClampNeg)) + ((1 : Int32)))) + ((((((x4 >>> (((((14 : Int32)) * ((v11 - v11 / (2 : Int32) * (2 : Int32))))) &&& 31))) &&& ((16383 : Int32))) / (8 : Int32)) - ((((x4 >>> (((((14 : Int32)) * ((v11 - v11 / (2 : Int32) * (2 : Int32))))) &&& 31))) &&& ((16383 : Int32))) / (8 : Int32)) / (v9 - ((1 : Int32))) * (v9 - ((1 : Int32)))))) - (((((AI ((stI h2 23 ((((2 : Int32)) * v11)).toNatClampNeg (((((x4 >>> (((((14 : Int32)) * ((v11 - v11 / (2 : Int32) * (2 : Int32))))) &&& 31))) &&& ((16383 : Int32))) - (((x4 >>> (((((14 : Int32)) * ((v11 - v11 / (2 : Int32) * (2 : Int32))))) &&& 31))) &&& ((16383 : Int32))) / v9 * v9)))) 23 ((((2 : Int32)) * v11)).toNatClampNeg)) + ((1 : Int32)))) + ((((((x4 >>> (((((14 : Int32)) * ((v11 - v11 / (2 : Int32) * (2 : Int32))))) &&& 31))) &&& ((16383 : Int32))) / (8 : Int32)) - ((((x4 >>> (((((14 : Int32)) * ((v11 - v11 / (2 : Int32) * (2 : Int32))))) &&& 31))) &&& ((16383 : Int32))) / (8 : Int32)) / (v9 - ((1 : Int32))) * (v9 - ((1 : Int32)))))) / v9 * v9)))) rfl ?_
    refine Wp.br (fun c10 => ?_) (fun c10 => ?_)
    · replace K := K.1 c10
      refine Wp.blk (by decide) ol_130 132 2 (pc' := 224) (L' := [.ref 2, .ref 0, .int v2, mk0, .ref 23, .ref 24, .ref 25, mk0, .int v8, .int v9, .int v10, .int v11, .int (((x4 >>> (((((14 : Int32)) * ((v11 - v11 / (2 : Int32) * (2 : Int32))))) &&& 31))) &&& ((16383 : Int32)))]) (S' := [.int (0 : Int32), .int v11, .ref 24]) (h' := (stI ((stI h2 23 ((((2 : Int32)) * v11)).toNatClampNeg (((((x4 >>> (((((14 : Int32)) * ((v11 - v11 / (2 : Int32) * (2 : Int32))))) &&& 31))) &&& ((16383 : Int32))) - (((x4 >>> (((((14 : Int32)) * ((v11 - v11 / (2 : Int32) * (2 : Int32))))) &&& 31))) &&& ((16383 : Int32))) / v9 * v9)))) 23 ((((((2 : Int32)) * v11)) + ((1 : Int32)))).toNatClampNeg (((((((AI ((stI h2 23 ((((2 : Int32)) * v11)).toNatClampNeg (((((x4 >>> (((((14 : Int32)) * ((v11 - v11 / (2 : Int32) * (2 : Int32))))) &&& 31))) &&& ((16383 : Int32))) - (((x4 >>> (((((14 : Int32)) * ((v11 - v11 / (2 : Int32) * (2 : Int32))))) &&& 31))) &&& ((16383 : Int32))) / v9 * v9)))) 23 ((((2 : Int32)) * v11)).toNatClampNeg)) + ((1 : Int32)))) + ((((((x4 >>> (((((14 : Int32)) * ((v11 - v11 / (2 : Int32) * (2 : Int32))))) &&& 31))) &&& ((16383 : Int32))) / (8 : Int32)) - ((((x4 >>> (((((14 : Int32)) * ((v11 - v11 / (2 : Int32) * (2 : Int32))))) &&& 31))) &&& ((16383 : Int32))) / (8 : Int32)) / (v9 - ((1 : Int32))) * (v9 - ((1 : Int32)))))) - (((((AI ((stI h2 23 ((((2 : Int32)) * v11)).toNatClampNeg (((((x4 >>> (((((14 : Int32)) * ((v11 - v11 / (2 : Int32) * (2 : Int32))))) &&& 31))) &&& ((16383 : Int32))) - (((x4 >>> (((((14 : Int32)) * ((v11 - v11 / (2 : Int32) * (2 : Int32))))) &&& 31))) &&& ((16383 : Int32))) / v9 * v9)))) 23 ((((2 : Int32)) * v11)).toNatClampNeg)) + ((1 : Int32)))) + ((((((x4 >>> (((((14 : Int32)) * ((v11 - v11 / (2 : Int32) * (2 : Int32))))) &&& 31))) &&& ((16383 : Int32))) / (8 : Int32)) - ((((x4 >>> (((((14 : Int32)) * ((v11 - v11 / (2 : Int32) * (2 : Int32))))) &&& 31))) &&& ((16383 : Int32))) / (8 : Int32)) / (v9 - ((1 : Int32))) * (v9 - ((1 : Int32)))))) / v9 * v9)))) rfl ?_
      exact K
    · replace K := K.2 c10
      refine Wp.blk (by decide) ol_130 134 7 (pc' := 224) (L' := [.ref 2, .ref 0, .int v2, mk0, .ref 23, .ref 24, .ref 25, mk0, .int v8, .int v9, .int v10, .int v11, .int (((x4 >>> (((((14 : Int32)) * ((v11 - v11 / (2 : Int32) * (2 : Int32))))) &&& 31))) &&& ((16383 : Int32)))]) (S' := [.int (((((((x4 >>> (((((14 : Int32)) * ((v11 - v11 / (2 : Int32) * (2 : Int32))))) &&& 31))) &&& ((16383 : Int32))) / (64 : Int32)) - ((((x4 >>> (((((14 : Int32)) * ((v11 - v11 / (2 : Int32) * (2 : Int32))))) &&& 31))) &&& ((16383 : Int32))) / (64 : Int32)) / (8 : Int32) * (8 : Int32))) - ((5 : Int32))), .int v11, .ref 24]) (h' := (stI ((stI h2 23 ((((2 : Int32)) * v11)).toNatClampNeg (((((x4 >>> (((((14 : Int32)) * ((v11 - v11 / (2 : Int32) * (2 : Int32))))) &&& 31))) &&& ((16383 : Int32))) - (((x4 >>> (((((14 : Int32)) * ((v11 - v11 / (2 : Int32) * (2 : Int32))))) &&& 31))) &&& ((16383 : Int32))) / v9 * v9)))) 23 ((((((2 : Int32)) * v11)) + ((1 : Int32)))).toNatClampNeg (((((((AI ((stI h2 23 ((((2 : Int32)) * v11)).toNatClampNeg (((((x4 >>> (((((14 : Int32)) * ((v11 - v11 / (2 : Int32) * (2 : Int32))))) &&& 31))) &&& ((16383 : Int32))) - (((x4 >>> (((((14 : Int32)) * ((v11 - v11 / (2 : Int32) * (2 : Int32))))) &&& 31))) &&& ((16383 : Int32))) / v9 * v9)))) 23 ((((2 : Int32)) * v11)).toNatClampNeg)) + ((1 : Int32)))) + ((((((x4 >>> (((((14 : Int32)) * ((v11 - v11 / (2 : Int32) * (2 : Int32))))) &&& 31))) &&& ((16383 : Int32))) / (8 : Int32)) - ((((x4 >>> (((((14 : Int32)) * ((v11 - v11 / (2 : Int32) * (2 : Int32))))) &&& 31))) &&& ((16383 : Int32))) / (8 : Int32)) / (v9 - ((1 : Int32))) * (v9 - ((1 : Int32)))))) - (((((AI ((stI h2 23 ((((2 : Int32)) * v11)).toNatClampNeg (((((x4 >>> (((((14 : Int32)) * ((v11 - v11 / (2 : Int32) * (2 : Int32))))) &&& 31))) &&& ((16383 : Int32))) - (((x4 >>> (((((14 : Int32)) * ((v11 - v11 / (2 : Int32) * (2 : Int32))))) &&& 31))) &&& ((16383 : Int32))) / v9 * v9)))) 23 ((((2 : Int32)) * v11)).toNatClampNeg)) + ((1 : Int32)))) + ((((((x4 >>> (((((14 : Int32)) * ((v11 - v11 / (2 : Int32) * (2 : Int32))))) &&& 31))) &&& ((16383 : Int32))) / (8 : Int32)) - ((((x4 >>> (((((14 : Int32)) * ((v11 - v11 / (2 : Int32) * (2 : Int32))))) &&& 31))) &&& ((16383 : Int32))) / (8 : Int32)) / (v9 - ((1 : Int32))) * (v9 - ((1 : Int32)))))) / v9 * v9)))) rfl ?_
      exact K
  · replace K := K.2 c1
    refine Wp.blk (by decide) ol_130 228 2 (pc' := (if v10 = (0 : Int32) then 418 else 391)) (L' := [.ref 2, .ref 0, .int v2, mk0, .ref 23, .ref 24, .ref 25, mk0, .int v8, .int v9, .int v10, .int v11, mk0]) (S' := []) (h' := h) rfl ?_
    refine Wp.br (fun c11 => ?_) (fun c11 => ?_)
    · replace K := K.1 c11
      refine Wp.blk (by decide) ol_130 242 1 (pc' := 419) (L' := [.ref 2, .ref 0, .int v2, mk0, .ref 23, .ref 24, .ref 25, mk0, .int v8, .int v9, .int v10, .int v11, mk0]) (S' := [.int (-1 : Int32)]) (h' := h) rfl ?_
      exact Wp.ret (op_ix (by decide) ol_130 243 rfl) rfl K
    · replace K := K.2 c11
      refine Wp.blk (by decide) ol_130 230 1 (pc' := 392) (L' := [.ref 2, .ref 0, .int v2, mk0, .ref 23, .ref 24, .ref 25, mk0, .int v8, .int v9, .int v10, .int v11, mk0]) (S' := [.ref 2]) (h' := h) rfl ?_
      refine Wp.callI (op_ix (by decide) ol_130 231 rfl) (act_virt (c2 := 0) rfl (lk1 (kS HS 2 rfl)) rfl) rfl (K.mono ?_)
      rintro _ h12 ⟨x14, rfl, hs13, K⟩
      refine ⟨x14, rfl, ?_⟩
      refine Wp.blk (by decide) ol_130 232 2 (pc' := 398) (L' := [.ref 2, .ref 0, .int v2, mk0, .ref 23, .ref 24, .ref 25, mk0, .int v8, .int v9, .int v10, .int v11, mk0]) (S' := [.int (7 : Int32), .ref 2, .int x14]) (h' := h12) rfl ?_
      refine Wp.callI (op_ix (by decide) ol_130 234 rfl) (act_virt (c2 := 1) rfl (lk1 (kS hs13 2 rfl)) rfl) rfl (K.mono ?_)
      rintro _ h15 ⟨x17, rfl, hs16, K⟩
      refine ⟨x17, rfl, ?_⟩
      refine Wp.blk (by decide) ol_130 235 1 (pc' := (if x14 = x17 then 404 else 418)) (L' := [.ref 2, .ref 0, .int v2, mk0, .ref 23, .ref 24, .ref 25, mk0, .int v8, .int v9, .int v10, .int v11, mk0]) (S' := []) (h' := h15) rfl ?_
      refine Wp.br (fun c18 => ?_) (fun c18 => ?_)
      · replace K := K.1 c18
        refine Wp.blk (by decide) ol_130 236 1 (pc' := 405) (L' := [.ref 2, .ref 0, .int v2, mk0, .ref 23, .ref 24, .ref 25, mk0, .int v8, .int v9, .int v10, .int v11, mk0]) (S' := [.ref 2]) (h' := h15) rfl ?_
        refine Wp.callI (op_ix (by decide) ol_130 237 rfl) (act_virt (c2 := 0) rfl (lk1 (kS hs16 2 rfl)) rfl) rfl (K.mono ?_)
        rintro _ h19 ⟨x21, rfl, hs20, K⟩
        refine ⟨x21, rfl, ?_⟩
        refine Wp.blk (by decide) ol_130 238 2 (pc' := (if x21 = v8 then 413 else 418)) (L' := [.ref 2, .ref 0, .int v2, mk0, .ref 23, .ref 24, .ref 25, mk0, .int v8, .int v9, .int v10, .int v11, mk0]) (S' := []) (h' := h19) rfl ?_
        refine Wp.br (fun c22 => ?_) (fun c22 => ?_)
        · replace K := K.1 c22
          refine Wp.blk (by decide) ol_130 240 2 (pc' := 419) (L' := [.ref 2, .ref 0, .int v2, mk0, .ref 23, .ref 24, .ref 25, mk0, .int v8, .int v9, .int v10, .int v11, mk0]) (S' := [.int v8]) (h' := h19) rfl ?_
          exact Wp.ret (op_ix (by decide) ol_130 243 rfl) rfl K
        · replace K := K.2 c22
          refine Wp.blk (by decide) ol_130 242 1 (pc' := 419) (L' := [.ref 2, .ref 0, .int v2, mk0, .ref 23, .ref 24, .ref 25, mk0, .int v8, .int v9, .int v10, .int v11, mk0]) (S' := [.int (-1 : Int32)]) (h' := h19) rfl ?_
          exact Wp.ret (op_ix (by decide) ol_130 243 rfl) rfl K
      · replace K := K.2 c18
        refine Wp.blk (by decide) ol_130 242 1 (pc' := 419) (L' := [.ref 2, .ref 0, .int v2, mk0, .ref 23, .ref 24, .ref 25, mk0, .int v8, .int v9, .int v10, .int v11, mk0]) (S' := [.int (-1 : Int32)]) (h' := h15) rfl ?_
        exact Wp.ret (op_ix (by decide) ol_130 243 rfl) rfl K
set_option maxRecDepth 4000 in
/-- CutsOrFastLaw.net at 224 -/
theorem g130_224 (d : Nat) (v2 : Int32) (v8 : Int32) (v9 : Int32) (v10 : Int32) (v11 : Int32) (v12 : Int32) (s0 : Int32) (s1 : Int32) (s2 : Nat) (h : AH) (HS : Sh h)  (Q : Option Value → AH → Prop) (K : ((AK h s2).1 = 20 ∧ inR h s2 s1 = true ∧ 2 ≤ s2 ∧ ((((v12 / (512 : Int32)) - (v12 / (512 : Int32)) / (3 : Int32) * (3 : Int32)) = (0 : Int32) → Wp d 130 255 [.ref 2, .ref 0, .int v2, mk0, .ref 23, .ref 24, .ref 25, mk0, .int v8, .int v9, .int v10, .int v11, .int v12] [.int (1 : Int32), .int v11, .ref 25] (stI h s2 s1.toNatClampNeg s0) Q) ∧ (¬ ((v12 / (512 : Int32)) - (v12 / (512 : Int32)) / (3 : Int32) * (3 : Int32)) = (0 : Int32) → Wp d 130 255 [.ref 2, .ref 0, .int v2, mk0, .ref 23, .ref 24, .ref 25, mk0, .int v8, .int v9, .int v10, .int v11, .int v12] [.int (((1 : Int32)) + (((v12 / (1536 : Int32)) - (v12 / (1536 : Int32)) / (9 : Int32) * (9 : Int32)))), .int v11, .ref 25] (stI h s2 s1.toNatClampNeg s0) Q)))) : Wp d 130 224 [.ref 2, .ref 0, .int v2, mk0, .ref 23, .ref 24, .ref 25, mk0, .int v8, .int v9, .int v10, .int v11, .int v12] [.int s0, .int s1, .ref s2] h Q := by
  obtain ⟨k1, K⟩ := K
  obtain ⟨r2, K⟩ := K
  obtain ⟨b3, K⟩ := K
  refine Wp.iast (op_ix (by decide) ol_130 141 rfl) b3 k1 r2 rfl ?_
  refine Wp.blk (by decide) ol_130 142 8 (pc' := (if ((v12 / (512 : Int32)) - (v12 / (512 : Int32)) / (3 : Int32) * (3 : Int32)) = (0 : Int32) then 240 else 244)) (L' := [.ref 2, .ref 0, .int v2, mk0, .ref 23, .ref 24, .ref 25, mk0, .int v8, .int v9, .int v10, .int v11, .int v12]) (S' := [.int v11, .ref 25]) (h' := (stI h s2 s1.toNatClampNeg s0)) rfl ?_
  refine Wp.br (fun c4 => ?_) (fun c4 => ?_)
  · replace K := K.1 c4
    refine Wp.blk (by decide) ol_130 150 2 (pc' := 255) (L' := [.ref 2, .ref 0, .int v2, mk0, .ref 23, .ref 24, .ref 25, mk0, .int v8, .int v9, .int v10, .int v11, .int v12]) (S' := [.int (1 : Int32), .int v11, .ref 25]) (h' := (stI h s2 s1.toNatClampNeg s0)) rfl ?_
    exact K
  · replace K := K.2 c4
    refine Wp.blk (by decide) ol_130 152 7 (pc' := 255) (L' := [.ref 2, .ref 0, .int v2, mk0, .ref 23, .ref 24, .ref 25, mk0, .int v8, .int v9, .int v10, .int v11, .int v12]) (S' := [.int (((1 : Int32)) + (((v12 / (1536 : Int32)) - (v12 / (1536 : Int32)) / (9 : Int32) * (9 : Int32)))), .int v11, .ref 25]) (h' := (stI h s2 s1.toNatClampNeg s0)) rfl ?_
    exact K
set_option maxRecDepth 4000 in
/-- CutsOrFastLaw.net at 255 -/
theorem g130_255 (d : Nat) (v2 : Int32) (v8 : Int32) (v9 : Int32) (v10 : Int32) (v11 : Int32) (v12 : Int32) (s0 : Int32) (s1 : Int32) (s2 : Nat) (h : AH) (HS : Sh h)  (Q : Option Value → AH → Prop) (K : ((AK h s2).1 = 20 ∧ inR h s2 s1 = true ∧ 2 ≤ s2 ∧ ((v10 = (0 : Int32) → Wp (d + 1) 130 116 [.ref 2, .ref 0, .int v2, mk0, .ref 23, .ref 24, .ref 25, mk0, .int v8, .int v9, .int (0 : Int32), .int (v11 + (1 : Int32)), mk0] [] (stI h s2 s1.toNatClampNeg s0) Q) ∧ (¬ v10 = (0 : Int32) → ((v11 = (0 : Int32) → Wp (d + 1) 130 275 [.ref 2, .ref 0, .int v2, mk0, .ref 23, .ref 24, .ref 25, mk0, .int v8, .int v9, mk0, .int v11, .int v12] [] (stI h s2 s1.toNatClampNeg s0) Q) ∧ (¬ v11 = (0 : Int32) → (Cl d 129 [.ref 2, .int (44 : Int32)] ((stI h s2 s1.toNatClampNeg s0)) (fun r h6 => ∃ x8 : Int32, r = some (.int x8) ∧ Sh h6 ∧ ((x8 = (0 : Int32) → Wp (d + 1) 130 116 [.ref 2, .ref 0, .int v2, mk0, .ref 23, .ref 24, .ref 25, mk0, .int v8, .int v9, .int (0 : Int32), .int (v11 + (1 : Int32)), mk0] [] h6 Q) ∧ (¬ x8 = (0 : Int32) → Wp (d + 1) 130 275 [.ref 2, .ref 0, .int v2, mk0, .ref 23, .ref 24, .ref 25, mk0, .int v8, .int v9, mk0, .int v11, .int v12] [] h6 Q)))))))))) : Wp (d + 1) 130 255 [.ref 2, .ref 0, .int v2, mk0, .ref 23, .ref 24, .ref 25, mk0, .int v8, .int v9, .int v10, .int v11, .int v12] [.int s0, .int s1, .ref s2] h Q := by
  obtain ⟨k1, K⟩ := K
  obtain ⟨r2, K⟩ := K
  obtain ⟨b3, K⟩ := K
  refine Wp.iast (op_ix (by decide) ol_130 159 rfl) b3 k1 r2 rfl ?_
  refine Wp.blk (by decide) ol_130 160 2 (pc' := (if v10 = (0 : Int32) then 377 else 261)) (L' := [.ref 2, .ref 0, .int v2, mk0, .ref 23, .ref 24, .ref 25, mk0, .int v8, .int v9, .int v10, .int v11, .int v12]) (S' := []) (h' := (stI h s2 s1.toNatClampNeg s0)) rfl ?_
  refine Wp.br (fun c4 => ?_) (fun c4 => ?_)
  · replace K := K.1 c4
    refine Wp.blk (by decide) ol_130 224 4 (pc' := 116) (L' := [.ref 2, .ref 0, .int v2, mk0, .ref 23, .ref 24, .ref 25, mk0, .int v8, .int v9, .int (0 : Int32), .int (v11 + (1 : Int32)), .int v12]) (S' := []) (h' := (stI h s2 s1.toNatClampNeg s0)) rfl ?_
    refine Wp.forget (L := [.ref 2, .ref 0, .int v2, mk0, .ref 23, .ref 24, .ref 25, mk0, .int v8, .int v9, .int (0 : Int32), .int (v11 + (1 : Int32)), mk0]) (⟨Or.inr rfl, ⟨Or.inr rfl, ⟨Or.inr rfl, ⟨Or.inr rfl, ⟨Or.inr rfl, ⟨Or.inr rfl, ⟨Or.inr rfl, ⟨Or.inr rfl, ⟨Or.inr rfl, ⟨Or.inr rfl, ⟨Or.inr rfl, ⟨Or.inr rfl, ⟨Or.inl rfl, trivial⟩⟩⟩⟩⟩⟩⟩⟩⟩⟩⟩⟩⟩) ?_
    exact K
  · replace K := K.2 c4
    refine Wp.blk (by decide) ol_130 162 2 (pc' := (if v11 = (0 : Int32) then 275 else 266)) (L' := [.ref 2, .ref 0, .int v2, mk0, .ref 23, .ref 24, .ref 25, mk0, .int v8, .int v9, .int v10, .int v11, .int v12]) (S' := []) (h' := (stI h s2 s1.toNatClampNeg s0)) rfl ?_
    refine Wp.br (fun c5 => ?_) (fun c5 => ?_)
    · replace K := K.1 c5
      refine Wp.forget (L := [.ref 2, .ref 0, .int v2, mk0, .ref 23, .ref 24, .ref 25, mk0, .int v8, .int v9, mk0, .int v11, .int v12]) (⟨Or.inr rfl, ⟨Or.inr rfl, ⟨Or.inr rfl, ⟨Or.inr rfl, ⟨Or.inr rfl, ⟨Or.inr rfl, ⟨Or.inr rfl, ⟨Or.inr rfl, ⟨Or.inr rfl, ⟨Or.inr rfl, ⟨Or.inl rfl, ⟨Or.inr rfl, ⟨Or.inr rfl, trivial⟩⟩⟩⟩⟩⟩⟩⟩⟩⟩⟩⟩⟩) ?_
      exact K
    · replace K := K.2 c5
      refine Wp.blk (by decide) ol_130 164 2 (pc' := 269) (L' := [.ref 2, .ref 0, .int v2, mk0, .ref 23, .ref 24, .ref 25, mk0, .int v8, .int v9, .int v10, .int v11, .int v12]) (S' := [.int (44 : Int32), .ref 2]) (h' := (stI h s2 s1.toNatClampNeg s0)) rfl ?_
      refine Wp.callI (op_ix (by decide) ol_130 166 rfl) rfl rfl (K.mono ?_)
      rintro _ h6 ⟨x8, rfl, hs7, K⟩
      refine ⟨x8, rfl, ?_⟩
      refine Wp.blk (by decide) ol_130 167 1 (pc' := (if x8 = (0 : Int32) then 377 else 275)) (L' := [.ref 2, .ref 0, .int v2, mk0, .ref 23, .ref 24, .ref 25, mk0, .int v8, .int v9, .int v10, .int v11, .int v12]) (S' := []) (h' := h6) rfl ?_
      refine Wp.br (fun c9 => ?_) (fun c9 => ?_)
      · replace K := K.1 c9
        refine Wp.blk (by decide) ol_130 224 4 (pc' := 116) (L' := [.ref 2, .ref 0, .int v2, mk0, .ref 23, .ref 24, .ref 25, mk0, .int v8, .int v9, .int (0 : Int32), .int (v11 + (1 : Int32)), .int v12]) (S' := []) (h' := h6) rfl ?_
        refine Wp.forget (L := [.ref 2, .ref 0, .int v2, mk0, .ref 23, .ref 24, .ref 25, mk0, .int v8, .int v9, .int (0 : Int32), .int (v11 + (1 : Int32)), mk0]) (⟨Or.inr rfl, ⟨Or.inr rfl, ⟨Or.inr rfl, ⟨Or.inr rfl, ⟨Or.inr rfl, ⟨Or.inr rfl, ⟨Or.inr rfl, ⟨Or.inr rfl, ⟨Or.inr rfl, ⟨Or.inr rfl, ⟨Or.inr rfl, ⟨Or.inr rfl, ⟨Or.inl rfl, trivial⟩⟩⟩⟩⟩⟩⟩⟩⟩⟩⟩⟩⟩) ?_
        exact K
      · replace K := K.2 c9
        refine Wp.forget (L := [.ref 2, .ref 0, .int v2, mk0, .ref 23, .ref 24, .ref 25, mk0, .int v8, .int v9, mk0, .int v11, .int v12]) (⟨Or.inr rfl, ⟨Or.inr rfl, ⟨Or.inr rfl, ⟨Or.inr rfl, ⟨Or.inr rfl, ⟨Or.inr rfl, ⟨Or.inr rfl, ⟨Or.inr rfl, ⟨Or.inr rfl, ⟨Or.inr rfl, ⟨Or.inl rfl, ⟨Or.inr rfl, ⟨Or.inr rfl, trivial⟩⟩⟩⟩⟩⟩⟩⟩⟩⟩⟩⟩⟩) ?_
        exact K
set_option maxRecDepth 4000 in
/-- CutsOrFastLaw.net at 275 -/
theorem g130_275 (d : Nat) (v2 : Int32) (v8 : Int32) (v9 : Int32) (v11 : Int32) (v12 : Int32) (h : AH) (HS : Sh h)  (Q : Option Value → AH → Prop) (K : (ixR ((((2 : Int32)) * v11)) 22 ∧ (Cl d 129 [.ref 2, .int (((97 : Int32)) + ((AI h 23 ((((2 : Int32)) * v11)).toNatClampNeg)))] h (fun r h2 => ∃ x4 : Int32, r = some (.int x4) ∧ Sh h2 ∧ ((x4 = (0 : Int32) → Wp (d + 1) 130 116 [.ref 2, .ref 0, .int v2, mk0, .ref 23, .ref 24, .ref 25, mk0, .int v8, .int v9, .int (0 : Int32), .int (v11 + (1 : Int32)), mk0] [] h2 Q) ∧ (¬ x4 = (0 : Int32) → (ixR ((((((2 : Int32)) * v11)) + ((1 : Int32)))) 22 ∧ (Cl d 129 [.ref 2, .int (((97 : Int32)) + ((AI h2 23 ((((((2 : Int32)) * v11)) + ((1 : Int32)))).toNatClampNeg)))] h2 (fun r h7 => ∃ x9 : Int32, r = some (.int x9) ∧ Sh h7 ∧ ((x9 = (0 : Int32) → Wp (d + 1) 130 116 [.ref 2, .ref 0, .int v2, mk0, .ref 23, .ref 24, .ref 25, mk0, .int v8, .int v9, .int (0 : Int32), .int (v11 + (1 : Int32)), mk0] [] h7 Q) ∧ (¬ x9 = (0 : Int32) → (ixR v11 12 ∧ (((AI h7 24 v11.toNatClampNeg) = (0 : Int32) → (ixR v11 12 ∧ (((AI h7 25 v11.toNatClampNeg) = (1 : Int32) → (((v12 - v12 / (2 : Int32) * (2 : Int32)) = (0 : Int32) → Wp (d + 1) 130 116 [.ref 2, .ref 0, .int v2, mk0, .ref 23, .ref 24, .ref 25, mk0, .int v8, .int v9, .int (1 : Int32), .int (v11 + (1 : Int32)), mk0] [] h7 Q) ∧ (¬ (v12 - v12 / (2 : Int32) * (2 : Int32)) = (0 : Int32) → Wp (d + 1) 130 358 [.ref 2, .ref 0, .int v2, mk0, .ref 23, .ref 24, .ref 25, mk0, .int v8, .int v9, mk0, .int v11, mk0] [] h7 Q))) ∧ (¬ (AI h7 25 v11.toNatClampNeg) = (1 : Int32) → Wp (d + 1) 130 358 [.ref 2, .ref 0, .int v2, mk0, .ref 23, .ref 24, .ref 25, mk0, .int v8, .int v9, mk0, .int v11, mk0] [] h7 Q)))) ∧ (¬ (AI h7 24 v11.toNatClampNeg) = (0 : Int32) → (((AI h7 24 v11.toNatClampNeg) = (1 : Int32) → Wp (d + 1) 130 336 [.ref 2, .ref 0, .int v2, mk0, .ref 23, .ref 24, .ref 25, mk0, .int v8, .int v9, mk0, .int v11, .int v12] [.int (43 : Int32), .ref 2] h7 Q) ∧ (¬ (AI h7 24 v11.toNatClampNeg) = (1 : Int32) → Wp (d + 1) 130 336 [.ref 2, .ref 0, .int v2, mk0, .ref 23, .ref 24, .ref 25, mk0, .int v8, .int v9, mk0, .int v11, .int v12] [.int (45 : Int32), .ref 2] h7 Q)))))))))))))))) : Wp (d + 1) 130 275 [.ref 2, .ref 0, .int v2, mk0, .ref 23, .ref 24, .ref 25, mk0, .int v8, .int v9, mk0, .int v11, .int v12] [] h Q := by
  refine Wp.blk (by decide) ol_130 168 6 (pc' := 284) (L' := [.ref 2, .ref 0, .int v2, mk0, .ref 23, .ref 24, .ref 25, mk0, .int v8, .int v9, mk0, .int v11, .int v12]) (S' := [.int (((2 : Int32)) * v11), .ref 23, .int (97 : Int32), .ref 2]) (h' := h) rfl ?_
  obtain ⟨r1, K⟩ := K
  refine Wp.iald (op_ix (by decide) ol_130 174 rfl) (kS HS 23 rfl) (inS HS 23 rfl r1) rfl ?_
  refine Wp.blk (by decide) ol_130 175 1 (pc' := 286) (L' := [.ref 2, .ref 0, .int v2, mk0, .ref 23, .ref 24, .ref 25, mk0, .int v8, .int v9, mk0, .int v11, .int v12]) (S' := [.int (((97 : Int32)) + ((AI h 23 ((((2 : Int32)) * v11)).toNatClampNeg))), .ref 2]) (h' := h) rfl ?_
  refine Wp.callI (op_ix (by decide) ol_130 176 rfl) rfl rfl (K.mono ?_)
  rintro _ h2 ⟨x4, rfl, hs3, K⟩
  refine ⟨x4, rfl, ?_⟩
  refine Wp.blk (by decide) ol_130 177 1 (pc' := (if x4 = (0 : Int32) then 377 else 292)) (L' := [.ref 2, .ref 0, .int v2, mk0, .ref 23, .ref 24, .ref 25, mk0, .int v8, .int v9, mk0, .int v11, .int v12]) (S' := []) (h' := h2) rfl ?_
  refine Wp.br (fun c5 => ?_) (fun c5 => ?_)
  · replace K := K.1 c5
    refine Wp.blk (by decide) ol_130 224 4 (pc' := 116) (L' := [.ref 2, .ref 0, .int v2, mk0, .ref 23, .ref 24, .ref 25, mk0, .int v8, .int v9, .int (0 : Int32), .int (v11 + (1 : Int32)), .int v12]) (S' := []) (h' := h2) rfl ?_
    refine Wp.forget (L := [.ref 2, .ref 0, .int v2, mk0, .ref 23, .ref 24, .ref 25, mk0, .int v8, .int v9, .int (0 : Int32), .int (v11 + (1 : Int32)), mk0]) (⟨Or.inr rfl, ⟨Or.inr rfl, ⟨Or.inr rfl, ⟨Or.inr rfl, ⟨Or.inr rfl, ⟨Or.inr rfl, ⟨Or.inr rfl, ⟨Or.inr rfl, ⟨Or.inr rfl, ⟨Or.inr rfl, ⟨Or.inr rfl, ⟨Or.inr rfl, ⟨Or.inl rfl, trivial⟩⟩⟩⟩⟩⟩⟩⟩⟩⟩⟩⟩⟩) ?_
    exact K
  · replace K := K.2 c5
    refine Wp.blk (by decide) ol_130 178 8 (pc' := 303) (L' := [.ref 2, .ref 0, .int v2, mk0, .ref 23, .ref 24, .ref 25, mk0, .int v8, .int v9, mk0, .int v11, .int v12]) (S' := [.int (((((2 : Int32)) * v11)) + ((1 : Int32))), .ref 23, .int (97 : Int32), .ref 2]) (h' := h2) rfl ?_
    obtain ⟨r6, K⟩ := K
    refine Wp.iald (op_ix (by decide) ol_130 186 rfl) (kS hs3 23 rfl) (inS hs3 23 rfl r6) rfl ?_
    refine Wp.blk (by decide) ol_130 187 1 (pc' := 305) (L' := [.ref 2, .ref 0, .int v2, mk0, .ref 23, .ref 24, .ref 25, mk0, .int v8, .int v9, mk0, .int v11, .int v12]) (S' := [.int (((97 : Int32)) + ((AI h2 23 ((((((2 : Int32)) * v11)) + ((1 : Int32)))).toNatClampNeg))), .ref 2]) (h' := h2) rfl ?_
    refine Wp.callI (op_ix (by decide) ol_130 188 rfl) rfl rfl (K.mono ?_)
    rintro _ h7 ⟨x9, rfl, hs8, K⟩
    refine ⟨x9, rfl, ?_⟩
    refine Wp.blk (by decide) ol_130 189 1 (pc' := (if x9 = (0 : Int32) then 377 else 311)) (L' := [.ref 2, .ref 0, .int v2, mk0, .ref 23, .ref 24, .ref 25, mk0, .int v8, .int v9, mk0, .int v11, .int v12]) (S' := []) (h' := h7) rfl ?_
    refine Wp.br (fun c10 => ?_) (fun c10 => ?_)
    · replace K := K.1 c10
      refine Wp.blk (by decide) ol_130 224 4 (pc' := 116) (L' := [.ref 2, .ref 0, .int v2, mk0, .ref 23, .ref 24, .ref 25, mk0, .int v8, .int v9, .int (0 : Int32), .int (v11 + (1 : Int32)), .int v12]) (S' := []) (h' := h7) rfl ?_
      refine Wp.forget (L := [.ref 2, .ref 0, .int v2, mk0, .ref 23, .ref 24, .ref 25, mk0, .int v8, .int v9, .int (0 : Int32), .int (v11 + (1 : Int32)), mk0]) (⟨Or.inr rfl, ⟨Or.inr rfl, ⟨Or.inr rfl, ⟨Or.inr rfl, ⟨Or.inr rfl, ⟨Or.inr rfl, ⟨Or.inr rfl, ⟨Or.inr rfl, ⟨Or.inr rfl, ⟨Or.inr rfl, ⟨Or.inr rfl, ⟨Or.inr rfl, ⟨Or.inl rfl, trivial⟩⟩⟩⟩⟩⟩⟩⟩⟩⟩⟩⟩⟩) ?_
      exact K
    · replace K := K.2 c10
      refine Wp.blk (by decide) ol_130 190 2 (pc' := 315) (L' := [.ref 2, .ref 0, .int v2, mk0, .ref 23, .ref 24, .ref 25, mk0, .int v8, .int v9, mk0, .int v11, .int v12]) (S' := [.int v11, .ref 24]) (h' := h7) rfl ?_
      obtain ⟨r11, K⟩ := K
      refine Wp.iald (op_ix (by decide) ol_130 192 rfl) (kS hs8 24 rfl) (inS hs8 24 rfl r11) rfl ?_
      refine Wp.blk (by decide) ol_130 193 1 (pc' := (if (AI h7 24 v11.toNatClampNeg) = (0 : Int32) then 342 else 319)) (L' := [.ref 2, .ref 0, .int v2, mk0, .ref 23, .ref 24, .ref 25, mk0, .int v8, .int v9, mk0, .int v11, .int v12]) (S' := []) (h' := h7) rfl ?_
      refine Wp.br (fun c12 => ?_) (fun c12 => ?_)
      · replace K := K.1 c12
        refine Wp.blk (by decide) ol_130 205 2 (pc' := 346) (L' := [.ref 2, .ref 0, .int v2, mk0, .ref 23, .ref 24, .ref 25, mk0, .int v8, .int v9, mk0, .int v11, .int v12]) (S' := [.int v11, .ref 25]) (h' := h7) rfl ?_
        obtain ⟨r13, K⟩ := K
        refine Wp.iald (op_ix (by decide) ol_130 207 rfl) (kS hs8 25 rfl) (inS hs8 25 rfl r13) rfl ?_
        refine Wp.blk (by decide) ol_130 208 2 (pc' := (if (AI h7 25 v11.toNatClampNeg) = (1 : Int32) then 351 else 358)) (L' := [.ref 2, .ref 0, .int v2, mk0, .ref 23, .ref 24, .ref 25, mk0, .int v8, .int v9, mk0, .int v11, .int v12]) (S' := []) (h' := h7) rfl ?_
        refine Wp.br (fun c14 => ?_) (fun c14 => ?_)
        · replace K := K.1 c14
          refine Wp.blk (by decide) ol_130 210 4 (pc' := (if (v12 - v12 / (2 : Int32) * (2 : Int32)) = (0 : Int32) then 373 else 358)) (L' := [.ref 2, .ref 0, .int v2, mk0, .ref 23, .ref 24, .ref 25, mk0, .int v8, .int v9, mk0, .int v11, .int v12]) (S' := []) (h' := h7) rfl ?_
          refine Wp.br (fun c15 => ?_) (fun c15 => ?_)
          · replace K := K.1 c15
            refine Wp.blk (by decide) ol_130 222 2 (pc' := 378) (L' := [.ref 2, .ref 0, .int v2, mk0, .ref 23, .ref 24, .ref 25, mk0, .int v8, .int v9, mk0, .int v11, .int v12]) (S' := [.int (1 : Int32)]) (h' := h7) rfl ?_
            refine Wp.blk (by decide) ol_130 225 3 (pc' := 116) (L' := [.ref 2, .ref 0, .int v2, mk0, .ref 23, .ref 24, .ref 25, mk0, .int v8, .int v9, .int (1 : Int32), .int (v11 + (1 : Int32)), .int v12]) (S' := []) (h' := h7) rfl ?_
            refine Wp.forget (L := [.ref 2, .ref 0, .int v2, mk0, .ref 23, .ref 24, .ref 25, mk0, .int v8, .int v9, .int (1 : Int32), .int (v11 + (1 : Int32)), mk0]) (⟨Or.inr rfl, ⟨Or.inr rfl, ⟨Or.inr rfl, ⟨Or.inr rfl, ⟨Or.inr rfl, ⟨Or.inr rfl, ⟨Or.inr rfl, ⟨Or.inr rfl, ⟨Or.inr rfl, ⟨Or.inr rfl, ⟨Or.inr rfl, ⟨Or.inr rfl, ⟨Or.inl rfl, trivial⟩⟩⟩⟩⟩⟩⟩⟩⟩⟩⟩⟩⟩) ?_
            exact K
          · replace K := K.2 c15
            refine Wp.forget (L := [.ref 2, .ref 0, .int v2, mk0, .ref 23, .ref 24, .ref 25, mk0, .int v8, .int v9, mk0, .int v11, mk0]) (⟨Or.inr rfl, ⟨Or.inr rfl, ⟨Or.inr rfl, ⟨Or.inr rfl, ⟨Or.inr rfl, ⟨Or.inr rfl, ⟨Or.inr rfl, ⟨Or.inr rfl, ⟨Or.inr rfl, ⟨Or.inr rfl, ⟨Or.inr rfl, ⟨Or.inr rfl, ⟨Or.inl rfl, trivial⟩⟩⟩⟩⟩⟩⟩⟩⟩⟩⟩⟩⟩) ?_
            exact K
        · replace K := K.2 c14
          refine Wp.forget (L := [.ref 2, .ref 0, .int v2, mk0, .ref 23, .ref 24, .ref 25, mk0, .int v8, .int v9, mk0, .int v11, mk0]) (⟨Or.inr rfl, ⟨Or.inr rfl, ⟨Or.inr rfl, ⟨Or.inr rfl, ⟨Or.inr rfl, ⟨Or.inr rfl, ⟨Or.inr rfl, ⟨Or.inr rfl, ⟨Or.inr rfl, ⟨Or.inr rfl, ⟨Or.inr rfl, ⟨Or.inr rfl, ⟨Or.inl rfl, trivial⟩⟩⟩⟩⟩⟩⟩⟩⟩⟩⟩⟩⟩) ?_
          exact K
      · replace K := K.2 c12
        refine Wp.blk (by decide) ol_130 194 3 (pc' := 324) (L' := [.ref 2, .ref 0, .int v2, mk0, .ref 23, .ref 24, .ref 25, mk0, .int v8, .int v9, mk0, .int v11, .int v12]) (S' := [.int v11, .ref 24, .ref 2]) (h' := h7) rfl ?_
        refine Wp.iald (op_ix (by decide) ol_130 197 rfl) (kS hs8 24 rfl) (inS hs8 24 rfl r11) rfl ?_
        refine Wp.blk (by decide) ol_130 198 2 (pc' := (if (AI h7 24 v11.toNatClampNeg) = (1 : Int32) then 329 else 334)) (L' := [.ref 2, .ref 0, .int v2, mk0, .ref 23, .ref 24, .ref 25, mk0, .int v8, .int v9, mk0, .int v11, .int v12]) (S' := [.ref 2]) (h' := h7) rfl ?_
        refine Wp.br (fun c16 => ?_) (fun c16 => ?_)
        · replace K := K.1 c16
          refine Wp.blk (by decide) ol_130 200 2 (pc' := 336) (L' := [.ref 2, .ref 0, .int v2, mk0, .ref 23, .ref 24, .ref 25, mk0, .int v8, .int v9, mk0, .int v11, .int v12]) (S' := [.int (43 : Int32), .ref 2]) (h' := h7) rfl ?_
          exact K
        · replace K := K.2 c16
          refine Wp.blk (by decide) ol_130 202 1 (pc' := 336) (L' := [.ref 2, .ref 0, .int v2, mk0, .ref 23, .ref 24, .ref 25, mk0, .int v8, .int v9, mk0, .int v11, .int v12]) (S' := [.int (45 : Int32), .ref 2]) (h' := h7) rfl ?_
          exact K
set_option maxRecDepth 4000 in
/-- CutsOrFastLaw.net at 336 -/
theorem g130_336 (d : Nat) (v2 : Int32) (v8 : Int32) (v9 : Int32) (v11 : Int32) (v12 : Int32) (s0 : Int32) (s1 : Nat) (h : AH) (HS : Sh h)  (Q : Option Value → AH → Prop) (K : (Cl d 129 [.ref s1, .int s0] h (fun r h1 => ∃ x3 : Int32, r = some (.int x3) ∧ Sh h1 ∧ ((x3 = (0 : Int32) → Wp (d + 1) 130 116 [.ref 2, .ref 0, .int v2, mk0, .ref 23, .ref 24, .ref 25, mk0, .int v8, .int v9, .int (0 : Int32), .int (v11 + (1 : Int32)), mk0] [] h1 Q) ∧ (¬ x3 = (0 : Int32) → (ixR v11 12 ∧ (((AI h1 25 v11.toNatClampNeg) = (1 : Int32) → (((v12 - v12 / (2 : Int32) * (2 : Int32)) = (0 : Int32) → Wp (d + 1) 130 116 [.ref 2, .ref 0, .int v2, mk0, .ref 23, .ref 24, .ref 25, mk0, .int v8, .int v9, .int (1 : Int32), .int (v11 + (1 : Int32)), mk0] [] h1 Q) ∧ (¬ (v12 - v12 / (2 : Int32) * (2 : Int32)) = (0 : Int32) → Wp (d + 1) 130 358 [.ref 2, .ref 0, .int v2, mk0, .ref 23, .ref 24, .ref 25, mk0, .int v8, .int v9, mk0, .int v11, mk0] [] h1 Q))) ∧ (¬ (AI h1 25 v11.toNatClampNeg) = (1 : Int32) → Wp (d + 1) 130 358 [.ref 2, .ref 0, .int v2, mk0, .ref 23, .ref 24, .ref 25, mk0, .int v8, .int v9, mk0, .int v11, mk0] [] h1 Q)))))))) : Wp (d + 1) 130 336 [.ref 2, .ref 0, .int v2, mk0, .ref 23, .ref 24, .ref 25, mk0, .int v8, .int v9, mk0, .int v11, .int v12] [.int s0, .ref s1] h Q := by
  refine Wp.callI (op_ix (by decide) ol_130 203 rfl) rfl rfl (K.mono ?_)
  rintro _ h1 ⟨x3, rfl, hs2, K⟩
  refine ⟨x3, rfl, ?_⟩
  refine Wp.blk (by decide) ol_130 204 1 (pc' := (if x3 = (0 : Int32) then 377 else 342)) (L' := [.ref 2, .ref 0, .int v2, mk0, .ref 23, .ref 24, .ref 25, mk0, .int v8, .int v9, mk0, .int v11, .int v12]) (S' := []) (h' := h1) rfl ?_
  refine Wp.br (fun c4 => ?_) (fun c4 => ?_)
  · replace K := K.1 c4
    refine Wp.blk (by decide) ol_130 224 4 (pc' := 116) (L' := [.ref 2, .ref 0, .int v2, mk0, .ref 23, .ref 24, .ref 25, mk0, .int v8, .int v9, .int (0 : Int32), .int (v11 + (1 : Int32)), .int v12]) (S' := []) (h' := h1) rfl ?_
    refine Wp.forget (L := [.ref 2, .ref 0, .int v2, mk0, .ref 23, .ref 24, .ref 25, mk0, .int v8, .int v9, .int (0 : Int32), .int (v11 + (1 : Int32)), mk0]) (⟨Or.inr rfl, ⟨Or.inr rfl, ⟨Or.inr rfl, ⟨Or.inr rfl, ⟨Or.inr rfl, ⟨Or.inr rfl, ⟨Or.inr rfl, ⟨Or.inr rfl, ⟨Or.inr rfl, ⟨Or.inr rfl, ⟨Or.inr rfl, ⟨Or.inr rfl, ⟨Or.inl rfl, trivial⟩⟩⟩⟩⟩⟩⟩⟩⟩⟩⟩⟩⟩) ?_
    exact K
  · replace K := K.2 c4
    refine Wp.blk (by decide) ol_130 205 2 (pc' := 346) (L' := [.ref 2, .ref 0, .int v2, mk0, .ref 23, .ref 24, .ref 25, mk0, .int v8, .int v9, mk0, .int v11, .int v12]) (S' := [.int v11, .ref 25]) (h' := h1) rfl ?_
    obtain ⟨r5, K⟩ := K
    refine Wp.iald (op_ix (by decide) ol_130 207 rfl) (kS hs2 25 rfl) (inS hs2 25 rfl r5) rfl ?_
    refine Wp.blk (by decide) ol_130 208 2 (pc' := (if (AI h1 25 v11.toNatClampNeg) = (1 : Int32) then 351 else 358)) (L' := [.ref 2, .ref 0, .int v2, mk0, .ref 23, .ref 24, .ref 25, mk0, .int v8, .int v9, mk0, .int v11, .int v12]) (S' := []) (h' := h1) rfl ?_
    refine Wp.br (fun c6 => ?_) (fun c6 => ?_)
    · replace K := K.1 c6
      refine Wp.blk (by decide) ol_130 210 4 (pc' := (if (v12 - v12 / (2 : Int32) * (2 : Int32)) = (0 : Int32) then 373 else 358)) (L' := [.ref 2, .ref 0, .int v2, mk0, .ref 23, .ref 24, .ref 25, mk0, .int v8, .int v9, mk0, .int v11, .int v12]) (S' := []) (h' := h1) rfl ?_
      refine Wp.br (fun c7 => ?_) (fun c7 => ?_)
      · replace K := K.1 c7
        refine Wp.blk (by decide) ol_130 222 2 (pc' := 378) (L' := [.ref 2, .ref 0, .int v2, mk0, .ref 23, .ref 24, .ref 25, mk0, .int v8, .int v9, mk0, .int v11, .int v12]) (S' := [.int (1 : Int32)]) (h' := h1) rfl ?_
        refine Wp.blk (by decide) ol_130 225 3 (pc' := 116) (L' := [.ref 2, .ref 0, .int v2, mk0, .ref 23, .ref 24, .ref 25, mk0, .int v8, .int v9, .int (1 : Int32), .int (v11 + (1 : Int32)), .int v12]) (S' := []) (h' := h1) rfl ?_
        refine Wp.forget (L := [.ref 2, .ref 0, .int v2, mk0, .ref 23, .ref 24, .ref 25, mk0, .int v8, .int v9, .int (1 : Int32), .int (v11 + (1 : Int32)), mk0]) (⟨Or.inr rfl, ⟨Or.inr rfl, ⟨Or.inr rfl, ⟨Or.inr rfl, ⟨Or.inr rfl, ⟨Or.inr rfl, ⟨Or.inr rfl, ⟨Or.inr rfl, ⟨Or.inr rfl, ⟨Or.inr rfl, ⟨Or.inr rfl, ⟨Or.inr rfl, ⟨Or.inl rfl, trivial⟩⟩⟩⟩⟩⟩⟩⟩⟩⟩⟩⟩⟩) ?_
        exact K
      · replace K := K.2 c7
        refine Wp.forget (L := [.ref 2, .ref 0, .int v2, mk0, .ref 23, .ref 24, .ref 25, mk0, .int v8, .int v9, mk0, .int v11, mk0]) (⟨Or.inr rfl, ⟨Or.inr rfl, ⟨Or.inr rfl, ⟨Or.inr rfl, ⟨Or.inr rfl, ⟨Or.inr rfl, ⟨Or.inr rfl, ⟨Or.inr rfl, ⟨Or.inr rfl, ⟨Or.inr rfl, ⟨Or.inr rfl, ⟨Or.inr rfl, ⟨Or.inl rfl, trivial⟩⟩⟩⟩⟩⟩⟩⟩⟩⟩⟩⟩⟩) ?_
        exact K
    · replace K := K.2 c6
      refine Wp.forget (L := [.ref 2, .ref 0, .int v2, mk0, .ref 23, .ref 24, .ref 25, mk0, .int v8, .int v9, mk0, .int v11, mk0]) (⟨Or.inr rfl, ⟨Or.inr rfl, ⟨Or.inr rfl, ⟨Or.inr rfl, ⟨Or.inr rfl, ⟨Or.inr rfl, ⟨Or.inr rfl, ⟨Or.inr rfl, ⟨Or.inr rfl, ⟨Or.inr rfl, ⟨Or.inr rfl, ⟨Or.inr rfl, ⟨Or.inl rfl, trivial⟩⟩⟩⟩⟩⟩⟩⟩⟩⟩⟩⟩⟩) ?_
      exact K
set_option maxRecDepth 4000 in
/-- CutsOrFastLaw.net at 358 -/
theorem g130_358 (d : Nat) (v2 : Int32) (v8 : Int32) (v9 : Int32) (v11 : Int32) (h : AH) (HS : Sh h)  (Q : Option Value → AH → Prop) (K : (ixR v11 12 ∧ (Cl d 129 [.ref 2, .int (((48 : Int32)) + ((AI h 25 v11.toNatClampNeg)))] h (fun r h2 => ∃ x4 : Int32, r = some (.int x4) ∧ Sh h2 ∧ ((x4 = (0 : Int32) → Wp (d + 1) 130 116 [.ref 2, .ref 0, .int v2, mk0, .ref 23, .ref 24, .ref 25, mk0, .int v8, .int v9, .int (0 : Int32), .int (v11 + (1 : Int32)), mk0] [] h2 Q) ∧ (¬ x4 = (0 : Int32) → Wp (d + 1) 130 116 [.ref 2, .ref 0, .int v2, mk0, .ref 23, .ref 24, .ref 25, mk0, .int v8, .int v9, .int (1 : Int32), .int (v11 + (1 : Int32)), mk0] [] h2 Q)))))) : Wp (d + 1) 130 358 [.ref 2, .ref 0, .int v2, mk0, .ref 23, .ref 24, .ref 25, mk0, .int v8, .int v9, mk0, .int v11, mk0] [] h Q := by
  refine Wp.blk (by decide) ol_130 214 4 (pc' := 365) (L' := [.ref 2, .ref 0, .int v2, mk0, .ref 23, .ref 24, .ref 25, mk0, .int v8, .int v9, mk0, .int v11, mk0]) (S' := [.int v11, .ref 25, .int (48 : Int32), .ref 2]) (h' := h) rfl ?_
  obtain ⟨r1, K⟩ := K
  refine Wp.iald (op_ix (by decide) ol_130 218 rfl) (kS HS 25 rfl) (inS HS 25 rfl r1) rfl ?_
  refine Wp.blk (by decide) ol_130 219 1 (pc' := 367) (L' := [.ref 2, .ref 0, .int v2, mk0, .ref 23, .ref 24, .ref 25, mk0, .int v8, .int v9, mk0, .int v11, mk0]) (S' := [.int (((48 : Int32)) + ((AI h 25 v11.toNatClampNeg))), .ref 2]) (h' := h) rfl ?_
  refine Wp.callI (op_ix (by decide) ol_130 220 rfl) rfl rfl (K.mono ?_)
  rintro _ h2 ⟨x4, rfl, hs3, K⟩
  refine ⟨x4, rfl, ?_⟩
  refine Wp.blk (by decide) ol_130 221 1 (pc' := (if x4 = (0 : Int32) then 377 else 373)) (L' := [.ref 2, .ref 0, .int v2, mk0, .ref 23, .ref 24, .ref 25, mk0, .int v8, .int v9, mk0, .int v11, mk0]) (S' := []) (h' := h2) rfl ?_
  refine Wp.br (fun c5 => ?_) (fun c5 => ?_)
  · replace K := K.1 c5
    refine Wp.blk (by decide) ol_130 224 4 (pc' := 116) (L' := [.ref 2, .ref 0, .int v2, mk0, .ref 23, .ref 24, .ref 25, mk0, .int v8, .int v9, .int (0 : Int32), .int (v11 + (1 : Int32)), mk0]) (S' := []) (h' := h2) rfl ?_
    exact K
  · replace K := K.2 c5
    refine Wp.blk (by decide) ol_130 222 2 (pc' := 378) (L' := [.ref 2, .ref 0, .int v2, mk0, .ref 23, .ref 24, .ref 25, mk0, .int v8, .int v9, mk0, .int v11, mk0]) (S' := [.int (1 : Int32)]) (h' := h2) rfl ?_
    refine Wp.blk (by decide) ol_130 225 3 (pc' := 116) (L' := [.ref 2, .ref 0, .int v2, mk0, .ref 23, .ref 24, .ref 25, mk0, .int v8, .int v9, .int (1 : Int32), .int (v11 + (1 : Int32)), mk0]) (S' := []) (h' := h2) rfl ?_
    exact K
/-- CutsOrFastLaw.reach at 0 (I[I[IIZI)I -/
theorem g131_0 (d : Nat) (v0 : Int32) (v2 : Nat) (v3 : Int32) (v4 : Int32) (v5 : Int32) (h : AH) (HS : Sh h)  (Q : Option Value → AH → Prop) (K : Wp d 131 8 [.int v0, .ref 23, .ref v2, mk0, .int v4, .int v5, .int (((1 : Int32)) <<< (v3 &&& 31)), .int (0 : Int32), mk0, mk0, mk0] [] h Q) : Wp d 131 0 [.int v0, .ref 23, .ref v2, .int v3, .int v4, .int v5, mk0, mk0, mk0, mk0, mk0] [] h Q := by
  refine Wp.blk (by decide) ol_131 0 6 (pc' := 8) (L' := [.int v0, .ref 23, .ref v2, .int v3, .int v4, .int v5, .int (((1 : Int32)) <<< (v3 &&& 31)), .int (0 : Int32), mk0, mk0, mk0]) (S' := []) (h' := h) rfl ?_
  refine Wp.forget (L := [.int v0, .ref 23, .ref v2, mk0, .int v4, .int v5, .int (((1 : Int32)) <<< (v3 &&& 31)), .int (0 : Int32), mk0, mk0, mk0]) (⟨Or.inr rfl, ⟨Or.inr rfl, ⟨Or.inr rfl, ⟨Or.inl rfl, ⟨Or.inr rfl, ⟨Or.inr rfl, ⟨Or.inr rfl, ⟨Or.inr rfl, ⟨Or.inr rfl, ⟨Or.inr rfl, ⟨Or.inr rfl, trivial⟩⟩⟩⟩⟩⟩⟩⟩⟩⟩⟩) ?_
  exact K
/-- CutsOrFastLaw.reach at 8 -/
theorem g131_8 (d : Nat) (v0 : Int32) (v2 : Nat) (v4 : Int32) (v5 : Int32) (v6 : Int32) (v7 : Int32) (h : AH) (HS : Sh h)  (Q : Option Value → AH → Prop) (K : ((v7 < (6 : Int32) → Wp d 131 18 [.int v0, .ref 23, .ref v2, mk0, .int v4, .int v5, .int v6, .int v7, .int (0 : Int32), mk0, mk0] [] h Q) ∧ (¬ v7 < (6 : Int32) → Q (some (.int v6)) h))) : Wp d 131 8 [.int v0, .ref 23, .ref v2, mk0, .int v4, .int v5, .int v6, .int v7, mk0, mk0, mk0] [] h Q := by
  refine Wp.blk (by decide) ol_131 6 3 (pc' := (if v7 < (6 : Int32) then 15 else 118)) (L' := [.int v0, .ref 23, .ref v2, mk0, .int v4, .int v5, .int v6, .int v7, mk0, mk0, mk0]) (S' := []) (h' := h) rfl ?_
  refine Wp.br (fun c1 => ?_) (fun c1 => ?_)
  · replace K := K.1 c1
    refine Wp.blk (by decide) ol_131 9 2 (pc' := 18) (L' := [.int v0, .ref 23, .ref v2, mk0, .int v4, .int v5, .int v6, .int v7, .int (0 : Int32), mk0, mk0]) (S' := []) (h' := h) rfl ?_
    exact K
  · replace K := K.2 c1
    refine Wp.blk (by decide) ol_131 69 1 (pc' := 120) (L' := [.int v0, .ref 23, .ref v2, mk0, .int v4, .int v5, .int v6, .int v7, mk0, mk0, mk0]) (S' := [.int v6]) (h' := h) rfl ?_
    exact Wp.ret (op_ix (by decide) ol_131 70 rfl) rfl K
/-- CutsOrFastLaw.reach at 18 -/
theorem g131_18 (d : Nat) (v0 : Int32) (v2 : Nat) (v4 : Int32) (v5 : Int32) (v6 : Int32) (v7 : Int32) (v8 : Int32) (h : AH) (HS : Sh h)  (Q : Option Value → AH → Prop) (K : ((v8 < v0 → ((AK h v2).1 = 20 ∧ inR h v2 v8 = true ∧ (((AI h v2 v8.toNatClampNeg) = (1 : Int32) → Wp d 131 59 [.int v0, .ref 23, .ref v2, mk0, .int v4, .int v5, .int v6, .int v7, .int v8, mk0, mk0] [.int (1 : Int32)] h Q) ∧ (¬ (AI h v2 v8.toNatClampNeg) = (1 : Int32) → ((v4 = (0 : Int32) → Wp d 131 59 [.int v0, .ref 23, .ref v2, mk0, .int v4, .int v5, .int v6, .int v7, .int v8, mk0, mk0] [.int (0 : Int32)] h Q) ∧ (¬ v4 = (0 : Int32) → (((AI h v2 v8.toNatClampNeg) = (0 : Int32) → (((((v5 >>> (v8 &&& 31))) &&& ((1 : Int32))) = (0 : Int32) → Wp d 131 59 [.int v0, .ref 23, .ref v2, mk0, .int v4, .int v5, .int v6, .int v7, .int v8, mk0, mk0] [.int (1 : Int32)] h Q) ∧ (¬ (((v5 >>> (v8 &&& 31))) &&& ((1 : Int32))) = (0 : Int32) → Wp d 131 59 [.int v0, .ref 23, .ref v2, mk0, .int v4, .int v5, .int v6, .int v7, .int v8, mk0, mk0] [.int (0 : Int32)] h Q))) ∧ (¬ (AI h v2 v8.toNatClampNeg) = (0 : Int32) → Wp d 131 59 [.int v0, .ref 23, .ref v2, mk0, .int v4, .int v5, .int v6, .int v7, .int v8, mk0, mk0] [.int (0 : Int32)] h Q)))))))) ∧ (¬ v8 < v0 → Wp d 131 8 [.int v0, .ref 23, .ref v2, mk0, .int v4, .int v5, .int v6, .int (v7 + (1 : Int32)), mk0, mk0, mk0] [] h Q))) : Wp d 131 18 [.int v0, .ref 23, .ref v2, mk0, .int v4, .int v5, .int v6, .int v7, .int v8, mk0, mk0] [] h Q := by
  refine Wp.blk (by decide) ol_131 11 3 (pc' := (if v8 < v0 then 24 else 112)) (L' := [.int v0, .ref 23, .ref v2, mk0, .int v4, .int v5, .int v6, .int v7, .int v8, mk0, mk0]) (S' := []) (h' := h) rfl ?_
  refine Wp.br (fun c1 => ?_) (fun c1 => ?_)
  · replace K := K.1 c1
    refine Wp.blk (by decide) ol_131 14 2 (pc' := 27) (L' := [.int v0, .ref 23, .ref v2, mk0, .int v4, .int v5, .int v6, .int v7, .int v8, mk0, mk0]) (S' := [.int v8, .ref v2]) (h' := h) rfl ?_
    obtain ⟨k2, K⟩ := K
    obtain ⟨r3, K⟩ := K
    refine Wp.iald (op_ix (by decide) ol_131 16 rfl) k2 r3 rfl ?_
    refine Wp.blk (by decide) ol_131 17 2 (pc' := (if (AI h v2 v8.toNatClampNeg) = (1 : Int32) then 54 else 32)) (L' := [.int v0, .ref 23, .ref v2, mk0, .int v4, .int v5, .int v6, .int v7, .int v8, mk0, mk0]) (S' := []) (h' := h) rfl ?_
    refine Wp.br (fun c4 => ?_) (fun c4 => ?_)
    · replace K := K.1 c4
      refine Wp.blk (by decide) ol_131 31 2 (pc' := 59) (L' := [.int v0, .ref 23, .ref v2, mk0, .int v4, .int v5, .int v6, .int v7, .int v8, mk0, mk0]) (S' := [.int (1 : Int32)]) (h' := h) rfl ?_
      exact K
    · replace K := K.2 c4
      refine Wp.blk (by decide) ol_131 19 2 (pc' := (if v4 = (0 : Int32) then 58 else 37)) (L' := [.int v0, .ref 23, .ref v2, mk0, .int v4, .int v5, .int v6, .int v7, .int v8, mk0, mk0]) (S' := []) (h' := h) rfl ?_
      refine Wp.br (fun c5 => ?_) (fun c5 => ?_)
      · replace K := K.1 c5
        refine Wp.blk (by decide) ol_131 33 1 (pc' := 59) (L' := [.int v0, .ref 23, .ref v2, mk0, .int v4, .int v5, .int v6, .int v7, .int v8, mk0, mk0]) (S' := [.int (0 : Int32)]) (h' := h) rfl ?_
        exact K
      · replace K := K.2 c5
        refine Wp.blk (by decide) ol_131 21 2 (pc' := 40) (L' := [.int v0, .ref 23, .ref v2, mk0, .int v4, .int v5, .int v6, .int v7, .int v8, mk0, mk0]) (S' := [.int v8, .ref v2]) (h' := h) rfl ?_
        refine Wp.iald (op_ix (by decide) ol_131 23 rfl) k2 r3 rfl ?_
        refine Wp.blk (by decide) ol_131 24 1 (pc' := (if (AI h v2 v8.toNatClampNeg) = (0 : Int32) then 44 else 58)) (L' := [.int v0, .ref 23, .ref v2, mk0, .int v4, .int v5, .int v6, .int v7, .int v8, mk0, mk0]) (S' := []) (h' := h) rfl ?_
        refine Wp.br (fun c6 => ?_) (fun c6 => ?_)
        · replace K := K.1 c6
          refine Wp.blk (by decide) ol_131 25 6 (pc' := (if (((v5 >>> (v8 &&& 31))) &&& ((1 : Int32))) = (0 : Int32) then 54 else 58)) (L' := [.int v0, .ref 23, .ref v2, mk0, .int v4, .int v5, .int v6, .int v7, .int v8, mk0, mk0]) (S' := []) (h' := h) rfl ?_
          refine Wp.br (fun c7 => ?_) (fun c7 => ?_)
          · replace K := K.1 c7
            refine Wp.blk (by decide) ol_131 31 2 (pc' := 59) (L' := [.int v0, .ref 23, .ref v2, mk0, .int v4, .int v5, .int v6, .int v7, .int v8, mk0, mk0]) (S' := [.int (1 : Int32)]) (h' := h) rfl ?_
            exact K
          · replace K := K.2 c7
            refine Wp.blk (by decide) ol_131 33 1 (pc' := 59) (L' := [.int v0, .ref 23, .ref v2, mk0, .int v4, .int v5, .int v6, .int v7, .int v8, mk0, mk0]) (S' := [.int (0 : Int32)]) (h' := h) rfl ?_
            exact K
        · replace K := K.2 c6
          refine Wp.blk (by decide) ol_131 33 1 (pc' := 59) (L' := [.int v0, .ref 23, .ref v2, mk0, .int v4, .int v5, .int v6, .int v7, .int v8, mk0, mk0]) (S' := [.int (0 : Int32)]) (h' := h) rfl ?_
          exact K
  · replace K := K.2 c1
    refine Wp.blk (by decide) ol_131 67 2 (pc' := 8) (L' := [.int v0, .ref 23, .ref v2, mk0, .int v4, .int v5, .int v6, .int (v7 + (1 : Int32)), .int v8, mk0, mk0]) (S' := []) (h' := h) rfl ?_
    refine Wp.forget (L := [.int v0, .ref 23, .ref v2, mk0, .int v4, .int v5, .int v6, .int (v7 + (1 : Int32)), mk0, mk0, mk0]) (⟨Or.inr rfl, ⟨Or.inr rfl, ⟨Or.inr rfl, ⟨Or.inr rfl, ⟨Or.inr rfl, ⟨Or.inr rfl, ⟨Or.inr rfl, ⟨Or.inr rfl, ⟨Or.inl rfl, ⟨Or.inr rfl, ⟨Or.inr rfl, trivial⟩⟩⟩⟩⟩⟩⟩⟩⟩⟩⟩) ?_
    exact K
/-- CutsOrFastLaw.reach at 59 -/
theorem g131_59 (d : Nat) (v0 : Int32) (v2 : Nat) (v4 : Int32) (v5 : Int32) (v6 : Int32) (v7 : Int32) (v8 : Int32) (s0 : Int32) (h : AH) (HS : Sh h)  (Q : Option Value → AH → Prop) (K : (ixR ((((2 : Int32)) * v8)) 22 ∧ ixR ((((((2 : Int32)) * v8)) + ((1 : Int32)))) 22 ∧ ((s0 = (0 : Int32) → Wp d 131 18 [.int v0, .ref 23, .ref v2, mk0, .int v4, .int v5, .int (v6 ||| ((0 : Int32))), .int v7, .int (v8 + (1 : Int32)), mk0, mk0] [] h Q) ∧ (¬ s0 = (0 : Int32) → (((v6 &&& ((((((1 : Int32)) <<< (((AI h 23 ((((2 : Int32)) * v8)).toNatClampNeg)) &&& 31))) ||| ((((1 : Int32)) <<< (((AI h 23 ((((((2 : Int32)) * v8)) + ((1 : Int32)))).toNatClampNeg)) &&& 31)))))) = (0 : Int32) → Wp d 131 18 [.int v0, .ref 23, .ref v2, mk0, .int v4, .int v5, .int (v6 ||| ((0 : Int32))), .int v7, .int (v8 + (1 : Int32)), mk0, mk0] [] h Q) ∧ (¬ (v6 &&& ((((((1 : Int32)) <<< (((AI h 23 ((((2 : Int32)) * v8)).toNatClampNeg)) &&& 31))) ||| ((((1 : Int32)) <<< (((AI h 23 ((((((2 : Int32)) * v8)) + ((1 : Int32)))).toNatClampNeg)) &&& 31)))))) = (0 : Int32) → Wp d 131 18 [.int v0, .ref 23, .ref v2, mk0, .int v4, .int v5, .int (v6 ||| ((((((1 : Int32)) <<< (((AI h 23 ((((2 : Int32)) * v8)).toNatClampNeg)) &&& 31))) ||| ((((1 : Int32)) <<< (((AI h 23 ((((((2 : Int32)) * v8)) + ((1 : Int32)))).toNatClampNeg)) &&& 31)))))), .int v7, .int (v8 + (1 : Int32)), mk0, mk0] [] h Q)))))) : Wp d 131 59 [.int v0, .ref 23, .ref v2, mk0, .int v4, .int v5, .int v6, .int v7, .int v8, mk0, mk0] [.int s0] h Q := by
  refine Wp.blk (by decide) ol_131 34 6 (pc' := 67) (L' := [.int v0, .ref 23, .ref v2, mk0, .int v4, .int v5, .int v6, .int v7, .int v8, .int s0, mk0]) (S' := [.int (((2 : Int32)) * v8), .ref 23, .int (1 : Int32)]) (h' := h) rfl ?_
  obtain ⟨r1, K⟩ := K
  refine Wp.iald (op_ix (by decide) ol_131 40 rfl) (kS HS 23 rfl) (inS HS 23 rfl r1) rfl ?_
  refine Wp.blk (by decide) ol_131 41 8 (pc' := 77) (L' := [.int v0, .ref 23, .ref v2, mk0, .int v4, .int v5, .int v6, .int v7, .int v8, .int s0, mk0]) (S' := [.int (((((2 : Int32)) * v8)) + ((1 : Int32))), .ref 23, .int (1 : Int32), .int (((1 : Int32)) <<< (((AI h 23 ((((2 : Int32)) * v8)).toNatClampNeg)) &&& 31))]) (h' := h) rfl ?_
  obtain ⟨r2, K⟩ := K
  refine Wp.iald (op_ix (by decide) ol_131 49 rfl) (kS HS 23 rfl) (inS HS 23 rfl r2) rfl ?_
  refine Wp.blk (by decide) ol_131 50 6 (pc' := (if s0 = (0 : Int32) then 102 else 89)) (L' := [.int v0, .ref 23, .ref v2, mk0, .int v4, .int v5, .int v6, .int v7, .int v8, .int s0, .int (((((1 : Int32)) <<< (((AI h 23 ((((2 : Int32)) * v8)).toNatClampNeg)) &&& 31))) ||| ((((1 : Int32)) <<< (((AI h 23 ((((((2 : Int32)) * v8)) + ((1 : Int32)))).toNatClampNeg)) &&& 31))))]) (S' := [.int v6]) (h' := h) rfl ?_
  refine Wp.br (fun c3 => ?_) (fun c3 => ?_)
  · replace K := K.1 c3
    refine Wp.blk (by decide) ol_131 62 5 (pc' := 18) (L' := [.int v0, .ref 23, .ref v2, mk0, .int v4, .int v5, .int (v6 ||| ((0 : Int32))), .int v7, .int (v8 + (1 : Int32)), .int s0, .int (((((1 : Int32)) <<< (((AI h 23 ((((2 : Int32)) * v8)).toNatClampNeg)) &&& 31))) ||| ((((1 : Int32)) <<< (((AI h 23 ((((((2 : Int32)) * v8)) + ((1 : Int32)))).toNatClampNeg)) &&& 31))))]) (S' := []) (h' := h) rfl ?_
    refine Wp.forget (L := [.int v0, .ref 23, .ref v2, mk0, .int v4, .int v5, .int (v6 ||| ((0 : Int32))), .int v7, .int (v8 + (1 : Int32)), mk0, mk0]) (⟨Or.inr rfl, ⟨Or.inr rfl, ⟨Or.inr rfl, ⟨Or.inr rfl, ⟨Or.inr rfl, ⟨Or.inr rfl, ⟨Or.inr rfl, ⟨Or.inr rfl, ⟨Or.inr rfl, ⟨Or.inl rfl, ⟨Or.inl rfl, trivial⟩⟩⟩⟩⟩⟩⟩⟩⟩⟩⟩) ?_
    exact K
  · replace K := K.2 c3
    refine Wp.blk (by decide) ol_131 56 4 (pc' := (if (v6 &&& ((((((1 : Int32)) <<< (((AI h 23 ((((2 : Int32)) * v8)).toNatClampNeg)) &&& 31))) ||| ((((1 : Int32)) <<< (((AI h 23 ((((((2 : Int32)) * v8)) + ((1 : Int32)))).toNatClampNeg)) &&& 31)))))) = (0 : Int32) then 102 else 97)) (L' := [.int v0, .ref 23, .ref v2, mk0, .int v4, .int v5, .int v6, .int v7, .int v8, .int s0, .int (((((1 : Int32)) <<< (((AI h 23 ((((2 : Int32)) * v8)).toNatClampNeg)) &&& 31))) ||| ((((1 : Int32)) <<< (((AI h 23 ((((((2 : Int32)) * v8)) + ((1 : Int32)))).toNatClampNeg)) &&& 31))))]) (S' := [.int v6]) (h' := h) rfl ?_
    refine Wp.br (fun c4 => ?_) (fun c4 => ?_)
    · replace K := K.1 c4
      refine Wp.blk (by decide) ol_131 62 5 (pc' := 18) (L' := [.int v0, .ref 23, .ref v2, mk0, .int v4, .int v5, .int (v6 ||| ((0 : Int32))), .int v7, .int (v8 + (1 : Int32)), .int s0, .int (((((1 : Int32)) <<< (((AI h 23 ((((2 : Int32)) * v8)).toNatClampNeg)) &&& 31))) ||| ((((1 : Int32)) <<< (((AI h 23 ((((((2 : Int32)) * v8)) + ((1 : Int32)))).toNatClampNeg)) &&& 31))))]) (S' := []) (h' := h) rfl ?_
      refine Wp.forget (L := [.int v0, .ref 23, .ref v2, mk0, .int v4, .int v5, .int (v6 ||| ((0 : Int32))), .int v7, .int (v8 + (1 : Int32)), mk0, mk0]) (⟨Or.inr rfl, ⟨Or.inr rfl, ⟨Or.inr rfl, ⟨Or.inr rfl, ⟨Or.inr rfl, ⟨Or.inr rfl, ⟨Or.inr rfl, ⟨Or.inr rfl, ⟨Or.inr rfl, ⟨Or.inl rfl, ⟨Or.inl rfl, trivial⟩⟩⟩⟩⟩⟩⟩⟩⟩⟩⟩) ?_
      exact K
    · replace K := K.2 c4
      refine Wp.blk (by decide) ol_131 60 2 (pc' := 103) (L' := [.int v0, .ref 23, .ref v2, mk0, .int v4, .int v5, .int v6, .int v7, .int v8, .int s0, .int (((((1 : Int32)) <<< (((AI h 23 ((((2 : Int32)) * v8)).toNatClampNeg)) &&& 31))) ||| ((((1 : Int32)) <<< (((AI h 23 ((((((2 : Int32)) * v8)) + ((1 : Int32)))).toNatClampNeg)) &&& 31))))]) (S' := [.int (((((1 : Int32)) <<< (((AI h 23 ((((2 : Int32)) * v8)).toNatClampNeg)) &&& 31))) ||| ((((1 : Int32)) <<< (((AI h 23 ((((((2 : Int32)) * v8)) + ((1 : Int32)))).toNatClampNeg)) &&& 31)))), .int v6]) (h' := h) rfl ?_
      refine Wp.blk (by decide) ol_131 63 4 (pc' := 18) (L' := [.int v0, .ref 23, .ref v2, mk0, .int v4, .int v5, .int (v6 ||| ((((((1 : Int32)) <<< (((AI h 23 ((((2 : Int32)) * v8)).toNatClampNeg)) &&& 31))) ||| ((((1 : Int32)) <<< (((AI h 23 ((((((2 : Int32)) * v8)) + ((1 : Int32)))).toNatClampNeg)) &&& 31)))))), .int v7, .int (v8 + (1 : Int32)), .int s0, .int (((((1 : Int32)) <<< (((AI h 23 ((((2 : Int32)) * v8)).toNatClampNeg)) &&& 31))) ||| ((((1 : Int32)) <<< (((AI h 23 ((((((2 : Int32)) * v8)) + ((1 : Int32)))).toNatClampNeg)) &&& 31))))]) (S' := []) (h' := h) rfl ?_
      refine Wp.forget (L := [.int v0, .ref 23, .ref v2, mk0, .int v4, .int v5, .int (v6 ||| ((((((1 : Int32)) <<< (((AI h 23 ((((2 : Int32)) * v8)).toNatClampNeg)) &&& 31))) ||| ((((1 : Int32)) <<< (((AI h 23 ((((((2 : Int32)) * v8)) + ((1 : Int32)))).toNatClampNeg)) &&& 31)))))), .int v7, .int (v8 + (1 : Int32)), mk0, mk0]) (⟨Or.inr rfl, ⟨Or.inr rfl, ⟨Or.inr rfl, ⟨Or.inr rfl, ⟨Or.inr rfl, ⟨Or.inr rfl, ⟨Or.inr rfl, ⟨Or.inr rfl, ⟨Or.inr rfl, ⟨Or.inl rfl, ⟨Or.inl rfl, trivial⟩⟩⟩⟩⟩⟩⟩⟩⟩⟩⟩) ?_
      exact K
/-- CutsOrFastLaw.status at 0 (I[I[I)I -/
theorem g132_0 (d : Nat) (v0 : Int32) (v2 : Nat) (h : AH) (HS : Sh h)  (Q : Option Value → AH → Prop) (K : (ixR ((20 : Int32)) 22 ∧ (Cl d 131 [.int v0, .ref 23, .ref v2, .int (AI h 23 ((20 : Int32)).toNatClampNeg), .int (0 : Int32), .int (0 : Int32)] h (fun r h2 => ∃ x4 : Int32, r = some (.int x4) ∧ Sh h2 ∧ (ixR ((21 : Int32)) 22 ∧ (((((x4 >>> (((AI h2 23 ((21 : Int32)).toNatClampNeg)) &&& 31))) &&& ((1 : Int32))) = (1 : Int32) → Q (some (.int (1 : Int32))) h2) ∧ (¬ (((x4 >>> (((AI h2 23 ((21 : Int32)).toNatClampNeg)) &&& 31))) &&& ((1 : Int32))) = (1 : Int32) → (ixR ((20 : Int32)) 22 ∧ (Cl d 131 [.int v0, .ref 23, .ref v2, .int (AI h2 23 ((20 : Int32)).toNatClampNeg), .int (1 : Int32), .int (0 : Int32)] h2 (fun r h8 => ∃ x10 : Int32, r = some (.int x10) ∧ Sh h8 ∧ (ixR ((21 : Int32)) 22 ∧ (((((x10 >>> (((AI h8 23 ((21 : Int32)).toNatClampNeg)) &&& 31))) &&& ((1 : Int32))) = (1 : Int32) → Q (some (.int (0 : Int32))) h8) ∧ (¬ (((x10 >>> (((AI h8 23 ((21 : Int32)).toNatClampNeg)) &&& 31))) &&& ((1 : Int32))) = (1 : Int32) → Q (some (.int (2 : Int32))) h8))))))))))))) : Wp (d + 1) 132 0 [.int v0, .ref 23, .ref v2] [] h Q := by
  refine Wp.blk (by decide) ol_132 0 5 (pc' := 6) (L' := [.int v0, .ref 23, .ref v2]) (S' := [.int (20 : Int32), .ref 23, .ref v2, .ref 23, .int v0]) (h' := h) rfl ?_
  obtain ⟨r1, K⟩ := K
  refine Wp.iald (op_ix (by decide) ol_132 5 rfl) (kS HS 23 rfl) (inS HS 23 rfl r1) rfl ?_
  refine Wp.blk (by decide) ol_132 6 2 (pc' := 9) (L' := [.int v0, .ref 23, .ref v2]) (S' := [.int (0 : Int32), .int (0 : Int32), .int (AI h 23 ((20 : Int32)).toNatClampNeg), .ref v2, .ref 23, .int v0]) (h' := h) rfl ?_
  refine Wp.callI (op_ix (by decide) ol_132 8 rfl) rfl rfl (K.mono ?_)
  rintro _ h2 ⟨x4, rfl, hs3, K⟩
  refine ⟨x4, rfl, ?_⟩
  refine Wp.blk (by decide) ol_132 9 2 (pc' := 15) (L' := [.int v0, .ref 23, .ref v2]) (S' := [.int (21 : Int32), .ref 23, .int x4]) (h' := h2) rfl ?_
  obtain ⟨r5, K⟩ := K
  refine Wp.iald (op_ix (by decide) ol_132 11 rfl) (kS hs3 23 rfl) (inS hs3 23 rfl r5) rfl ?_
  refine Wp.blk (by decide) ol_132 12 5 (pc' := (if (((x4 >>> (((AI h2 23 ((21 : Int32)).toNatClampNeg)) &&& 31))) &&& ((1 : Int32))) = (1 : Int32) then 23 else 25)) (L' := [.int v0, .ref 23, .ref v2]) (S' := []) (h' := h2) rfl ?_
  refine Wp.br (fun c6 => ?_) (fun c6 => ?_)
  · replace K := K.1 c6
    refine Wp.blk (by decide) ol_132 17 1 (pc' := 24) (L' := [.int v0, .ref 23, .ref v2]) (S' := [.int (1 : Int32)]) (h' := h2) rfl ?_
    exact Wp.ret (op_ix (by decide) ol_132 18 rfl) rfl K
  · replace K := K.2 c6
    refine Wp.blk (by decide) ol_132 19 5 (pc' := 31) (L' := [.int v0, .ref 23, .ref v2]) (S' := [.int (20 : Int32), .ref 23, .ref v2, .ref 23, .int v0]) (h' := h2) rfl ?_
    obtain ⟨r7, K⟩ := K
    refine Wp.iald (op_ix (by decide) ol_132 24 rfl) (kS hs3 23 rfl) (inS hs3 23 rfl r7) rfl ?_
    refine Wp.blk (by decide) ol_132 25 2 (pc' := 34) (L' := [.int v0, .ref 23, .ref v2]) (S' := [.int (0 : Int32), .int (1 : Int32), .int (AI h2 23 ((20 : Int32)).toNatClampNeg), .ref v2, .ref 23, .int v0]) (h' := h2) rfl ?_
    refine Wp.callI (op_ix (by decide) ol_132 27 rfl) rfl rfl (K.mono ?_)
    rintro _ h8 ⟨x10, rfl, hs9, K⟩
    refine ⟨x10, rfl, ?_⟩
    refine Wp.blk (by decide) ol_132 28 2 (pc' := 40) (L' := [.int v0, .ref 23, .ref v2]) (S' := [.int (21 : Int32), .ref 23, .int x10]) (h' := h8) rfl ?_
    obtain ⟨r11, K⟩ := K
    refine Wp.iald (op_ix (by decide) ol_132 30 rfl) (kS hs9 23 rfl) (inS hs9 23 rfl r11) rfl ?_
    refine Wp.blk (by decide) ol_132 31 5 (pc' := (if (((x10 >>> (((AI h8 23 ((21 : Int32)).toNatClampNeg)) &&& 31))) &&& ((1 : Int32))) = (1 : Int32) then 48 else 52)) (L' := [.int v0, .ref 23, .ref v2]) (S' := []) (h' := h8) rfl ?_
    refine Wp.br (fun c12 => ?_) (fun c12 => ?_)
    · replace K := K.1 c12
      refine Wp.blk (by decide) ol_132 36 2 (pc' := 53) (L' := [.int v0, .ref 23, .ref v2]) (S' := [.int (0 : Int32)]) (h' := h8) rfl ?_
      exact Wp.ret (op_ix (by decide) ol_132 39 rfl) rfl K
    · replace K := K.2 c12
      refine Wp.blk (by decide) ol_132 38 1 (pc' := 53) (L' := [.int v0, .ref 23, .ref v2]) (S' := [.int (2 : Int32)]) (h' := h8) rfl ?_
      exact Wp.ret (op_ix (by decide) ol_132 39 rfl) rfl K
set_option maxRecDepth 4000 in
/-- CutsOrFastLaw.has at 0 (I[I[II)Z -/
theorem g133_0 (d : Nat) (v0 : Int32) (v3 : Int32) (h : AH) (HS : Sh h)  (Q : Option Value → AH → Prop) (K : (∀ n1, n1 = (NX h) → ∀ h2, h2 = (newO h 20 12) → (∀ n5, n5 = (NX h2) → ∀ h6, h6 = (newO h2 20 12) → (∀ n9, n9 = (NX h6) → ∀ h10, h10 = (newO h6 20 12) → Wp d 133 21 [.int v0, .ref 23, .ref 24, .int v3, .ref n1, .ref n5, .ref n9, .int (0 : Int32), mk0, mk0, mk0, mk0] [] h10 Q)))) : Wp d 133 0 [.int v0, .ref 23, .ref 24, .int v3, mk0, mk0, mk0, mk0, mk0, mk0, mk0, mk0] [] h Q := by
  refine Wp.blk (by decide) ol_133 0 1 (pc' := 2) (L' := [.int v0, .ref 23, .ref 24, .int v3, mk0, mk0, mk0, mk0, mk0, mk0, mk0, mk0]) (S' := [.int (12 : Int32)]) (h' := h) rfl ?_
  refine Wp.blk (by decide) ol_133 1 1 (pc' := 4) (L' := [.int v0, .ref 23, .ref 24, .int v3, mk0, mk0, mk0, mk0, mk0, mk0, mk0, mk0]) (S' := [.ref (NX h)]) (h' := (newO h 20 12)) rfl ?_
  obtain ⟨n1, e3⟩ : ∃ x, x = (NX h) := ⟨_, rfl⟩
  obtain ⟨h2, e4⟩ : ∃ x, x = (newO h 20 12) := ⟨_, rfl⟩
  rw [← e4, ← e3]
  replace K := K n1 e3 h2 e4
  refine Wp.blk (by decide) ol_133 2 2 (pc' := 8) (L' := [.int v0, .ref 23, .ref 24, .int v3, .ref n1, mk0, mk0, mk0, mk0, mk0, mk0, mk0]) (S' := [.int (12 : Int32)]) (h' := h2) rfl ?_
  refine Wp.blk (by decide) ol_133 4 1 (pc' := 10) (L' := [.int v0, .ref 23, .ref 24, .int v3, .ref n1, mk0, mk0, mk0, mk0, mk0, mk0, mk0]) (S' := [.ref (NX h2)]) (h' := (newO h2 20 12)) rfl ?_
  obtain ⟨n5, e7⟩ : ∃ x, x = (NX h2) := ⟨_, rfl⟩
  obtain ⟨h6, e8⟩ : ∃ x, x = (newO h2 20 12) := ⟨_, rfl⟩
  rw [← e8, ← e7]
  replace K := K n5 e7 h6 e8
  refine Wp.blk (by decide) ol_133 5 2 (pc' := 14) (L' := [.int v0, .ref 23, .ref 24, .int v3, .ref n1, .ref n5, mk0, mk0, mk0, mk0, mk0, mk0]) (S' := [.int (12 : Int32)]) (h' := h6) rfl ?_
  refine Wp.blk (by decide) ol_133 7 1 (pc' := 16) (L' := [.int v0, .ref 23, .ref 24, .int v3, .ref n1, .ref n5, mk0, mk0, mk0, mk0, mk0, mk0]) (S' := [.ref (NX h6)]) (h' := (newO h6 20 12)) rfl ?_
  obtain ⟨n9, e11⟩ : ∃ x, x = (NX h6) := ⟨_, rfl⟩
  obtain ⟨h10, e12⟩ : ∃ x, x = (newO h6 20 12) := ⟨_, rfl⟩
  rw [← e12, ← e11]
  replace K := K n9 e11 h10 e12
  refine Wp.blk (by decide) ol_133 8 3 (pc' := 21) (L' := [.int v0, .ref 23, .ref 24, .int v3, .ref n1, .ref n5, .ref n9, .int (0 : Int32), mk0, mk0, mk0, mk0]) (S' := []) (h' := h10) rfl ?_
  exact K
set_option maxRecDepth 4000 in
/-- CutsOrFastLaw.has at 21 -/
theorem g133_21 (d : Nat) (v0 : Int32) (v3 : Int32) (v4 : Nat) (v5 : Nat) (v6 : Nat) (v7 : Int32) (h : AH) (HS : Sh h)  (Q : Option Value → AH → Prop) (K : ((v7 < v0 → (ixR v7 12 ∧ (AK h v4).1 = 20 ∧ inR h v4 v7 = true ∧ 2 ≤ v4 ∧ Wp d 133 21 [.int v0, .ref 23, .ref 24, .int v3, .ref v4, .ref v5, .ref v6, .int (v7 + (1 : Int32)), mk0, mk0, mk0, mk0] [] (stI h v4 v7.toNatClampNeg ((AI h 24 v7.toNatClampNeg))) Q)) ∧ (¬ v7 < v0 → ((AK h v5).1 = 20 ∧ inR h v5 ((0 : Int32)) = true ∧ 2 ≤ v5 ∧ Wp d 133 54 [.int v0, .ref 23, mk0, .int v3, .ref v4, .ref v5, .ref v6, .int (0 : Int32), .int (0 : Int32), mk0, mk0, mk0] [] (stI h v5 ((0 : Int32)).toNatClampNeg ((-2 : Int32))) Q)))) : Wp d 133 21 [.int v0, .ref 23, .ref 24, .int v3, .ref v4, .ref v5, .ref v6, .int v7, mk0, mk0, mk0, mk0] [] h Q := by
  refine Wp.blk (by decide) ol_133 11 3 (pc' := (if v7 < v0 then 27 else 42)) (L' := [.int v0, .ref 23, .ref 24, .int v3, .ref v4, .ref v5, .ref v6, .int v7, mk0, mk0, mk0, mk0]) (S' := []) (h' := h) rfl ?_
  refine Wp.br (fun c1 => ?_) (fun c1 => ?_)
  · replace K := K.1 c1
    refine Wp.blk (by decide) ol_133 14 4 (pc' := 34) (L' := [.int v0, .ref 23, .ref 24, .int v3, .ref v4, .ref v5, .ref v6, .int v7, mk0, mk0, mk0, mk0]) (S' := [.int v7, .ref 24, .int v7, .ref v4]) (h' := h) rfl ?_
    obtain ⟨r2, K⟩ := K
    refine Wp.iald (op_ix (by decide) ol_133 18 rfl) (kS HS 24 rfl) (inS HS 24 rfl r2) rfl ?_
    obtain ⟨k3, K⟩ := K
    obtain ⟨r4, K⟩ := K
    obtain ⟨b5, K⟩ := K
    refine Wp.iast (op_ix (by decide) ol_133 19 rfl) b5 k3 r4 rfl ?_
    refine Wp.blk (by decide) ol_133 20 2 (pc' := 21) (L' := [.int v0, .ref 23, .ref 24, .int v3, .ref v4, .ref v5, .ref v6, .int (v7 + (1 : Int32)), mk0, mk0, mk0, mk0]) (S' := []) (h' := (stI h v4 v7.toNatClampNeg ((AI h 24 v7.toNatClampNeg)))) rfl ?_
    exact K
  · replace K := K.2 c1
    refine Wp.blk (by decide) ol_133 22 7 (pc' := 53) (L' := [.int v0, .ref 23, .ref 24, .int v3, .ref v4, .ref v5, .ref v6, .int (0 : Int32), .int (0 : Int32), mk0, mk0, mk0]) (S' := [.int (-2 : Int32), .int (0 : Int32), .ref v5]) (h' := h) rfl ?_
    obtain ⟨k6, K⟩ := K
    obtain ⟨r7, K⟩ := K
    obtain ⟨b8, K⟩ := K
    refine Wp.iast (op_ix (by decide) ol_133 29 rfl) b8 k6 r7 rfl ?_
    refine Wp.forget (L := [.int v0, .ref 23, mk0, .int v3, .ref v4, .ref v5, .ref v6, .int (0 : Int32), .int (0 : Int32), mk0, mk0, mk0]) (⟨Or.inr rfl, ⟨Or.inr rfl, ⟨Or.inl rfl, ⟨Or.inr rfl, ⟨Or.inr rfl, ⟨Or.inr rfl, ⟨Or.inr rfl, ⟨Or.inr rfl, ⟨Or.inr rfl, ⟨Or.inr rfl, ⟨Or.inr rfl, ⟨Or.inr rfl, trivial⟩⟩⟩⟩⟩⟩⟩⟩⟩⟩⟩⟩) ?_
    exact K
set_option maxRecDepth 4000 in
/-- CutsOrFastLaw.has at 54 -/
theorem g133_54 (d : Nat) (v0 : Int32) (v3 : Int32) (v4 : Nat) (v5 : Nat) (v6 : Nat) (v7 : Int32) (v8 : Int32) (h : AH) (HS : Sh h)  (Q : Option Value → AH → Prop) (K : ((v7 < (0 : Int32) → ((v8 = 0 ∨ v8 = 1) ∧ Q (some (.int v8)) h)) ∧ (¬ v7 < (0 : Int32) → ((AK h v5).1 = 20 ∧ inR h v5 v7 = true ∧ (((AI h v5 v7.toNatClampNeg) = (-2 : Int32) → (Cl d 132 [.int v0, .ref 23, .ref v4] h (fun r h6 => ∃ x8 : Int32, r = some (.int x8) ∧ Sh h6 ∧ ((x8 = (((1 : Int32)) + (((v3 + v7) - (v3 + v7) / (2 : Int32) * (2 : Int32)))) → Wp (d + 1) 133 104 [.int v0, .ref 23, mk0, .int v3, .ref v4, .ref v5, .ref v6, .int v7, .int v8, .int ((v3 + v7) - (v3 + v7) / (2 : Int32) * (2 : Int32)), .int x8, mk0] [.int (1 : Int32), .int v7, .ref v6] h6 Q) ∧ (¬ x8 = (((1 : Int32)) + (((v3 + v7) - (v3 + v7) / (2 : Int32) * (2 : Int32)))) → Wp (d + 1) 133 104 [.int v0, .ref 23, mk0, .int v3, .ref v4, .ref v5, .ref v6, .int v7, .int v8, .int ((v3 + v7) - (v3 + v7) / (2 : Int32) * (2 : Int32)), .int x8, mk0] [.int (0 : Int32), .int v7, .ref v6] h6 Q))))) ∧ (¬ (AI h v5 v7.toNatClampNeg) = (-2 : Int32) → (((AI h v5 v7.toNatClampNeg) < (0 : Int32) → Wp (d + 1) 133 158 [.int v0, .ref 23, mk0, .int v3, .ref v4, .ref v5, .ref v6, .int v7, .int v8, .int ((v3 + v7) - (v3 + v7) / (2 : Int32) * (2 : Int32)), .int (((AI h v5 v7.toNatClampNeg)) + ((1 : Int32))), mk0] [] h Q) ∧ (¬ (AI h v5 v7.toNatClampNeg) < (0 : Int32) → (((AI h v5 v7.toNatClampNeg) < v0 → ((AK h v4).1 = 20 ∧ inR h v4 ((AI h v5 v7.toNatClampNeg)) = true ∧ 2 ≤ v4 ∧ Wp (d + 1) 133 158 [.int v0, .ref 23, mk0, .int v3, .ref v4, .ref v5, .ref v6, .int v7, .int v8, .int ((v3 + v7) - (v3 + v7) / (2 : Int32) * (2 : Int32)), .int (((AI ((stI h v4 ((AI h v5 v7.toNatClampNeg)).toNatClampNeg ((0 : Int32)))) v5 v7.toNatClampNeg)) + ((1 : Int32))), mk0] [] (stI h v4 ((AI h v5 v7.toNatClampNeg)).toNatClampNeg ((0 : Int32))) Q)) ∧ (¬ (AI h v5 v7.toNatClampNeg) < v0 → Wp (d + 1) 133 158 [.int v0, .ref 23, mk0, .int v3, .ref v4, .ref v5, .ref v6, .int v7, .int v8, .int ((v3 + v7) - (v3 + v7) / (2 : Int32) * (2 : Int32)), .int (((AI h v5 v7.toNatClampNeg)) + ((1 : Int32))), mk0] [] h Q)))))))))) : Wp (d + 1) 133 54 [.int v0, .ref 23, mk0, .int v3, .ref v4, .ref v5, .ref v6, .int v7, .int v8, mk0, mk0, mk0] [] h Q := by
  refine Wp.blk (by decide) ol_133 30 2 (pc' := (if v7 < (0 : Int32) then 283 else 59)) (L' := [.int v0, .ref 23, mk0, .int v3, .ref v4, .ref v5, .ref v6, .int v7, .int v8, mk0, mk0, mk0]) (S' := []) (h' := h) rfl ?_
  refine Wp.br (fun c1 => ?_) (fun c1 => ?_)
  · replace K := K.1 c1
    refine Wp.blk (by decide) ol_133 153 1 (pc' := 285) (L' := [.int v0, .ref 23, mk0, .int v3, .ref v4, .ref v5, .ref v6, .int v7, .int v8, mk0, mk0, mk0]) (S' := [.int v8]) (h' := h) rfl ?_
    obtain ⟨b2, K⟩ := K
    exact Wp.retB (op_ix (by decide) ol_133 154 rfl) rfl b2 K
  · replace K := K.2 c1
    refine Wp.blk (by decide) ol_133 32 8 (pc' := 71) (L' := [.int v0, .ref 23, mk0, .int v3, .ref v4, .ref v5, .ref v6, .int v7, .int v8, .int ((v3 + v7) - (v3 + v7) / (2 : Int32) * (2 : Int32)), mk0, mk0]) (S' := [.int v7, .ref v5]) (h' := h) rfl ?_
    obtain ⟨k3, K⟩ := K
    obtain ⟨r4, K⟩ := K
    refine Wp.iald (op_ix (by decide) ol_133 40 rfl) k3 r4 rfl ?_
    refine Wp.blk (by decide) ol_133 41 2 (pc' := (if (AI h v5 v7.toNatClampNeg) = (-2 : Int32) then 77 else 123)) (L' := [.int v0, .ref 23, mk0, .int v3, .ref v4, .ref v5, .ref v6, .int v7, .int v8, .int ((v3 + v7) - (v3 + v7) / (2 : Int32) * (2 : Int32)), mk0, mk0]) (S' := []) (h' := h) rfl ?_
    refine Wp.br (fun c5 => ?_) (fun c5 => ?_)
    · replace K := K.1 c5
      refine Wp.blk (by decide) ol_133 43 3 (pc' := 81) (L' := [.int v0, .ref 23, mk0, .int v3, .ref v4, .ref v5, .ref v6, .int v7, .int v8, .int ((v3 + v7) - (v3 + v7) / (2 : Int32) * (2 : Int32)), mk0, mk0]) (S' := [.ref v4, .ref 23, .int v0]) (h' := h) rfl ?_
      refine Wp.callI (op_ix (by decide) ol_133 46 rfl) rfl rfl (K.mono ?_)
      rintro _ h6 ⟨x8, rfl, hs7, K⟩
      refine ⟨x8, rfl, ?_⟩
      refine Wp.blk (by decide) ol_133 47 8 (pc' := (if x8 = (((1 : Int32)) + (((v3 + v7) - (v3 + v7) / (2 : Int32) * (2 : Int32)))) then 99 else 103)) (L' := [.int v0, .ref 23, mk0, .int v3, .ref v4, .ref v5, .ref v6, .int v7, .int v8, .int ((v3 + v7) - (v3 + v7) / (2 : Int32) * (2 : Int32)), .int x8, mk0]) (S' := [.int v7, .ref v6]) (h' := h6) rfl ?_
      refine Wp.br (fun c9 => ?_) (fun c9 => ?_)
      · replace K := K.1 c9
        refine Wp.blk (by decide) ol_133 55 2 (pc' := 104) (L' := [.int v0, .ref 23, mk0, .int v3, .ref v4, .ref v5, .ref v6, .int v7, .int v8, .int ((v3 + v7) - (v3 + v7) / (2 : Int32) * (2 : Int32)), .int x8, mk0]) (S' := [.int (1 : Int32), .int v7, .ref v6]) (h' := h6) rfl ?_
        exact K
      · replace K := K.2 c9
        refine Wp.blk (by decide) ol_133 57 1 (pc' := 104) (L' := [.int v0, .ref 23, mk0, .int v3, .ref v4, .ref v5, .ref v6, .int v7, .int v8, .int ((v3 + v7) - (v3 + v7) / (2 : Int32) * (2 : Int32)), .int x8, mk0]) (S' := [.int (0 : Int32), .int v7, .ref v6]) (h' := h6) rfl ?_
        exact K
    · replace K := K.2 c5
      refine Wp.blk (by decide) ol_133 68 2 (pc' := 127) (L' := [.int v0, .ref 23, mk0, .int v3, .ref v4, .ref v5, .ref v6, .int v7, .int v8, .int ((v3 + v7) - (v3 + v7) / (2 : Int32) * (2 : Int32)), mk0, mk0]) (S' := [.int v7, .ref v5]) (h' := h) rfl ?_
      refine Wp.iald (op_ix (by decide) ol_133 70 rfl) k3 r4 rfl ?_
      refine Wp.blk (by decide) ol_133 71 1 (pc' := (if (AI h v5 v7.toNatClampNeg) < (0 : Int32) then 149 else 131)) (L' := [.int v0, .ref 23, mk0, .int v3, .ref v4, .ref v5, .ref v6, .int v7, .int v8, .int ((v3 + v7) - (v3 + v7) / (2 : Int32) * (2 : Int32)), mk0, mk0]) (S' := []) (h' := h) rfl ?_
      refine Wp.br (fun c10 => ?_) (fun c10 => ?_)
      · replace K := K.1 c10
        refine Wp.blk (by decide) ol_133 83 2 (pc' := 153) (L' := [.int v0, .ref 23, mk0, .int v3, .ref v4, .ref v5, .ref v6, .int v7, .int v8, .int ((v3 + v7) - (v3 + v7) / (2 : Int32) * (2 : Int32)), mk0, mk0]) (S' := [.int v7, .ref v5]) (h' := h) rfl ?_
        refine Wp.iald (op_ix (by decide) ol_133 85 rfl) k3 r4 rfl ?_
        refine Wp.blk (by decide) ol_133 86 3 (pc' := 158) (L' := [.int v0, .ref 23, mk0, .int v3, .ref v4, .ref v5, .ref v6, .int v7, .int v8, .int ((v3 + v7) - (v3 + v7) / (2 : Int32) * (2 : Int32)), .int (((AI h v5 v7.toNatClampNeg)) + ((1 : Int32))), mk0]) (S' := []) (h' := h) rfl ?_
        exact K
      · replace K := K.2 c10
        refine Wp.blk (by decide) ol_133 72 2 (pc' := 135) (L' := [.int v0, .ref 23, mk0, .int v3, .ref v4, .ref v5, .ref v6, .int v7, .int v8, .int ((v3 + v7) - (v3 + v7) / (2 : Int32) * (2 : Int32)), mk0, mk0]) (S' := [.int v7, .ref v5]) (h' := h) rfl ?_
        refine Wp.iald (op_ix (by decide) ol_133 74 rfl) k3 r4 rfl ?_
        refine Wp.blk (by decide) ol_133 75 2 (pc' := (if (AI h v5 v7.toNatClampNeg) < v0 then 140 else 149)) (L' := [.int v0, .ref 23, mk0, .int v3, .ref v4, .ref v5, .ref v6, .int v7, .int v8, .int ((v3 + v7) - (v3 + v7) / (2 : Int32) * (2 : Int32)), mk0, mk0]) (S' := []) (h' := h) rfl ?_
        refine Wp.br (fun c11 => ?_) (fun c11 => ?_)
        · replace K := K.1 c11
          refine Wp.blk (by decide) ol_133 77 3 (pc' := 146) (L' := [.int v0, .ref 23, mk0, .int v3, .ref v4, .ref v5, .ref v6, .int v7, .int v8, .int ((v3 + v7) - (v3 + v7) / (2 : Int32) * (2 : Int32)), mk0, mk0]) (S' := [.int v7, .ref v5, .ref v4]) (h' := h) rfl ?_
          refine Wp.iald (op_ix (by decide) ol_133 80 rfl) k3 r4 rfl ?_
          refine Wp.blk (by decide) ol_133 81 1 (pc' := 148) (L' := [.int v0, .ref 23, mk0, .int v3, .ref v4, .ref v5, .ref v6, .int v7, .int v8, .int ((v3 + v7) - (v3 + v7) / (2 : Int32) * (2 : Int32)), mk0, mk0]) (S' := [.int (0 : Int32), .int (AI h v5 v7.toNatClampNeg), .ref v4]) (h' := h) rfl ?_
          obtain ⟨k12, K⟩ := K
          obtain ⟨r13, K⟩ := K
          obtain ⟨b14, K⟩ := K
          refine Wp.iast (op_ix (by decide) ol_133 82 rfl) b14 k12 r13 rfl ?_
          refine Wp.blk (by decide) ol_133 83 2 (pc' := 153) (L' := [.int v0, .ref 23, mk0, .int v3, .ref v4, .ref v5, .ref v6, .int v7, .int v8, .int ((v3 + v7) - (v3 + v7) / (2 : Int32) * (2 : Int32)), mk0, mk0]) (S' := [.int v7, .ref v5]) (h' := (stI h v4 ((AI h v5 v7.toNatClampNeg)).toNatClampNeg ((0 : Int32)))) rfl ?_
          refine Wp.iald (op_ix (by decide) ol_133 85 rfl) k3 r4 rfl ?_
          refine Wp.blk (by decide) ol_133 86 3 (pc' := 158) (L' := [.int v0, .ref 23, mk0, .int v3, .ref v4, .ref v5, .ref v6, .int v7, .int v8, .int ((v3 + v7) - (v3 + v7) / (2 : Int32) * (2 : Int32)), .int (((AI ((stI h v4 ((AI h v5 v7.toNatClampNeg)).toNatClampNeg ((0 : Int32)))) v5 v7.toNatClampNeg)) + ((1 : Int32))), mk0]) (S' := []) (h' := (stI h v4 ((AI h v5 v7.toNatClampNeg)).toNatClampNeg ((0 : Int32)))) rfl ?_
          exact K
        · replace K := K.2 c11
          refine Wp.blk (by decide) ol_133 83 2 (pc' := 153) (L' := [.int v0, .ref 23, mk0, .int v3, .ref v4, .ref v5, .ref v6, .int v7, .int v8, .int ((v3 + v7) - (v3 + v7) / (2 : Int32) * (2 : Int32)), mk0, mk0]) (S' := [.int v7, .ref v5]) (h' := h) rfl ?_
          refine Wp.iald (op_ix (by decide) ol_133 85 rfl) k3 r4 rfl ?_
          refine Wp.blk (by decide) ol_133 86 3 (pc' := 158) (L' := [.int v0, .ref 23, mk0, .int v3, .ref v4, .ref v5, .ref v6, .int v7, .int v8, .int ((v3 + v7) - (v3 + v7) / (2 : Int32) * (2 : Int32)), .int (((AI h v5 v7.toNatClampNeg)) + ((1 : Int32))), mk0]) (S' := []) (h' := h) rfl ?_
          exact K
set_option maxRecDepth 4000 in
/-- CutsOrFastLaw.has at 104 -/
theorem g133_104 (d : Nat) (v0 : Int32) (v3 : Int32) (v4 : Nat) (v5 : Nat) (v6 : Nat) (v7 : Int32) (v8 : Int32) (v9 : Int32) (v10 : Int32) (s0 : Int32) (s1 : Int32) (s2 : Nat) (h : AH) (HS : Sh h)  (Q : Option Value → AH → Prop) (K : ((AK h s2).1 = 20 ∧ inR h s2 s1 = true ∧ 2 ≤ s2 ∧ ((v10 = (0 : Int32) → ((AK h v5).1 = 20 ∧ inR h v5 v7 = true ∧ 2 ≤ v5 ∧ (AK h v5).1 = 20 ∧ Wp d 133 158 [.int v0, .ref 23, mk0, .int v3, .ref v4, .ref v5, .ref v6, .int v7, .int v8, .int v9, .int (((AI ((stI ((stI h s2 s1.toNatClampNeg s0)) v5 v7.toNatClampNeg ((-1 : Int32)))) v5 v7.toNatClampNeg)) + ((1 : Int32))), mk0] [] (stI ((stI h s2 s1.toNatClampNeg s0)) v5 v7.toNatClampNeg ((-1 : Int32))) Q)) ∧ (¬ v10 = (0 : Int32) → ((AK h v5).1 = 20 ∧ inR h v5 v7 = true ∧ 2 ≤ v5 ∧ (AK h v5).1 = 20 ∧ Wp d 133 158 [.int v0, .ref 23, mk0, .int v3, .ref v4, .ref v5, .ref v6, .int v7, .int v8, .int v9, .int (((AI ((stI ((stI h s2 s1.toNatClampNeg s0)) v5 v7.toNatClampNeg v0)) v5 v7.toNatClampNeg)) + ((1 : Int32))), mk0] [] (stI ((stI h s2 s1.toNatClampNeg s0)) v5 v7.toNatClampNeg v0) Q))))) : Wp d 133 104 [.int v0, .ref 23, mk0, .int v3, .ref v4, .ref v5, .ref v6, .int v7, .int v8, .int v9, .int v10, mk0] [.int s0, .int s1, .ref s2] h Q := by
  obtain ⟨k1, K⟩ := K
  obtain ⟨r2, K⟩ := K
  obtain ⟨b3, K⟩ := K
  refine Wp.iast (op_ix (by decide) ol_133 58 rfl) b3 k1 r2 rfl ?_
  refine Wp.blk (by decide) ol_133 59 4 (pc' := (if v10 = (0 : Int32) then 114 else 118)) (L' := [.int v0, .ref 23, mk0, .int v3, .ref v4, .ref v5, .ref v6, .int v7, .int v8, .int v9, .int v10, mk0]) (S' := [.int v7, .ref v5]) (h' := (stI h s2 s1.toNatClampNeg s0)) rfl ?_
  refine Wp.br (fun c4 => ?_) (fun c4 => ?_)
  · replace K := K.1 c4
    refine Wp.blk (by decide) ol_133 63 2 (pc' := 119) (L' := [.int v0, .ref 23, mk0, .int v3, .ref v4, .ref v5, .ref v6, .int v7, .int v8, .int v9, .int v10, mk0]) (S' := [.int (-1 : Int32), .int v7, .ref v5]) (h' := (stI h s2 s1.toNatClampNeg s0)) rfl ?_
    obtain ⟨k5, K⟩ := K
    obtain ⟨r6, K⟩ := K
    obtain ⟨b7, K⟩ := K
    refine Wp.iast (op_ix (by decide) ol_133 66 rfl) b7 k5 r6 rfl ?_
    refine Wp.blk (by decide) ol_133 67 1 (pc' := 149) (L' := [.int v0, .ref 23, mk0, .int v3, .ref v4, .ref v5, .ref v6, .int v7, .int v8, .int v9, .int v10, mk0]) (S' := []) (h' := (stI ((stI h s2 s1.toNatClampNeg s0)) v5 v7.toNatClampNeg ((-1 : Int32)))) rfl ?_
    refine Wp.blk (by decide) ol_133 83 2 (pc' := 153) (L' := [.int v0, .ref 23, mk0, .int v3, .ref v4, .ref v5, .ref v6, .int v7, .int v8, .int v9, .int v10, mk0]) (S' := [.int v7, .ref v5]) (h' := (stI ((stI h s2 s1.toNatClampNeg s0)) v5 v7.toNatClampNeg ((-1 : Int32)))) rfl ?_
    obtain ⟨k8, K⟩ := K
    refine Wp.iald (op_ix (by decide) ol_133 85 rfl) k8 r6 rfl ?_
    refine Wp.blk (by decide) ol_133 86 3 (pc' := 158) (L' := [.int v0, .ref 23, mk0, .int v3, .ref v4, .ref v5, .ref v6, .int v7, .int v8, .int v9, .int (((AI ((stI ((stI h s2 s1.toNatClampNeg s0)) v5 v7.toNatClampNeg ((-1 : Int32)))) v5 v7.toNatClampNeg)) + ((1 : Int32))), mk0]) (S' := []) (h' := (stI ((stI h s2 s1.toNatClampNeg s0)) v5 v7.toNatClampNeg ((-1 : Int32)))) rfl ?_
    exact K
  · replace K := K.2 c4
    refine Wp.blk (by decide) ol_133 65 1 (pc' := 119) (L' := [.int v0, .ref 23, mk0, .int v3, .ref v4, .ref v5, .ref v6, .int v7, .int v8, .int v9, .int v10, mk0]) (S' := [.int v0, .int v7, .ref v5]) (h' := (stI h s2 s1.toNatClampNeg s0)) rfl ?_
    obtain ⟨k9, K⟩ := K
    obtain ⟨r10, K⟩ := K
    obtain ⟨b11, K⟩ := K
    refine Wp.iast (op_ix (by decide) ol_133 66 rfl) b11 k9 r10 rfl ?_
    refine Wp.blk (by decide) ol_133 67 1 (pc' := 149) (L' := [.int v0, .ref 23, mk0, .int v3, .ref v4, .ref v5, .ref v6, .int v7, .int v8, .int v9, .int v10, mk0]) (S' := []) (h' := (stI ((stI h s2 s1.toNatClampNeg s0)) v5 v7.toNatClampNeg v0)) rfl ?_
    refine Wp.blk (by decide) ol_133 83 2 (pc' := 153) (L' := [.int v0, .ref 23, mk0, .int v3, .ref v4, .ref v5, .ref v6, .int v7, .int v8, .int v9, .int v10, mk0]) (S' := [.int v7, .ref v5]) (h' := (stI ((stI h s2 s1.toNatClampNeg s0)) v5 v7.toNatClampNeg v0)) rfl ?_
    obtain ⟨k12, K⟩ := K
    refine Wp.iald (op_ix (by decide) ol_133 85 rfl) k12 r10 rfl ?_
    refine Wp.blk (by decide) ol_133 86 3 (pc' := 158) (L' := [.int v0, .ref 23, mk0, .int v3, .ref v4, .ref v5, .ref v6, .int v7, .int v8, .int v9, .int (((AI ((stI ((stI h s2 s1.toNatClampNeg s0)) v5 v7.toNatClampNeg v0)) v5 v7.toNatClampNeg)) + ((1 : Int32))), mk0]) (S' := []) (h' := (stI ((stI h s2 s1.toNatClampNeg s0)) v5 v7.toNatClampNeg v0)) rfl ?_
    exact K
set_option maxRecDepth 4000 in
/-- CutsOrFastLaw.has at 158 -/
theorem g133_158 (d : Nat) (v0 : Int32) (v3 : Int32) (v4 : Nat) (v5 : Nat) (v6 : Nat) (v7 : Int32) (v8 : Int32) (v9 : Int32) (v10 : Int32) (h : AH) (HS : Sh h)  (Q : Option Value → AH → Prop) (K : ((v10 < v0 → ((AK h v4).1 = 20 ∧ inR h v4 v10 = true ∧ (((AI h v4 v10.toNatClampNeg) = (0 : Int32) → Wp d 133 178 [.int v0, .ref 23, mk0, .int v3, .ref v4, .ref v5, .ref v6, .int v7, .int v8, .int v9, .int v10, mk0] [] h Q) ∧ (¬ (AI h v4 v10.toNatClampNeg) = (0 : Int32) → Wp d 133 158 [.int v0, .ref 23, mk0, .int v3, .ref v4, .ref v5, .ref v6, .int v7, .int v8, .int v9, .int (v10 + (1 : Int32)), mk0] [] h Q)))) ∧ (¬ v10 < v0 → Wp d 133 178 [.int v0, .ref 23, mk0, .int v3, .ref v4, .ref v5, .ref v6, .int v7, .int v8, .int v9, .int v10, mk0] [] h Q))) : Wp d 133 158 [.int v0, .ref 23, mk0, .int v3, .ref v4, .ref v5, .ref v6, .int v7, .int v8, .int v9, .int v10, mk0] [] h Q := by
  refine Wp.blk (by decide) ol_133 89 3 (pc' := (if v10 < v0 then 164 else 178)) (L' := [.int v0, .ref 23, mk0, .int v3, .ref v4, .ref v5, .ref v6, .int v7, .int v8, .int v9, .int v10, mk0]) (S' := []) (h' := h) rfl ?_
  refine Wp.br (fun c1 => ?_) (fun c1 => ?_)
  · replace K := K.1 c1
    refine Wp.blk (by decide) ol_133 92 2 (pc' := 168) (L' := [.int v0, .ref 23, mk0, .int v3, .ref v4, .ref v5, .ref v6, .int v7, .int v8, .int v9, .int v10, mk0]) (S' := [.int v10, .ref v4]) (h' := h) rfl ?_
    obtain ⟨k2, K⟩ := K
    obtain ⟨r3, K⟩ := K
    refine Wp.iald (op_ix (by decide) ol_133 94 rfl) k2 r3 rfl ?_
    refine Wp.blk (by decide) ol_133 95 1 (pc' := (if (AI h v4 v10.toNatClampNeg) = (0 : Int32) then 178 else 172)) (L' := [.int v0, .ref 23, mk0, .int v3, .ref v4, .ref v5, .ref v6, .int v7, .int v8, .int v9, .int v10, mk0]) (S' := []) (h' := h) rfl ?_
    refine Wp.br (fun c4 => ?_) (fun c4 => ?_)
    · replace K := K.1 c4
      exact K
    · replace K := K.2 c4
      refine Wp.blk (by decide) ol_133 96 2 (pc' := 158) (L' := [.int v0, .ref 23, mk0, .int v3, .ref v4, .ref v5, .ref v6, .int v7, .int v8, .int v9, .int (v10 + (1 : Int32)), mk0]) (S' := []) (h' := h) rfl ?_
      exact K
  · replace K := K.2 c1
    exact K
set_option maxRecDepth 4000 in
/-- CutsOrFastLaw.has at 178 -/
theorem g133_178 (d : Nat) (v0 : Int32) (v3 : Int32) (v4 : Nat) (v5 : Nat) (v6 : Nat) (v7 : Int32) (v8 : Int32) (v9 : Int32) (v10 : Int32) (h : AH) (HS : Sh h)  (Q : Option Value → AH → Prop) (K : ((AK h v6).1 = 20 ∧ inR h v6 v7 = true ∧ (((AI h v6 v7.toNatClampNeg) = (1 : Int32) → ((v7 = (0 : Int32) → Wp d 133 216 [.int v0, .ref 23, mk0, .int v3, .ref v4, .ref v5, .ref v6, .int v7, mk0, mk0, mk0, .int (AI h v6 v7.toNatClampNeg)] [.int (1 : Int32)] h Q) ∧ (¬ v7 = (0 : Int32) → Wp d 133 216 [.int v0, .ref 23, mk0, .int v3, .ref v4, .ref v5, .ref v6, .int v7, mk0, mk0, mk0, .int (AI h v6 v7.toNatClampNeg)] [.int (0 : Int32)] h Q))) ∧ (¬ (AI h v6 v7.toNatClampNeg) = (1 : Int32) → ((v10 < v0 → ((AK h v5).1 = 20 ∧ inR h v5 v7 = true ∧ 2 ≤ v5 ∧ (AK h v4).1 = 20 ∧ inR h v4 v10 = true ∧ 2 ≤ v4 ∧ inR h v5 ((v7 + (1 : Int32))) = true ∧ (AK h v6).1 = 20 ∧ inR h v6 ((v7 + (1 : Int32))) = true ∧ 2 ≤ v6 ∧ Wp d 133 54 [.int v0, .ref 23, mk0, .int v3, .ref v4, .ref v5, .ref v6, .int (v7 + (1 : Int32)), .int v8, mk0, mk0, mk0] [] (stI ((stI ((stI ((stI h v5 v7.toNatClampNeg v10)) v4 v10.toNatClampNeg ((((1 : Int32)) + v9)))) v5 ((v7 + (1 : Int32))).toNatClampNeg ((-2 : Int32)))) v6 ((v7 + (1 : Int32))).toNatClampNeg ((0 : Int32))) Q)) ∧ (¬ v10 < v0 → ((v7 = (0 : Int32) → Wp d 133 216 [.int v0, .ref 23, mk0, .int v3, .ref v4, .ref v5, .ref v6, .int v7, mk0, mk0, mk0, .int (AI h v6 v7.toNatClampNeg)] [.int (0 : Int32)] h Q) ∧ (¬ v7 = (0 : Int32) → Wp d 133 216 [.int v0, .ref 23, mk0, .int v3, .ref v4, .ref v5, .ref v6, .int v7, mk0, mk0, mk0, .int (AI h v6 v7.toNatClampNeg)] [.int (0 : Int32)] h Q)))))))) : Wp d 133 178 [.int v0, .ref 23, mk0, .int v3, .ref v4, .ref v5, .ref v6, .int v7, .int v8, .int v9, .int v10, mk0] [] h Q := by
  refine Wp.blk (by decide) ol_133 98 2 (pc' := 182) (L' := [.int v0, .ref 23, mk0, .int v3, .ref v4, .ref v5, .ref v6, .int v7, .int v8, .int v9, .int v10, mk0]) (S' := [.int v7, .ref v6]) (h' := h) rfl ?_
  obtain ⟨k1, K⟩ := K
  obtain ⟨r2, K⟩ := K
  refine Wp.iald (op_ix (by decide) ol_133 100 rfl) k1 r2 rfl ?_
  refine Wp.blk (by decide) ol_133 101 2 (pc' := (if (AI h v6 v7.toNatClampNeg) = (1 : Int32) then 193 else 187)) (L' := [.int v0, .ref 23, mk0, .int v3, .ref v4, .ref v5, .ref v6, .int v7, .int v8, .int v9, .int v10, mk0]) (S' := []) (h' := h) rfl ?_
  refine Wp.br (fun c3 => ?_) (fun c3 => ?_)
  · replace K := K.1 c3
    refine Wp.blk (by decide) ol_133 106 2 (pc' := 197) (L' := [.int v0, .ref 23, mk0, .int v3, .ref v4, .ref v5, .ref v6, .int v7, .int v8, .int v9, .int v10, mk0]) (S' := [.int v7, .ref v6]) (h' := h) rfl ?_
    refine Wp.iald (op_ix (by decide) ol_133 108 rfl) k1 r2 rfl ?_
    refine Wp.blk (by decide) ol_133 109 3 (pc' := (if v7 = (0 : Int32) then 205 else 215)) (L' := [.int v0, .ref 23, mk0, .int v3, .ref v4, .ref v5, .ref v6, .int v7, .int v8, .int v9, .int v10, .int (AI h v6 v7.toNatClampNeg)]) (S' := []) (h' := h) rfl ?_
    refine Wp.br (fun c4 => ?_) (fun c4 => ?_)
    · replace K := K.1 c4
      refine Wp.blk (by decide) ol_133 112 3 (pc' := (if (AI h v6 v7.toNatClampNeg) = (1 : Int32) then 211 else 215)) (L' := [.int v0, .ref 23, mk0, .int v3, .ref v4, .ref v5, .ref v6, .int v7, .int v8, .int v9, .int v10, .int (AI h v6 v7.toNatClampNeg)]) (S' := []) (h' := h) rfl ?_
      refine Wp.br (fun _ => ?_) (fun hc => absurd c3 hc)
      refine Wp.blk (by decide) ol_133 115 2 (pc' := 216) (L' := [.int v0, .ref 23, mk0, .int v3, .ref v4, .ref v5, .ref v6, .int v7, .int v8, .int v9, .int v10, .int (AI h v6 v7.toNatClampNeg)]) (S' := [.int (1 : Int32)]) (h' := h) rfl ?_
      refine Wp.forget (L := [.int v0, .ref 23, mk0, .int v3, .ref v4, .ref v5, .ref v6, .int v7, mk0, mk0, mk0, .int (AI h v6 v7.toNatClampNeg)]) (⟨Or.inr rfl, ⟨Or.inr rfl, ⟨Or.inr rfl, ⟨Or.inr rfl, ⟨Or.inr rfl, ⟨Or.inr rfl, ⟨Or.inr rfl, ⟨Or.inr rfl, ⟨Or.inl rfl, ⟨Or.inl rfl, ⟨Or.inl rfl, ⟨Or.inr rfl, trivial⟩⟩⟩⟩⟩⟩⟩⟩⟩⟩⟩⟩) ?_
      exact K
    · replace K := K.2 c4
      refine Wp.blk (by decide) ol_133 117 1 (pc' := 216) (L' := [.int v0, .ref 23, mk0, .int v3, .ref v4, .ref v5, .ref v6, .int v7, .int v8, .int v9, .int v10, .int (AI h v6 v7.toNatClampNeg)]) (S' := [.int (0 : Int32)]) (h' := h) rfl ?_
      refine Wp.forget (L := [.int v0, .ref 23, mk0, .int v3, .ref v4, .ref v5, .ref v6, .int v7, mk0, mk0, mk0, .int (AI h v6 v7.toNatClampNeg)]) (⟨Or.inr rfl, ⟨Or.inr rfl, ⟨Or.inr rfl, ⟨Or.inr rfl, ⟨Or.inr rfl, ⟨Or.inr rfl, ⟨Or.inr rfl, ⟨Or.inr rfl, ⟨Or.inl rfl, ⟨Or.inl rfl, ⟨Or.inl rfl, ⟨Or.inr rfl, trivial⟩⟩⟩⟩⟩⟩⟩⟩⟩⟩⟩⟩) ?_
      exact K
  · replace K := K.2 c3
    refine Wp.blk (by decide) ol_133 103 3 (pc' := (if v10 < v0 then 248 else 193)) (L' := [.int v0, .ref 23, mk0, .int v3, .ref v4, .ref v5, .ref v6, .int v7, .int v8, .int v9, .int v10, mk0]) (S' := []) (h' := h) rfl ?_
    refine Wp.br (fun c5 => ?_) (fun c5 => ?_)
    · replace K := K.1 c5
      refine Wp.blk (by decide) ol_133 133 3 (pc' := 254) (L' := [.int v0, .ref 23, mk0, .int v3, .ref v4, .ref v5, .ref v6, .int v7, .int v8, .int v9, .int v10, mk0]) (S' := [.int v10, .int v7, .ref v5]) (h' := h) rfl ?_
      obtain ⟨k6, K⟩ := K
      obtain ⟨r7, K⟩ := K
      obtain ⟨b8, K⟩ := K
      refine Wp.iast (op_ix (by decide) ol_133 136 rfl) b8 k6 r7 rfl ?_
      refine Wp.blk (by decide) ol_133 137 5 (pc' := 263) (L' := [.int v0, .ref 23, mk0, .int v3, .ref v4, .ref v5, .ref v6, .int v7, .int v8, .int v9, .int v10, mk0]) (S' := [.int (((1 : Int32)) + v9), .int v10, .ref v4]) (h' := (stI h v5 v7.toNatClampNeg v10)) rfl ?_
      obtain ⟨k9, K⟩ := K
      obtain ⟨r10, K⟩ := K
      obtain ⟨b11, K⟩ := K
      refine Wp.iast (op_ix (by decide) ol_133 142 rfl) b11 k9 r10 rfl ?_
      refine Wp.blk (by decide) ol_133 143 4 (pc' := 273) (L' := [.int v0, .ref 23, mk0, .int v3, .ref v4, .ref v5, .ref v6, .int (v7 + (1 : Int32)), .int v8, .int v9, .int v10, mk0]) (S' := [.int (-2 : Int32), .int (v7 + (1 : Int32)), .ref v5]) (h' := (stI ((stI h v5 v7.toNatClampNeg v10)) v4 v10.toNatClampNeg ((((1 : Int32)) + v9)))) rfl ?_
      obtain ⟨r12, K⟩ := K
      refine Wp.iast (op_ix (by decide) ol_133 147 rfl) b8 k6 r12 rfl ?_
      refine Wp.blk (by decide) ol_133 148 3 (pc' := 279) (L' := [.int v0, .ref 23, mk0, .int v3, .ref v4, .ref v5, .ref v6, .int (v7 + (1 : Int32)), .int v8, .int v9, .int v10, mk0]) (S' := [.int (0 : Int32), .int (v7 + (1 : Int32)), .ref v6]) (h' := (stI ((stI ((stI h v5 v7.toNatClampNeg v10)) v4 v10.toNatClampNeg ((((1 : Int32)) + v9)))) v5 ((v7 + (1 : Int32))).toNatClampNeg ((-2 : Int32)))) rfl ?_
      obtain ⟨k13, K⟩ := K
      obtain ⟨r14, K⟩ := K
      obtain ⟨b15, K⟩ := K
      refine Wp.iast (op_ix (by decide) ol_133 151 rfl) b15 k13 r14 rfl ?_
      refine Wp.blk (by decide) ol_133 152 1 (pc' := 54) (L' := [.int v0, .ref 23, mk0, .int v3, .ref v4, .ref v5, .ref v6, .int (v7 + (1 : Int32)), .int v8, .int v9, .int v10, mk0]) (S' := []) (h' := (stI ((stI ((stI ((stI h v5 v7.toNatClampNeg v10)) v4 v10.toNatClampNeg ((((1 : Int32)) + v9)))) v5 ((v7 + (1 : Int32))).toNatClampNeg ((-2 : Int32)))) v6 ((v7 + (1 : Int32))).toNatClampNeg ((0 : Int32)))) rfl ?_
      refine Wp.forget (L := [.int v0, .ref 23, mk0, .int v3, .ref v4, .ref v5, .ref v6, .int (v7 + (1 : Int32)), .int v8, mk0, mk0, mk0]) (⟨Or.inr rfl, ⟨Or.inr rfl, ⟨Or.inr rfl, ⟨Or.inr rfl, ⟨Or.inr rfl, ⟨Or.inr rfl, ⟨Or.inr rfl, ⟨Or.inr rfl, ⟨Or.inr rfl, ⟨Or.inl rfl, ⟨Or.inl rfl, ⟨Or.inr rfl, trivial⟩⟩⟩⟩⟩⟩⟩⟩⟩⟩⟩⟩) ?_
      exact K
    · replace K := K.2 c5
      refine Wp.blk (by decide) ol_133 106 2 (pc' := 197) (L' := [.int v0, .ref 23, mk0, .int v3, .ref v4, .ref v5, .ref v6, .int v7, .int v8, .int v9, .int v10, mk0]) (S' := [.int v7, .ref v6]) (h' := h) rfl ?_
      refine Wp.iald (op_ix (by decide) ol_133 108 rfl) k1 r2 rfl ?_
      refine Wp.blk (by decide) ol_133 109 3 (pc' := (if v7 = (0 : Int32) then 205 else 215)) (L' := [.int v0, .ref 23, mk0, .int v3, .ref v4, .ref v5, .ref v6, .int v7, .int v8, .int v9, .int v10, .int (AI h v6 v7.toNatClampNeg)]) (S' := []) (h' := h) rfl ?_
      refine Wp.br (fun c16 => ?_) (fun c16 => ?_)
      · replace K := K.1 c16
        refine Wp.blk (by decide) ol_133 112 3 (pc' := (if (AI h v6 v7.toNatClampNeg) = (1 : Int32) then 211 else 215)) (L' := [.int v0, .ref 23, mk0, .int v3, .ref v4, .ref v5, .ref v6, .int v7, .int v8, .int v9, .int v10, .int (AI h v6 v7.toNatClampNeg)]) (S' := []) (h' := h) rfl ?_
        refine Wp.br (fun hc => absurd hc c3) (fun _ => ?_)
        refine Wp.blk (by decide) ol_133 117 1 (pc' := 216) (L' := [.int v0, .ref 23, mk0, .int v3, .ref v4, .ref v5, .ref v6, .int v7, .int v8, .int v9, .int v10, .int (AI h v6 v7.toNatClampNeg)]) (S' := [.int (0 : Int32)]) (h' := h) rfl ?_
        refine Wp.forget (L := [.int v0, .ref 23, mk0, .int v3, .ref v4, .ref v5, .ref v6, .int v7, mk0, mk0, mk0, .int (AI h v6 v7.toNatClampNeg)]) (⟨Or.inr rfl, ⟨Or.inr rfl, ⟨Or.inr rfl, ⟨Or.inr rfl, ⟨Or.inr rfl, ⟨Or.inr rfl, ⟨Or.inr rfl, ⟨Or.inr rfl, ⟨Or.inl rfl, ⟨Or.inl rfl, ⟨Or.inl rfl, ⟨Or.inr rfl, trivial⟩⟩⟩⟩⟩⟩⟩⟩⟩⟩⟩⟩) ?_
        exact K
      · replace K := K.2 c16
        refine Wp.blk (by decide) ol_133 117 1 (pc' := 216) (L' := [.int v0, .ref 23, mk0, .int v3, .ref v4, .ref v5, .ref v6, .int v7, .int v8, .int v9, .int v10, .int (AI h v6 v7.toNatClampNeg)]) (S' := [.int (0 : Int32)]) (h' := h) rfl ?_
        refine Wp.forget (L := [.int v0, .ref 23, mk0, .int v3, .ref v4, .ref v5, .ref v6, .int v7, mk0, mk0, mk0, .int (AI h v6 v7.toNatClampNeg)]) (⟨Or.inr rfl, ⟨Or.inr rfl, ⟨Or.inr rfl, ⟨Or.inr rfl, ⟨Or.inr rfl, ⟨Or.inr rfl, ⟨Or.inr rfl, ⟨Or.inr rfl, ⟨Or.inl rfl, ⟨Or.inl rfl, ⟨Or.inl rfl, ⟨Or.inr rfl, trivial⟩⟩⟩⟩⟩⟩⟩⟩⟩⟩⟩⟩) ?_
        exact K
set_option maxRecDepth 4000 in
/-- CutsOrFastLaw.has at 216 -/
theorem g133_216 (d : Nat) (v0 : Int32) (v3 : Int32) (v4 : Nat) (v5 : Nat) (v6 : Nat) (v7 : Int32) (v11 : Int32) (s0 : Int32) (h : AH) (HS : Sh h)  (Q : Option Value → AH → Prop) (K : (((v7 + (-1 : Int32)) < (0 : Int32) → Wp d 133 54 [.int v0, .ref 23, mk0, .int v3, .ref v4, .ref v5, .ref v6, .int (v7 + (-1 : Int32)), .int s0, mk0, mk0, mk0] [] h Q) ∧ (¬ (v7 + (-1 : Int32)) < (0 : Int32) → ((v11 = (0 : Int32) → ((AK h v6).1 = 20 ∧ inR h v6 (v7 + (-1 : Int32)) = true ∧ 2 ≤ v6 ∧ Wp d 133 54 [.int v0, .ref 23, mk0, .int v3, .ref v4, .ref v5, .ref v6, .int (v7 + (-1 : Int32)), .int s0, mk0, mk0, mk0] [] (stI h v6 (v7 + (-1 : Int32)).toNatClampNeg ((1 : Int32))) Q)) ∧ (¬ v11 = (0 : Int32) → ((AK h v6).1 = 20 ∧ inR h v6 (v7 + (-1 : Int32)) = true ∧ (AK h v6).1 = 20 ∧ 2 ≤ v6 ∧ Wp d 133 54 [.int v0, .ref 23, mk0, .int v3, .ref v4, .ref v5, .ref v6, .int (v7 + (-1 : Int32)), .int s0, mk0, mk0, mk0] [] (stI h v6 (v7 + (-1 : Int32)).toNatClampNeg ((AI h v6 (v7 + (-1 : Int32)).toNatClampNeg))) Q)))))) : Wp d 133 216 [.int v0, .ref 23, mk0, .int v3, .ref v4, .ref v5, .ref v6, .int v7, mk0, mk0, mk0, .int v11] [.int s0] h Q := by
  refine Wp.blk (by decide) ol_133 118 2 (pc' := 221) (L' := [.int v0, .ref 23, mk0, .int v3, .ref v4, .ref v5, .ref v6, .int (v7 + (-1 : Int32)), .int s0, mk0, mk0, .int v11]) (S' := []) (h' := h) rfl ?_
  generalize (v7 + (-1 : Int32)) = yy1 at K ⊢
  refine Wp.blk (by decide) ol_133 120 2 (pc' := (if yy1 < (0 : Int32) then 245 else 226)) (L' := [.int v0, .ref 23, mk0, .int v3, .ref v4, .ref v5, .ref v6, .int yy1, .int s0, mk0, mk0, .int v11]) (S' := []) (h' := h) rfl ?_
  refine Wp.br (fun c2 => ?_) (fun c2 => ?_)
  · replace K := K.1 c2
    refine Wp.blk (by decide) ol_133 132 1 (pc' := 280) (L' := [.int v0, .ref 23, mk0, .int v3, .ref v4, .ref v5, .ref v6, .int yy1, .int s0, mk0, mk0, .int v11]) (S' := []) (h' := h) rfl ?_
    refine Wp.blk (by decide) ol_133 152 1 (pc' := 54) (L' := [.int v0, .ref 23, mk0, .int v3, .ref v4, .ref v5, .ref v6, .int yy1, .int s0, mk0, mk0, .int v11]) (S' := []) (h' := h) rfl ?_
    refine Wp.forget (L := [.int v0, .ref 23, mk0, .int v3, .ref v4, .ref v5, .ref v6, .int yy1, .int s0, mk0, mk0, mk0]) (⟨Or.inr rfl, ⟨Or.inr rfl, ⟨Or.inr rfl, ⟨Or.inr rfl, ⟨Or.inr rfl, ⟨Or.inr rfl, ⟨Or.inr rfl, ⟨Or.inr rfl, ⟨Or.inr rfl, ⟨Or.inr rfl, ⟨Or.inr rfl, ⟨Or.inl rfl, trivial⟩⟩⟩⟩⟩⟩⟩⟩⟩⟩⟩⟩) ?_
    exact K
  · replace K := K.2 c2
    refine Wp.blk (by decide) ol_133 122 4 (pc' := (if v11 = (0 : Int32) then 235 else 239)) (L' := [.int v0, .ref 23, mk0, .int v3, .ref v4, .ref v5, .ref v6, .int yy1, .int s0, mk0, mk0, .int v11]) (S' := [.int yy1, .ref v6]) (h' := h) rfl ?_
    refine Wp.br (fun c3 => ?_) (fun c3 => ?_)
    · replace K := K.1 c3
      refine Wp.blk (by decide) ol_133 126 2 (pc' := 244) (L' := [.int v0, .ref 23, mk0, .int v3, .ref v4, .ref v5, .ref v6, .int yy1, .int s0, mk0, mk0, .int v11]) (S' := [.int (1 : Int32), .int yy1, .ref v6]) (h' := h) rfl ?_
      obtain ⟨k4, K⟩ := K
      obtain ⟨r5, K⟩ := K
      obtain ⟨b6, K⟩ := K
      refine Wp.iast (op_ix (by decide) ol_133 131 rfl) b6 k4 r5 rfl ?_
      refine Wp.blk (by decide) ol_133 132 1 (pc' := 280) (L' := [.int v0, .ref 23, mk0, .int v3, .ref v4, .ref v5, .ref v6, .int yy1, .int s0, mk0, mk0, .int v11]) (S' := []) (h' := (stI h v6 yy1.toNatClampNeg ((1 : Int32)))) rfl ?_
      refine Wp.blk (by decide) ol_133 152 1 (pc' := 54) (L' := [.int v0, .ref 23, mk0, .int v3, .ref v4, .ref v5, .ref v6, .int yy1, .int s0, mk0, mk0, .int v11]) (S' := []) (h' := (stI h v6 yy1.toNatClampNeg ((1 : Int32)))) rfl ?_
      refine Wp.forget (L := [.int v0, .ref 23, mk0, .int v3, .ref v4, .ref v5, .ref v6, .int yy1, .int s0, mk0, mk0, mk0]) (⟨Or.inr rfl, ⟨Or.inr rfl, ⟨Or.inr rfl, ⟨Or.inr rfl, ⟨Or.inr rfl, ⟨Or.inr rfl, ⟨Or.inr rfl, ⟨Or.inr rfl, ⟨Or.inr rfl, ⟨Or.inr rfl, ⟨Or.inr rfl, ⟨Or.inl rfl, trivial⟩⟩⟩⟩⟩⟩⟩⟩⟩⟩⟩⟩) ?_
      exact K
    · replace K := K.2 c3
      refine Wp.blk (by decide) ol_133 128 2 (pc' := 243) (L' := [.int v0, .ref 23, mk0, .int v3, .ref v4, .ref v5, .ref v6, .int yy1, .int s0, mk0, mk0, .int v11]) (S' := [.int yy1, .ref v6, .int yy1, .ref v6]) (h' := h) rfl ?_
      obtain ⟨k7, K⟩ := K
      obtain ⟨r8, K⟩ := K
      refine Wp.iald (op_ix (by decide) ol_133 130 rfl) k7 r8 rfl ?_
      obtain ⟨k9, K⟩ := K
      obtain ⟨b10, K⟩ := K
      refine Wp.iast (op_ix (by decide) ol_133 131 rfl) b10 k9 r8 rfl ?_
      refine Wp.blk (by decide) ol_133 132 1 (pc' := 280) (L' := [.int v0, .ref 23, mk0, .int v3, .ref v4, .ref v5, .ref v6, .int yy1, .int s0, mk0, mk0, .int v11]) (S' := []) (h' := (stI h v6 yy1.toNatClampNeg ((AI h v6 yy1.toNatClampNeg)))) rfl ?_
      refine Wp.blk (by decide) ol_133 152 1 (pc' := 54) (L' := [.int v0, .ref 23, mk0, .int v3, .ref v4, .ref v5, .ref v6, .int yy1, .int s0, mk0, mk0, .int v11]) (S' := []) (h' := (stI h v6 yy1.toNatClampNeg ((AI h v6 yy1.toNatClampNeg)))) rfl ?_
      refine Wp.forget (L := [.int v0, .ref 23, mk0, .int v3, .ref v4, .ref v5, .ref v6, .int yy1, .int s0, mk0, mk0, mk0]) (⟨Or.inr rfl, ⟨Or.inr rfl, ⟨Or.inr rfl, ⟨Or.inr rfl, ⟨Or.inr rfl, ⟨Or.inr rfl, ⟨Or.inr rfl, ⟨Or.inr rfl, ⟨Or.inr rfl, ⟨Or.inr rfl, ⟨Or.inr rfl, ⟨Or.inl rfl, trivial⟩⟩⟩⟩⟩⟩⟩⟩⟩⟩⟩⟩) ?_
      exact K
/-- CutsOrFastLaw.joinHas at 0 (I[I[II)Z -/
theorem g134_0 (d : Nat) (v0 : Int32) (v3 : Int32) (h : AH) (HS : Sh h)  (Q : Option Value → AH → Prop) (K : (Cl d 133 [.int v0, .ref 23, .ref 24, .int v3] h (fun r h1 => ∃ x3 : Int32, r = some (.int x3) ∧ Sh h1 ∧ ((v3 = (0 : Int32) → ((x3 = (1 : Int32) → Q (some (.int (1 : Int32))) h1) ∧ (¬ x3 = (1 : Int32) → Q (some (.int (0 : Int32))) h1))) ∧ (¬ v3 = (0 : Int32) → ((x3 = (0 : Int32) → Q (some (.int (1 : Int32))) h1) ∧ (¬ x3 = (0 : Int32) → Q (some (.int (0 : Int32))) h1))))))) : Wp (d + 1) 134 0 [.int v0, .ref 23, .ref 24, .int v3] [] h Q := by
  refine Wp.blk (by decide) ol_134 0 4 (pc' := 4) (L' := [.int v0, .ref 23, .ref 24, .int v3]) (S' := [.int v3, .ref 24, .ref 23, .int v0]) (h' := h) rfl ?_
  refine Wp.callI (op_ix (by decide) ol_134 4 rfl) rfl rfl (K.mono ?_)
  rintro _ h1 ⟨x3, rfl, hs2, K⟩
  refine ⟨x3, rfl, ?_⟩
  refine Wp.blk (by decide) ol_134 5 2 (pc' := (if v3 = (0 : Int32) then 11 else 15)) (L' := [.int v0, .ref 23, .ref 24, .int v3]) (S' := [.int x3]) (h' := h1) rfl ?_
  refine Wp.br (fun c4 => ?_) (fun c4 => ?_)
  · replace K := K.1 c4
    refine Wp.blk (by decide) ol_134 7 2 (pc' := 16) (L' := [.int v0, .ref 23, .ref 24, .int v3]) (S' := [.int (1 : Int32), .int x3]) (h' := h1) rfl ?_
    refine Wp.blk (by decide) ol_134 10 1 (pc' := (if x3 = (1 : Int32) then 19 else 23)) (L' := [.int v0, .ref 23, .ref 24, .int v3]) (S' := []) (h' := h1) rfl ?_
    refine Wp.br (fun c5 => ?_) (fun c5 => ?_)
    · replace K := K.1 c5
      refine Wp.blk (by decide) ol_134 11 2 (pc' := 24) (L' := [.int v0, .ref 23, .ref 24, .int v3]) (S' := [.int (1 : Int32)]) (h' := h1) rfl ?_
      exact Wp.ret (op_ix (by decide) ol_134 14 rfl) rfl K
    · replace K := K.2 c5
      refine Wp.blk (by decide) ol_134 13 1 (pc' := 24) (L' := [.int v0, .ref 23, .ref 24, .int v3]) (S' := [.int (0 : Int32)]) (h' := h1) rfl ?_
      exact Wp.ret (op_ix (by decide) ol_134 14 rfl) rfl K
  · replace K := K.2 c4
    refine Wp.blk (by decide) ol_134 9 2 (pc' := (if x3 = (0 : Int32) then 19 else 23)) (L' := [.int v0, .ref 23, .ref 24, .int v3]) (S' := []) (h' := h1) rfl ?_
    refine Wp.br (fun c6 => ?_) (fun c6 => ?_)
    · replace K := K.1 c6
      refine Wp.blk (by decide) ol_134 11 2 (pc' := 24) (L' := [.int v0, .ref 23, .ref 24, .int v3]) (S' := [.int (1 : Int32)]) (h' := h1) rfl ?_
      exact Wp.ret (op_ix (by decide) ol_134 14 rfl) rfl K
    · replace K := K.2 c6
      refine Wp.blk (by decide) ol_134 13 1 (pc' := 24) (L' := [.int v0, .ref 23, .ref 24, .int v3]) (S' := [.int (0 : Int32)]) (h' := h1) rfl ?_
      exact Wp.ret (op_ix (by decide) ol_134 14 rfl) rfl K
set_option maxRecDepth 4000 in
/-- CutsOrFastLaw.law at 0 ([I)Z -/
theorem g204_0 (d : Nat) (v0 : Nat) (h : AH)  (Q : Option Value → AH → Prop) (K : (∀ n1, n1 = (NX h) → ∀ h2, h2 = (newO h 11 13) → (Cl d 88 [.ref n1] h2 (fun r h5 => r = none ∧ (∀ n7, n7 = (NX h5) → ∀ h8, h8 = (newO h5 20 22) → (∀ n11, n11 = (NX h8) → ∀ h12, h12 = (newO h8 20 12) → (∀ n15, n15 = (NX h12) → ∀ h16, h16 = (newO h12 20 12) → (Cl d 130 [.ref n1, .ref v0, .int (0 : Int32), .int (6 : Int32), .ref n7, .ref n11, .ref n15] h16 (fun r h19 => ∃ x21 : Int32, r = some (.int x21) ∧ ((x21 < (0 : Int32) → Q (some (.int (0 : Int32))) h19) ∧ (¬ x21 < (0 : Int32) → (Cl d 128 [.ref v0, .int (5 : Int32)] h19 (fun r h23 => ∃ x25 : Int32, r = some (.int x25) ∧ (Cl d 132 [.int x21, .ref n7, .ref n11] h23 (fun r h26 => ∃ x28 : Int32, r = some (.int x28) ∧ ((AK h26 n1).1 = 11 ∧ (Cl d 95 [.ref n1, .int (x25 - x25 / (2 : Int32) * (2 : Int32))] h26 (fun r h30 => ∃ x32 : Int32, r = some (.int x32) ∧ ((x32 = (0 : Int32) → (∀ n34, n34 = (NX h30) → ∀ h35, h35 = (newO h30 20 12) → Wp (d + 1) 204 89 [.ref v0, .ref n1, .ref n7, .ref n11, .ref n15, .int x21, .int (x25 - x25 / (2 : Int32) * (2 : Int32)), mk0, .int (0 : Int32), .int (-1 : Int32), .ref n34, .int (0 : Int32), mk0, mk0, mk0, mk0, mk0] [] h35 Q)) ∧ (¬ x32 = (0 : Int32) → Q (some (.int (0 : Int32))) h30)))))))))))))))))))) : Wp (d + 1) 204 0 [.ref v0, mk0, mk0, mk0, mk0, mk0, mk0, mk0, mk0, mk0, mk0, mk0, mk0, mk0, mk0, mk0, mk0] [] h Q := by
  refine Wp.blk (by decide) ol_204 0 1 (pc' := 3) (L' := [.ref v0, mk0, mk0, mk0, mk0, mk0, mk0, mk0, mk0, mk0, mk0, mk0, mk0, mk0, mk0, mk0, mk0]) (S' := [.ref (NX h)]) (h' := (newO h 11 13)) rfl ?_
  obtain ⟨n1, e3⟩ : ∃ x, x = (NX h) := ⟨_, rfl⟩
  obtain ⟨h2, e4⟩ : ∃ x, x = (newO h 11 13) := ⟨_, rfl⟩
  rw [← e4, ← e3]
  replace K := K n1 e3 h2 e4
  refine Wp.blk (by decide) ol_204 1 1 (pc' := 4) (L' := [.ref v0, mk0, mk0, mk0, mk0, mk0, mk0, mk0, mk0, mk0, mk0, mk0, mk0, mk0, mk0, mk0, mk0]) (S' := [.ref n1, .ref n1]) (h' := h2) rfl ?_
  refine Wp.callV (op_ix (by decide) ol_204 2 rfl) rfl rfl (K.mono ?_)
  rintro _ h5 ⟨rfl, K⟩
  refine ⟨rfl, ?_⟩
  refine Wp.blk (by decide) ol_204 3 2 (pc' := 10) (L' := [.ref v0, .ref n1, mk0, mk0, mk0, mk0, mk0, mk0, mk0, mk0, mk0, mk0, mk0, mk0, mk0, mk0, mk0]) (S' := [.int (22 : Int32)]) (h' := h5) rfl ?_
  refine Wp.blk (by decide) ol_204 5 1 (pc' := 12) (L' := [.ref v0, .ref n1, mk0, mk0, mk0, mk0, mk0, mk0, mk0, mk0, mk0, mk0, mk0, mk0, mk0, mk0, mk0]) (S' := [.ref (NX h5)]) (h' := (newO h5 20 22)) rfl ?_
  obtain ⟨n7, e9⟩ : ∃ x, x = (NX h5) := ⟨_, rfl⟩
  obtain ⟨h8, e10⟩ : ∃ x, x = (newO h5 20 22) := ⟨_, rfl⟩
  rw [← e10, ← e9]
  replace K := K n7 e9 h8 e10
  refine Wp.blk (by decide) ol_204 6 2 (pc' := 15) (L' := [.ref v0, .ref n1, .ref n7, mk0, mk0, mk0, mk0, mk0, mk0, mk0, mk0, mk0, mk0, mk0, mk0, mk0, mk0]) (S' := [.int (12 : Int32)]) (h' := h8) rfl ?_
  refine Wp.blk (by decide) ol_204 8 1 (pc' := 17) (L' := [.ref v0, .ref n1, .ref n7, mk0, mk0, mk0, mk0, mk0, mk0, mk0, mk0, mk0, mk0, mk0, mk0, mk0, mk0]) (S' := [.ref (NX h8)]) (h' := (newO h8 20 12)) rfl ?_
  obtain ⟨n11, e13⟩ : ∃ x, x = (NX h8) := ⟨_, rfl⟩
  obtain ⟨h12, e14⟩ : ∃ x, x = (newO h8 20 12) := ⟨_, rfl⟩
  rw [← e14, ← e13]
  replace K := K n11 e13 h12 e14
  refine Wp.blk (by decide) ol_204 9 2 (pc' := 20) (L' := [.ref v0, .ref n1, .ref n7, .ref n11, mk0, mk0, mk0, mk0, mk0, mk0, mk0, mk0, mk0, mk0, mk0, mk0, mk0]) (S' := [.int (12 : Int32)]) (h' := h12) rfl ?_
  refine Wp.blk (by decide) ol_204 11 1 (pc' := 22) (L' := [.ref v0, .ref n1, .ref n7, .ref n11, mk0, mk0, mk0, mk0, mk0, mk0, mk0, mk0, mk0, mk0, mk0, mk0, mk0]) (S' := [.ref (NX h12)]) (h' := (newO h12 20 12)) rfl ?_
  obtain ⟨n15, e17⟩ : ∃ x, x = (NX h12) := ⟨_, rfl⟩
  obtain ⟨h16, e18⟩ : ∃ x, x = (newO h12 20 12) := ⟨_, rfl⟩
  rw [← e18, ← e17]
  replace K := K n15 e17 h16 e18
  refine Wp.blk (by decide) ol_204 12 8 (pc' := 33) (L' := [.ref v0, .ref n1, .ref n7, .ref n11, .ref n15, mk0, mk0, mk0, mk0, mk0, mk0, mk0, mk0, mk0, mk0, mk0, mk0]) (S' := [.ref n15, .ref n11, .ref n7, .int (6 : Int32), .int (0 : Int32), .ref v0, .ref n1]) (h' := h16) rfl ?_
  refine Wp.callI (op_ix (by decide) ol_204 20 rfl) rfl rfl (K.mono ?_)
  rintro _ h19 ⟨x21, rfl, K⟩
  refine ⟨x21, rfl, ?_⟩
  refine Wp.blk (by decide) ol_204 21 3 (pc' := (if x21 < (0 : Int32) then 43 else 45)) (L' := [.ref v0, .ref n1, .ref n7, .ref n11, .ref n15, .int x21, mk0, mk0, mk0, mk0, mk0, mk0, mk0, mk0, mk0, mk0, mk0]) (S' := []) (h' := h19) rfl ?_
  refine Wp.br (fun c22 => ?_) (fun c22 => ?_)
  · replace K := K.1 c22
    refine Wp.blk (by decide) ol_204 24 1 (pc' := 44) (L' := [.ref v0, .ref n1, .ref n7, .ref n11, .ref n15, .int x21, mk0, mk0, mk0, mk0, mk0, mk0, mk0, mk0, mk0, mk0, mk0]) (S' := [.int (0 : Int32)]) (h' := h19) rfl ?_
    exact Wp.ret (op_ix (by decide) ol_204 25 rfl) rfl K
  · replace K := K.2 c22
    refine Wp.blk (by decide) ol_204 26 2 (pc' := 47) (L' := [.ref v0, .ref n1, .ref n7, .ref n11, .ref n15, .int x21, mk0, mk0, mk0, mk0, mk0, mk0, mk0, mk0, mk0, mk0, mk0]) (S' := [.int (5 : Int32), .ref v0]) (h' := h19) rfl ?_
    refine Wp.callI (op_ix (by decide) ol_204 28 rfl) rfl rfl (K.mono ?_)
    rintro _ h23 ⟨x25, rfl, K⟩
    refine ⟨x25, rfl, ?_⟩
    refine Wp.blk (by decide) ol_204 29 6 (pc' := 58) (L' := [.ref v0, .ref n1, .ref n7, .ref n11, .ref n15, .int x21, .int (x25 - x25 / (2 : Int32) * (2 : Int32)), mk0, mk0, mk0, mk0, mk0, mk0, mk0, mk0, mk0, mk0]) (S' := [.ref n11, .ref n7, .int x21]) (h' := h23) rfl ?_
    refine Wp.callI (op_ix (by decide) ol_204 35 rfl) rfl rfl (K.mono ?_)
    rintro _ h26 ⟨x28, rfl, K⟩
    refine ⟨x28, rfl, ?_⟩
    refine Wp.blk (by decide) ol_204 36 3 (pc' := 66) (L' := [.ref v0, .ref n1, .ref n7, .ref n11, .ref n15, .int x21, .int (x25 - x25 / (2 : Int32) * (2 : Int32)), .int x28, mk0, mk0, mk0, mk0, mk0, mk0, mk0, mk0, mk0]) (S' := [.int (x25 - x25 / (2 : Int32) * (2 : Int32)), .ref n1]) (h' := h26) rfl ?_
    obtain ⟨k29, K⟩ := K
    refine Wp.callI (op_ix (by decide) ol_204 39 rfl) (act_virt (c2 := 1) rfl (lk1 k29) rfl) rfl (K.mono ?_)
    rintro _ h30 ⟨x32, rfl, K⟩
    refine ⟨x32, rfl, ?_⟩
    refine Wp.blk (by decide) ol_204 40 1 (pc' := (if x32 = (0 : Int32) then 74 else 72)) (L' := [.ref v0, .ref n1, .ref n7, .ref n11, .ref n15, .int x21, .int (x25 - x25 / (2 : Int32) * (2 : Int32)), .int x28, mk0, mk0, mk0, mk0, mk0, mk0, mk0, mk0, mk0]) (S' := []) (h' := h30) rfl ?_
    refine Wp.br (fun c33 => ?_) (fun c33 => ?_)
    · replace K := K.1 c33
      refine Wp.blk (by decide) ol_204 43 5 (pc' := 82) (L' := [.ref v0, .ref n1, .ref n7, .ref n11, .ref n15, .int x21, .int (x25 - x25 / (2 : Int32) * (2 : Int32)), .int x28, .int (0 : Int32), .int (-1 : Int32), mk0, mk0, mk0, mk0, mk0, mk0, mk0]) (S' := [.int (12 : Int32)]) (h' := h30) rfl ?_
      refine Wp.blk (by decide) ol_204 48 1 (pc' := 84) (L' := [.ref v0, .ref n1, .ref n7, .ref n11, .ref n15, .int x21, .int (x25 - x25 / (2 : Int32) * (2 : Int32)), .int x28, .int (0 : Int32), .int (-1 : Int32), mk0, mk0, mk0, mk0, mk0, mk0, mk0]) (S' := [.ref (NX h30)]) (h' := (newO h30 20 12)) rfl ?_
      obtain ⟨n34, e36⟩ : ∃ x, x = (NX h30) := ⟨_, rfl⟩
      obtain ⟨h35, e37⟩ : ∃ x, x = (newO h30 20 12) := ⟨_, rfl⟩
      rw [← e37, ← e36]
      replace K := K n34 e36 h35 e37
      refine Wp.blk (by decide) ol_204 49 3 (pc' := 89) (L' := [.ref v0, .ref n1, .ref n7, .ref n11, .ref n15, .int x21, .int (x25 - x25 / (2 : Int32) * (2 : Int32)), .int x28, .int (0 : Int32), .int (-1 : Int32), .ref n34, .int (0 : Int32), mk0, mk0, mk0, mk0, mk0]) (S' := []) (h' := h35) rfl ?_
      refine Wp.forget (L := [.ref v0, .ref n1, .ref n7, .ref n11, .ref n15, .int x21, .int (x25 - x25 / (2 : Int32) * (2 : Int32)), mk0, .int (0 : Int32), .int (-1 : Int32), .ref n34, .int (0 : Int32), mk0, mk0, mk0, mk0, mk0]) (⟨Or.inr rfl, ⟨Or.inr rfl, ⟨Or.inr rfl, ⟨Or.inr rfl, ⟨Or.inr rfl, ⟨Or.inr rfl, ⟨Or.inr rfl, ⟨Or.inl rfl, ⟨Or.inr rfl, ⟨Or.inr rfl, ⟨Or.inr rfl, ⟨Or.inr rfl, ⟨Or.inr rfl, ⟨Or.inr rfl, ⟨Or.inr rfl, ⟨Or.inr rfl, ⟨Or.inr rfl, trivial⟩⟩⟩⟩⟩⟩⟩⟩⟩⟩⟩⟩⟩⟩⟩⟩⟩) ?_
      exact K
    · replace K := K.2 c33
      refine Wp.blk (by decide) ol_204 41 1 (pc' := 73) (L' := [.ref v0, .ref n1, .ref n7, .ref n11, .ref n15, .int x21, .int (x25 - x25 / (2 : Int32) * (2 : Int32)), .int x28, mk0, mk0, mk0, mk0, mk0, mk0, mk0, mk0, mk0]) (S' := [.int (0 : Int32)]) (h' := h30) rfl ?_
      exact Wp.ret (op_ix (by decide) ol_204 42 rfl) rfl K
set_option maxRecDepth 4000 in
/-- CutsOrFastLaw.law at 89 -/
theorem g204_89 (d : Nat) (v5 : Int32) (v6 : Int32) (v8 : Int32) (v9 : Int32) (v11 : Int32) (h : AH) (HS : Sh h)  (Q : Option Value → AH → Prop) (K : ((v11 < (8 : Int32) → (Cl d 132 [.int v5, .ref 23, .ref 24] h (fun r h2 => ∃ x4 : Int32, r = some (.int x4) ∧ Sh h2 ∧ (Cl d 94 [.ref 2] h2 (fun r h5 => ∃ x7 : Int32, r = some (.int x7) ∧ Sh h5 ∧ ((x7 = x4 → (Cl d 113 [.ref 2, .int (4 : Int32)] h5 (fun r h9 => ∃ x11 : Int32, r = some (.int x11) ∧ Sh h9 ∧ ((x11 = v8 → (Cl d 113 [.ref 2, .int (5 : Int32)] h9 (fun r h13 => ∃ x15 : Int32, r = some (.int x15) ∧ Sh h13 ∧ ((x15 = v6 → (Cl d 101 [.ref 2] h13 (fun r h17 => ∃ x19 : Int32, r = some (.int x19) ∧ Sh h17 ∧ ((x19 = v9 → Wp (d + 1) 204 148 [.ref 0, .ref 2, .ref 23, .ref 24, .ref 25, .int v5, .int v6, .int x4, .int v8, .int v9, .ref 26, .int v11, .int (0 : Int32), mk0, mk0, mk0, mk0] [] h17 Q) ∧ (¬ x19 = v9 → Q (some (.int (0 : Int32))) h17))))) ∧ (¬ x15 = v6 → Q (some (.int (0 : Int32))) h13))))) ∧ (¬ x11 = v8 → Q (some (.int (0 : Int32))) h9))))) ∧ (¬ x7 = x4 → Q (some (.int (0 : Int32))) h5))))))) ∧ (¬ v11 < (8 : Int32) → (Cl d 93 [.ref 2, .int v5, .int (0 : Int32)] h (fun r h21 => ∃ x23 : Int32, r = some (.int x23) ∧ Sh h21 ∧ ((x23 = (-101 : Int32) → (Cl d 93 [.ref 2, .int (0 : Int32), .int (4 : Int32)] h21 (fun r h25 => ∃ x27 : Int32, r = some (.int x27) ∧ Sh h25 ∧ ((x27 = (-102 : Int32) → (Cl d 96 [.ref 2, .int v5] h25 (fun r h29 => ∃ x31 : Int32, r = some (.int x31) ∧ Sh h29 ∧ ((x31 = (-101 : Int32) → (Cl d 100 [.ref 2, .int v5] h29 (fun r h33 => ∃ x35 : Int32, r = some (.int x35) ∧ Sh h33 ∧ ((x35 = (-101 : Int32) → (Cl d 98 [.ref 2, .int (2 : Int32)] h33 (fun r h37 => ∃ x39 : Int32, r = some (.int x39) ∧ Sh h37 ∧ ((x39 = (-101 : Int32) → (Cl d 99 [.ref 2, .int (-1 : Int32)] h37 (fun r h41 => ∃ x43 : Int32, r = some (.int x43) ∧ Sh h41 ∧ ((x43 = (-101 : Int32) → (Cl d 95 [.ref 2, .int (2 : Int32)] h41 (fun r h45 => ∃ x47 : Int32, r = some (.int x47) ∧ Sh h45 ∧ ((x47 = (-101 : Int32) → ((v8 = (0 : Int32) → Q (some (.int (1 : Int32))) h45) ∧ (¬ v8 = (0 : Int32) → (Cl d 95 [.ref 2, .int (0 : Int32)] h45 (fun r h50 => ∃ x52 : Int32, r = some (.int x52) ∧ Sh h50 ∧ ((x52 = (-103 : Int32) → Q (some (.int (1 : Int32))) h50) ∧ (¬ x52 = (-103 : Int32) → Q (some (.int (0 : Int32))) h50))))))) ∧ (¬ x47 = (-101 : Int32) → Q (some (.int (0 : Int32))) h45))))) ∧ (¬ x43 = (-101 : Int32) → Q (some (.int (0 : Int32))) h41))))) ∧ (¬ x39 = (-101 : Int32) → Q (some (.int (0 : Int32))) h37))))) ∧ (¬ x35 = (-101 : Int32) → Q (some (.int (0 : Int32))) h33))))) ∧ (¬ x31 = (-101 : Int32) → Q (some (.int (0 : Int32))) h29))))) ∧ (¬ x27 = (-102 : Int32) → Q (some (.int (0 : Int32))) h25))))) ∧ (¬ x23 = (-101 : Int32) → Q (some (.int (0 : Int32))) h21))))))) : Wp (d + 1) 204 89 [.ref 0, .ref 2, .ref 23, .ref 24, .ref 25, .int v5, .int v6, mk0, .int v8, .int v9, .ref 26, .int v11, mk0, mk0, mk0, mk0, mk0] [] h Q := by
  refine Wp.blk (by decide) ol_204 52 3 (pc' := (if v11 < (8 : Int32) then 96 else 742)) (L' := [.ref 0, .ref 2, .ref 23, .ref 24, .ref 25, .int v5, .int v6, mk0, .int v8, .int v9, .ref 26, .int v11, mk0, mk0, mk0, mk0, mk0]) (S' := []) (h' := h) rfl ?_
  refine Wp.br (fun c1 => ?_) (fun c1 => ?_)
  · replace K := K.1 c1
    refine Wp.blk (by decide) ol_204 55 3 (pc' := 100) (L' := [.ref 0, .ref 2, .ref 23, .ref 24, .ref 25, .int v5, .int v6, mk0, .int v8, .int v9, .ref 26, .int v11, mk0, mk0, mk0, mk0, mk0]) (S' := [.ref 24, .ref 23, .int v5]) (h' := h) rfl ?_
    refine Wp.callI (op_ix (by decide) ol_204 58 rfl) rfl rfl (K.mono ?_)
    rintro _ h2 ⟨x4, rfl, hs3, K⟩
    refine ⟨x4, rfl, ?_⟩
    refine Wp.blk (by decide) ol_204 59 2 (pc' := 106) (L' := [.ref 0, .ref 2, .ref 23, .ref 24, .ref 25, .int v5, .int v6, .int x4, .int v8, .int v9, .ref 26, .int v11, mk0, mk0, mk0, mk0, mk0]) (S' := [.ref 2]) (h' := h2) rfl ?_
    refine Wp.callI (op_ix (by decide) ol_204 61 rfl) (act_virt (c2 := 0) rfl (lk1 (kS hs3 2 rfl)) rfl) rfl (K.mono ?_)
    rintro _ h5 ⟨x7, rfl, hs6, K⟩
    refine ⟨x7, rfl, ?_⟩
    refine Wp.blk (by decide) ol_204 62 2 (pc' := (if x7 = x4 then 114 else 143)) (L' := [.ref 0, .ref 2, .ref 23, .ref 24, .ref 25, .int v5, .int v6, .int x4, .int v8, .int v9, .ref 26, .int v11, mk0, mk0, mk0, mk0, mk0]) (S' := []) (h' := h5) rfl ?_
    refine Wp.br (fun c8 => ?_) (fun c8 => ?_)
    · replace K := K.1 c8
      refine Wp.blk (by decide) ol_204 64 2 (pc' := 116) (L' := [.ref 0, .ref 2, .ref 23, .ref 24, .ref 25, .int v5, .int v6, .int x4, .int v8, .int v9, .ref 26, .int v11, mk0, mk0, mk0, mk0, mk0]) (S' := [.int (4 : Int32), .ref 2]) (h' := h5) rfl ?_
      refine Wp.callI (op_ix (by decide) ol_204 66 rfl) (act_virt (c2 := 1) rfl (lk1 (kS hs6 2 rfl)) rfl) rfl (K.mono ?_)
      rintro _ h9 ⟨x11, rfl, hs10, K⟩
      refine ⟨x11, rfl, ?_⟩
      refine Wp.blk (by decide) ol_204 67 2 (pc' := (if x11 = v8 then 124 else 143)) (L' := [.ref 0, .ref 2, .ref 23, .ref 24, .ref 25, .int v5, .int v6, .int x4, .int v8, .int v9, .ref 26, .int v11, mk0, mk0, mk0, mk0, mk0]) (S' := []) (h' := h9) rfl ?_
      refine Wp.br (fun c12 => ?_) (fun c12 => ?_)
      · replace K := K.1 c12
        refine Wp.blk (by decide) ol_204 69 2 (pc' := 126) (L' := [.ref 0, .ref 2, .ref 23, .ref 24, .ref 25, .int v5, .int v6, .int x4, .int v8, .int v9, .ref 26, .int v11, mk0, mk0, mk0, mk0, mk0]) (S' := [.int (5 : Int32), .ref 2]) (h' := h9) rfl ?_
        refine Wp.callI (op_ix (by decide) ol_204 71 rfl) (act_virt (c2 := 1) rfl (lk1 (kS hs10 2 rfl)) rfl) rfl (K.mono ?_)
        rintro _ h13 ⟨x15, rfl, hs14, K⟩
        refine ⟨x15, rfl, ?_⟩
        refine Wp.blk (by decide) ol_204 72 2 (pc' := (if x15 = v6 then 134 else 143)) (L' := [.ref 0, .ref 2, .ref 23, .ref 24, .ref 25, .int v5, .int v6, .int x4, .int v8, .int v9, .ref 26, .int v11, mk0, mk0, mk0, mk0, mk0]) (S' := []) (h' := h13) rfl ?_
        refine Wp.br (fun c16 => ?_) (fun c16 => ?_)
        · replace K := K.1 c16
          refine Wp.blk (by decide) ol_204 74 1 (pc' := 135) (L' := [.ref 0, .ref 2, .ref 23, .ref 24, .ref 25, .int v5, .int v6, .int x4, .int v8, .int v9, .ref 26, .int v11, mk0, mk0, mk0, mk0, mk0]) (S' := [.ref 2]) (h' := h13) rfl ?_
          refine Wp.callI (op_ix (by decide) ol_204 75 rfl) (act_virt (c2 := 0) rfl (lk1 (kS hs14 2 rfl)) rfl) rfl (K.mono ?_)
          rintro _ h17 ⟨x19, rfl, hs18, K⟩
          refine ⟨x19, rfl, ?_⟩
          refine Wp.blk (by decide) ol_204 76 2 (pc' := (if x19 = v9 then 145 else 143)) (L' := [.ref 0, .ref 2, .ref 23, .ref 24, .ref 25, .int v5, .int v6, .int x4, .int v8, .int v9, .ref 26, .int v11, mk0, mk0, mk0, mk0, mk0]) (S' := []) (h' := h17) rfl ?_
          refine Wp.br (fun c20 => ?_) (fun c20 => ?_)
          · replace K := K.1 c20
            refine Wp.blk (by decide) ol_204 80 2 (pc' := 148) (L' := [.ref 0, .ref 2, .ref 23, .ref 24, .ref 25, .int v5, .int v6, .int x4, .int v8, .int v9, .ref 26, .int v11, .int (0 : Int32), mk0, mk0, mk0, mk0]) (S' := []) (h' := h17) rfl ?_
            exact K
          · replace K := K.2 c20
            refine Wp.blk (by decide) ol_204 78 1 (pc' := 144) (L' := [.ref 0, .ref 2, .ref 23, .ref 24, .ref 25, .int v5, .int v6, .int x4, .int v8, .int v9, .ref 26, .int v11, mk0, mk0, mk0, mk0, mk0]) (S' := [.int (0 : Int32)]) (h' := h17) rfl ?_
            exact Wp.ret (op_ix (by decide) ol_204 79 rfl) rfl K
        · replace K := K.2 c16
          refine Wp.blk (by decide) ol_204 78 1 (pc' := 144) (L' := [.ref 0, .ref 2, .ref 23, .ref 24, .ref 25, .int v5, .int v6, .int x4, .int v8, .int v9, .ref 26, .int v11, mk0, mk0, mk0, mk0, mk0]) (S' := [.int (0 : Int32)]) (h' := h13) rfl ?_
          exact Wp.ret (op_ix (by decide) ol_204 79 rfl) rfl K
      · replace K := K.2 c12
        refine Wp.blk (by decide) ol_204 78 1 (pc' := 144) (L' := [.ref 0, .ref 2, .ref 23, .ref 24, .ref 25, .int v5, .int v6, .int x4, .int v8, .int v9, .ref 26, .int v11, mk0, mk0, mk0, mk0, mk0]) (S' := [.int (0 : Int32)]) (h' := h9) rfl ?_
        exact Wp.ret (op_ix (by decide) ol_204 79 rfl) rfl K
    · replace K := K.2 c8
      refine Wp.blk (by decide) ol_204 78 1 (pc' := 144) (L' := [.ref 0, .ref 2, .ref 23, .ref 24, .ref 25, .int v5, .int v6, .int x4, .int v8, .int v9, .ref 26, .int v11, mk0, mk0, mk0, mk0, mk0]) (S' := [.int (0 : Int32)]) (h' := h5) rfl ?_
      exact Wp.ret (op_ix (by decide) ol_204 79 rfl) rfl K
  · replace K := K.2 c1
    refine Wp.blk (by decide) ol_204 400 3 (pc' := 746) (L' := [.ref 0, .ref 2, .ref 23, .ref 24, .ref 25, .int v5, .int v6, mk0, .int v8, .int v9, .ref 26, .int v11, mk0, mk0, mk0, mk0, mk0]) (S' := [.int (0 : Int32), .int v5, .ref 2]) (h' := h) rfl ?_
    refine Wp.callI (op_ix (by decide) ol_204 403 rfl) (act_virt (c2 := 2) rfl (lk1 (kS HS 2 rfl)) rfl) rfl (K.mono ?_)
    rintro _ h21 ⟨x23, rfl, hs22, K⟩
    refine ⟨x23, rfl, ?_⟩
    refine Wp.blk (by decide) ol_204 404 2 (pc' := (if x23 = (-101 : Int32) then 754 else 836)) (L' := [.ref 0, .ref 2, .ref 23, .ref 24, .ref 25, .int v5, .int v6, mk0, .int v8, .int v9, .ref 26, .int v11, mk0, mk0, mk0, mk0, mk0]) (S' := []) (h' := h21) rfl ?_
    refine Wp.br (fun c24 => ?_) (fun c24 => ?_)
    · replace K := K.1 c24
      refine Wp.blk (by decide) ol_204 406 3 (pc' := 757) (L' := [.ref 0, .ref 2, .ref 23, .ref 24, .ref 25, .int v5, .int v6, mk0, .int v8, .int v9, .ref 26, .int v11, mk0, mk0, mk0, mk0, mk0]) (S' := [.int (4 : Int32), .int (0 : Int32), .ref 2]) (h' := h21) rfl ?_
      refine Wp.callI (op_ix (by decide) ol_204 409 rfl) (act_virt (c2 := 2) rfl (lk1 (kS hs22 2 rfl)) rfl) rfl (K.mono ?_)
      rintro _ h25 ⟨x27, rfl, hs26, K⟩
      refine ⟨x27, rfl, ?_⟩
      refine Wp.blk (by decide) ol_204 410 2 (pc' := (if x27 = (-102 : Int32) then 765 else 836)) (L' := [.ref 0, .ref 2, .ref 23, .ref 24, .ref 25, .int v5, .int v6, mk0, .int v8, .int v9, .ref 26, .int v11, mk0, mk0, mk0, mk0, mk0]) (S' := []) (h' := h25) rfl ?_
      refine Wp.br (fun c28 => ?_) (fun c28 => ?_)
      · replace K := K.1 c28
        refine Wp.blk (by decide) ol_204 412 2 (pc' := 768) (L' := [.ref 0, .ref 2, .ref 23, .ref 24, .ref 25, .int v5, .int v6, mk0, .int v8, .int v9, .ref 26, .int v11, mk0, mk0, mk0, mk0, mk0]) (S' := [.int v5, .ref 2]) (h' := h25) rfl ?_
        refine Wp.callI (op_ix (by decide) ol_204 414 rfl) (act_virt (c2 := 1) rfl (lk1 (kS hs26 2 rfl)) rfl) rfl (K.mono ?_)
        rintro _ h29 ⟨x31, rfl, hs30, K⟩
        refine ⟨x31, rfl, ?_⟩
        refine Wp.blk (by decide) ol_204 415 2 (pc' := (if x31 = (-101 : Int32) then 776 else 836)) (L' := [.ref 0, .ref 2, .ref 23, .ref 24, .ref 25, .int v5, .int v6, mk0, .int v8, .int v9, .ref 26, .int v11, mk0, mk0, mk0, mk0, mk0]) (S' := []) (h' := h29) rfl ?_
        refine Wp.br (fun c32 => ?_) (fun c32 => ?_)
        · replace K := K.1 c32
          refine Wp.blk (by decide) ol_204 417 2 (pc' := 779) (L' := [.ref 0, .ref 2, .ref 23, .ref 24, .ref 25, .int v5, .int v6, mk0, .int v8, .int v9, .ref 26, .int v11, mk0, mk0, mk0, mk0, mk0]) (S' := [.int v5, .ref 2]) (h' := h29) rfl ?_
          refine Wp.callI (op_ix (by decide) ol_204 419 rfl) (act_virt (c2 := 1) rfl (lk1 (kS hs30 2 rfl)) rfl) rfl (K.mono ?_)
          rintro _ h33 ⟨x35, rfl, hs34, K⟩
          refine ⟨x35, rfl, ?_⟩
          refine Wp.blk (by decide) ol_204 420 2 (pc' := (if x35 = (-101 : Int32) then 787 else 836)) (L' := [.ref 0, .ref 2, .ref 23, .ref 24, .ref 25, .int v5, .int v6, mk0, .int v8, .int v9, .ref 26, .int v11, mk0, mk0, mk0, mk0, mk0]) (S' := []) (h' := h33) rfl ?_
          refine Wp.br (fun c36 => ?_) (fun c36 => ?_)
          · replace K := K.1 c36
            refine Wp.blk (by decide) ol_204 422 2 (pc' := 789) (L' := [.ref 0, .ref 2, .ref 23, .ref 24, .ref 25, .int v5, .int v6, mk0, .int v8, .int v9, .ref 26, .int v11, mk0, mk0, mk0, mk0, mk0]) (S' := [.int (2 : Int32), .ref 2]) (h' := h33) rfl ?_
            refine Wp.callI (op_ix (by decide) ol_204 424 rfl) (act_virt (c2 := 1) rfl (lk1 (kS hs34 2 rfl)) rfl) rfl (K.mono ?_)
            rintro _ h37 ⟨x39, rfl, hs38, K⟩
            refine ⟨x39, rfl, ?_⟩
            refine Wp.blk (by decide) ol_204 425 2 (pc' := (if x39 = (-101 : Int32) then 797 else 836)) (L' := [.ref 0, .ref 2, .ref 23, .ref 24, .ref 25, .int v5, .int v6, mk0, .int v8, .int v9, .ref 26, .int v11, mk0, mk0, mk0, mk0, mk0]) (S' := []) (h' := h37) rfl ?_
            refine Wp.br (fun c40 => ?_) (fun c40 => ?_)
            · replace K := K.1 c40
              refine Wp.blk (by decide) ol_204 427 2 (pc' := 799) (L' := [.ref 0, .ref 2, .ref 23, .ref 24, .ref 25, .int v5, .int v6, mk0, .int v8, .int v9, .ref 26, .int v11, mk0, mk0, mk0, mk0, mk0]) (S' := [.int (-1 : Int32), .ref 2]) (h' := h37) rfl ?_
              refine Wp.callI (op_ix (by decide) ol_204 429 rfl) (act_virt (c2 := 1) rfl (lk1 (kS hs38 2 rfl)) rfl) rfl (K.mono ?_)
              rintro _ h41 ⟨x43, rfl, hs42, K⟩
              refine ⟨x43, rfl, ?_⟩
              refine Wp.blk (by decide) ol_204 430 2 (pc' := (if x43 = (-101 : Int32) then 807 else 836)) (L' := [.ref 0, .ref 2, .ref 23, .ref 24, .ref 25, .int v5, .int v6, mk0, .int v8, .int v9, .ref 26, .int v11, mk0, mk0, mk0, mk0, mk0]) (S' := []) (h' := h41) rfl ?_
              refine Wp.br (fun c44 => ?_) (fun c44 => ?_)
              · replace K := K.1 c44
                refine Wp.blk (by decide) ol_204 432 2 (pc' := 809) (L' := [.ref 0, .ref 2, .ref 23, .ref 24, .ref 25, .int v5, .int v6, mk0, .int v8, .int v9, .ref 26, .int v11, mk0, mk0, mk0, mk0, mk0]) (S' := [.int (2 : Int32), .ref 2]) (h' := h41) rfl ?_
                refine Wp.callI (op_ix (by decide) ol_204 434 rfl) (act_virt (c2 := 1) rfl (lk1 (kS hs42 2 rfl)) rfl) rfl (K.mono ?_)
                rintro _ h45 ⟨x47, rfl, hs46, K⟩
                refine ⟨x47, rfl, ?_⟩
                refine Wp.blk (by decide) ol_204 435 2 (pc' := (if x47 = (-101 : Int32) then 817 else 836)) (L' := [.ref 0, .ref 2, .ref 23, .ref 24, .ref 25, .int v5, .int v6, mk0, .int v8, .int v9, .ref 26, .int v11, mk0, mk0, mk0, mk0, mk0]) (S' := []) (h' := h45) rfl ?_
                refine Wp.br (fun c48 => ?_) (fun c48 => ?_)
                · replace K := K.1 c48
                  refine Wp.blk (by decide) ol_204 437 2 (pc' := (if v8 = (0 : Int32) then 832 else 822)) (L' := [.ref 0, .ref 2, .ref 23, .ref 24, .ref 25, .int v5, .int v6, mk0, .int v8, .int v9, .ref 26, .int v11, mk0, mk0, mk0, mk0, mk0]) (S' := []) (h' := h45) rfl ?_
                  refine Wp.br (fun c49 => ?_) (fun c49 => ?_)
                  · replace K := K.1 c49
                    refine Wp.blk (by decide) ol_204 444 2 (pc' := 837) (L' := [.ref 0, .ref 2, .ref 23, .ref 24, .ref 25, .int v5, .int v6, mk0, .int v8, .int v9, .ref 26, .int v11, mk0, mk0, mk0, mk0, mk0]) (S' := [.int (1 : Int32)]) (h' := h45) rfl ?_
                    exact Wp.ret (op_ix (by decide) ol_204 447 rfl) rfl K
                  · replace K := K.2 c49
                    refine Wp.blk (by decide) ol_204 439 2 (pc' := 824) (L' := [.ref 0, .ref 2, .ref 23, .ref 24, .ref 25, .int v5, .int v6, mk0, .int v8, .int v9, .ref 26, .int v11, mk0, mk0, mk0, mk0, mk0]) (S' := [.int (0 : Int32), .ref 2]) (h' := h45) rfl ?_
                    refine Wp.callI (op_ix (by decide) ol_204 441 rfl) (act_virt (c2 := 1) rfl (lk1 (kS hs46 2 rfl)) rfl) rfl (K.mono ?_)
                    rintro _ h50 ⟨x52, rfl, hs51, K⟩
                    refine ⟨x52, rfl, ?_⟩
                    refine Wp.blk (by decide) ol_204 442 2 (pc' := (if x52 = (-103 : Int32) then 832 else 836)) (L' := [.ref 0, .ref 2, .ref 23, .ref 24, .ref 25, .int v5, .int v6, mk0, .int v8, .int v9, .ref 26, .int v11, mk0, mk0, mk0, mk0, mk0]) (S' := []) (h' := h50) rfl ?_
                    refine Wp.br (fun c53 => ?_) (fun c53 => ?_)
                    · replace K := K.1 c53
                      refine Wp.blk (by decide) ol_204 444 2 (pc' := 837) (L' := [.ref 0, .ref 2, .ref 23, .ref 24, .ref 25, .int v5, .int v6, mk0, .int v8, .int v9, .ref 26, .int v11, mk0, mk0, mk0, mk0, mk0]) (S' := [.int (1 : Int32)]) (h' := h50) rfl ?_
                      exact Wp.ret (op_ix (by decide) ol_204 447 rfl) rfl K
                    · replace K := K.2 c53
                      refine Wp.blk (by decide) ol_204 446 1 (pc' := 837) (L' := [.ref 0, .ref 2, .ref 23, .ref 24, .ref 25, .int v5, .int v6, mk0, .int v8, .int v9, .ref 26, .int v11, mk0, mk0, mk0, mk0, mk0]) (S' := [.int (0 : Int32)]) (h' := h50) rfl ?_
                      exact Wp.ret (op_ix (by decide) ol_204 447 rfl) rfl K
                · replace K := K.2 c48
                  refine Wp.blk (by decide) ol_204 446 1 (pc' := 837) (L' := [.ref 0, .ref 2, .ref 23, .ref 24, .ref 25, .int v5, .int v6, mk0, .int v8, .int v9, .ref 26, .int v11, mk0, mk0, mk0, mk0, mk0]) (S' := [.int (0 : Int32)]) (h' := h45) rfl ?_
                  exact Wp.ret (op_ix (by decide) ol_204 447 rfl) rfl K
              · replace K := K.2 c44
                refine Wp.blk (by decide) ol_204 446 1 (pc' := 837) (L' := [.ref 0, .ref 2, .ref 23, .ref 24, .ref 25, .int v5, .int v6, mk0, .int v8, .int v9, .ref 26, .int v11, mk0, mk0, mk0, mk0, mk0]) (S' := [.int (0 : Int32)]) (h' := h41) rfl ?_
                exact Wp.ret (op_ix (by decide) ol_204 447 rfl) rfl K
            · replace K := K.2 c40
              refine Wp.blk (by decide) ol_204 446 1 (pc' := 837) (L' := [.ref 0, .ref 2, .ref 23, .ref 24, .ref 25, .int v5, .int v6, mk0, .int v8, .int v9, .ref 26, .int v11, mk0, mk0, mk0, mk0, mk0]) (S' := [.int (0 : Int32)]) (h' := h37) rfl ?_
              exact Wp.ret (op_ix (by decide) ol_204 447 rfl) rfl K
          · replace K := K.2 c36
            refine Wp.blk (by decide) ol_204 446 1 (pc' := 837) (L' := [.ref 0, .ref 2, .ref 23, .ref 24, .ref 25, .int v5, .int v6, mk0, .int v8, .int v9, .ref 26, .int v11, mk0, mk0, mk0, mk0, mk0]) (S' := [.int (0 : Int32)]) (h' := h33) rfl ?_
            exact Wp.ret (op_ix (by decide) ol_204 447 rfl) rfl K
        · replace K := K.2 c32
          refine Wp.blk (by decide) ol_204 446 1 (pc' := 837) (L' := [.ref 0, .ref 2, .ref 23, .ref 24, .ref 25, .int v5, .int v6, mk0, .int v8, .int v9, .ref 26, .int v11, mk0, mk0, mk0, mk0, mk0]) (S' := [.int (0 : Int32)]) (h' := h29) rfl ?_
          exact Wp.ret (op_ix (by decide) ol_204 447 rfl) rfl K
      · replace K := K.2 c28
        refine Wp.blk (by decide) ol_204 446 1 (pc' := 837) (L' := [.ref 0, .ref 2, .ref 23, .ref 24, .ref 25, .int v5, .int v6, mk0, .int v8, .int v9, .ref 26, .int v11, mk0, mk0, mk0, mk0, mk0]) (S' := [.int (0 : Int32)]) (h' := h25) rfl ?_
        exact Wp.ret (op_ix (by decide) ol_204 447 rfl) rfl K
    · replace K := K.2 c24
      refine Wp.blk (by decide) ol_204 446 1 (pc' := 837) (L' := [.ref 0, .ref 2, .ref 23, .ref 24, .ref 25, .int v5, .int v6, mk0, .int v8, .int v9, .ref 26, .int v11, mk0, mk0, mk0, mk0, mk0]) (S' := [.int (0 : Int32)]) (h' := h21) rfl ?_
      exact Wp.ret (op_ix (by decide) ol_204 447 rfl) rfl K
set_option maxRecDepth 4000 in
/-- CutsOrFastLaw.law at 148 -/
theorem g204_148 (d : Nat) (v5 : Int32) (v6 : Int32) (v7 : Int32) (v8 : Int32) (v9 : Int32) (v11 : Int32) (v12 : Int32) (h : AH) (HS : Sh h)  (Q : Option Value → AH → Prop) (K : ((v12 < v5 → (Cl d 93 [.ref 2, .int v12, .int (0 : Int32)] h (fun r h2 => ∃ x4 : Int32, r = some (.int x4) ∧ Sh h2 ∧ (ixR ((((2 : Int32)) * v12)) 22 ∧ ((x4 = (AI h2 23 ((((2 : Int32)) * v12)).toNatClampNeg) → (Cl d 93 [.ref 2, .int v12, .int (1 : Int32)] h2 (fun r h7 => ∃ x9 : Int32, r = some (.int x9) ∧ Sh h7 ∧ (ixR ((((((2 : Int32)) * v12)) + ((1 : Int32)))) 22 ∧ ((x9 = (AI h7 23 ((((((2 : Int32)) * v12)) + ((1 : Int32)))).toNatClampNeg) → (Cl d 93 [.ref 2, .int v12, .int (2 : Int32)] h7 (fun r h12 => ∃ x14 : Int32, r = some (.int x14) ∧ Sh h12 ∧ (ixR v12 12 ∧ ((x14 = (AI h12 24 v12.toNatClampNeg) → (Cl d 93 [.ref 2, .int v12, .int (3 : Int32)] h12 (fun r h17 => ∃ x19 : Int32, r = some (.int x19) ∧ Sh h17 ∧ (ixR v12 12 ∧ ((x19 = (AI h17 25 v12.toNatClampNeg) → Wp (d + 1) 204 148 [.ref 0, .ref 2, .ref 23, .ref 24, .ref 25, .int v5, .int v6, .int v7, .int v8, .int v9, .ref 26, .int v11, .int (v12 + (1 : Int32)), mk0, mk0, mk0, mk0] [] h17 Q) ∧ (¬ x19 = (AI h17 25 v12.toNatClampNeg) → Q (some (.int (0 : Int32))) h17)))))) ∧ (¬ x14 = (AI h12 24 v12.toNatClampNeg) → Q (some (.int (0 : Int32))) h12)))))) ∧ (¬ x9 = (AI h7 23 ((((((2 : Int32)) * v12)) + ((1 : Int32)))).toNatClampNeg) → Q (some (.int (0 : Int32))) h7)))))) ∧ (¬ x4 = (AI h2 23 ((((2 : Int32)) * v12)).toNatClampNeg) → Q (some (.int (0 : Int32))) h2)))))) ∧ (¬ v12 < v5 → Wp (d + 1) 204 229 [.ref 0, .ref 2, .ref 23, .ref 24, .ref 25, .int v5, .int v6, .int v7, .int v8, .int v9, .ref 26, .int v11, .int (0 : Int32), mk0, mk0, mk0, mk0] [] h Q))) : Wp (d + 1) 204 148 [.ref 0, .ref 2, .ref 23, .ref 24, .ref 25, .int v5, .int v6, .int v7, .int v8, .int v9, .ref 26, .int v11, .int v12, mk0, mk0, mk0, mk0] [] h Q := by
  refine Wp.blk (by decide) ol_204 82 3 (pc' := (if v12 < v5 then 155 else 226)) (L' := [.ref 0, .ref 2, .ref 23, .ref 24, .ref 25, .int v5, .int v6, .int v7, .int v8, .int v9, .ref 26, .int v11, .int v12, mk0, mk0, mk0, mk0]) (S' := []) (h' := h) rfl ?_
  refine Wp.br (fun c1 => ?_) (fun c1 => ?_)
  · replace K := K.1 c1
    refine Wp.blk (by decide) ol_204 85 3 (pc' := 159) (L' := [.ref 0, .ref 2, .ref 23, .ref 24, .ref 25, .int v5, .int v6, .int v7, .int v8, .int v9, .ref 26, .int v11, .int v12, mk0, mk0, mk0, mk0]) (S' := [.int (0 : Int32), .int v12, .ref 2]) (h' := h) rfl ?_
    refine Wp.callI (op_ix (by decide) ol_204 88 rfl) (act_virt (c2 := 2) rfl (lk1 (kS HS 2 rfl)) rfl) rfl (K.mono ?_)
    rintro _ h2 ⟨x4, rfl, hs3, K⟩
    refine ⟨x4, rfl, ?_⟩
    refine Wp.blk (by decide) ol_204 89 4 (pc' := 167) (L' := [.ref 0, .ref 2, .ref 23, .ref 24, .ref 25, .int v5, .int v6, .int v7, .int v8, .int v9, .ref 26, .int v11, .int v12, mk0, mk0, mk0, mk0]) (S' := [.int (((2 : Int32)) * v12), .ref 23, .int x4]) (h' := h2) rfl ?_
    obtain ⟨r5, K⟩ := K
    refine Wp.iald (op_ix (by decide) ol_204 93 rfl) (kS hs3 23 rfl) (inS hs3 23 rfl r5) rfl ?_
    refine Wp.blk (by decide) ol_204 94 1 (pc' := (if x4 = (AI h2 23 ((((2 : Int32)) * v12)).toNatClampNeg) then 171 else 218)) (L' := [.ref 0, .ref 2, .ref 23, .ref 24, .ref 25, .int v5, .int v6, .int v7, .int v8, .int v9, .ref 26, .int v11, .int v12, mk0, mk0, mk0, mk0]) (S' := []) (h' := h2) rfl ?_
    refine Wp.br (fun c6 => ?_) (fun c6 => ?_)
    · replace K := K.1 c6
      refine Wp.blk (by decide) ol_204 95 3 (pc' := 175) (L' := [.ref 0, .ref 2, .ref 23, .ref 24, .ref 25, .int v5, .int v6, .int v7, .int v8, .int v9, .ref 26, .int v11, .int v12, mk0, mk0, mk0, mk0]) (S' := [.int (1 : Int32), .int v12, .ref 2]) (h' := h2) rfl ?_
      refine Wp.callI (op_ix (by decide) ol_204 98 rfl) (act_virt (c2 := 2) rfl (lk1 (kS hs3 2 rfl)) rfl) rfl (K.mono ?_)
      rintro _ h7 ⟨x9, rfl, hs8, K⟩
      refine ⟨x9, rfl, ?_⟩
      refine Wp.blk (by decide) ol_204 99 6 (pc' := 185) (L' := [.ref 0, .ref 2, .ref 23, .ref 24, .ref 25, .int v5, .int v6, .int v7, .int v8, .int v9, .ref 26, .int v11, .int v12, mk0, mk0, mk0, mk0]) (S' := [.int (((((2 : Int32)) * v12)) + ((1 : Int32))), .ref 23, .int x9]) (h' := h7) rfl ?_
      obtain ⟨r10, K⟩ := K
      refine Wp.iald (op_ix (by decide) ol_204 105 rfl) (kS hs8 23 rfl) (inS hs8 23 rfl r10) rfl ?_
      refine Wp.blk (by decide) ol_204 106 1 (pc' := (if x9 = (AI h7 23 ((((((2 : Int32)) * v12)) + ((1 : Int32)))).toNatClampNeg) then 189 else 218)) (L' := [.ref 0, .ref 2, .ref 23, .ref 24, .ref 25, .int v5, .int v6, .int v7, .int v8, .int v9, .ref 26, .int v11, .int v12, mk0, mk0, mk0, mk0]) (S' := []) (h' := h7) rfl ?_
      refine Wp.br (fun c11 => ?_) (fun c11 => ?_)
      · replace K := K.1 c11
        refine Wp.blk (by decide) ol_204 107 3 (pc' := 193) (L' := [.ref 0, .ref 2, .ref 23, .ref 24, .ref 25, .int v5, .int v6, .int v7, .int v8, .int v9, .ref 26, .int v11, .int v12, mk0, mk0, mk0, mk0]) (S' := [.int (2 : Int32), .int v12, .ref 2]) (h' := h7) rfl ?_
        refine Wp.callI (op_ix (by decide) ol_204 110 rfl) (act_virt (c2 := 2) rfl (lk1 (kS hs8 2 rfl)) rfl) rfl (K.mono ?_)
        rintro _ h12 ⟨x14, rfl, hs13, K⟩
        refine ⟨x14, rfl, ?_⟩
        refine Wp.blk (by decide) ol_204 111 2 (pc' := 199) (L' := [.ref 0, .ref 2, .ref 23, .ref 24, .ref 25, .int v5, .int v6, .int v7, .int v8, .int v9, .ref 26, .int v11, .int v12, mk0, mk0, mk0, mk0]) (S' := [.int v12, .ref 24, .int x14]) (h' := h12) rfl ?_
        obtain ⟨r15, K⟩ := K
        refine Wp.iald (op_ix (by decide) ol_204 113 rfl) (kS hs13 24 rfl) (inS hs13 24 rfl r15) rfl ?_
        refine Wp.blk (by decide) ol_204 114 1 (pc' := (if x14 = (AI h12 24 v12.toNatClampNeg) then 203 else 218)) (L' := [.ref 0, .ref 2, .ref 23, .ref 24, .ref 25, .int v5, .int v6, .int v7, .int v8, .int v9, .ref 26, .int v11, .int v12, mk0, mk0, mk0, mk0]) (S' := []) (h' := h12) rfl ?_
        refine Wp.br (fun c16 => ?_) (fun c16 => ?_)
        · replace K := K.1 c16
          refine Wp.blk (by decide) ol_204 115 3 (pc' := 207) (L' := [.ref 0, .ref 2, .ref 23, .ref 24, .ref 25, .int v5, .int v6, .int v7, .int v8, .int v9, .ref 26, .int v11, .int v12, mk0, mk0, mk0, mk0]) (S' := [.int (3 : Int32), .int v12, .ref 2]) (h' := h12) rfl ?_
          refine Wp.callI (op_ix (by decide) ol_204 118 rfl) (act_virt (c2 := 2) rfl (lk1 (kS hs13 2 rfl)) rfl) rfl (K.mono ?_)
          rintro _ h17 ⟨x19, rfl, hs18, K⟩
          refine ⟨x19, rfl, ?_⟩
          refine Wp.blk (by decide) ol_204 119 2 (pc' := 214) (L' := [.ref 0, .ref 2, .ref 23, .ref 24, .ref 25, .int v5, .int v6, .int v7, .int v8, .int v9, .ref 26, .int v11, .int v12, mk0, mk0, mk0, mk0]) (S' := [.int v12, .ref 25, .int x19]) (h' := h17) rfl ?_
          obtain ⟨r20, K⟩ := K
          refine Wp.iald (op_ix (by decide) ol_204 121 rfl) (kS hs18 25 rfl) (inS hs18 25 rfl r20) rfl ?_
          refine Wp.blk (by decide) ol_204 122 1 (pc' := (if x19 = (AI h17 25 v12.toNatClampNeg) then 220 else 218)) (L' := [.ref 0, .ref 2, .ref 23, .ref 24, .ref 25, .int v5, .int v6, .int v7, .int v8, .int v9, .ref 26, .int v11, .int v12, mk0, mk0, mk0, mk0]) (S' := []) (h' := h17) rfl ?_
          refine Wp.br (fun c21 => ?_) (fun c21 => ?_)
          · replace K := K.1 c21
            refine Wp.blk (by decide) ol_204 125 2 (pc' := 148) (L' := [.ref 0, .ref 2, .ref 23, .ref 24, .ref 25, .int v5, .int v6, .int v7, .int v8, .int v9, .ref 26, .int v11, .int (v12 + (1 : Int32)), mk0, mk0, mk0, mk0]) (S' := []) (h' := h17) rfl ?_
            exact K
          · replace K := K.2 c21
            refine Wp.blk (by decide) ol_204 123 1 (pc' := 219) (L' := [.ref 0, .ref 2, .ref 23, .ref 24, .ref 25, .int v5, .int v6, .int v7, .int v8, .int v9, .ref 26, .int v11, .int v12, mk0, mk0, mk0, mk0]) (S' := [.int (0 : Int32)]) (h' := h17) rfl ?_
            exact Wp.ret (op_ix (by decide) ol_204 124 rfl) rfl K
        · replace K := K.2 c16
          refine Wp.blk (by decide) ol_204 123 1 (pc' := 219) (L' := [.ref 0, .ref 2, .ref 23, .ref 24, .ref 25, .int v5, .int v6, .int v7, .int v8, .int v9, .ref 26, .int v11, .int v12, mk0, mk0, mk0, mk0]) (S' := [.int (0 : Int32)]) (h' := h12) rfl ?_
          exact Wp.ret (op_ix (by decide) ol_204 124 rfl) rfl K
      · replace K := K.2 c11
        refine Wp.blk (by decide) ol_204 123 1 (pc' := 219) (L' := [.ref 0, .ref 2, .ref 23, .ref 24, .ref 25, .int v5, .int v6, .int v7, .int v8, .int v9, .ref 26, .int v11, .int v12, mk0, mk0, mk0, mk0]) (S' := [.int (0 : Int32)]) (h' := h7) rfl ?_
        exact Wp.ret (op_ix (by decide) ol_204 124 rfl) rfl K
    · replace K := K.2 c6
      refine Wp.blk (by decide) ol_204 123 1 (pc' := 219) (L' := [.ref 0, .ref 2, .ref 23, .ref 24, .ref 25, .int v5, .int v6, .int v7, .int v8, .int v9, .ref 26, .int v11, .int v12, mk0, mk0, mk0, mk0]) (S' := [.int (0 : Int32)]) (h' := h2) rfl ?_
      exact Wp.ret (op_ix (by decide) ol_204 124 rfl) rfl K
  · replace K := K.2 c1
    refine Wp.blk (by decide) ol_204 127 2 (pc' := 229) (L' := [.ref 0, .ref 2, .ref 23, .ref 24, .ref 25, .int v5, .int v6, .int v7, .int v8, .int v9, .ref 26, .int v11, .int (0 : Int32), mk0, mk0, mk0, mk0]) (S' := []) (h' := h) rfl ?_
    exact K
set_option maxRecDepth 4000 in
/-- CutsOrFastLaw.law at 229 -/
theorem g204_229 (d : Nat) (v5 : Int32) (v6 : Int32) (v7 : Int32) (v8 : Int32) (v9 : Int32) (v11 : Int32) (v12 : Int32) (h : AH) (HS : Sh h)  (Q : Option Value → AH → Prop) (K : ((v12 < (2 : Int32) → (Cl d 134 [.int v5, .ref 23, .ref 24, .int v12] h (fun r h2 => ∃ x4 : Int32, r = some (.int x4) ∧ Sh h2 ∧ Wp (d + 1) 204 255 [.ref 0, .ref 2, .ref 23, .ref 24, .ref 25, .int v5, .int v6, .int v7, .int v8, .int v9, .ref 26, .int v11, .int v12, .int x4, .int (-1 : Int32), .int (v5 - ((1 : Int32))), mk0] [] h2 Q))) ∧ (¬ v12 < (2 : Int32) → Wp (d + 1) 204 365 [.ref 0, .ref 2, .ref 23, .ref 24, .ref 25, .int v5, .int v6, .int v7, .int v8, .int v9, .ref 26, .int v11, .int (0 : Int32), mk0, mk0, mk0, mk0] [] h Q))) : Wp (d + 1) 204 229 [.ref 0, .ref 2, .ref 23, .ref 24, .ref 25, .int v5, .int v6, .int v7, .int v8, .int v9, .ref 26, .int v11, .int v12, mk0, mk0, mk0, mk0] [] h Q := by
  refine Wp.blk (by decide) ol_204 129 3 (pc' := (if v12 < (2 : Int32) then 235 else 362)) (L' := [.ref 0, .ref 2, .ref 23, .ref 24, .ref 25, .int v5, .int v6, .int v7, .int v8, .int v9, .ref 26, .int v11, .int v12, mk0, mk0, mk0, mk0]) (S' := []) (h' := h) rfl ?_
  refine Wp.br (fun c1 => ?_) (fun c1 => ?_)
  · replace K := K.1 c1
    refine Wp.blk (by decide) ol_204 132 4 (pc' := 241) (L' := [.ref 0, .ref 2, .ref 23, .ref 24, .ref 25, .int v5, .int v6, .int v7, .int v8, .int v9, .ref 26, .int v11, .int v12, mk0, mk0, mk0, mk0]) (S' := [.int v12, .ref 24, .ref 23, .int v5]) (h' := h) rfl ?_
    refine Wp.callI (op_ix (by decide) ol_204 136 rfl) rfl rfl (K.mono ?_)
    rintro _ h2 ⟨x4, rfl, hs3, K⟩
    refine ⟨x4, rfl, ?_⟩
    refine Wp.blk (by decide) ol_204 137 7 (pc' := 255) (L' := [.ref 0, .ref 2, .ref 23, .ref 24, .ref 25, .int v5, .int v6, .int v7, .int v8, .int v9, .ref 26, .int v11, .int v12, .int x4, .int (-1 : Int32), .int (v5 - ((1 : Int32))), mk0]) (S' := []) (h' := h2) rfl ?_
    exact K
  · replace K := K.2 c1
    refine Wp.blk (by decide) ol_204 199 2 (pc' := 365) (L' := [.ref 0, .ref 2, .ref 23, .ref 24, .ref 25, .int v5, .int v6, .int v7, .int v8, .int v9, .ref 26, .int v11, .int (0 : Int32), mk0, mk0, mk0, mk0]) (S' := []) (h' := h) rfl ?_
    exact K
set_option maxRecDepth 4000 in
/-- CutsOrFastLaw.law at 255 -/
theorem g204_255 (d : Nat) (v5 : Int32) (v6 : Int32) (v7 : Int32) (v8 : Int32) (v9 : Int32) (v11 : Int32) (v12 : Int32) (v13 : Int32) (v14 : Int32) (v15 : Int32) (h : AH) (HS : Sh h)  (Q : Option Value → AH → Prop) (K : ((v15 < (0 : Int32) → Wp (d + 1) 204 324 [.ref 0, .ref 2, .ref 23, .ref 24, .ref 25, .int v5, .int v6, .int v7, .int v8, .int v9, .ref 26, .int v11, .int v12, .int v13, .int v14, mk0, mk0] [] h Q) ∧ (¬ v15 < (0 : Int32) → ((v7 = (0 : Int32) → (ixR v15 12 ∧ (((AI h 24 v15.toNatClampNeg) = (0 : Int32) → (Cl d 134 [.int v5, .ref 23, .ref 24, .int (((1 : Int32)) - v12)] ((stI h 24 v15.toNatClampNeg ((((1 : Int32)) + v12)))) (fun r h5 => ∃ x7 : Int32, r = some (.int x7) ∧ Sh h5 ∧ ((v12 = (0 : Int32) → Wp (d + 1) 204 301 [.ref 0, .ref 2, .ref 23, .ref 24, .ref 25, .int v5, .int v6, .int v7, .int v8, .int v9, .ref 26, .int v11, .int v12, .int v13, .int v14, .int v15, mk0] [.int (1 : Int32), .int x7] h5 Q) ∧ (¬ v12 = (0 : Int32) → Wp (d + 1) 204 301 [.ref 0, .ref 2, .ref 23, .ref 24, .ref 25, .int v5, .int v6, .int v7, .int v8, .int v9, .ref 26, .int v11, .int v12, .int v13, .int v14, .int v15, mk0] [.int (0 : Int32), .int x7] h5 Q))))) ∧ (¬ (AI h 24 v15.toNatClampNeg) = (0 : Int32) → Wp (d + 1) 204 255 [.ref 0, .ref 2, .ref 23, .ref 24, .ref 25, .int v5, .int v6, .int v7, .int v8, .int v9, .ref 26, .int v11, .int v12, .int v13, .int v14, .int (v15 + (-1 : Int32)), mk0] [] h Q)))) ∧ (¬ v7 = (0 : Int32) → Wp (d + 1) 204 324 [.ref 0, .ref 2, .ref 23, .ref 24, .ref 25, .int v5, .int v6, .int v7, .int v8, .int v9, .ref 26, .int v11, .int v12, .int v13, .int v14, mk0, mk0] [] h Q))))) : Wp (d + 1) 204 255 [.ref 0, .ref 2, .ref 23, .ref 24, .ref 25, .int v5, .int v6, .int v7, .int v8, .int v9, .ref 26, .int v11, .int v12, .int v13, .int v14, .int v15, mk0] [] h Q := by
  refine Wp.blk (by decide) ol_204 144 2 (pc' := (if v15 < (0 : Int32) then 324 else 260)) (L' := [.ref 0, .ref 2, .ref 23, .ref 24, .ref 25, .int v5, .int v6, .int v7, .int v8, .int v9, .ref 26, .int v11, .int v12, .int v13, .int v14, .int v15, mk0]) (S' := []) (h' := h) rfl ?_
  refine Wp.br (fun c1 => ?_) (fun c1 => ?_)
  · replace K := K.1 c1
    refine Wp.forget (L := [.ref 0, .ref 2, .ref 23, .ref 24, .ref 25, .int v5, .int v6, .int v7, .int v8, .int v9, .ref 26, .int v11, .int v12, .int v13, .int v14, mk0, mk0]) (⟨Or.inr rfl, ⟨Or.inr rfl, ⟨Or.inr rfl, ⟨Or.inr rfl, ⟨Or.inr rfl, ⟨Or.inr rfl, ⟨Or.inr rfl, ⟨Or.inr rfl, ⟨Or.inr rfl, ⟨Or.inr rfl, ⟨Or.inr rfl, ⟨Or.inr rfl, ⟨Or.inr rfl, ⟨Or.inr rfl, ⟨Or.inr rfl, ⟨Or.inl rfl, ⟨Or.inr rfl, trivial⟩⟩⟩⟩⟩⟩⟩⟩⟩⟩⟩⟩⟩⟩⟩⟩⟩) ?_
    exact K
  · replace K := K.2 c1
    refine Wp.blk (by decide) ol_204 146 2 (pc' := (if v7 = (0 : Int32) then 265 else 324)) (L' := [.ref 0, .ref 2, .ref 23, .ref 24, .ref 25, .int v5, .int v6, .int v7, .int v8, .int v9, .ref 26, .int v11, .int v12, .int v13, .int v14, .int v15, mk0]) (S' := []) (h' := h) rfl ?_
    refine Wp.br (fun c2 => ?_) (fun c2 => ?_)
    · replace K := K.1 c2
      refine Wp.blk (by decide) ol_204 148 2 (pc' := 268) (L' := [.ref 0, .ref 2, .ref 23, .ref 24, .ref 25, .int v5, .int v6, .int v7, .int v8, .int v9, .ref 26, .int v11, .int v12, .int v13, .int v14, .int v15, mk0]) (S' := [.int v15, .ref 24]) (h' := h) rfl ?_
      obtain ⟨r3, K⟩ := K
      refine Wp.iald (op_ix (by decide) ol_204 150 rfl) (kS HS 24 rfl) (inS HS 24 rfl r3) rfl ?_
      refine Wp.blk (by decide) ol_204 151 1 (pc' := (if (AI h 24 v15.toNatClampNeg) = (0 : Int32) then 272 else 318)) (L' := [.ref 0, .ref 2, .ref 23, .ref 24, .ref 25, .int v5, .int v6, .int v7, .int v8, .int v9, .ref 26, .int v11, .int v12, .int v13, .int v14, .int v15, mk0]) (S' := []) (h' := h) rfl ?_
      refine Wp.br (fun c4 => ?_) (fun c4 => ?_)
      · replace K := K.1 c4
        refine Wp.blk (by decide) ol_204 152 5 (pc' := 279) (L' := [.ref 0, .ref 2, .ref 23, .ref 24, .ref 25, .int v5, .int v6, .int v7, .int v8, .int v9, .ref 26, .int v11, .int v12, .int v13, .int v14, .int v15, mk0]) (S' := [.int (((1 : Int32)) + v12), .int v15, .ref 24]) (h' := h) rfl ?_
        refine Wp.iast (op_ix (by decide) ol_204 157 rfl) (by decide) (kS HS 24 rfl) (inS HS 24 rfl r3) rfl ?_
        refine Wp.blk (by decide) ol_204 158 6 (pc' := 288) (L' := [.ref 0, .ref 2, .ref 23, .ref 24, .ref 25, .int v5, .int v6, .int v7, .int v8, .int v9, .ref 26, .int v11, .int v12, .int v13, .int v14, .int v15, mk0]) (S' := [.int (((1 : Int32)) - v12), .ref 24, .ref 23, .int v5]) (h' := (stI h 24 v15.toNatClampNeg ((((1 : Int32)) + v12)))) rfl ?_
        refine Wp.callI (op_ix (by decide) ol_204 164 rfl) rfl rfl (K.mono ?_)
        rintro _ h5 ⟨x7, rfl, hs6, K⟩
        refine ⟨x7, rfl, ?_⟩
        refine Wp.blk (by decide) ol_204 165 2 (pc' := (if v12 = (0 : Int32) then 296 else 300)) (L' := [.ref 0, .ref 2, .ref 23, .ref 24, .ref 25, .int v5, .int v6, .int v7, .int v8, .int v9, .ref 26, .int v11, .int v12, .int v13, .int v14, .int v15, mk0]) (S' := [.int x7]) (h' := h5) rfl ?_
        refine Wp.br (fun c8 => ?_) (fun c8 => ?_)
        · replace K := K.1 c8
          refine Wp.blk (by decide) ol_204 167 2 (pc' := 301) (L' := [.ref 0, .ref 2, .ref 23, .ref 24, .ref 25, .int v5, .int v6, .int v7, .int v8, .int v9, .ref 26, .int v11, .int v12, .int v13, .int v14, .int v15, mk0]) (S' := [.int (1 : Int32), .int x7]) (h' := h5) rfl ?_
          exact K
        · replace K := K.2 c8
          refine Wp.blk (by decide) ol_204 169 1 (pc' := 301) (L' := [.ref 0, .ref 2, .ref 23, .ref 24, .ref 25, .int v5, .int v6, .int v7, .int v8, .int v9, .ref 26, .int v11, .int v12, .int v13, .int v14, .int v15, mk0]) (S' := [.int (0 : Int32), .int x7]) (h' := h5) rfl ?_
          exact K
      · replace K := K.2 c4
        refine Wp.blk (by decide) ol_204 179 1 (pc' := 321) (L' := [.ref 0, .ref 2, .ref 23, .ref 24, .ref 25, .int v5, .int v6, .int v7, .int v8, .int v9, .ref 26, .int v11, .int v12, .int v13, .int v14, .int (v15 + (-1 : Int32)), mk0]) (S' := []) (h' := h) rfl ?_
        generalize (v15 + (-1 : Int32)) = yy9 at K ⊢
        refine Wp.blk (by decide) ol_204 180 1 (pc' := 255) (L' := [.ref 0, .ref 2, .ref 23, .ref 24, .ref 25, .int v5, .int v6, .int v7, .int v8, .int v9, .ref 26, .int v11, .int v12, .int v13, .int v14, .int yy9, mk0]) (S' := []) (h' := h) rfl ?_
        exact K
    · replace K := K.2 c2
      refine Wp.forget (L := [.ref 0, .ref 2, .ref 23, .ref 24, .ref 25, .int v5, .int v6, .int v7, .int v8, .int v9, .ref 26, .int v11, .int v12, .int v13, .int v14, mk0, mk0]) (⟨Or.inr rfl, ⟨Or.inr rfl, ⟨Or.inr rfl, ⟨Or.inr rfl, ⟨Or.inr rfl, ⟨Or.inr rfl, ⟨Or.inr rfl, ⟨Or.inr rfl, ⟨Or.inr rfl, ⟨Or.inr rfl, ⟨Or.inr rfl, ⟨Or.inr rfl, ⟨Or.inr rfl, ⟨Or.inr rfl, ⟨Or.inr rfl, ⟨Or.inl rfl, ⟨Or.inr rfl, trivial⟩⟩⟩⟩⟩⟩⟩⟩⟩⟩⟩⟩⟩⟩⟩⟩⟩) ?_
      exact K
set_option maxRecDepth 4000 in
/-- CutsOrFastLaw.law at 301 -/
theorem g204_301 (d : Nat) (v5 : Int32) (v6 : Int32) (v7 : Int32) (v8 : Int32) (v9 : Int32) (v11 : Int32) (v12 : Int32) (v13 : Int32) (v14 : Int32) (v15 : Int32) (s0 : Int32) (s1 : Int32) (h : AH) (HS : Sh h)  (Q : Option Value → AH → Prop) (K : ((s1 = s0 → (ixR v15 12 ∧ Wp d 204 255 [.ref 0, .ref 2, .ref 23, .ref 24, .ref 25, .int v5, .int v6, .int v7, .int v8, .int v9, .ref 26, .int v11, .int v12, .int v13, .int v15, .int (v15 + (-1 : Int32)), mk0] [] (stI h 24 v15.toNatClampNeg ((0 : Int32))) Q)) ∧ (¬ s1 = s0 → (ixR v15 12 ∧ Wp d 204 255 [.ref 0, .ref 2, .ref 23, .ref 24, .ref 25, .int v5, .int v6, .int v7, .int v8, .int v9, .ref 26, .int v11, .int v12, .int v13, .int v14, .int (v15 + (-1 : Int32)), mk0] [] (stI h 24 v15.toNatClampNeg ((0 : Int32))) Q)))) : Wp d 204 301 [.ref 0, .ref 2, .ref 23, .ref 24, .ref 25, .int v5, .int v6, .int v7, .int v8, .int v9, .ref 26, .int v11, .int v12, .int v13, .int v14, .int v15, mk0] [.int s0, .int s1] h Q := by
  refine Wp.blk (by decide) ol_204 170 1 (pc' := (if s1 = s0 then 304 else 309)) (L' := [.ref 0, .ref 2, .ref 23, .ref 24, .ref 25, .int v5, .int v6, .int v7, .int v8, .int v9, .ref 26, .int v11, .int v12, .int v13, .int v14, .int v15, mk0]) (S' := []) (h' := h) rfl ?_
  refine Wp.br (fun c1 => ?_) (fun c1 => ?_)
  · replace K := K.1 c1
    refine Wp.blk (by decide) ol_204 171 2 (pc' := 311) (L' := [.ref 0, .ref 2, .ref 23, .ref 24, .ref 25, .int v5, .int v6, .int v7, .int v8, .int v9, .ref 26, .int v11, .int v12, .int v13, .int v14, .int v15, mk0]) (S' := [.int v15]) (h' := h) rfl ?_
    refine Wp.blk (by decide) ol_204 174 4 (pc' := 317) (L' := [.ref 0, .ref 2, .ref 23, .ref 24, .ref 25, .int v5, .int v6, .int v7, .int v8, .int v9, .ref 26, .int v11, .int v12, .int v13, .int v15, .int v15, mk0]) (S' := [.int (0 : Int32), .int v15, .ref 24]) (h' := h) rfl ?_
    obtain ⟨r2, K⟩ := K
    refine Wp.iast (op_ix (by decide) ol_204 178 rfl) (by decide) (kS HS 24 rfl) (inS HS 24 rfl r2) rfl ?_
    refine Wp.blk (by decide) ol_204 179 1 (pc' := 321) (L' := [.ref 0, .ref 2, .ref 23, .ref 24, .ref 25, .int v5, .int v6, .int v7, .int v8, .int v9, .ref 26, .int v11, .int v12, .int v13, .int v15, .int (v15 + (-1 : Int32)), mk0]) (S' := []) (h' := (stI h 24 v15.toNatClampNeg ((0 : Int32)))) rfl ?_
    generalize (v15 + (-1 : Int32)) = yy3 at K ⊢
    refine Wp.blk (by decide) ol_204 180 1 (pc' := 255) (L' := [.ref 0, .ref 2, .ref 23, .ref 24, .ref 25, .int v5, .int v6, .int v7, .int v8, .int v9, .ref 26, .int v11, .int v12, .int v13, .int v15, .int yy3, mk0]) (S' := []) (h' := (stI h 24 v15.toNatClampNeg ((0 : Int32)))) rfl ?_
    exact K
  · replace K := K.2 c1
    refine Wp.blk (by decide) ol_204 173 5 (pc' := 317) (L' := [.ref 0, .ref 2, .ref 23, .ref 24, .ref 25, .int v5, .int v6, .int v7, .int v8, .int v9, .ref 26, .int v11, .int v12, .int v13, .int v14, .int v15, mk0]) (S' := [.int (0 : Int32), .int v15, .ref 24]) (h' := h) rfl ?_
    obtain ⟨r4, K⟩ := K
    refine Wp.iast (op_ix (by decide) ol_204 178 rfl) (by decide) (kS HS 24 rfl) (inS HS 24 rfl r4) rfl ?_
    refine Wp.blk (by decide) ol_204 179 1 (pc' := 321) (L' := [.ref 0, .ref 2, .ref 23, .ref 24, .ref 25, .int v5, .int v6, .int v7, .int v8, .int v9, .ref 26, .int v11, .int v12, .int v13, .int v14, .int (v15 + (-1 : Int32)), mk0]) (S' := []) (h' := (stI h 24 v15.toNatClampNeg ((0 : Int32)))) rfl ?_
    generalize (v15 + (-1 : Int32)) = yy5 at K ⊢
    refine Wp.blk (by decide) ol_204 180 1 (pc' := 255) (L' := [.ref 0, .ref 2, .ref 23, .ref 24, .ref 25, .int v5, .int v6, .int v7, .int v8, .int v9, .ref 26, .int v11, .int v12, .int v13, .int v14, .int yy5, mk0]) (S' := []) (h' := (stI h 24 v15.toNatClampNeg ((0 : Int32)))) rfl ?_
    exact K
set_option maxRecDepth 4000 in
/-- CutsOrFastLaw.law at 324 -/
theorem g204_324 (d : Nat) (v5 : Int32) (v6 : Int32) (v7 : Int32) (v8 : Int32) (v9 : Int32) (v11 : Int32) (v12 : Int32) (v13 : Int32) (v14 : Int32) (h : AH) (HS : Sh h)  (Q : Option Value → AH → Prop) (K : (Cl d 98 [.ref 2, .int v12] h (fun r h1 => ∃ x3 : Int32, r = some (.int x3) ∧ Sh h1 ∧ ((v13 = (0 : Int32) → ((x3 = (1 : Int32) → (Cl d 99 [.ref 2, .int v12] h1 (fun r h6 => ∃ x8 : Int32, r = some (.int x8) ∧ Sh h6 ∧ ((x8 = v14 → Wp (d + 1) 204 229 [.ref 0, .ref 2, .ref 23, .ref 24, .ref 25, .int v5, .int v6, .int v7, .int v8, .int v9, .ref 26, .int v11, .int (v12 + (1 : Int32)), mk0, mk0, mk0, mk0] [] h6 Q) ∧ (¬ x8 = v14 → Q (some (.int (0 : Int32))) h6))))) ∧ (¬ x3 = (1 : Int32) → Q (some (.int (0 : Int32))) h1))) ∧ (¬ v13 = (0 : Int32) → ((x3 = (0 : Int32) → (Cl d 99 [.ref 2, .int v12] h1 (fun r h11 => ∃ x13 : Int32, r = some (.int x13) ∧ Sh h11 ∧ ((x13 = v14 → Wp (d + 1) 204 229 [.ref 0, .ref 2, .ref 23, .ref 24, .ref 25, .int v5, .int v6, .int v7, .int v8, .int v9, .ref 26, .int v11, .int (v12 + (1 : Int32)), mk0, mk0, mk0, mk0] [] h11 Q) ∧ (¬ x13 = v14 → Q (some (.int (0 : Int32))) h11))))) ∧ (¬ x3 = (0 : Int32) → Q (some (.int (0 : Int32))) h1))))))) : Wp (d + 1) 204 324 [.ref 0, .ref 2, .ref 23, .ref 24, .ref 25, .int v5, .int v6, .int v7, .int v8, .int v9, .ref 26, .int v11, .int v12, .int v13, .int v14, mk0, mk0] [] h Q := by
  refine Wp.blk (by decide) ol_204 181 2 (pc' := 327) (L' := [.ref 0, .ref 2, .ref 23, .ref 24, .ref 25, .int v5, .int v6, .int v7, .int v8, .int v9, .ref 26, .int v11, .int v12, .int v13, .int v14, mk0, mk0]) (S' := [.int v12, .ref 2]) (h' := h) rfl ?_
  refine Wp.callI (op_ix (by decide) ol_204 183 rfl) (act_virt (c2 := 1) rfl (lk1 (kS HS 2 rfl)) rfl) rfl (K.mono ?_)
  rintro _ h1 ⟨x3, rfl, hs2, K⟩
  refine ⟨x3, rfl, ?_⟩
  refine Wp.blk (by decide) ol_204 184 2 (pc' := (if v13 = (0 : Int32) then 339 else 335)) (L' := [.ref 0, .ref 2, .ref 23, .ref 24, .ref 25, .int v5, .int v6, .int v7, .int v8, .int v9, .ref 26, .int v11, .int v12, .int v13, .int v14, mk0, mk0]) (S' := [.int x3]) (h' := h1) rfl ?_
  refine Wp.br (fun c4 => ?_) (fun c4 => ?_)
  · replace K := K.1 c4
    refine Wp.blk (by decide) ol_204 188 2 (pc' := (if x3 = (1 : Int32) then 343 else 354)) (L' := [.ref 0, .ref 2, .ref 23, .ref 24, .ref 25, .int v5, .int v6, .int v7, .int v8, .int v9, .ref 26, .int v11, .int v12, .int v13, .int v14, mk0, mk0]) (S' := []) (h' := h1) rfl ?_
    refine Wp.br (fun c5 => ?_) (fun c5 => ?_)
    · replace K := K.1 c5
      refine Wp.blk (by decide) ol_204 190 2 (pc' := 346) (L' := [.ref 0, .ref 2, .ref 23, .ref 24, .ref 25, .int v5, .int v6, .int v7, .int v8, .int v9, .ref 26, .int v11, .int v12, .int v13, .int v14, mk0, mk0]) (S' := [.int v12, .ref 2]) (h' := h1) rfl ?_
      refine Wp.callI (op_ix (by decide) ol_204 192 rfl) (act_virt (c2 := 1) rfl (lk1 (kS hs2 2 rfl)) rfl) rfl (K.mono ?_)
      rintro _ h6 ⟨x8, rfl, hs7, K⟩
      refine ⟨x8, rfl, ?_⟩
      refine Wp.blk (by decide) ol_204 193 2 (pc' := (if x8 = v14 then 356 else 354)) (L' := [.ref 0, .ref 2, .ref 23, .ref 24, .ref 25, .int v5, .int v6, .int v7, .int v8, .int v9, .ref 26, .int v11, .int v12, .int v13, .int v14, mk0, mk0]) (S' := []) (h' := h6) rfl ?_
      refine Wp.br (fun c9 => ?_) (fun c9 => ?_)
      · replace K := K.1 c9
        refine Wp.blk (by decide) ol_204 197 2 (pc' := 229) (L' := [.ref 0, .ref 2, .ref 23, .ref 24, .ref 25, .int v5, .int v6, .int v7, .int v8, .int v9, .ref 26, .int v11, .int (v12 + (1 : Int32)), .int v13, .int v14, mk0, mk0]) (S' := []) (h' := h6) rfl ?_
        refine Wp.forget (L := [.ref 0, .ref 2, .ref 23, .ref 24, .ref 25, .int v5, .int v6, .int v7, .int v8, .int v9, .ref 26, .int v11, .int (v12 + (1 : Int32)), mk0, mk0, mk0, mk0]) (⟨Or.inr rfl, ⟨Or.inr rfl, ⟨Or.inr rfl, ⟨Or.inr rfl, ⟨Or.inr rfl, ⟨Or.inr rfl, ⟨Or.inr rfl, ⟨Or.inr rfl, ⟨Or.inr rfl, ⟨Or.inr rfl, ⟨Or.inr rfl, ⟨Or.inr rfl, ⟨Or.inr rfl, ⟨Or.inl rfl, ⟨Or.inl rfl, ⟨Or.inr rfl, ⟨Or.inr rfl, trivial⟩⟩⟩⟩⟩⟩⟩⟩⟩⟩⟩⟩⟩⟩⟩⟩⟩) ?_
        exact K
      · replace K := K.2 c9
        refine Wp.blk (by decide) ol_204 195 1 (pc' := 355) (L' := [.ref 0, .ref 2, .ref 23, .ref 24, .ref 25, .int v5, .int v6, .int v7, .int v8, .int v9, .ref 26, .int v11, .int v12, .int v13, .int v14, mk0, mk0]) (S' := [.int (0 : Int32)]) (h' := h6) rfl ?_
        exact Wp.ret (op_ix (by decide) ol_204 196 rfl) rfl K
    · replace K := K.2 c5
      refine Wp.blk (by decide) ol_204 195 1 (pc' := 355) (L' := [.ref 0, .ref 2, .ref 23, .ref 24, .ref 25, .int v5, .int v6, .int v7, .int v8, .int v9, .ref 26, .int v11, .int v12, .int v13, .int v14, mk0, mk0]) (S' := [.int (0 : Int32)]) (h' := h1) rfl ?_
      exact Wp.ret (op_ix (by decide) ol_204 196 rfl) rfl K
  · replace K := K.2 c4
    refine Wp.blk (by decide) ol_204 186 2 (pc' := 340) (L' := [.ref 0, .ref 2, .ref 23, .ref 24, .ref 25, .int v5, .int v6, .int v7, .int v8, .int v9, .ref 26, .int v11, .int v12, .int v13, .int v14, mk0, mk0]) (S' := [.int (0 : Int32), .int x3]) (h' := h1) rfl ?_
    refine Wp.blk (by decide) ol_204 189 1 (pc' := (if x3 = (0 : Int32) then 343 else 354)) (L' := [.ref 0, .ref 2, .ref 23, .ref 24, .ref 25, .int v5, .int v6, .int v7, .int v8, .int v9, .ref 26, .int v11, .int v12, .int v13, .int v14, mk0, mk0]) (S' := []) (h' := h1) rfl ?_
    refine Wp.br (fun c10 => ?_) (fun c10 => ?_)
    · replace K := K.1 c10
      refine Wp.blk (by decide) ol_204 190 2 (pc' := 346) (L' := [.ref 0, .ref 2, .ref 23, .ref 24, .ref 25, .int v5, .int v6, .int v7, .int v8, .int v9, .ref 26, .int v11, .int v12, .int v13, .int v14, mk0, mk0]) (S' := [.int v12, .ref 2]) (h' := h1) rfl ?_
      refine Wp.callI (op_ix (by decide) ol_204 192 rfl) (act_virt (c2 := 1) rfl (lk1 (kS hs2 2 rfl)) rfl) rfl (K.mono ?_)
      rintro _ h11 ⟨x13, rfl, hs12, K⟩
      refine ⟨x13, rfl, ?_⟩
      refine Wp.blk (by decide) ol_204 193 2 (pc' := (if x13 = v14 then 356 else 354)) (L' := [.ref 0, .ref 2, .ref 23, .ref 24, .ref 25, .int v5, .int v6, .int v7, .int v8, .int v9, .ref 26, .int v11, .int v12, .int v13, .int v14, mk0, mk0]) (S' := []) (h' := h11) rfl ?_
      refine Wp.br (fun c14 => ?_) (fun c14 => ?_)
      · replace K := K.1 c14
        refine Wp.blk (by decide) ol_204 197 2 (pc' := 229) (L' := [.ref 0, .ref 2, .ref 23, .ref 24, .ref 25, .int v5, .int v6, .int v7, .int v8, .int v9, .ref 26, .int v11, .int (v12 + (1 : Int32)), .int v13, .int v14, mk0, mk0]) (S' := []) (h' := h11) rfl ?_
        refine Wp.forget (L := [.ref 0, .ref 2, .ref 23, .ref 24, .ref 25, .int v5, .int v6, .int v7, .int v8, .int v9, .ref 26, .int v11, .int (v12 + (1 : Int32)), mk0, mk0, mk0, mk0]) (⟨Or.inr rfl, ⟨Or.inr rfl, ⟨Or.inr rfl, ⟨Or.inr rfl, ⟨Or.inr rfl, ⟨Or.inr rfl, ⟨Or.inr rfl, ⟨Or.inr rfl, ⟨Or.inr rfl, ⟨Or.inr rfl, ⟨Or.inr rfl, ⟨Or.inr rfl, ⟨Or.inr rfl, ⟨Or.inl rfl, ⟨Or.inl rfl, ⟨Or.inr rfl, ⟨Or.inr rfl, trivial⟩⟩⟩⟩⟩⟩⟩⟩⟩⟩⟩⟩⟩⟩⟩⟩⟩) ?_
        exact K
      · replace K := K.2 c14
        refine Wp.blk (by decide) ol_204 195 1 (pc' := 355) (L' := [.ref 0, .ref 2, .ref 23, .ref 24, .ref 25, .int v5, .int v6, .int v7, .int v8, .int v9, .ref 26, .int v11, .int v12, .int v13, .int v14, mk0, mk0]) (S' := [.int (0 : Int32)]) (h' := h11) rfl ?_
        exact Wp.ret (op_ix (by decide) ol_204 196 rfl) rfl K
    · replace K := K.2 c10
      refine Wp.blk (by decide) ol_204 195 1 (pc' := 355) (L' := [.ref 0, .ref 2, .ref 23, .ref 24, .ref 25, .int v5, .int v6, .int v7, .int v8, .int v9, .ref 26, .int v11, .int v12, .int v13, .int v14, mk0, mk0]) (S' := [.int (0 : Int32)]) (h' := h1) rfl ?_
      exact Wp.ret (op_ix (by decide) ol_204 196 rfl) rfl K
set_option maxRecDepth 4000 in
/-- CutsOrFastLaw.law at 365 -/
theorem g204_365 (d : Nat) (v5 : Int32) (v6 : Int32) (v7 : Int32) (v8 : Int32) (v9 : Int32) (v11 : Int32) (v12 : Int32) (h : AH) (HS : Sh h)  (Q : Option Value → AH → Prop) (K : ((v12 < v5 → ((v7 = (0 : Int32) → (ixR v12 12 ∧ (((AI h 24 v12.toNatClampNeg) = (0 : Int32) → Wp (d + 1) 204 402 [.ref 0, .ref 2, .ref 23, .ref 24, .ref 25, .int v5, .int v6, .int v7, .int v8, .int v9, .ref 26, .int v11, .int v12, .int (-1 : Int32), .int (v5 - ((1 : Int32))), mk0, mk0] [] (stI h 24 v12.toNatClampNeg ((2 : Int32))) Q) ∧ (¬ (AI h 24 v12.toNatClampNeg) = (0 : Int32) → (Cl d 100 [.ref 2, .int v12] h (fun r h5 => ∃ x7 : Int32, r = some (.int x7) ∧ Sh h5 ∧ ((x7 = (-103 : Int32) → Wp (d + 1) 204 365 [.ref 0, .ref 2, .ref 23, .ref 24, .ref 25, .int v5, .int v6, .int v7, .int v8, .int v9, .ref 26, .int v11, .int (v12 + (1 : Int32)), mk0, mk0, mk0, mk0] [] h5 Q) ∧ (¬ x7 = (-103 : Int32) → Q (some (.int (0 : Int32))) h5)))))))) ∧ (¬ v7 = (0 : Int32) → (Cl d 100 [.ref 2, .int v12] h (fun r h9 => ∃ x11 : Int32, r = some (.int x11) ∧ Sh h9 ∧ ((x11 = (-103 : Int32) → Wp (d + 1) 204 365 [.ref 0, .ref 2, .ref 23, .ref 24, .ref 25, .int v5, .int v6, .int v7, .int v8, .int v9, .ref 26, .int v11, .int (v12 + (1 : Int32)), mk0, mk0, mk0, mk0] [] h9 Q) ∧ (¬ x11 = (-103 : Int32) → Q (some (.int (0 : Int32))) h9))))))) ∧ (¬ v12 < v5 → (Cl d 128 [.ref 0, .int (((6 : Int32)) + v11)] h (fun r h13 => ∃ x15 : Int32, r = some (.int x15) ∧ Sh h13 ∧ ((¬ v5 = 0) ∧ ((((x15 / (8 : Int32)) - (x15 / (8 : Int32)) / (5 : Int32) * (5 : Int32)) = (0 : Int32) → (Cl d 97 [.ref 2] h13 (fun r h18 => ∃ x20 : Int32, r = some (.int x20) ∧ Sh h18 ∧ (((0 : Int32) < v8 → Wp (d + 1) 204 530 [.ref 0, .ref 2, .ref 23, .ref 24, .ref 25, .int v5, .int v6, mk0, .int v8, .int v9, .ref 26, .int v11, mk0, mk0, mk0, mk0, mk0] [.int (v8 - ((1 : Int32))), .int x20] h18 Q) ∧ (¬ (0 : Int32) < v8 → Wp (d + 1) 204 530 [.ref 0, .ref 2, .ref 23, .ref 24, .ref 25, .int v5, .int v6, mk0, .int v8, .int v9, .ref 26, .int v11, mk0, mk0, mk0, mk0, mk0] [.int (-103 : Int32), .int x20] h18 Q))))) ∧ (¬ ((x15 / (8 : Int32)) - (x15 / (8 : Int32)) / (5 : Int32) * (5 : Int32)) = (0 : Int32) → ((v7 = (0 : Int32) → (ixR ((x15 - x15 / v5 * v5)) 12 ∧ (((AI h13 24 ((x15 - x15 / v5 * v5)).toNatClampNeg) = (0 : Int32) → Wp (d + 1) 204 592 [.ref 0, .ref 2, .ref 23, .ref 24, .ref 25, .int v5, .int v6, mk0, .int v8, .int v9, .ref 26, .int v11, mk0, .int (x15 - x15 / v5 * v5), mk0, mk0, mk0] [.int (1 : Int32)] h13 Q) ∧ (¬ (AI h13 24 ((x15 - x15 / v5 * v5)).toNatClampNeg) = (0 : Int32) → Wp (d + 1) 204 592 [.ref 0, .ref 2, .ref 23, .ref 24, .ref 25, .int v5, .int v6, mk0, .int v8, .int v9, .ref 26, .int v11, mk0, .int (x15 - x15 / v5 * v5), mk0, mk0, mk0] [.int (0 : Int32)] h13 Q)))) ∧ (¬ v7 = (0 : Int32) → Wp (d + 1) 204 592 [.ref 0, .ref 2, .ref 23, .ref 24, .ref 25, .int v5, .int v6, mk0, .int v8, .int v9, .ref 26, .int v11, mk0, .int (x15 - x15 / v5 * v5), mk0, mk0, mk0] [.int (0 : Int32)] h13 Q)))))))))) : Wp (d + 1) 204 365 [.ref 0, .ref 2, .ref 23, .ref 24, .ref 25, .int v5, .int v6, .int v7, .int v8, .int v9, .ref 26, .int v11, .int v12, mk0, mk0, mk0, mk0] [] h Q := by
  refine Wp.blk (by decide) ol_204 201 3 (pc' := (if v12 < v5 then 372 else 484)) (L' := [.ref 0, .ref 2, .ref 23, .ref 24, .ref 25, .int v5, .int v6, .int v7, .int v8, .int v9, .ref 26, .int v11, .int v12, mk0, mk0, mk0, mk0]) (S' := []) (h' := h) rfl ?_
  refine Wp.br (fun c1 => ?_) (fun c1 => ?_)
  · replace K := K.1 c1
    refine Wp.blk (by decide) ol_204 204 4 (pc' := (if v7 = (0 : Int32) then 381 else 465)) (L' := [.ref 0, .ref 2, .ref 23, .ref 24, .ref 25, .int v5, .int v6, .int v7, .int v8, .int v9, .ref 26, .int v11, .int v12, .int (-103 : Int32), mk0, mk0, mk0]) (S' := []) (h' := h) rfl ?_
    refine Wp.br (fun c2 => ?_) (fun c2 => ?_)
    · replace K := K.1 c2
      refine Wp.blk (by decide) ol_204 208 2 (pc' := 384) (L' := [.ref 0, .ref 2, .ref 23, .ref 24, .ref 25, .int v5, .int v6, .int v7, .int v8, .int v9, .ref 26, .int v11, .int v12, .int (-103 : Int32), mk0, mk0, mk0]) (S' := [.int v12, .ref 24]) (h' := h) rfl ?_
      obtain ⟨r3, K⟩ := K
      refine Wp.iald (op_ix (by decide) ol_204 210 rfl) (kS HS 24 rfl) (inS HS 24 rfl r3) rfl ?_
      refine Wp.blk (by decide) ol_204 211 1 (pc' := (if (AI h 24 v12.toNatClampNeg) = (0 : Int32) then 388 else 465)) (L' := [.ref 0, .ref 2, .ref 23, .ref 24, .ref 25, .int v5, .int v6, .int v7, .int v8, .int v9, .ref 26, .int v11, .int v12, .int (-103 : Int32), mk0, mk0, mk0]) (S' := []) (h' := h) rfl ?_
      refine Wp.br (fun c4 => ?_) (fun c4 => ?_)
      · replace K := K.1 c4
        refine Wp.blk (by decide) ol_204 212 5 (pc' := 395) (L' := [.ref 0, .ref 2, .ref 23, .ref 24, .ref 25, .int v5, .int v6, .int v7, .int v8, .int v9, .ref 26, .int v11, .int v12, .int (-1 : Int32), mk0, mk0, mk0]) (S' := [.int (2 : Int32), .int v12, .ref 24]) (h' := h) rfl ?_
        refine Wp.iast (op_ix (by decide) ol_204 217 rfl) (by decide) (kS HS 24 rfl) (inS HS 24 rfl r3) rfl ?_
        refine Wp.blk (by decide) ol_204 218 4 (pc' := 402) (L' := [.ref 0, .ref 2, .ref 23, .ref 24, .ref 25, .int v5, .int v6, .int v7, .int v8, .int v9, .ref 26, .int v11, .int v12, .int (-1 : Int32), .int (v5 - ((1 : Int32))), mk0, mk0]) (S' := []) (h' := (stI h 24 v12.toNatClampNeg ((2 : Int32)))) rfl ?_
        exact K
      · replace K := K.2 c4
        refine Wp.blk (by decide) ol_204 257 2 (pc' := 468) (L' := [.ref 0, .ref 2, .ref 23, .ref 24, .ref 25, .int v5, .int v6, .int v7, .int v8, .int v9, .ref 26, .int v11, .int v12, .int (-103 : Int32), mk0, mk0, mk0]) (S' := [.int v12, .ref 2]) (h' := h) rfl ?_
        refine Wp.callI (op_ix (by decide) ol_204 259 rfl) (act_virt (c2 := 1) rfl (lk1 (kS HS 2 rfl)) rfl) rfl (K.mono ?_)
        rintro _ h5 ⟨x7, rfl, hs6, K⟩
        refine ⟨x7, rfl, ?_⟩
        refine Wp.blk (by decide) ol_204 260 2 (pc' := (if x7 = (-103 : Int32) then 478 else 476)) (L' := [.ref 0, .ref 2, .ref 23, .ref 24, .ref 25, .int v5, .int v6, .int v7, .int v8, .int v9, .ref 26, .int v11, .int v12, .int (-103 : Int32), mk0, mk0, mk0]) (S' := []) (h' := h5) rfl ?_
        refine Wp.br (fun c8 => ?_) (fun c8 => ?_)
        · replace K := K.1 c8
          refine Wp.blk (by decide) ol_204 264 2 (pc' := 365) (L' := [.ref 0, .ref 2, .ref 23, .ref 24, .ref 25, .int v5, .int v6, .int v7, .int v8, .int v9, .ref 26, .int v11, .int (v12 + (1 : Int32)), .int (-103 : Int32), mk0, mk0, mk0]) (S' := []) (h' := h5) rfl ?_
          refine Wp.forget (L := [.ref 0, .ref 2, .ref 23, .ref 24, .ref 25, .int v5, .int v6, .int v7, .int v8, .int v9, .ref 26, .int v11, .int (v12 + (1 : Int32)), mk0, mk0, mk0, mk0]) (⟨Or.inr rfl, ⟨Or.inr rfl, ⟨Or.inr rfl, ⟨Or.inr rfl, ⟨Or.inr rfl, ⟨Or.inr rfl, ⟨Or.inr rfl, ⟨Or.inr rfl, ⟨Or.inr rfl, ⟨Or.inr rfl, ⟨Or.inr rfl, ⟨Or.inr rfl, ⟨Or.inr rfl, ⟨Or.inl rfl, ⟨Or.inr rfl, ⟨Or.inr rfl, ⟨Or.inr rfl, trivial⟩⟩⟩⟩⟩⟩⟩⟩⟩⟩⟩⟩⟩⟩⟩⟩⟩) ?_
          exact K
        · replace K := K.2 c8
          refine Wp.blk (by decide) ol_204 262 1 (pc' := 477) (L' := [.ref 0, .ref 2, .ref 23, .ref 24, .ref 25, .int v5, .int v6, .int v7, .int v8, .int v9, .ref 26, .int v11, .int v12, .int (-103 : Int32), mk0, mk0, mk0]) (S' := [.int (0 : Int32)]) (h' := h5) rfl ?_
          exact Wp.ret (op_ix (by decide) ol_204 263 rfl) rfl K
    · replace K := K.2 c2
      refine Wp.blk (by decide) ol_204 257 2 (pc' := 468) (L' := [.ref 0, .ref 2, .ref 23, .ref 24, .ref 25, .int v5, .int v6, .int v7, .int v8, .int v9, .ref 26, .int v11, .int v12, .int (-103 : Int32), mk0, mk0, mk0]) (S' := [.int v12, .ref 2]) (h' := h) rfl ?_
      refine Wp.callI (op_ix (by decide) ol_204 259 rfl) (act_virt (c2 := 1) rfl (lk1 (kS HS 2 rfl)) rfl) rfl (K.mono ?_)
      rintro _ h9 ⟨x11, rfl, hs10, K⟩
      refine ⟨x11, rfl, ?_⟩
      refine Wp.blk (by decide) ol_204 260 2 (pc' := (if x11 = (-103 : Int32) then 478 else 476)) (L' := [.ref 0, .ref 2, .ref 23, .ref 24, .ref 25, .int v5, .int v6, .int v7, .int v8, .int v9, .ref 26, .int v11, .int v12, .int (-103 : Int32), mk0, mk0, mk0]) (S' := []) (h' := h9) rfl ?_
      refine Wp.br (fun c12 => ?_) (fun c12 => ?_)
      · replace K := K.1 c12
        refine Wp.blk (by decide) ol_204 264 2 (pc' := 365) (L' := [.ref 0, .ref 2, .ref 23, .ref 24, .ref 25, .int v5, .int v6, .int v7, .int v8, .int v9, .ref 26, .int v11, .int (v12 + (1 : Int32)), .int (-103 : Int32), mk0, mk0, mk0]) (S' := []) (h' := h9) rfl ?_
        refine Wp.forget (L := [.ref 0, .ref 2, .ref 23, .ref 24, .ref 25, .int v5, .int v6, .int v7, .int v8, .int v9, .ref 26, .int v11, .int (v12 + (1 : Int32)), mk0, mk0, mk0, mk0]) (⟨Or.inr rfl, ⟨Or.inr rfl, ⟨Or.inr rfl, ⟨Or.inr rfl, ⟨Or.inr rfl, ⟨Or.inr rfl, ⟨Or.inr rfl, ⟨Or.inr rfl, ⟨Or.inr rfl, ⟨Or.inr rfl, ⟨Or.inr rfl, ⟨Or.inr rfl, ⟨Or.inr rfl, ⟨Or.inl rfl, ⟨Or.inr rfl, ⟨Or.inr rfl, ⟨Or.inr rfl, trivial⟩⟩⟩⟩⟩⟩⟩⟩⟩⟩⟩⟩⟩⟩⟩⟩⟩) ?_
        exact K
      · replace K := K.2 c12
        refine Wp.blk (by decide) ol_204 262 1 (pc' := 477) (L' := [.ref 0, .ref 2, .ref 23, .ref 24, .ref 25, .int v5, .int v6, .int v7, .int v8, .int v9, .ref 26, .int v11, .int v12, .int (-103 : Int32), mk0, mk0, mk0]) (S' := [.int (0 : Int32)]) (h' := h9) rfl ?_
        exact Wp.ret (op_ix (by decide) ol_204 263 rfl) rfl K
  · replace K := K.2 c1
    refine Wp.blk (by decide) ol_204 266 4 (pc' := 490) (L' := [.ref 0, .ref 2, .ref 23, .ref 24, .ref 25, .int v5, .int v6, .int v7, .int v8, .int v9, .ref 26, .int v11, .int v12, mk0, mk0, mk0, mk0]) (S' := [.int (((6 : Int32)) + v11), .ref 0]) (h' := h) rfl ?_
    refine Wp.callI (op_ix (by decide) ol_204 270 rfl) rfl rfl (K.mono ?_)
    rintro _ h13 ⟨x15, rfl, hs14, K⟩
    refine ⟨x15, rfl, ?_⟩
    refine Wp.blk (by decide) ol_204 271 3 (pc' := 499) (L' := [.ref 0, .ref 2, .ref 23, .ref 24, .ref 25, .int v5, .int v6, .int v7, .int v8, .int v9, .ref 26, .int v11, .int x15, mk0, mk0, mk0, mk0]) (S' := [.int v5, .int x15]) (h' := h13) rfl ?_
    obtain ⟨z16, K⟩ := K
    refine Wp.rem (op_ix (by decide) ol_204 274 rfl) z16 rfl ?_
    refine Wp.blk (by decide) ol_204 275 7 (pc' := (if ((x15 / (8 : Int32)) - (x15 / (8 : Int32)) / (5 : Int32) * (5 : Int32)) = (0 : Int32) then 512 else 575)) (L' := [.ref 0, .ref 2, .ref 23, .ref 24, .ref 25, .int v5, .int v6, .int v7, .int v8, .int v9, .ref 26, .int v11, .int x15, .int (x15 - x15 / v5 * v5), mk0, mk0, mk0]) (S' := []) (h' := h13) rfl ?_
    refine Wp.br (fun c17 => ?_) (fun c17 => ?_)
    · replace K := K.1 c17
      refine Wp.blk (by decide) ol_204 282 1 (pc' := 513) (L' := [.ref 0, .ref 2, .ref 23, .ref 24, .ref 25, .int v5, .int v6, .int v7, .int v8, .int v9, .ref 26, .int v11, .int x15, .int (x15 - x15 / v5 * v5), mk0, mk0, mk0]) (S' := [.ref 2]) (h' := h13) rfl ?_
      refine Wp.callI (op_ix (by decide) ol_204 283 rfl) (act_virt (c2 := 0) rfl (lk1 (kS hs14 2 rfl)) rfl) rfl (K.mono ?_)
      rintro _ h18 ⟨x20, rfl, hs19, K⟩
      refine ⟨x20, rfl, ?_⟩
      refine Wp.blk (by decide) ol_204 284 2 (pc' := (if (0 : Int32) < v8 then 521 else 528)) (L' := [.ref 0, .ref 2, .ref 23, .ref 24, .ref 25, .int v5, .int v6, .int v7, .int v8, .int v9, .ref 26, .int v11, .int x15, .int (x15 - x15 / v5 * v5), mk0, mk0, mk0]) (S' := [.int x20]) (h' := h18) rfl ?_
      refine Wp.br (fun c21 => ?_) (fun c21 => ?_)
      · replace K := K.1 c21
        refine Wp.blk (by decide) ol_204 286 4 (pc' := 530) (L' := [.ref 0, .ref 2, .ref 23, .ref 24, .ref 25, .int v5, .int v6, .int v7, .int v8, .int v9, .ref 26, .int v11, .int x15, .int (x15 - x15 / v5 * v5), mk0, mk0, mk0]) (S' := [.int (v8 - ((1 : Int32))), .int x20]) (h' := h18) rfl ?_
        refine Wp.forget (L := [.ref 0, .ref 2, .ref 23, .ref 24, .ref 25, .int v5, .int v6, mk0, .int v8, .int v9, .ref 26, .int v11, mk0, mk0, mk0, mk0, mk0]) (⟨Or.inr rfl, ⟨Or.inr rfl, ⟨Or.inr rfl, ⟨Or.inr rfl, ⟨Or.inr rfl, ⟨Or.inr rfl, ⟨Or.inr rfl, ⟨Or.inl rfl, ⟨Or.inr rfl, ⟨Or.inr rfl, ⟨Or.inr rfl, ⟨Or.inr rfl, ⟨Or.inl rfl, ⟨Or.inl rfl, ⟨Or.inr rfl, ⟨Or.inr rfl, ⟨Or.inr rfl, trivial⟩⟩⟩⟩⟩⟩⟩⟩⟩⟩⟩⟩⟩⟩⟩⟩⟩) ?_
        exact K
      · replace K := K.2 c21
        refine Wp.blk (by decide) ol_204 290 1 (pc' := 530) (L' := [.ref 0, .ref 2, .ref 23, .ref 24, .ref 25, .int v5, .int v6, .int v7, .int v8, .int v9, .ref 26, .int v11, .int x15, .int (x15 - x15 / v5 * v5), mk0, mk0, mk0]) (S' := [.int (-103 : Int32), .int x20]) (h' := h18) rfl ?_
        refine Wp.forget (L := [.ref 0, .ref 2, .ref 23, .ref 24, .ref 25, .int v5, .int v6, mk0, .int v8, .int v9, .ref 26, .int v11, mk0, mk0, mk0, mk0, mk0]) (⟨Or.inr rfl, ⟨Or.inr rfl, ⟨Or.inr rfl, ⟨Or.inr rfl, ⟨Or.inr rfl, ⟨Or.inr rfl, ⟨Or.inr rfl, ⟨Or.inl rfl, ⟨Or.inr rfl, ⟨Or.inr rfl, ⟨Or.inr rfl, ⟨Or.inr rfl, ⟨Or.inl rfl, ⟨Or.inl rfl, ⟨Or.inr rfl, ⟨Or.inr rfl, ⟨Or.inr rfl, trivial⟩⟩⟩⟩⟩⟩⟩⟩⟩⟩⟩⟩⟩⟩⟩⟩⟩) ?_
        exact K
    · replace K := K.2 c17
      refine Wp.blk (by decide) ol_204 315 2 (pc' := (if v7 = (0 : Int32) then 580 else 591)) (L' := [.ref 0, .ref 2, .ref 23, .ref 24, .ref 25, .int v5, .int v6, .int v7, .int v8, .int v9, .ref 26, .int v11, .int x15, .int (x15 - x15 / v5 * v5), mk0, mk0, mk0]) (S' := []) (h' := h13) rfl ?_
      refine Wp.br (fun c22 => ?_) (fun c22 => ?_)
      · replace K := K.1 c22
        refine Wp.blk (by decide) ol_204 317 2 (pc' := 583) (L' := [.ref 0, .ref 2, .ref 23, .ref 24, .ref 25, .int v5, .int v6, .int v7, .int v8, .int v9, .ref 26, .int v11, .int x15, .int (x15 - x15 / v5 * v5), mk0, mk0, mk0]) (S' := [.int (x15 - x15 / v5 * v5), .ref 24]) (h' := h13) rfl ?_
        obtain ⟨r23, K⟩ := K
        refine Wp.iald (op_ix (by decide) ol_204 319 rfl) (kS hs14 24 rfl) (inS hs14 24 rfl r23) rfl ?_
        refine Wp.blk (by decide) ol_204 320 1 (pc' := (if (AI h13 24 ((x15 - x15 / v5 * v5)).toNatClampNeg) = (0 : Int32) then 587 else 591)) (L' := [.ref 0, .ref 2, .ref 23, .ref 24, .ref 25, .int v5, .int v6, .int v7, .int v8, .int v9, .ref 26, .int v11, .int x15, .int (x15 - x15 / v5 * v5), mk0, mk0, mk0]) (S' := []) (h' := h13) rfl ?_
        refine Wp.br (fun c24 => ?_) (fun c24 => ?_)
        · replace K := K.1 c24
          refine Wp.blk (by decide) ol_204 321 2 (pc' := 592) (L' := [.ref 0, .ref 2, .ref 23, .ref 24, .ref 25, .int v5, .int v6, .int v7, .int v8, .int v9, .ref 26, .int v11, .int x15, .int (x15 - x15 / v5 * v5), mk0, mk0, mk0]) (S' := [.int (1 : Int32)]) (h' := h13) rfl ?_
          refine Wp.forget (L := [.ref 0, .ref 2, .ref 23, .ref 24, .ref 25, .int v5, .int v6, mk0, .int v8, .int v9, .ref 26, .int v11, mk0, .int (x15 - x15 / v5 * v5), mk0, mk0, mk0]) (⟨Or.inr rfl, ⟨Or.inr rfl, ⟨Or.inr rfl, ⟨Or.inr rfl, ⟨Or.inr rfl, ⟨Or.inr rfl, ⟨Or.inr rfl, ⟨Or.inl rfl, ⟨Or.inr rfl, ⟨Or.inr rfl, ⟨Or.inr rfl, ⟨Or.inr rfl, ⟨Or.inl rfl, ⟨Or.inr rfl, ⟨Or.inr rfl, ⟨Or.inr rfl, ⟨Or.inr rfl, trivial⟩⟩⟩⟩⟩⟩⟩⟩⟩⟩⟩⟩⟩⟩⟩⟩⟩) ?_
          exact K
        · replace K := K.2 c24
          refine Wp.blk (by decide) ol_204 323 1 (pc' := 592) (L' := [.ref 0, .ref 2, .ref 23, .ref 24, .ref 25, .int v5, .int v6, .int v7, .int v8, .int v9, .ref 26, .int v11, .int x15, .int (x15 - x15 / v5 * v5), mk0, mk0, mk0]) (S' := [.int (0 : Int32)]) (h' := h13) rfl ?_
          refine Wp.forget (L := [.ref 0, .ref 2, .ref 23, .ref 24, .ref 25, .int v5, .int v6, mk0, .int v8, .int v9, .ref 26, .int v11, mk0, .int (x15 - x15 / v5 * v5), mk0, mk0, mk0]) (⟨Or.inr rfl, ⟨Or.inr rfl, ⟨Or.inr rfl, ⟨Or.inr rfl, ⟨Or.inr rfl, ⟨Or.inr rfl, ⟨Or.inr rfl, ⟨Or.inl rfl, ⟨Or.inr rfl, ⟨Or.inr rfl, ⟨Or.inr rfl, ⟨Or.inr rfl, ⟨Or.inl rfl, ⟨Or.inr rfl, ⟨Or.inr rfl, ⟨Or.inr rfl, ⟨Or.inr rfl, trivial⟩⟩⟩⟩⟩⟩⟩⟩⟩⟩⟩⟩⟩⟩⟩⟩⟩) ?_
          exact K
      · replace K := K.2 c22
        refine Wp.blk (by decide) ol_204 323 1 (pc' := 592) (L' := [.ref 0, .ref 2, .ref 23, .ref 24, .ref 25, .int v5, .int v6, .int v7, .int v8, .int v9, .ref 26, .int v11, .int x15, .int (x15 - x15 / v5 * v5), mk0, mk0, mk0]) (S' := [.int (0 : Int32)]) (h' := h13) rfl ?_
        refine Wp.forget (L := [.ref 0, .ref 2, .ref 23, .ref 24, .ref 25, .int v5, .int v6, mk0, .int v8, .int v9, .ref 26, .int v11, mk0, .int (x15 - x15 / v5 * v5), mk0, mk0, mk0]) (⟨Or.inr rfl, ⟨Or.inr rfl, ⟨Or.inr rfl, ⟨Or.inr rfl, ⟨Or.inr rfl, ⟨Or.inr rfl, ⟨Or.inr rfl, ⟨Or.inl rfl, ⟨Or.inr rfl, ⟨Or.inr rfl, ⟨Or.inr rfl, ⟨Or.inr rfl, ⟨Or.inl rfl, ⟨Or.inr rfl, ⟨Or.inr rfl, ⟨Or.inr rfl, ⟨Or.inr rfl, trivial⟩⟩⟩⟩⟩⟩⟩⟩⟩⟩⟩⟩⟩⟩⟩⟩⟩) ?_
        exact K
set_option maxRecDepth 4000 in
/-- CutsOrFastLaw.law at 402 -/
theorem g204_402 (d : Nat) (v5 : Int32) (v6 : Int32) (v7 : Int32) (v8 : Int32) (v9 : Int32) (v11 : Int32) (v12 : Int32) (v13 : Int32) (v14 : Int32) (h : AH) (HS : Sh h)  (Q : Option Value → AH → Prop) (K : ((v14 < (0 : Int32) → (ixR v12 12 ∧ (Cl d 100 [.ref 2, .int v12] ((stI h 24 v12.toNatClampNeg ((0 : Int32)))) (fun r h3 => ∃ x5 : Int32, r = some (.int x5) ∧ Sh h3 ∧ ((x5 = v13 → Wp (d + 1) 204 365 [.ref 0, .ref 2, .ref 23, .ref 24, .ref 25, .int v5, .int v6, .int v7, .int v8, .int v9, .ref 26, .int v11, .int (v12 + (1 : Int32)), mk0, mk0, mk0, mk0] [] h3 Q) ∧ (¬ x5 = v13 → Q (some (.int (0 : Int32))) h3)))))) ∧ (¬ v14 < (0 : Int32) → (Cl d 132 [.int v5, .ref 23, .ref 24] h (fun r h7 => ∃ x9 : Int32, r = some (.int x9) ∧ Sh h7 ∧ ((x9 = (0 : Int32) → (ixR v14 12 ∧ (((AI h7 24 v14.toNatClampNeg) = (0 : Int32) → (Cl d 134 [.int v5, .ref 23, .ref 24, .int (1 : Int32)] ((stI h7 24 v14.toNatClampNeg ((1 : Int32)))) (fun r h13 => ∃ x15 : Int32, r = some (.int x15) ∧ Sh h13 ∧ ((x15 = (0 : Int32) → (ixR v14 12 ∧ Wp (d + 1) 204 402 [.ref 0, .ref 2, .ref 23, .ref 24, .ref 25, .int v5, .int v6, .int v7, .int v8, .int v9, .ref 26, .int v11, .int v12, .int v13, .int (v14 + (-1 : Int32)), mk0, mk0] [] (stI h13 24 v14.toNatClampNeg ((0 : Int32))) Q)) ∧ (¬ x15 = (0 : Int32) → (ixR v14 12 ∧ Wp (d + 1) 204 402 [.ref 0, .ref 2, .ref 23, .ref 24, .ref 25, .int v5, .int v6, .int v7, .int v8, .int v9, .ref 26, .int v11, .int v12, .int v14, .int (v14 + (-1 : Int32)), mk0, mk0] [] (stI h13 24 v14.toNatClampNeg ((0 : Int32))) Q)))))) ∧ (¬ (AI h7 24 v14.toNatClampNeg) = (0 : Int32) → Wp (d + 1) 204 402 [.ref 0, .ref 2, .ref 23, .ref 24, .ref 25, .int v5, .int v6, .int v7, .int v8, .int v9, .ref 26, .int v11, .int v12, .int v13, .int (v14 + (-1 : Int32)), mk0, mk0] [] h7 Q)))) ∧ (¬ x9 = (0 : Int32) → (ixR v12 12 ∧ (Cl d 100 [.ref 2, .int v12] ((stI h7 24 v12.toNatClampNeg ((0 : Int32)))) (fun r h23 => ∃ x25 : Int32, r = some (.int x25) ∧ Sh h23 ∧ ((x25 = v13 → Wp (d + 1) 204 365 [.ref 0, .ref 2, .ref 23, .ref 24, .ref 25, .int v5, .int v6, .int v7, .int v8, .int v9, .ref 26, .int v11, .int (v12 + (1 : Int32)), mk0, mk0, mk0, mk0] [] h23 Q) ∧ (¬ x25 = v13 → Q (some (.int (0 : Int32))) h23)))))))))))) : Wp (d + 1) 204 402 [.ref 0, .ref 2, .ref 23, .ref 24, .ref 25, .int v5, .int v6, .int v7, .int v8, .int v9, .ref 26, .int v11, .int v12, .int v13, .int v14, mk0, mk0] [] h Q := by
  refine Wp.blk (by decide) ol_204 222 2 (pc' := (if v14 < (0 : Int32) then 460 else 407)) (L' := [.ref 0, .ref 2, .ref 23, .ref 24, .ref 25, .int v5, .int v6, .int v7, .int v8, .int v9, .ref 26, .int v11, .int v12, .int v13, .int v14, mk0, mk0]) (S' := []) (h' := h) rfl ?_
  refine Wp.br (fun c1 => ?_) (fun c1 => ?_)
  · replace K := K.1 c1
    refine Wp.blk (by decide) ol_204 253 3 (pc' := 464) (L' := [.ref 0, .ref 2, .ref 23, .ref 24, .ref 25, .int v5, .int v6, .int v7, .int v8, .int v9, .ref 26, .int v11, .int v12, .int v13, .int v14, mk0, mk0]) (S' := [.int (0 : Int32), .int v12, .ref 24]) (h' := h) rfl ?_
    obtain ⟨r2, K⟩ := K
    refine Wp.iast (op_ix (by decide) ol_204 256 rfl) (by decide) (kS HS 24 rfl) (inS HS 24 rfl r2) rfl ?_
    refine Wp.blk (by decide) ol_204 257 2 (pc' := 468) (L' := [.ref 0, .ref 2, .ref 23, .ref 24, .ref 25, .int v5, .int v6, .int v7, .int v8, .int v9, .ref 26, .int v11, .int v12, .int v13, .int v14, mk0, mk0]) (S' := [.int v12, .ref 2]) (h' := (stI h 24 v12.toNatClampNeg ((0 : Int32)))) rfl ?_
    refine Wp.callI (op_ix (by decide) ol_204 259 rfl) (act_virt (c2 := 1) rfl (lk1 (kS HS 2 rfl)) rfl) rfl (K.mono ?_)
    rintro _ h3 ⟨x5, rfl, hs4, K⟩
    refine ⟨x5, rfl, ?_⟩
    refine Wp.blk (by decide) ol_204 260 2 (pc' := (if x5 = v13 then 478 else 476)) (L' := [.ref 0, .ref 2, .ref 23, .ref 24, .ref 25, .int v5, .int v6, .int v7, .int v8, .int v9, .ref 26, .int v11, .int v12, .int v13, .int v14, mk0, mk0]) (S' := []) (h' := h3) rfl ?_
    refine Wp.br (fun c6 => ?_) (fun c6 => ?_)
    · replace K := K.1 c6
      refine Wp.blk (by decide) ol_204 264 2 (pc' := 365) (L' := [.ref 0, .ref 2, .ref 23, .ref 24, .ref 25, .int v5, .int v6, .int v7, .int v8, .int v9, .ref 26, .int v11, .int (v12 + (1 : Int32)), .int v13, .int v14, mk0, mk0]) (S' := []) (h' := h3) rfl ?_
      refine Wp.forget (L := [.ref 0, .ref 2, .ref 23, .ref 24, .ref 25, .int v5, .int v6, .int v7, .int v8, .int v9, .ref 26, .int v11, .int (v12 + (1 : Int32)), mk0, mk0, mk0, mk0]) (⟨Or.inr rfl, ⟨Or.inr rfl, ⟨Or.inr rfl, ⟨Or.inr rfl, ⟨Or.inr rfl, ⟨Or.inr rfl, ⟨Or.inr rfl, ⟨Or.inr rfl, ⟨Or.inr rfl, ⟨Or.inr rfl, ⟨Or.inr rfl, ⟨Or.inr rfl, ⟨Or.inr rfl, ⟨Or.inl rfl, ⟨Or.inl rfl, ⟨Or.inr rfl, ⟨Or.inr rfl, trivial⟩⟩⟩⟩⟩⟩⟩⟩⟩⟩⟩⟩⟩⟩⟩⟩⟩) ?_
      exact K
    · replace K := K.2 c6
      refine Wp.blk (by decide) ol_204 262 1 (pc' := 477) (L' := [.ref 0, .ref 2, .ref 23, .ref 24, .ref 25, .int v5, .int v6, .int v7, .int v8, .int v9, .ref 26, .int v11, .int v12, .int v13, .int v14, mk0, mk0]) (S' := [.int (0 : Int32)]) (h' := h3) rfl ?_
      exact Wp.ret (op_ix (by decide) ol_204 263 rfl) rfl K
  · replace K := K.2 c1
    refine Wp.blk (by decide) ol_204 224 3 (pc' := 411) (L' := [.ref 0, .ref 2, .ref 23, .ref 24, .ref 25, .int v5, .int v6, .int v7, .int v8, .int v9, .ref 26, .int v11, .int v12, .int v13, .int v14, mk0, mk0]) (S' := [.ref 24, .ref 23, .int v5]) (h' := h) rfl ?_
    refine Wp.callI (op_ix (by decide) ol_204 227 rfl) rfl rfl (K.mono ?_)
    rintro _ h7 ⟨x9, rfl, hs8, K⟩
    refine ⟨x9, rfl, ?_⟩
    refine Wp.blk (by decide) ol_204 228 1 (pc' := (if x9 = (0 : Int32) then 417 else 460)) (L' := [.ref 0, .ref 2, .ref 23, .ref 24, .ref 25, .int v5, .int v6, .int v7, .int v8, .int v9, .ref 26, .int v11, .int v12, .int v13, .int v14, mk0, mk0]) (S' := []) (h' := h7) rfl ?_
    refine Wp.br (fun c10 => ?_) (fun c10 => ?_)
    · replace K := K.1 c10
      refine Wp.blk (by decide) ol_204 229 2 (pc' := 420) (L' := [.ref 0, .ref 2, .ref 23, .ref 24, .ref 25, .int v5, .int v6, .int v7, .int v8, .int v9, .ref 26, .int v11, .int v12, .int v13, .int v14, mk0, mk0]) (S' := [.int v14, .ref 24]) (h' := h7) rfl ?_
      obtain ⟨r11, K⟩ := K
      refine Wp.iald (op_ix (by decide) ol_204 231 rfl) (kS hs8 24 rfl) (inS hs8 24 rfl r11) rfl ?_
      refine Wp.blk (by decide) ol_204 232 1 (pc' := (if (AI h7 24 v14.toNatClampNeg) = (0 : Int32) then 424 else 454)) (L' := [.ref 0, .ref 2, .ref 23, .ref 24, .ref 25, .int v5, .int v6, .int v7, .int v8, .int v9, .ref 26, .int v11, .int v12, .int v13, .int v14, mk0, mk0]) (S' := []) (h' := h7) rfl ?_
      refine Wp.br (fun c12 => ?_) (fun c12 => ?_)
      · replace K := K.1 c12
        refine Wp.blk (by decide) ol_204 233 3 (pc' := 428) (L' := [.ref 0, .ref 2, .ref 23, .ref 24, .ref 25, .int v5, .int v6, .int v7, .int v8, .int v9, .ref 26, .int v11, .int v12, .int v13, .int v14, mk0, mk0]) (S' := [.int (1 : Int32), .int v14, .ref 24]) (h' := h7) rfl ?_
        refine Wp.iast (op_ix (by decide) ol_204 236 rfl) (by decide) (kS hs8 24 rfl) (inS hs8 24 rfl r11) rfl ?_
        refine Wp.blk (by decide) ol_204 237 4 (pc' := 434) (L' := [.ref 0, .ref 2, .ref 23, .ref 24, .ref 25, .int v5, .int v6, .int v7, .int v8, .int v9, .ref 26, .int v11, .int v12, .int v13, .int v14, mk0, mk0]) (S' := [.int (1 : Int32), .ref 24, .ref 23, .int v5]) (h' := (stI h7 24 v14.toNatClampNeg ((1 : Int32)))) rfl ?_
        refine Wp.callI (op_ix (by decide) ol_204 241 rfl) rfl rfl (K.mono ?_)
        rintro _ h13 ⟨x15, rfl, hs14, K⟩
        refine ⟨x15, rfl, ?_⟩
        refine Wp.blk (by decide) ol_204 242 1 (pc' := (if x15 = (0 : Int32) then 445 else 440)) (L' := [.ref 0, .ref 2, .ref 23, .ref 24, .ref 25, .int v5, .int v6, .int v7, .int v8, .int v9, .ref 26, .int v11, .int v12, .int v13, .int v14, mk0, mk0]) (S' := []) (h' := h13) rfl ?_
        refine Wp.br (fun c16 => ?_) (fun c16 => ?_)
        · replace K := K.1 c16
          refine Wp.blk (by decide) ol_204 245 5 (pc' := 453) (L' := [.ref 0, .ref 2, .ref 23, .ref 24, .ref 25, .int v5, .int v6, .int v7, .int v8, .int v9, .ref 26, .int v11, .int v12, .int v13, .int v14, mk0, mk0]) (S' := [.int (0 : Int32), .int v14, .ref 24]) (h' := h13) rfl ?_
          obtain ⟨r17, K⟩ := K
          refine Wp.iast (op_ix (by decide) ol_204 250 rfl) (by decide) (kS hs14 24 rfl) (inS hs14 24 rfl r17) rfl ?_
          refine Wp.blk (by decide) ol_204 251 1 (pc' := 457) (L' := [.ref 0, .ref 2, .ref 23, .ref 24, .ref 25, .int v5, .int v6, .int v7, .int v8, .int v9, .ref 26, .int v11, .int v12, .int v13, .int (v14 + (-1 : Int32)), mk0, mk0]) (S' := []) (h' := (stI h13 24 v14.toNatClampNeg ((0 : Int32)))) rfl ?_
          generalize (v14 + (-1 : Int32)) = yy18 at K ⊢
          refine Wp.blk (by decide) ol_204 252 1 (pc' := 402) (L' := [.ref 0, .ref 2, .ref 23, .ref 24, .ref 25, .int v5, .int v6, .int v7, .int v8, .int v9, .ref 26, .int v11, .int v12, .int v13, .int yy18, mk0, mk0]) (S' := []) (h' := (stI h13 24 v14.toNatClampNeg ((0 : Int32)))) rfl ?_
          exact K
        · replace K := K.2 c16
          refine Wp.blk (by decide) ol_204 243 2 (pc' := 447) (L' := [.ref 0, .ref 2, .ref 23, .ref 24, .ref 25, .int v5, .int v6, .int v7, .int v8, .int v9, .ref 26, .int v11, .int v12, .int v13, .int v14, mk0, mk0]) (S' := [.int v14]) (h' := h13) rfl ?_
          refine Wp.blk (by decide) ol_204 246 4 (pc' := 453) (L' := [.ref 0, .ref 2, .ref 23, .ref 24, .ref 25, .int v5, .int v6, .int v7, .int v8, .int v9, .ref 26, .int v11, .int v12, .int v14, .int v14, mk0, mk0]) (S' := [.int (0 : Int32), .int v14, .ref 24]) (h' := h13) rfl ?_
          obtain ⟨r19, K⟩ := K
          refine Wp.iast (op_ix (by decide) ol_204 250 rfl) (by decide) (kS hs14 24 rfl) (inS hs14 24 rfl r19) rfl ?_
          refine Wp.blk (by decide) ol_204 251 1 (pc' := 457) (L' := [.ref 0, .ref 2, .ref 23, .ref 24, .ref 25, .int v5, .int v6, .int v7, .int v8, .int v9, .ref 26, .int v11, .int v12, .int v14, .int (v14 + (-1 : Int32)), mk0, mk0]) (S' := []) (h' := (stI h13 24 v14.toNatClampNeg ((0 : Int32)))) rfl ?_
          generalize (v14 + (-1 : Int32)) = yy20 at K ⊢
          refine Wp.blk (by decide) ol_204 252 1 (pc' := 402) (L' := [.ref 0, .ref 2, .ref 23, .ref 24, .ref 25, .int v5, .int v6, .int v7, .int v8, .int v9, .ref 26, .int v11, .int v12, .int v14, .int yy20, mk0, mk0]) (S' := []) (h' := (stI h13 24 v14.toNatClampNeg ((0 : Int32)))) rfl ?_
          exact K
      · replace K := K.2 c12
        refine Wp.blk (by decide) ol_204 251 1 (pc' := 457) (L' := [.ref 0, .ref 2, .ref 23, .ref 24, .ref 25, .int v5, .int v6, .int v7, .int v8, .int v9, .ref 26, .int v11, .int v12, .int v13, .int (v14 + (-1 : Int32)), mk0, mk0]) (S' := []) (h' := h7) rfl ?_
        generalize (v14 + (-1 : Int32)) = yy21 at K ⊢
        refine Wp.blk (by decide) ol_204 252 1 (pc' := 402) (L' := [.ref 0, .ref 2, .ref 23, .ref 24, .ref 25, .int v5, .int v6, .int v7, .int v8, .int v9, .ref 26, .int v11, .int v12, .int v13, .int yy21, mk0, mk0]) (S' := []) (h' := h7) rfl ?_
        exact K
    · replace K := K.2 c10
      refine Wp.blk (by decide) ol_204 253 3 (pc' := 464) (L' := [.ref 0, .ref 2, .ref 23, .ref 24, .ref 25, .int v5, .int v6, .int v7, .int v8, .int v9, .ref 26, .int v11, .int v12, .int v13, .int v14, mk0, mk0]) (S' := [.int (0 : Int32), .int v12, .ref 24]) (h' := h7) rfl ?_
      obtain ⟨r22, K⟩ := K
      refine Wp.iast (op_ix (by decide) ol_204 256 rfl) (by decide) (kS hs8 24 rfl) (inS hs8 24 rfl r22) rfl ?_
      refine Wp.blk (by decide) ol_204 257 2 (pc' := 468) (L' := [.ref 0, .ref 2, .ref 23, .ref 24, .ref 25, .int v5, .int v6, .int v7, .int v8, .int v9, .ref 26, .int v11, .int v12, .int v13, .int v14, mk0, mk0]) (S' := [.int v12, .ref 2]) (h' := (stI h7 24 v12.toNatClampNeg ((0 : Int32)))) rfl ?_
      refine Wp.callI (op_ix (by decide) ol_204 259 rfl) (act_virt (c2 := 1) rfl (lk1 (kS hs8 2 rfl)) rfl) rfl (K.mono ?_)
      rintro _ h23 ⟨x25, rfl, hs24, K⟩
      refine ⟨x25, rfl, ?_⟩
      refine Wp.blk (by decide) ol_204 260 2 (pc' := (if x25 = v13 then 478 else 476)) (L' := [.ref 0, .ref 2, .ref 23, .ref 24, .ref 25, .int v5, .int v6, .int v7, .int v8, .int v9, .ref 26, .int v11, .int v12, .int v13, .int v14, mk0, mk0]) (S' := []) (h' := h23) rfl ?_
      refine Wp.br (fun c26 => ?_) (fun c26 => ?_)
      · replace K := K.1 c26
        refine Wp.blk (by decide) ol_204 264 2 (pc' := 365) (L' := [.ref 0, .ref 2, .ref 23, .ref 24, .ref 25, .int v5, .int v6, .int v7, .int v8, .int v9, .ref 26, .int v11, .int (v12 + (1 : Int32)), .int v13, .int v14, mk0, mk0]) (S' := []) (h' := h23) rfl ?_
        refine Wp.forget (L := [.ref 0, .ref 2, .ref 23, .ref 24, .ref 25, .int v5, .int v6, .int v7, .int v8, .int v9, .ref 26, .int v11, .int (v12 + (1 : Int32)), mk0, mk0, mk0, mk0]) (⟨Or.inr rfl, ⟨Or.inr rfl, ⟨Or.inr rfl, ⟨Or.inr rfl, ⟨Or.inr rfl, ⟨Or.inr rfl, ⟨Or.inr rfl, ⟨Or.inr rfl, ⟨Or.inr rfl, ⟨Or.inr rfl, ⟨Or.inr rfl, ⟨Or.inr rfl, ⟨Or.inr rfl, ⟨Or.inl rfl, ⟨Or.inl rfl, ⟨Or.inr rfl, ⟨Or.inr rfl, trivial⟩⟩⟩⟩⟩⟩⟩⟩⟩⟩⟩⟩⟩⟩⟩⟩⟩) ?_
        exact K
      · replace K := K.2 c26
        refine Wp.blk (by decide) ol_204 262 1 (pc' := 477) (L' := [.ref 0, .ref 2, .ref 23, .ref 24, .ref 25, .int v5, .int v6, .int v7, .int v8, .int v9, .ref 26, .int v11, .int v12, .int v13, .int v14, mk0, mk0]) (S' := [.int (0 : Int32)]) (h' := h23) rfl ?_
        exact Wp.ret (op_ix (by decide) ol_204 263 rfl) rfl K
set_option maxRecDepth 4000 in
/-- CutsOrFastLaw.law at 530 -/
theorem g204_530 (d : Nat) (v5 : Int32) (v6 : Int32) (v8 : Int32) (v9 : Int32) (v11 : Int32) (s0 : Int32) (s1 : Int32) (h : AH) (HS : Sh h)  (Q : Option Value → AH → Prop) (K : ((s1 = s0 → (((0 : Int32) < v8 → ((AK h 26).1 = 20 ∧ inR h 26 (v8 + (-1 : Int32)) = true ∧ ixR ((AI h 26 (v8 + (-1 : Int32)).toNatClampNeg)) 12 ∧ ((v9 < (v8 + (-1 : Int32)) → Wp d 204 89 [.ref 0, .ref 2, .ref 23, .ref 24, .ref 25, .int v5, .int (((1 : Int32)) - v6), mk0, .int (v8 + (-1 : Int32)), .int v9, .ref 26, .int (v11 + (1 : Int32)), mk0, mk0, mk0, mk0, mk0] [] (stI h 24 ((AI h 26 (v8 + (-1 : Int32)).toNatClampNeg)).toNatClampNeg ((0 : Int32))) Q) ∧ (¬ v9 < (v8 + (-1 : Int32)) → Wp d 204 89 [.ref 0, .ref 2, .ref 23, .ref 24, .ref 25, .int v5, .int (((1 : Int32)) - v6), mk0, .int (v8 + (-1 : Int32)), .int (-1 : Int32), .ref 26, .int (v11 + (1 : Int32)), mk0, mk0, mk0, mk0, mk0] [] (stI h 24 ((AI h 26 (v8 + (-1 : Int32)).toNatClampNeg)).toNatClampNeg ((0 : Int32))) Q)))) ∧ (¬ (0 : Int32) < v8 → Wp d 204 89 [.ref 0, .ref 2, .ref 23, .ref 24, .ref 25, .int v5, .int v6, mk0, .int v8, .int v9, .ref 26, .int (v11 + (1 : Int32)), mk0, mk0, mk0, mk0, mk0] [] h Q))) ∧ (¬ s1 = s0 → Q (some (.int (0 : Int32))) h))) : Wp d 204 530 [.ref 0, .ref 2, .ref 23, .ref 24, .ref 25, .int v5, .int v6, mk0, .int v8, .int v9, .ref 26, .int v11, mk0, mk0, mk0, mk0, mk0] [.int s0, .int s1] h Q := by
  refine Wp.blk (by decide) ol_204 291 1 (pc' := (if s1 = s0 then 535 else 533)) (L' := [.ref 0, .ref 2, .ref 23, .ref 24, .ref 25, .int v5, .int v6, mk0, .int v8, .int v9, .ref 26, .int v11, mk0, mk0, mk0, mk0, mk0]) (S' := []) (h' := h) rfl ?_
  refine Wp.br (fun c1 => ?_) (fun c1 => ?_)
  · replace K := K.1 c1
    refine Wp.blk (by decide) ol_204 294 2 (pc' := (if (0 : Int32) < v8 then 540 else 736)) (L' := [.ref 0, .ref 2, .ref 23, .ref 24, .ref 25, .int v5, .int v6, mk0, .int v8, .int v9, .ref 26, .int v11, mk0, mk0, mk0, mk0, mk0]) (S' := []) (h' := h) rfl ?_
    refine Wp.br (fun c2 => ?_) (fun c2 => ?_)
    · replace K := K.1 c2
      refine Wp.blk (by decide) ol_204 296 1 (pc' := 543) (L' := [.ref 0, .ref 2, .ref 23, .ref 24, .ref 25, .int v5, .int v6, mk0, .int (v8 + (-1 : Int32)), .int v9, .ref 26, .int v11, mk0, mk0, mk0, mk0, mk0]) (S' := []) (h' := h) rfl ?_
      generalize (v8 + (-1 : Int32)) = yy3 at K ⊢
      refine Wp.blk (by decide) ol_204 297 7 (pc' := 554) (L' := [.ref 0, .ref 2, .ref 23, .ref 24, .ref 25, .int v5, .int (((1 : Int32)) - v6), mk0, .int yy3, .int v9, .ref 26, .int v11, mk0, mk0, mk0, mk0, mk0]) (S' := [.int yy3, .ref 26, .ref 24]) (h' := h) rfl ?_
      obtain ⟨k4, K⟩ := K
      obtain ⟨r5, K⟩ := K
      refine Wp.iald (op_ix (by decide) ol_204 304 rfl) k4 r5 rfl ?_
      refine Wp.blk (by decide) ol_204 305 1 (pc' := 556) (L' := [.ref 0, .ref 2, .ref 23, .ref 24, .ref 25, .int v5, .int (((1 : Int32)) - v6), mk0, .int yy3, .int v9, .ref 26, .int v11, mk0, mk0, mk0, mk0, mk0]) (S' := [.int (0 : Int32), .int (AI h 26 yy3.toNatClampNeg), .ref 24]) (h' := h) rfl ?_
      obtain ⟨r6, K⟩ := K
      refine Wp.iast (op_ix (by decide) ol_204 306 rfl) (by decide) (kS HS 24 rfl) (inS HS 24 rfl r6) rfl ?_
      refine Wp.blk (by decide) ol_204 307 3 (pc' := (if v9 < yy3 then 568 else 564)) (L' := [.ref 0, .ref 2, .ref 23, .ref 24, .ref 25, .int v5, .int (((1 : Int32)) - v6), mk0, .int yy3, .int v9, .ref 26, .int v11, mk0, mk0, mk0, mk0, mk0]) (S' := []) (h' := (stI h 24 ((AI h 26 yy3.toNatClampNeg)).toNatClampNeg ((0 : Int32)))) rfl ?_
      refine Wp.br (fun c7 => ?_) (fun c7 => ?_)
      · replace K := K.1 c7
        refine Wp.blk (by decide) ol_204 312 3 (pc' := 736) (L' := [.ref 0, .ref 2, .ref 23, .ref 24, .ref 25, .int v5, .int (((1 : Int32)) - v6), mk0, .int yy3, .int v9, .ref 26, .int v11, mk0, mk0, mk0, mk0, mk0]) (S' := []) (h' := (stI h 24 ((AI h 26 yy3.toNatClampNeg)).toNatClampNeg ((0 : Int32)))) rfl ?_
        refine Wp.blk (by decide) ol_204 398 2 (pc' := 89) (L' := [.ref 0, .ref 2, .ref 23, .ref 24, .ref 25, .int v5, .int (((1 : Int32)) - v6), mk0, .int yy3, .int v9, .ref 26, .int (v11 + (1 : Int32)), mk0, mk0, mk0, mk0, mk0]) (S' := []) (h' := (stI h 24 ((AI h 26 yy3.toNatClampNeg)).toNatClampNeg ((0 : Int32)))) rfl ?_
        exact K
      · replace K := K.2 c7
        refine Wp.blk (by decide) ol_204 310 2 (pc' := 570) (L' := [.ref 0, .ref 2, .ref 23, .ref 24, .ref 25, .int v5, .int (((1 : Int32)) - v6), mk0, .int yy3, .int v9, .ref 26, .int v11, mk0, mk0, mk0, mk0, mk0]) (S' := [.int (-1 : Int32)]) (h' := (stI h 24 ((AI h 26 yy3.toNatClampNeg)).toNatClampNeg ((0 : Int32)))) rfl ?_
        refine Wp.blk (by decide) ol_204 313 2 (pc' := 736) (L' := [.ref 0, .ref 2, .ref 23, .ref 24, .ref 25, .int v5, .int (((1 : Int32)) - v6), mk0, .int yy3, .int (-1 : Int32), .ref 26, .int v11, mk0, mk0, mk0, mk0, mk0]) (S' := []) (h' := (stI h 24 ((AI h 26 yy3.toNatClampNeg)).toNatClampNeg ((0 : Int32)))) rfl ?_
        refine Wp.blk (by decide) ol_204 398 2 (pc' := 89) (L' := [.ref 0, .ref 2, .ref 23, .ref 24, .ref 25, .int v5, .int (((1 : Int32)) - v6), mk0, .int yy3, .int (-1 : Int32), .ref 26, .int (v11 + (1 : Int32)), mk0, mk0, mk0, mk0, mk0]) (S' := []) (h' := (stI h 24 ((AI h 26 yy3.toNatClampNeg)).toNatClampNeg ((0 : Int32)))) rfl ?_
        exact K
    · replace K := K.2 c2
      refine Wp.blk (by decide) ol_204 398 2 (pc' := 89) (L' := [.ref 0, .ref 2, .ref 23, .ref 24, .ref 25, .int v5, .int v6, mk0, .int v8, .int v9, .ref 26, .int (v11 + (1 : Int32)), mk0, mk0, mk0, mk0, mk0]) (S' := []) (h' := h) rfl ?_
      exact K
  · replace K := K.2 c1
    refine Wp.blk (by decide) ol_204 292 1 (pc' := 534) (L' := [.ref 0, .ref 2, .ref 23, .ref 24, .ref 25, .int v5, .int v6, mk0, .int v8, .int v9, .ref 26, .int v11, mk0, mk0, mk0, mk0, mk0]) (S' := [.int (0 : Int32)]) (h' := h) rfl ?_
    exact Wp.ret (op_ix (by decide) ol_204 293 rfl) rfl K
set_option maxRecDepth 4000 in
/-- CutsOrFastLaw.law at 592 -/
theorem g204_592 (d : Nat) (v5 : Int32) (v6 : Int32) (v8 : Int32) (v9 : Int32) (v11 : Int32) (v13 : Int32) (s0 : Int32) (h : AH) (HS : Sh h)  (Q : Option Value → AH → Prop) (K : ((s0 = (0 : Int32) → (Cl d 96 [.ref 2, .int v13] h (fun r h2 => ∃ x4 : Int32, r = some (.int x4) ∧ Sh h2 ∧ Wp (d + 1) 204 648 [.ref 0, .ref 2, .ref 23, .ref 24, .ref 25, .int v5, .int v6, mk0, .int v8, .int v9, .ref 26, .int v11, mk0, .int v13, .int s0, .int (0 : Int32), mk0] [.int (-103 : Int32), .int x4] h2 Q))) ∧ (¬ s0 = (0 : Int32) → (Cl d 134 [.int v5, .ref 23, .ref 24, .int v6] h (fun r h5 => ∃ x7 : Int32, r = some (.int x7) ∧ Sh h5 ∧ ((v6 = (0 : Int32) → Wp (d + 1) 204 618 [.ref 0, .ref 2, .ref 23, .ref 24, .ref 25, .int v5, .int v6, mk0, .int v8, .int v9, .ref 26, .int v11, mk0, .int v13, .int s0, mk0, mk0] [.int (1 : Int32), .int x7] h5 Q) ∧ (¬ v6 = (0 : Int32) → Wp (d + 1) 204 618 [.ref 0, .ref 2, .ref 23, .ref 24, .ref 25, .int v5, .int v6, mk0, .int v8, .int v9, .ref 26, .int v11, mk0, .int v13, .int s0, mk0, mk0] [.int (0 : Int32), .int x7] h5 Q))))))) : Wp (d + 1) 204 592 [.ref 0, .ref 2, .ref 23, .ref 24, .ref 25, .int v5, .int v6, mk0, .int v8, .int v9, .ref 26, .int v11, mk0, .int v13, mk0, mk0, mk0] [.int s0] h Q := by
  refine Wp.blk (by decide) ol_204 324 3 (pc' := (if s0 = (0 : Int32) then 625 else 599)) (L' := [.ref 0, .ref 2, .ref 23, .ref 24, .ref 25, .int v5, .int v6, mk0, .int v8, .int v9, .ref 26, .int v11, mk0, .int v13, .int s0, mk0, mk0]) (S' := []) (h' := h) rfl ?_
  refine Wp.br (fun c1 => ?_) (fun c1 => ?_)
  · replace K := K.1 c1
    refine Wp.blk (by decide) ol_204 340 4 (pc' := 631) (L' := [.ref 0, .ref 2, .ref 23, .ref 24, .ref 25, .int v5, .int v6, mk0, .int v8, .int v9, .ref 26, .int v11, mk0, .int v13, .int s0, .int (0 : Int32), mk0]) (S' := [.int v13, .ref 2]) (h' := h) rfl ?_
    refine Wp.callI (op_ix (by decide) ol_204 344 rfl) (act_virt (c2 := 1) rfl (lk1 (kS HS 2 rfl)) rfl) rfl (K.mono ?_)
    rintro _ h2 ⟨x4, rfl, hs3, K⟩
    refine ⟨x4, rfl, ?_⟩
    refine Wp.blk (by decide) ol_204 345 2 (pc' := (if s0 = (0 : Int32) then 646 else 639)) (L' := [.ref 0, .ref 2, .ref 23, .ref 24, .ref 25, .int v5, .int v6, mk0, .int v8, .int v9, .ref 26, .int v11, mk0, .int v13, .int s0, .int (0 : Int32), mk0]) (S' := [.int x4]) (h' := h2) rfl ?_
    refine Wp.br (fun _ => ?_) (fun hc => absurd c1 hc)
    refine Wp.blk (by decide) ol_204 351 1 (pc' := 648) (L' := [.ref 0, .ref 2, .ref 23, .ref 24, .ref 25, .int v5, .int v6, mk0, .int v8, .int v9, .ref 26, .int v11, mk0, .int v13, .int s0, .int (0 : Int32), mk0]) (S' := [.int (-103 : Int32), .int x4]) (h' := h2) rfl ?_
    exact K
  · replace K := K.2 c1
    refine Wp.blk (by decide) ol_204 327 4 (pc' := 605) (L' := [.ref 0, .ref 2, .ref 23, .ref 24, .ref 25, .int v5, .int v6, mk0, .int v8, .int v9, .ref 26, .int v11, mk0, .int v13, .int s0, mk0, mk0]) (S' := [.int v6, .ref 24, .ref 23, .int v5]) (h' := h) rfl ?_
    refine Wp.callI (op_ix (by decide) ol_204 331 rfl) rfl rfl (K.mono ?_)
    rintro _ h5 ⟨x7, rfl, hs6, K⟩
    refine ⟨x7, rfl, ?_⟩
    refine Wp.blk (by decide) ol_204 332 2 (pc' := (if v6 = (0 : Int32) then 613 else 617)) (L' := [.ref 0, .ref 2, .ref 23, .ref 24, .ref 25, .int v5, .int v6, mk0, .int v8, .int v9, .ref 26, .int v11, mk0, .int v13, .int s0, mk0, mk0]) (S' := [.int x7]) (h' := h5) rfl ?_
    refine Wp.br (fun c8 => ?_) (fun c8 => ?_)
    · replace K := K.1 c8
      refine Wp.blk (by decide) ol_204 334 2 (pc' := 618) (L' := [.ref 0, .ref 2, .ref 23, .ref 24, .ref 25, .int v5, .int v6, mk0, .int v8, .int v9, .ref 26, .int v11, mk0, .int v13, .int s0, mk0, mk0]) (S' := [.int (1 : Int32), .int x7]) (h' := h5) rfl ?_
      exact K
    · replace K := K.2 c8
      refine Wp.blk (by decide) ol_204 336 1 (pc' := 618) (L' := [.ref 0, .ref 2, .ref 23, .ref 24, .ref 25, .int v5, .int v6, mk0, .int v8, .int v9, .ref 26, .int v11, mk0, .int v13, .int s0, mk0, mk0]) (S' := [.int (0 : Int32), .int x7]) (h' := h5) rfl ?_
      exact K
set_option maxRecDepth 4000 in
/-- CutsOrFastLaw.law at 618 -/
theorem g204_618 (d : Nat) (v5 : Int32) (v6 : Int32) (v8 : Int32) (v9 : Int32) (v11 : Int32) (v13 : Int32) (v14 : Int32) (s0 : Int32) (s1 : Int32) (h : AH) (HS : Sh h)  (Q : Option Value → AH → Prop) (K : ((s1 = s0 → (Cl d 96 [.ref 2, .int v13] h (fun r h2 => ∃ x4 : Int32, r = some (.int x4) ∧ Sh h2 ∧ ((v14 = (0 : Int32) → Wp (d + 1) 204 648 [.ref 0, .ref 2, .ref 23, .ref 24, .ref 25, .int v5, .int v6, mk0, .int v8, .int v9, .ref 26, .int v11, mk0, .int v13, .int v14, .int (1 : Int32), mk0] [.int (-103 : Int32), .int x4] h2 Q) ∧ (¬ v14 = (0 : Int32) → Wp (d + 1) 204 648 [.ref 0, .ref 2, .ref 23, .ref 24, .ref 25, .int v5, .int v6, mk0, .int v8, .int v9, .ref 26, .int v11, mk0, .int v13, .int v14, .int (1 : Int32), mk0] [.int (v8 + ((1 : Int32))), .int x4] h2 Q))))) ∧ (¬ s1 = s0 → (Cl d 96 [.ref 2, .int v13] h (fun r h6 => ∃ x8 : Int32, r = some (.int x8) ∧ Sh h6 ∧ ((v14 = (0 : Int32) → Wp (d + 1) 204 648 [.ref 0, .ref 2, .ref 23, .ref 24, .ref 25, .int v5, .int v6, mk0, .int v8, .int v9, .ref 26, .int v11, mk0, .int v13, .int v14, .int (0 : Int32), mk0] [.int (-103 : Int32), .int x8] h6 Q) ∧ (¬ v14 = (0 : Int32) → Wp (d + 1) 204 648 [.ref 0, .ref 2, .ref 23, .ref 24, .ref 25, .int v5, .int v6, mk0, .int v8, .int v9, .ref 26, .int v11, mk0, .int v13, .int v14, .int (0 : Int32), mk0] [.int (v8 + ((1 : Int32))), .int x8] h6 Q))))))) : Wp (d + 1) 204 618 [.ref 0, .ref 2, .ref 23, .ref 24, .ref 25, .int v5, .int v6, mk0, .int v8, .int v9, .ref 26, .int v11, mk0, .int v13, .int v14, mk0, mk0] [.int s0, .int s1] h Q := by
  refine Wp.blk (by decide) ol_204 337 1 (pc' := (if s1 = s0 then 621 else 625)) (L' := [.ref 0, .ref 2, .ref 23, .ref 24, .ref 25, .int v5, .int v6, mk0, .int v8, .int v9, .ref 26, .int v11, mk0, .int v13, .int v14, mk0, mk0]) (S' := []) (h' := h) rfl ?_
  refine Wp.br (fun c1 => ?_) (fun c1 => ?_)
  · replace K := K.1 c1
    refine Wp.blk (by decide) ol_204 338 2 (pc' := 626) (L' := [.ref 0, .ref 2, .ref 23, .ref 24, .ref 25, .int v5, .int v6, mk0, .int v8, .int v9, .ref 26, .int v11, mk0, .int v13, .int v14, mk0, mk0]) (S' := [.int (1 : Int32)]) (h' := h) rfl ?_
    refine Wp.blk (by decide) ol_204 341 3 (pc' := 631) (L' := [.ref 0, .ref 2, .ref 23, .ref 24, .ref 25, .int v5, .int v6, mk0, .int v8, .int v9, .ref 26, .int v11, mk0, .int v13, .int v14, .int (1 : Int32), mk0]) (S' := [.int v13, .ref 2]) (h' := h) rfl ?_
    refine Wp.callI (op_ix (by decide) ol_204 344 rfl) (act_virt (c2 := 1) rfl (lk1 (kS HS 2 rfl)) rfl) rfl (K.mono ?_)
    rintro _ h2 ⟨x4, rfl, hs3, K⟩
    refine ⟨x4, rfl, ?_⟩
    refine Wp.blk (by decide) ol_204 345 2 (pc' := (if v14 = (0 : Int32) then 646 else 639)) (L' := [.ref 0, .ref 2, .ref 23, .ref 24, .ref 25, .int v5, .int v6, mk0, .int v8, .int v9, .ref 26, .int v11, mk0, .int v13, .int v14, .int (1 : Int32), mk0]) (S' := [.int x4]) (h' := h2) rfl ?_
    refine Wp.br (fun c5 => ?_) (fun c5 => ?_)
    · replace K := K.1 c5
      refine Wp.blk (by decide) ol_204 351 1 (pc' := 648) (L' := [.ref 0, .ref 2, .ref 23, .ref 24, .ref 25, .int v5, .int v6, mk0, .int v8, .int v9, .ref 26, .int v11, mk0, .int v13, .int v14, .int (1 : Int32), mk0]) (S' := [.int (-103 : Int32), .int x4]) (h' := h2) rfl ?_
      exact K
    · replace K := K.2 c5
      refine Wp.blk (by decide) ol_204 347 4 (pc' := 648) (L' := [.ref 0, .ref 2, .ref 23, .ref 24, .ref 25, .int v5, .int v6, mk0, .int v8, .int v9, .ref 26, .int v11, mk0, .int v13, .int v14, .int (1 : Int32), mk0]) (S' := [.int (v8 + ((1 : Int32))), .int x4]) (h' := h2) rfl ?_
      exact K
  · replace K := K.2 c1
    refine Wp.blk (by decide) ol_204 340 4 (pc' := 631) (L' := [.ref 0, .ref 2, .ref 23, .ref 24, .ref 25, .int v5, .int v6, mk0, .int v8, .int v9, .ref 26, .int v11, mk0, .int v13, .int v14, .int (0 : Int32), mk0]) (S' := [.int v13, .ref 2]) (h' := h) rfl ?_
    refine Wp.callI (op_ix (by decide) ol_204 344 rfl) (act_virt (c2 := 1) rfl (lk1 (kS HS 2 rfl)) rfl) rfl (K.mono ?_)
    rintro _ h6 ⟨x8, rfl, hs7, K⟩
    refine ⟨x8, rfl, ?_⟩
    refine Wp.blk (by decide) ol_204 345 2 (pc' := (if v14 = (0 : Int32) then 646 else 639)) (L' := [.ref 0, .ref 2, .ref 23, .ref 24, .ref 25, .int v5, .int v6, mk0, .int v8, .int v9, .ref 26, .int v11, mk0, .int v13, .int v14, .int (0 : Int32), mk0]) (S' := [.int x8]) (h' := h6) rfl ?_
    refine Wp.br (fun c9 => ?_) (fun c9 => ?_)
    · replace K := K.1 c9
      refine Wp.blk (by decide) ol_204 351 1 (pc' := 648) (L' := [.ref 0, .ref 2, .ref 23, .ref 24, .ref 25, .int v5, .int v6, mk0, .int v8, .int v9, .ref 26, .int v11, mk0, .int v13, .int v14, .int (0 : Int32), mk0]) (S' := [.int (-103 : Int32), .int x8]) (h' := h6) rfl ?_
      exact K
    · replace K := K.2 c9
      refine Wp.blk (by decide) ol_204 347 4 (pc' := 648) (L' := [.ref 0, .ref 2, .ref 23, .ref 24, .ref 25, .int v5, .int v6, mk0, .int v8, .int v9, .ref 26, .int v11, mk0, .int v13, .int v14, .int (0 : Int32), mk0]) (S' := [.int (v8 + ((1 : Int32))), .int x8]) (h' := h6) rfl ?_
      exact K
set_option maxRecDepth 4000 in
/-- CutsOrFastLaw.law at 648 -/
theorem g204_648 (d : Nat) (v5 : Int32) (v6 : Int32) (v8 : Int32) (v9 : Int32) (v11 : Int32) (v13 : Int32) (v14 : Int32) (v15 : Int32) (s0 : Int32) (s1 : Int32) (h : AH) (HS : Sh h)  (Q : Option Value → AH → Prop) (K : ((s1 = s0 → ((v14 = (0 : Int32) → Wp (d + 1) 204 89 [.ref 0, .ref 2, .ref 23, .ref 24, .ref 25, .int v5, .int v6, mk0, .int v8, .int v9, .ref 26, .int (v11 + (1 : Int32)), mk0, mk0, mk0, mk0, mk0] [] h Q) ∧ (¬ v14 = (0 : Int32) → (ixR v13 12 ∧ (AK h 26).1 = 20 ∧ inR h 26 v8 = true ∧ (Cl d 134 [.int v5, .ref 23, .ref 24, .int (((1 : Int32)) - v6)] ((stI ((stI h 24 v13.toNatClampNeg ((((1 : Int32)) + v6)))) 26 v8.toNatClampNeg v13)) (fun r h6 => ∃ x8 : Int32, r = some (.int x8) ∧ Sh h6 ∧ (((((1 : Int32)) - v6) = (1 : Int32) → ((x8 = (1 : Int32) → Wp (d + 1) 204 707 [.ref 0, .ref 2, .ref 23, .ref 24, .ref 25, .int v5, .int (((1 : Int32)) - v6), mk0, .int v8, .int v9, .ref 26, .int v11, mk0, mk0, mk0, .int v15, mk0] [.int (1 : Int32)] h6 Q) ∧ (¬ x8 = (1 : Int32) → Wp (d + 1) 204 707 [.ref 0, .ref 2, .ref 23, .ref 24, .ref 25, .int v5, .int (((1 : Int32)) - v6), mk0, .int v8, .int v9, .ref 26, .int v11, mk0, mk0, mk0, .int v15, mk0] [.int (0 : Int32)] h6 Q))) ∧ (¬ (((1 : Int32)) - v6) = (1 : Int32) → ((x8 = (0 : Int32) → Wp (d + 1) 204 707 [.ref 0, .ref 2, .ref 23, .ref 24, .ref 25, .int v5, .int (((1 : Int32)) - v6), mk0, .int v8, .int v9, .ref 26, .int v11, mk0, mk0, mk0, .int v15, mk0] [.int (1 : Int32)] h6 Q) ∧ (¬ x8 = (0 : Int32) → Wp (d + 1) 204 707 [.ref 0, .ref 2, .ref 23, .ref 24, .ref 25, .int v5, .int (((1 : Int32)) - v6), mk0, .int v8, .int v9, .ref 26, .int v11, mk0, mk0, mk0, .int v15, mk0] [.int (0 : Int32)] h6 Q)))))))))) ∧ (¬ s1 = s0 → Q (some (.int (0 : Int32))) h))) : Wp (d + 1) 204 648 [.ref 0, .ref 2, .ref 23, .ref 24, .ref 25, .int v5, .int v6, mk0, .int v8, .int v9, .ref 26, .int v11, mk0, .int v13, .int v14, .int v15, mk0] [.int s0, .int s1] h Q := by
  refine Wp.blk (by decide) ol_204 352 1 (pc' := (if s1 = s0 then 653 else 651)) (L' := [.ref 0, .ref 2, .ref 23, .ref 24, .ref 25, .int v5, .int v6, mk0, .int v8, .int v9, .ref 26, .int v11, mk0, .int v13, .int v14, .int v15, mk0]) (S' := []) (h' := h) rfl ?_
  refine Wp.br (fun c1 => ?_) (fun c1 => ?_)
  · replace K := K.1 c1
    refine Wp.blk (by decide) ol_204 355 2 (pc' := (if v14 = (0 : Int32) then 736 else 658)) (L' := [.ref 0, .ref 2, .ref 23, .ref 24, .ref 25, .int v5, .int v6, mk0, .int v8, .int v9, .ref 26, .int v11, mk0, .int v13, .int v14, .int v15, mk0]) (S' := []) (h' := h) rfl ?_
    refine Wp.br (fun c2 => ?_) (fun c2 => ?_)
    · replace K := K.1 c2
      refine Wp.blk (by decide) ol_204 398 2 (pc' := 89) (L' := [.ref 0, .ref 2, .ref 23, .ref 24, .ref 25, .int v5, .int v6, mk0, .int v8, .int v9, .ref 26, .int (v11 + (1 : Int32)), mk0, .int v13, .int v14, .int v15, mk0]) (S' := []) (h' := h) rfl ?_
      refine Wp.forget (L := [.ref 0, .ref 2, .ref 23, .ref 24, .ref 25, .int v5, .int v6, mk0, .int v8, .int v9, .ref 26, .int (v11 + (1 : Int32)), mk0, mk0, mk0, mk0, mk0]) (⟨Or.inr rfl, ⟨Or.inr rfl, ⟨Or.inr rfl, ⟨Or.inr rfl, ⟨Or.inr rfl, ⟨Or.inr rfl, ⟨Or.inr rfl, ⟨Or.inr rfl, ⟨Or.inr rfl, ⟨Or.inr rfl, ⟨Or.inr rfl, ⟨Or.inr rfl, ⟨Or.inr rfl, ⟨Or.inl rfl, ⟨Or.inl rfl, ⟨Or.inl rfl, ⟨Or.inr rfl, trivial⟩⟩⟩⟩⟩⟩⟩⟩⟩⟩⟩⟩⟩⟩⟩⟩⟩) ?_
      exact K
    · replace K := K.2 c2
      refine Wp.blk (by decide) ol_204 357 5 (pc' := 665) (L' := [.ref 0, .ref 2, .ref 23, .ref 24, .ref 25, .int v5, .int v6, mk0, .int v8, .int v9, .ref 26, .int v11, mk0, .int v13, .int v14, .int v15, mk0]) (S' := [.int (((1 : Int32)) + v6), .int v13, .ref 24]) (h' := h) rfl ?_
      obtain ⟨r3, K⟩ := K
      refine Wp.iast (op_ix (by decide) ol_204 362 rfl) (by decide) (kS HS 24 rfl) (inS HS 24 rfl r3) rfl ?_
      refine Wp.blk (by decide) ol_204 363 3 (pc' := 672) (L' := [.ref 0, .ref 2, .ref 23, .ref 24, .ref 25, .int v5, .int v6, mk0, .int v8, .int v9, .ref 26, .int v11, mk0, .int v13, .int v14, .int v15, mk0]) (S' := [.int v13, .int v8, .ref 26]) (h' := (stI h 24 v13.toNatClampNeg ((((1 : Int32)) + v6)))) rfl ?_
      obtain ⟨k4, K⟩ := K
      obtain ⟨r5, K⟩ := K
      refine Wp.iast (op_ix (by decide) ol_204 366 rfl) (by decide) k4 r5 rfl ?_
      refine Wp.blk (by decide) ol_204 367 8 (pc' := 685) (L' := [.ref 0, .ref 2, .ref 23, .ref 24, .ref 25, .int v5, .int (((1 : Int32)) - v6), mk0, .int v8, .int v9, .ref 26, .int v11, mk0, .int v13, .int v14, .int v15, mk0]) (S' := [.int (((1 : Int32)) - v6), .ref 24, .ref 23, .int v5]) (h' := (stI ((stI h 24 v13.toNatClampNeg ((((1 : Int32)) + v6)))) 26 v8.toNatClampNeg v13)) rfl ?_
      refine Wp.callI (op_ix (by decide) ol_204 375 rfl) rfl rfl (K.mono ?_)
      rintro _ h6 ⟨x8, rfl, hs7, K⟩
      refine ⟨x8, rfl, ?_⟩
      refine Wp.blk (by decide) ol_204 376 3 (pc' := (if (((1 : Int32)) - v6) = (1 : Int32) then 694 else 698)) (L' := [.ref 0, .ref 2, .ref 23, .ref 24, .ref 25, .int v5, .int (((1 : Int32)) - v6), mk0, .int v8, .int v9, .ref 26, .int v11, mk0, .int v13, .int v14, .int v15, mk0]) (S' := [.int x8]) (h' := h6) rfl ?_
      refine Wp.br (fun c9 => ?_) (fun c9 => ?_)
      · replace K := K.1 c9
        refine Wp.blk (by decide) ol_204 379 2 (pc' := 699) (L' := [.ref 0, .ref 2, .ref 23, .ref 24, .ref 25, .int v5, .int (((1 : Int32)) - v6), mk0, .int v8, .int v9, .ref 26, .int v11, mk0, .int v13, .int v14, .int v15, mk0]) (S' := [.int (1 : Int32), .int x8]) (h' := h6) rfl ?_
        refine Wp.blk (by decide) ol_204 382 1 (pc' := (if x8 = (1 : Int32) then 702 else 706)) (L' := [.ref 0, .ref 2, .ref 23, .ref 24, .ref 25, .int v5, .int (((1 : Int32)) - v6), mk0, .int v8, .int v9, .ref 26, .int v11, mk0, .int v13, .int v14, .int v15, mk0]) (S' := []) (h' := h6) rfl ?_
        refine Wp.br (fun c10 => ?_) (fun c10 => ?_)
        · replace K := K.1 c10
          refine Wp.blk (by decide) ol_204 383 2 (pc' := 707) (L' := [.ref 0, .ref 2, .ref 23, .ref 24, .ref 25, .int v5, .int (((1 : Int32)) - v6), mk0, .int v8, .int v9, .ref 26, .int v11, mk0, .int v13, .int v14, .int v15, mk0]) (S' := [.int (1 : Int32)]) (h' := h6) rfl ?_
          refine Wp.forget (L := [.ref 0, .ref 2, .ref 23, .ref 24, .ref 25, .int v5, .int (((1 : Int32)) - v6), mk0, .int v8, .int v9, .ref 26, .int v11, mk0, mk0, mk0, .int v15, mk0]) (⟨Or.inr rfl, ⟨Or.inr rfl, ⟨Or.inr rfl, ⟨Or.inr rfl, ⟨Or.inr rfl, ⟨Or.inr rfl, ⟨Or.inr rfl, ⟨Or.inr rfl, ⟨Or.inr rfl, ⟨Or.inr rfl, ⟨Or.inr rfl, ⟨Or.inr rfl, ⟨Or.inr rfl, ⟨Or.inl rfl, ⟨Or.inl rfl, ⟨Or.inr rfl, ⟨Or.inr rfl, trivial⟩⟩⟩⟩⟩⟩⟩⟩⟩⟩⟩⟩⟩⟩⟩⟩⟩) ?_
          exact K
        · replace K := K.2 c10
          refine Wp.blk (by decide) ol_204 385 1 (pc' := 707) (L' := [.ref 0, .ref 2, .ref 23, .ref 24, .ref 25, .int v5, .int (((1 : Int32)) - v6), mk0, .int v8, .int v9, .ref 26, .int v11, mk0, .int v13, .int v14, .int v15, mk0]) (S' := [.int (0 : Int32)]) (h' := h6) rfl ?_
          refine Wp.forget (L := [.ref 0, .ref 2, .ref 23, .ref 24, .ref 25, .int v5, .int (((1 : Int32)) - v6), mk0, .int v8, .int v9, .ref 26, .int v11, mk0, mk0, mk0, .int v15, mk0]) (⟨Or.inr rfl, ⟨Or.inr rfl, ⟨Or.inr rfl, ⟨Or.inr rfl, ⟨Or.inr rfl, ⟨Or.inr rfl, ⟨Or.inr rfl, ⟨Or.inr rfl, ⟨Or.inr rfl, ⟨Or.inr rfl, ⟨Or.inr rfl, ⟨Or.inr rfl, ⟨Or.inr rfl, ⟨Or.inl rfl, ⟨Or.inl rfl, ⟨Or.inr rfl, ⟨Or.inr rfl, trivial⟩⟩⟩⟩⟩⟩⟩⟩⟩⟩⟩⟩⟩⟩⟩⟩⟩) ?_
          exact K
      · replace K := K.2 c9
        refine Wp.blk (by decide) ol_204 381 2 (pc' := (if x8 = (0 : Int32) then 702 else 706)) (L' := [.ref 0, .ref 2, .ref 23, .ref 24, .ref 25, .int v5, .int (((1 : Int32)) - v6), mk0, .int v8, .int v9, .ref 26, .int v11, mk0, .int v13, .int v14, .int v15, mk0]) (S' := []) (h' := h6) rfl ?_
        refine Wp.br (fun c11 => ?_) (fun c11 => ?_)
        · replace K := K.1 c11
          refine Wp.blk (by decide) ol_204 383 2 (pc' := 707) (L' := [.ref 0, .ref 2, .ref 23, .ref 24, .ref 25, .int v5, .int (((1 : Int32)) - v6), mk0, .int v8, .int v9, .ref 26, .int v11, mk0, .int v13, .int v14, .int v15, mk0]) (S' := [.int (1 : Int32)]) (h' := h6) rfl ?_
          refine Wp.forget (L := [.ref 0, .ref 2, .ref 23, .ref 24, .ref 25, .int v5, .int (((1 : Int32)) - v6), mk0, .int v8, .int v9, .ref 26, .int v11, mk0, mk0, mk0, .int v15, mk0]) (⟨Or.inr rfl, ⟨Or.inr rfl, ⟨Or.inr rfl, ⟨Or.inr rfl, ⟨Or.inr rfl, ⟨Or.inr rfl, ⟨Or.inr rfl, ⟨Or.inr rfl, ⟨Or.inr rfl, ⟨Or.inr rfl, ⟨Or.inr rfl, ⟨Or.inr rfl, ⟨Or.inr rfl, ⟨Or.inl rfl, ⟨Or.inl rfl, ⟨Or.inr rfl, ⟨Or.inr rfl, trivial⟩⟩⟩⟩⟩⟩⟩⟩⟩⟩⟩⟩⟩⟩⟩⟩⟩) ?_
          exact K
        · replace K := K.2 c11
          refine Wp.blk (by decide) ol_204 385 1 (pc' := 707) (L' := [.ref 0, .ref 2, .ref 23, .ref 24, .ref 25, .int v5, .int (((1 : Int32)) - v6), mk0, .int v8, .int v9, .ref 26, .int v11, mk0, .int v13, .int v14, .int v15, mk0]) (S' := [.int (0 : Int32)]) (h' := h6) rfl ?_
          refine Wp.forget (L := [.ref 0, .ref 2, .ref 23, .ref 24, .ref 25, .int v5, .int (((1 : Int32)) - v6), mk0, .int v8, .int v9, .ref 26, .int v11, mk0, mk0, mk0, .int v15, mk0]) (⟨Or.inr rfl, ⟨Or.inr rfl, ⟨Or.inr rfl, ⟨Or.inr rfl, ⟨Or.inr rfl, ⟨Or.inr rfl, ⟨Or.inr rfl, ⟨Or.inr rfl, ⟨Or.inr rfl, ⟨Or.inr rfl, ⟨Or.inr rfl, ⟨Or.inr rfl, ⟨Or.inr rfl, ⟨Or.inl rfl, ⟨Or.inl rfl, ⟨Or.inr rfl, ⟨Or.inr rfl, trivial⟩⟩⟩⟩⟩⟩⟩⟩⟩⟩⟩⟩⟩⟩⟩⟩⟩) ?_
          exact K
  · replace K := K.2 c1
    refine Wp.blk (by decide) ol_204 353 1 (pc' := 652) (L' := [.ref 0, .ref 2, .ref 23, .ref 24, .ref 25, .int v5, .int v6, mk0, .int v8, .int v9, .ref 26, .int v11, mk0, .int v13, .int v14, .int v15, mk0]) (S' := [.int (0 : Int32)]) (h' := h) rfl ?_
    exact Wp.ret (op_ix (by decide) ol_204 354 rfl) rfl K
set_option maxRecDepth 4000 in
/-- CutsOrFastLaw.law at 707 -/
theorem g204_707 (d : Nat) (v5 : Int32) (v6 : Int32) (v8 : Int32) (v9 : Int32) (v11 : Int32) (v15 : Int32) (s0 : Int32) (h : AH) (HS : Sh h)  (Q : Option Value → AH → Prop) (K : ((v9 < (0 : Int32) → ((v15 = (0 : Int32) → Wp d 204 89 [.ref 0, .ref 2, .ref 23, .ref 24, .ref 25, .int v5, .int v6, mk0, .int (v8 + (1 : Int32)), .int v9, .ref 26, .int (v11 + (1 : Int32)), mk0, mk0, mk0, mk0, mk0] [] h Q) ∧ (¬ v15 = (0 : Int32) → ((s0 = (0 : Int32) → Wp d 204 89 [.ref 0, .ref 2, .ref 23, .ref 24, .ref 25, .int v5, .int v6, mk0, .int (v8 + (1 : Int32)), .int v8, .ref 26, .int (v11 + (1 : Int32)), mk0, mk0, mk0, mk0, mk0] [] h Q) ∧ (¬ s0 = (0 : Int32) → Wp d 204 89 [.ref 0, .ref 2, .ref 23, .ref 24, .ref 25, .int v5, .int v6, mk0, .int (v8 + (1 : Int32)), .int v9, .ref 26, .int (v11 + (1 : Int32)), mk0, mk0, mk0, mk0, mk0] [] h Q))))) ∧ (¬ v9 < (0 : Int32) → Wp d 204 89 [.ref 0, .ref 2, .ref 23, .ref 24, .ref 25, .int v5, .int v6, mk0, .int (v8 + (1 : Int32)), .int v9, .ref 26, .int (v11 + (1 : Int32)), mk0, mk0, mk0, mk0, mk0] [] h Q))) : Wp d 204 707 [.ref 0, .ref 2, .ref 23, .ref 24, .ref 25, .int v5, .int v6, mk0, .int v8, .int v9, .ref 26, .int v11, mk0, mk0, mk0, .int v15, mk0] [.int s0] h Q := by
  refine Wp.blk (by decide) ol_204 386 3 (pc' := (if v9 < (0 : Int32) then 714 else 729)) (L' := [.ref 0, .ref 2, .ref 23, .ref 24, .ref 25, .int v5, .int v6, mk0, .int v8, .int v9, .ref 26, .int v11, mk0, mk0, mk0, .int v15, .int s0]) (S' := []) (h' := h) rfl ?_
  refine Wp.br (fun c1 => ?_) (fun c1 => ?_)
  · replace K := K.1 c1
    refine Wp.blk (by decide) ol_204 389 2 (pc' := (if v15 = (0 : Int32) then 729 else 719)) (L' := [.ref 0, .ref 2, .ref 23, .ref 24, .ref 25, .int v5, .int v6, mk0, .int v8, .int v9, .ref 26, .int v11, mk0, mk0, mk0, .int v15, .int s0]) (S' := []) (h' := h) rfl ?_
    refine Wp.br (fun c2 => ?_) (fun c2 => ?_)
    · replace K := K.1 c2
      refine Wp.blk (by decide) ol_204 395 5 (pc' := 89) (L' := [.ref 0, .ref 2, .ref 23, .ref 24, .ref 25, .int v5, .int v6, mk0, .int (v8 + (1 : Int32)), .int v9, .ref 26, .int (v11 + (1 : Int32)), mk0, mk0, mk0, .int v15, .int s0]) (S' := []) (h' := h) rfl ?_
      refine Wp.forget (L := [.ref 0, .ref 2, .ref 23, .ref 24, .ref 25, .int v5, .int v6, mk0, .int (v8 + (1 : Int32)), .int v9, .ref 26, .int (v11 + (1 : Int32)), mk0, mk0, mk0, mk0, mk0]) (⟨Or.inr rfl, ⟨Or.inr rfl, ⟨Or.inr rfl, ⟨Or.inr rfl, ⟨Or.inr rfl, ⟨Or.inr rfl, ⟨Or.inr rfl, ⟨Or.inr rfl, ⟨Or.inr rfl, ⟨Or.inr rfl, ⟨Or.inr rfl, ⟨Or.inr rfl, ⟨Or.inr rfl, ⟨Or.inr rfl, ⟨Or.inr rfl, ⟨Or.inl rfl, ⟨Or.inl rfl, trivial⟩⟩⟩⟩⟩⟩⟩⟩⟩⟩⟩⟩⟩⟩⟩⟩⟩) ?_
      exact K
    · replace K := K.2 c2
      refine Wp.blk (by decide) ol_204 391 2 (pc' := (if s0 = (0 : Int32) then 724 else 729)) (L' := [.ref 0, .ref 2, .ref 23, .ref 24, .ref 25, .int v5, .int v6, mk0, .int v8, .int v9, .ref 26, .int v11, mk0, mk0, mk0, .int v15, .int s0]) (S' := []) (h' := h) rfl ?_
      refine Wp.br (fun c3 => ?_) (fun c3 => ?_)
      · replace K := K.1 c3
        refine Wp.blk (by decide) ol_204 393 2 (pc' := 731) (L' := [.ref 0, .ref 2, .ref 23, .ref 24, .ref 25, .int v5, .int v6, mk0, .int v8, .int v9, .ref 26, .int v11, mk0, mk0, mk0, .int v15, .int s0]) (S' := [.int v8]) (h' := h) rfl ?_
        refine Wp.blk (by decide) ol_204 396 4 (pc' := 89) (L' := [.ref 0, .ref 2, .ref 23, .ref 24, .ref 25, .int v5, .int v6, mk0, .int (v8 + (1 : Int32)), .int v8, .ref 26, .int (v11 + (1 : Int32)), mk0, mk0, mk0, .int v15, .int s0]) (S' := []) (h' := h) rfl ?_
        refine Wp.forget (L := [.ref 0, .ref 2, .ref 23, .ref 24, .ref 25, .int v5, .int v6, mk0, .int (v8 + (1 : Int32)), .int v8, .ref 26, .int (v11 + (1 : Int32)), mk0, mk0, mk0, mk0, mk0]) (⟨Or.inr rfl, ⟨Or.inr rfl, ⟨Or.inr rfl, ⟨Or.inr rfl, ⟨Or.inr rfl, ⟨Or.inr rfl, ⟨Or.inr rfl, ⟨Or.inr rfl, ⟨Or.inr rfl, ⟨Or.inr rfl, ⟨Or.inr rfl, ⟨Or.inr rfl, ⟨Or.inr rfl, ⟨Or.inr rfl, ⟨Or.inr rfl, ⟨Or.inl rfl, ⟨Or.inl rfl, trivial⟩⟩⟩⟩⟩⟩⟩⟩⟩⟩⟩⟩⟩⟩⟩⟩⟩) ?_
        exact K
      · replace K := K.2 c3
        refine Wp.blk (by decide) ol_204 395 5 (pc' := 89) (L' := [.ref 0, .ref 2, .ref 23, .ref 24, .ref 25, .int v5, .int v6, mk0, .int (v8 + (1 : Int32)), .int v9, .ref 26, .int (v11 + (1 : Int32)), mk0, mk0, mk0, .int v15, .int s0]) (S' := []) (h' := h) rfl ?_
        refine Wp.forget (L := [.ref 0, .ref 2, .ref 23, .ref 24, .ref 25, .int v5, .int v6, mk0, .int (v8 + (1 : Int32)), .int v9, .ref 26, .int (v11 + (1 : Int32)), mk0, mk0, mk0, mk0, mk0]) (⟨Or.inr rfl, ⟨Or.inr rfl, ⟨Or.inr rfl, ⟨Or.inr rfl, ⟨Or.inr rfl, ⟨Or.inr rfl, ⟨Or.inr rfl, ⟨Or.inr rfl, ⟨Or.inr rfl, ⟨Or.inr rfl, ⟨Or.inr rfl, ⟨Or.inr rfl, ⟨Or.inr rfl, ⟨Or.inr rfl, ⟨Or.inr rfl, ⟨Or.inl rfl, ⟨Or.inl rfl, trivial⟩⟩⟩⟩⟩⟩⟩⟩⟩⟩⟩⟩⟩⟩⟩⟩⟩) ?_
        exact K
  · replace K := K.2 c1
    refine Wp.blk (by decide) ol_204 395 5 (pc' := 89) (L' := [.ref 0, .ref 2, .ref 23, .ref 24, .ref 25, .int v5, .int v6, mk0, .int (v8 + (1 : Int32)), .int v9, .ref 26, .int (v11 + (1 : Int32)), mk0, mk0, mk0, .int v15, .int s0]) (S' := []) (h' := h) rfl ?_
    refine Wp.forget (L := [.ref 0, .ref 2, .ref 23, .ref 24, .ref 25, .int v5, .int v6, mk0, .int (v8 + (1 : Int32)), .int v9, .ref 26, .int (v11 + (1 : Int32)), mk0, mk0, mk0, mk0, mk0]) (⟨Or.inr rfl, ⟨Or.inr rfl, ⟨Or.inr rfl, ⟨Or.inr rfl, ⟨Or.inr rfl, ⟨Or.inr rfl, ⟨Or.inr rfl, ⟨Or.inr rfl, ⟨Or.inr rfl, ⟨Or.inr rfl, ⟨Or.inr rfl, ⟨Or.inr rfl, ⟨Or.inr rfl, ⟨Or.inr rfl, ⟨Or.inr rfl, ⟨Or.inl rfl, ⟨Or.inl rfl, trivial⟩⟩⟩⟩⟩⟩⟩⟩⟩⟩⟩⟩⟩⟩⟩⟩⟩) ?_
    exact K
