/-- CutsOrFastModel.<init> at 0 ()V -/
theorem g128_0 (d : Nat) (v0 : Nat) (h : AH)  (Q : Option Value → AH → Prop) (K : (∀ n1, n1 = (NX h) → ∀ h2, h2 = (newO h 20 10) → (okC 12 (AK h2 v0).1 = true ∧ 2 ≤ v0 ∧ (∀ n7, n7 = (NX ((stR h2 v0 4 (some n1)))) → ∀ h8, h8 = (newO ((stR h2 v0 4 (some n1))) 20 10) → (okC 12 (AK h8 v0).1 = true ∧ (∀ n12, n12 = (NX ((stR h8 v0 5 (some n7)))) → ∀ h13, h13 = (newO ((stR h8 v0 5 (some n7))) 20 10) → (okC 12 (AK h13 v0).1 = true ∧ (∀ n17, n17 = (NX ((stR h13 v0 6 (some n12)))) → ∀ h18, h18 = (newO ((stR h13 v0 6 (some n12))) 20 10) → (okC 12 (AK h18 v0).1 = true ∧ (∀ n22, n22 = (NX ((stR h18 v0 7 (some n17)))) → ∀ h23, h23 = (newO ((stR h18 v0 7 (some n17))) 20 9) → (okC 12 (AK h23 v0).1 = true ∧ (∀ n27, n27 = (NX ((stR h23 v0 10 (some n22)))) → ∀ h28, h28 = (newO ((stR h23 v0 10 (some n22))) 20 5) → (okC 12 (AK h28 v0).1 = true ∧ (∀ n32, n32 = (NX ((stR h28 v0 12 (some n27)))) → ∀ h33, h33 = (newO ((stR h28 v0 12 (some n27))) 22 50) → (okC 12 (AK h33 v0).1 = true ∧ (∀ n37, n37 = (NX ((stR h33 v0 15 (some n32)))) → ∀ h38, h38 = (newO ((stR h33 v0 15 (some n32))) 20 9) → (okC 12 (AK h38 v0).1 = true ∧ (∀ n42, n42 = (NX ((stR h38 v0 20 (some n37)))) → ∀ h43, h43 = (newO ((stR h38 v0 20 (some n37))) 20 9) → (okC 12 (AK h43 v0).1 = true ∧ (∀ n47, n47 = (NX ((stR h43 v0 21 (some n42)))) → ∀ h48, h48 = (newO ((stR h43 v0 21 (some n42))) 20 9) → (okC 12 (AK h48 v0).1 = true ∧ (∀ n52, n52 = (NX ((stR h48 v0 27 (some n47)))) → ∀ h53, h53 = (newO ((stR h48 v0 27 (some n47))) 20 9) → (okC 12 (AK h53 v0).1 = true ∧ (∀ n57, n57 = (NX ((stR h53 v0 28 (some n52)))) → ∀ h58, h58 = (newO ((stR h53 v0 28 (some n52))) 20 9) → (okC 12 (AK h58 v0).1 = true ∧ (∀ n62, n62 = (NX ((stR h58 v0 29 (some n57)))) → ∀ h63, h63 = (newO ((stR h58 v0 29 (some n57))) 20 9) → (okC 12 (AK h63 v0).1 = true ∧ (∀ n67, n67 = (NX ((stR h63 v0 30 (some n62)))) → ∀ h68, h68 = (newO ((stR h63 v0 30 (some n62))) 23 1024) → (okC 12 (AK h68 v0).1 = true ∧ (∀ n72, n72 = (NX ((stR h68 v0 31 (some n67)))) → ∀ h73, h73 = (newO ((stR h68 v0 31 (some n67))) 20 10) → (okC 12 (AK h73 v0).1 = true ∧ (∀ n77, n77 = (NX ((stR h73 v0 33 (some n72)))) → ∀ h78, h78 = (newO ((stR h73 v0 33 (some n72))) 20 11) → (okC 12 (AK h78 v0).1 = true ∧ (∀ n82, n82 = (NX ((stR h78 v0 34 (some n77)))) → ∀ h83, h83 = (newO ((stR h78 v0 34 (some n77))) 23 118098) → (okC 12 (AK h83 v0).1 = true ∧ (∀ n87, n87 = (NX ((stR h83 v0 36 (some n82)))) → ∀ h88, h88 = (newO ((stR h83 v0 36 (some n82))) 20 39366) → (okC 12 (AK h88 v0).1 = true ∧ (∀ n92, n92 = (NX ((stR h88 v0 40 (some n87)))) → ∀ h93, h93 = (newO ((stR h88 v0 40 (some n87))) 20 20) → (okC 12 (AK h93 v0).1 = true ∧ (∀ n97, n97 = (NX ((stR h93 v0 41 (some n92)))) → ∀ h98, h98 = (newO ((stR h93 v0 41 (some n92))) 20 6) → (okC 12 (AK h98 v0).1 = true ∧ (∀ n102, n102 = (NX ((stR h98 v0 43 (some n97)))) → ∀ h103, h103 = (newO ((stR h98 v0 43 (some n97))) 20 6) → (okC 12 (AK h103 v0).1 = true ∧ (∀ n107, n107 = (NX ((stR h103 v0 44 (some n102)))) → ∀ h108, h108 = (newO ((stR h103 v0 44 (some n102))) 20 9) → (okC 12 (AK h108 v0).1 = true ∧ Q none (stR h108 v0 45 (some n107))))))))))))))))))))))))))))))))))))))))))))))) : Wp d 128 0 [.ref v0] [] h Q := by
  refine Wp.blk (by decide) ol_128 0 4 (pc' := 7) (L' := [.ref v0]) (S' := [.int (10 : Int32), .ref v0]) (h' := h) rfl ?_
  refine Wp.blk (by decide) ol_128 4 1 (pc' := 9) (L' := [.ref v0]) (S' := [.ref (NX h), .ref v0]) (h' := (newO h 20 10)) rfl ?_
  obtain ⟨n1, e3⟩ : ∃ x, x = (NX h) := ⟨_, rfl⟩
  obtain ⟨h2, e4⟩ : ∃ x, x = (newO h 20 10) := ⟨_, rfl⟩
  rw [← e4, ← e3]
  replace K := K n1 e3 h2 e4
  obtain ⟨k5, K⟩ := K
  obtain ⟨b6, K⟩ := K
  refine Wp.putf (op_ix (by decide) ol_128 5 rfl) b6 k5 (h' := (stR h2 v0 4 (some n1))) rfl rfl ?_
  refine Wp.blk (by decide) ol_128 6 2 (pc' := 15) (L' := [.ref v0]) (S' := [.int (10 : Int32), .ref v0]) (h' := (stR h2 v0 4 (some n1))) rfl ?_
  refine Wp.blk (by decide) ol_128 8 1 (pc' := 17) (L' := [.ref v0]) (S' := [.ref (NX ((stR h2 v0 4 (some n1)))), .ref v0]) (h' := (newO ((stR h2 v0 4 (some n1))) 20 10)) rfl ?_
  obtain ⟨n7, e9⟩ : ∃ x, x = (NX ((stR h2 v0 4 (some n1)))) := ⟨_, rfl⟩
  obtain ⟨h8, e10⟩ : ∃ x, x = (newO ((stR h2 v0 4 (some n1))) 20 10) := ⟨_, rfl⟩
  rw [← e10, ← e9]
  replace K := K n7 e9 h8 e10
  obtain ⟨k11, K⟩ := K
  refine Wp.putf (op_ix (by decide) ol_128 9 rfl) b6 k11 (h' := (stR h8 v0 5 (some n7))) rfl rfl ?_
  refine Wp.blk (by decide) ol_128 10 2 (pc' := 23) (L' := [.ref v0]) (S' := [.int (10 : Int32), .ref v0]) (h' := (stR h8 v0 5 (some n7))) rfl ?_
  refine Wp.blk (by decide) ol_128 12 1 (pc' := 25) (L' := [.ref v0]) (S' := [.ref (NX ((stR h8 v0 5 (some n7)))), .ref v0]) (h' := (newO ((stR h8 v0 5 (some n7))) 20 10)) rfl ?_
  obtain ⟨n12, e14⟩ : ∃ x, x = (NX ((stR h8 v0 5 (some n7)))) := ⟨_, rfl⟩
  obtain ⟨h13, e15⟩ : ∃ x, x = (newO ((stR h8 v0 5 (some n7))) 20 10) := ⟨_, rfl⟩
  rw [← e15, ← e14]
  replace K := K n12 e14 h13 e15
  obtain ⟨k16, K⟩ := K
  refine Wp.putf (op_ix (by decide) ol_128 13 rfl) b6 k16 (h' := (stR h13 v0 6 (some n12))) rfl rfl ?_
  refine Wp.blk (by decide) ol_128 14 2 (pc' := 31) (L' := [.ref v0]) (S' := [.int (10 : Int32), .ref v0]) (h' := (stR h13 v0 6 (some n12))) rfl ?_
  refine Wp.blk (by decide) ol_128 16 1 (pc' := 33) (L' := [.ref v0]) (S' := [.ref (NX ((stR h13 v0 6 (some n12)))), .ref v0]) (h' := (newO ((stR h13 v0 6 (some n12))) 20 10)) rfl ?_
  obtain ⟨n17, e19⟩ : ∃ x, x = (NX ((stR h13 v0 6 (some n12)))) := ⟨_, rfl⟩
  obtain ⟨h18, e20⟩ : ∃ x, x = (newO ((stR h13 v0 6 (some n12))) 20 10) := ⟨_, rfl⟩
  rw [← e20, ← e19]
  replace K := K n17 e19 h18 e20
  obtain ⟨k21, K⟩ := K
  refine Wp.putf (op_ix (by decide) ol_128 17 rfl) b6 k21 (h' := (stR h18 v0 7 (some n17))) rfl rfl ?_
  refine Wp.blk (by decide) ol_128 18 2 (pc' := 39) (L' := [.ref v0]) (S' := [.int (9 : Int32), .ref v0]) (h' := (stR h18 v0 7 (some n17))) rfl ?_
  refine Wp.blk (by decide) ol_128 20 1 (pc' := 41) (L' := [.ref v0]) (S' := [.ref (NX ((stR h18 v0 7 (some n17)))), .ref v0]) (h' := (newO ((stR h18 v0 7 (some n17))) 20 9)) rfl ?_
  obtain ⟨n22, e24⟩ : ∃ x, x = (NX ((stR h18 v0 7 (some n17)))) := ⟨_, rfl⟩
  obtain ⟨h23, e25⟩ : ∃ x, x = (newO ((stR h18 v0 7 (some n17))) 20 9) := ⟨_, rfl⟩
  rw [← e25, ← e24]
  replace K := K n22 e24 h23 e25
  obtain ⟨k26, K⟩ := K
  refine Wp.putf (op_ix (by decide) ol_128 21 rfl) b6 k26 (h' := (stR h23 v0 10 (some n22))) rfl rfl ?_
  refine Wp.blk (by decide) ol_128 22 2 (pc' := 46) (L' := [.ref v0]) (S' := [.int (5 : Int32), .ref v0]) (h' := (stR h23 v0 10 (some n22))) rfl ?_
  refine Wp.blk (by decide) ol_128 24 1 (pc' := 48) (L' := [.ref v0]) (S' := [.ref (NX ((stR h23 v0 10 (some n22)))), .ref v0]) (h' := (newO ((stR h23 v0 10 (some n22))) 20 5)) rfl ?_
  obtain ⟨n27, e29⟩ : ∃ x, x = (NX ((stR h23 v0 10 (some n22)))) := ⟨_, rfl⟩
  obtain ⟨h28, e30⟩ : ∃ x, x = (newO ((stR h23 v0 10 (some n22))) 20 5) := ⟨_, rfl⟩
  rw [← e30, ← e29]
  replace K := K n27 e29 h28 e30
  obtain ⟨k31, K⟩ := K
  refine Wp.putf (op_ix (by decide) ol_128 25 rfl) b6 k31 (h' := (stR h28 v0 12 (some n27))) rfl rfl ?_
  refine Wp.blk (by decide) ol_128 26 2 (pc' := 54) (L' := [.ref v0]) (S' := [.int (50 : Int32), .ref v0]) (h' := (stR h28 v0 12 (some n27))) rfl ?_
  refine Wp.blk (by decide) ol_128 28 1 (pc' := 56) (L' := [.ref v0]) (S' := [.ref (NX ((stR h28 v0 12 (some n27)))), .ref v0]) (h' := (newO ((stR h28 v0 12 (some n27))) 22 50)) rfl ?_
  obtain ⟨n32, e34⟩ : ∃ x, x = (NX ((stR h28 v0 12 (some n27)))) := ⟨_, rfl⟩
  obtain ⟨h33, e35⟩ : ∃ x, x = (newO ((stR h28 v0 12 (some n27))) 22 50) := ⟨_, rfl⟩
  rw [← e35, ← e34]
  replace K := K n32 e34 h33 e35
  obtain ⟨k36, K⟩ := K
  refine Wp.putf (op_ix (by decide) ol_128 29 rfl) b6 k36 (h' := (stR h33 v0 15 (some n32))) rfl rfl ?_
  refine Wp.blk (by decide) ol_128 30 2 (pc' := 62) (L' := [.ref v0]) (S' := [.int (9 : Int32), .ref v0]) (h' := (stR h33 v0 15 (some n32))) rfl ?_
  refine Wp.blk (by decide) ol_128 32 1 (pc' := 64) (L' := [.ref v0]) (S' := [.ref (NX ((stR h33 v0 15 (some n32)))), .ref v0]) (h' := (newO ((stR h33 v0 15 (some n32))) 20 9)) rfl ?_
  obtain ⟨n37, e39⟩ : ∃ x, x = (NX ((stR h33 v0 15 (some n32)))) := ⟨_, rfl⟩
  obtain ⟨h38, e40⟩ : ∃ x, x = (newO ((stR h33 v0 15 (some n32))) 20 9) := ⟨_, rfl⟩
  rw [← e40, ← e39]
  replace K := K n37 e39 h38 e40
  obtain ⟨k41, K⟩ := K
  refine Wp.putf (op_ix (by decide) ol_128 33 rfl) b6 k41 (h' := (stR h38 v0 20 (some n37))) rfl rfl ?_
  refine Wp.blk (by decide) ol_128 34 2 (pc' := 70) (L' := [.ref v0]) (S' := [.int (9 : Int32), .ref v0]) (h' := (stR h38 v0 20 (some n37))) rfl ?_
  refine Wp.blk (by decide) ol_128 36 1 (pc' := 72) (L' := [.ref v0]) (S' := [.ref (NX ((stR h38 v0 20 (some n37)))), .ref v0]) (h' := (newO ((stR h38 v0 20 (some n37))) 20 9)) rfl ?_
  obtain ⟨n42, e44⟩ : ∃ x, x = (NX ((stR h38 v0 20 (some n37)))) := ⟨_, rfl⟩
  obtain ⟨h43, e45⟩ : ∃ x, x = (newO ((stR h38 v0 20 (some n37))) 20 9) := ⟨_, rfl⟩
  rw [← e45, ← e44]
  replace K := K n42 e44 h43 e45
  obtain ⟨k46, K⟩ := K
  refine Wp.putf (op_ix (by decide) ol_128 37 rfl) b6 k46 (h' := (stR h43 v0 21 (some n42))) rfl rfl ?_
  refine Wp.blk (by decide) ol_128 38 2 (pc' := 78) (L' := [.ref v0]) (S' := [.int (9 : Int32), .ref v0]) (h' := (stR h43 v0 21 (some n42))) rfl ?_
  refine Wp.blk (by decide) ol_128 40 1 (pc' := 80) (L' := [.ref v0]) (S' := [.ref (NX ((stR h43 v0 21 (some n42)))), .ref v0]) (h' := (newO ((stR h43 v0 21 (some n42))) 20 9)) rfl ?_
  obtain ⟨n47, e49⟩ : ∃ x, x = (NX ((stR h43 v0 21 (some n42)))) := ⟨_, rfl⟩
  obtain ⟨h48, e50⟩ : ∃ x, x = (newO ((stR h43 v0 21 (some n42))) 20 9) := ⟨_, rfl⟩
  rw [← e50, ← e49]
  replace K := K n47 e49 h48 e50
  obtain ⟨k51, K⟩ := K
  refine Wp.putf (op_ix (by decide) ol_128 41 rfl) b6 k51 (h' := (stR h48 v0 27 (some n47))) rfl rfl ?_
  refine Wp.blk (by decide) ol_128 42 2 (pc' := 86) (L' := [.ref v0]) (S' := [.int (9 : Int32), .ref v0]) (h' := (stR h48 v0 27 (some n47))) rfl ?_
  refine Wp.blk (by decide) ol_128 44 1 (pc' := 88) (L' := [.ref v0]) (S' := [.ref (NX ((stR h48 v0 27 (some n47)))), .ref v0]) (h' := (newO ((stR h48 v0 27 (some n47))) 20 9)) rfl ?_
  obtain ⟨n52, e54⟩ : ∃ x, x = (NX ((stR h48 v0 27 (some n47)))) := ⟨_, rfl⟩
  obtain ⟨h53, e55⟩ : ∃ x, x = (newO ((stR h48 v0 27 (some n47))) 20 9) := ⟨_, rfl⟩
  rw [← e55, ← e54]
  replace K := K n52 e54 h53 e55
  obtain ⟨k56, K⟩ := K
  refine Wp.putf (op_ix (by decide) ol_128 45 rfl) b6 k56 (h' := (stR h53 v0 28 (some n52))) rfl rfl ?_
  refine Wp.blk (by decide) ol_128 46 2 (pc' := 94) (L' := [.ref v0]) (S' := [.int (9 : Int32), .ref v0]) (h' := (stR h53 v0 28 (some n52))) rfl ?_
  refine Wp.blk (by decide) ol_128 48 1 (pc' := 96) (L' := [.ref v0]) (S' := [.ref (NX ((stR h53 v0 28 (some n52)))), .ref v0]) (h' := (newO ((stR h53 v0 28 (some n52))) 20 9)) rfl ?_
  obtain ⟨n57, e59⟩ : ∃ x, x = (NX ((stR h53 v0 28 (some n52)))) := ⟨_, rfl⟩
  obtain ⟨h58, e60⟩ : ∃ x, x = (newO ((stR h53 v0 28 (some n52))) 20 9) := ⟨_, rfl⟩
  rw [← e60, ← e59]
  replace K := K n57 e59 h58 e60
  obtain ⟨k61, K⟩ := K
  refine Wp.putf (op_ix (by decide) ol_128 49 rfl) b6 k61 (h' := (stR h58 v0 29 (some n57))) rfl rfl ?_
  refine Wp.blk (by decide) ol_128 50 2 (pc' := 102) (L' := [.ref v0]) (S' := [.int (9 : Int32), .ref v0]) (h' := (stR h58 v0 29 (some n57))) rfl ?_
  refine Wp.blk (by decide) ol_128 52 1 (pc' := 104) (L' := [.ref v0]) (S' := [.ref (NX ((stR h58 v0 29 (some n57)))), .ref v0]) (h' := (newO ((stR h58 v0 29 (some n57))) 20 9)) rfl ?_
  obtain ⟨n62, e64⟩ : ∃ x, x = (NX ((stR h58 v0 29 (some n57)))) := ⟨_, rfl⟩
  obtain ⟨h63, e65⟩ : ∃ x, x = (newO ((stR h58 v0 29 (some n57))) 20 9) := ⟨_, rfl⟩
  rw [← e65, ← e64]
  replace K := K n62 e64 h63 e65
  obtain ⟨k66, K⟩ := K
  refine Wp.putf (op_ix (by decide) ol_128 53 rfl) b6 k66 (h' := (stR h63 v0 30 (some n62))) rfl rfl ?_
  refine Wp.blk (by decide) ol_128 54 2 (pc' := 111) (L' := [.ref v0]) (S' := [.int (1024 : Int32), .ref v0]) (h' := (stR h63 v0 30 (some n62))) rfl ?_
  refine Wp.blk (by decide) ol_128 56 1 (pc' := 113) (L' := [.ref v0]) (S' := [.ref (NX ((stR h63 v0 30 (some n62)))), .ref v0]) (h' := (newO ((stR h63 v0 30 (some n62))) 23 1024)) rfl ?_
  obtain ⟨n67, e69⟩ : ∃ x, x = (NX ((stR h63 v0 30 (some n62)))) := ⟨_, rfl⟩
  obtain ⟨h68, e70⟩ : ∃ x, x = (newO ((stR h63 v0 30 (some n62))) 23 1024) := ⟨_, rfl⟩
  rw [← e70, ← e69]
  replace K := K n67 e69 h68 e70
  obtain ⟨k71, K⟩ := K
  refine Wp.putf (op_ix (by decide) ol_128 57 rfl) b6 k71 (h' := (stR h68 v0 31 (some n67))) rfl rfl ?_
  refine Wp.blk (by decide) ol_128 58 2 (pc' := 119) (L' := [.ref v0]) (S' := [.int (10 : Int32), .ref v0]) (h' := (stR h68 v0 31 (some n67))) rfl ?_
  refine Wp.blk (by decide) ol_128 60 1 (pc' := 121) (L' := [.ref v0]) (S' := [.ref (NX ((stR h68 v0 31 (some n67)))), .ref v0]) (h' := (newO ((stR h68 v0 31 (some n67))) 20 10)) rfl ?_
  obtain ⟨n72, e74⟩ : ∃ x, x = (NX ((stR h68 v0 31 (some n67)))) := ⟨_, rfl⟩
  obtain ⟨h73, e75⟩ : ∃ x, x = (newO ((stR h68 v0 31 (some n67))) 20 10) := ⟨_, rfl⟩
  rw [← e75, ← e74]
  replace K := K n72 e74 h73 e75
  obtain ⟨k76, K⟩ := K
  refine Wp.putf (op_ix (by decide) ol_128 61 rfl) b6 k76 (h' := (stR h73 v0 33 (some n72))) rfl rfl ?_
  refine Wp.blk (by decide) ol_128 62 2 (pc' := 127) (L' := [.ref v0]) (S' := [.int (11 : Int32), .ref v0]) (h' := (stR h73 v0 33 (some n72))) rfl ?_
  refine Wp.blk (by decide) ol_128 64 1 (pc' := 129) (L' := [.ref v0]) (S' := [.ref (NX ((stR h73 v0 33 (some n72)))), .ref v0]) (h' := (newO ((stR h73 v0 33 (some n72))) 20 11)) rfl ?_
  obtain ⟨n77, e79⟩ : ∃ x, x = (NX ((stR h73 v0 33 (some n72)))) := ⟨_, rfl⟩
  obtain ⟨h78, e80⟩ : ∃ x, x = (newO ((stR h73 v0 33 (some n72))) 20 11) := ⟨_, rfl⟩
  rw [← e80, ← e79]
  replace K := K n77 e79 h78 e80
  obtain ⟨k81, K⟩ := K
  refine Wp.putf (op_ix (by decide) ol_128 65 rfl) b6 k81 (h' := (stR h78 v0 34 (some n77))) rfl rfl ?_
  refine Wp.blk (by decide) ol_128 66 2 (pc' := 135) (L' := [.ref v0]) (S' := [.int (118098 : Int32), .ref v0]) (h' := (stR h78 v0 34 (some n77))) rfl ?_
  refine Wp.blk (by decide) ol_128 68 1 (pc' := 137) (L' := [.ref v0]) (S' := [.ref (NX ((stR h78 v0 34 (some n77)))), .ref v0]) (h' := (newO ((stR h78 v0 34 (some n77))) 23 118098)) rfl ?_
  obtain ⟨n82, e84⟩ : ∃ x, x = (NX ((stR h78 v0 34 (some n77)))) := ⟨_, rfl⟩
  obtain ⟨h83, e85⟩ : ∃ x, x = (newO ((stR h78 v0 34 (some n77))) 23 118098) := ⟨_, rfl⟩
  rw [← e85, ← e84]
  replace K := K n82 e84 h83 e85
  obtain ⟨k86, K⟩ := K
  refine Wp.putf (op_ix (by decide) ol_128 69 rfl) b6 k86 (h' := (stR h83 v0 36 (some n82))) rfl rfl ?_
  refine Wp.blk (by decide) ol_128 70 2 (pc' := 143) (L' := [.ref v0]) (S' := [.int (39366 : Int32), .ref v0]) (h' := (stR h83 v0 36 (some n82))) rfl ?_
  refine Wp.blk (by decide) ol_128 72 1 (pc' := 145) (L' := [.ref v0]) (S' := [.ref (NX ((stR h83 v0 36 (some n82)))), .ref v0]) (h' := (newO ((stR h83 v0 36 (some n82))) 20 39366)) rfl ?_
  obtain ⟨n87, e89⟩ : ∃ x, x = (NX ((stR h83 v0 36 (some n82)))) := ⟨_, rfl⟩
  obtain ⟨h88, e90⟩ : ∃ x, x = (newO ((stR h83 v0 36 (some n82))) 20 39366) := ⟨_, rfl⟩
  rw [← e90, ← e89]
  replace K := K n87 e89 h88 e90
  obtain ⟨k91, K⟩ := K
  refine Wp.putf (op_ix (by decide) ol_128 73 rfl) b6 k91 (h' := (stR h88 v0 40 (some n87))) rfl rfl ?_
  refine Wp.blk (by decide) ol_128 74 2 (pc' := 151) (L' := [.ref v0]) (S' := [.int (20 : Int32), .ref v0]) (h' := (stR h88 v0 40 (some n87))) rfl ?_
  refine Wp.blk (by decide) ol_128 76 1 (pc' := 153) (L' := [.ref v0]) (S' := [.ref (NX ((stR h88 v0 40 (some n87)))), .ref v0]) (h' := (newO ((stR h88 v0 40 (some n87))) 20 20)) rfl ?_
  obtain ⟨n92, e94⟩ : ∃ x, x = (NX ((stR h88 v0 40 (some n87)))) := ⟨_, rfl⟩
  obtain ⟨h93, e95⟩ : ∃ x, x = (newO ((stR h88 v0 40 (some n87))) 20 20) := ⟨_, rfl⟩
  rw [← e95, ← e94]
  replace K := K n92 e94 h93 e95
  obtain ⟨k96, K⟩ := K
  refine Wp.putf (op_ix (by decide) ol_128 77 rfl) b6 k96 (h' := (stR h93 v0 41 (some n92))) rfl rfl ?_
  refine Wp.blk (by decide) ol_128 78 2 (pc' := 159) (L' := [.ref v0]) (S' := [.int (6 : Int32), .ref v0]) (h' := (stR h93 v0 41 (some n92))) rfl ?_
  refine Wp.blk (by decide) ol_128 80 1 (pc' := 161) (L' := [.ref v0]) (S' := [.ref (NX ((stR h93 v0 41 (some n92)))), .ref v0]) (h' := (newO ((stR h93 v0 41 (some n92))) 20 6)) rfl ?_
  obtain ⟨n97, e99⟩ : ∃ x, x = (NX ((stR h93 v0 41 (some n92)))) := ⟨_, rfl⟩
  obtain ⟨h98, e100⟩ : ∃ x, x = (newO ((stR h93 v0 41 (some n92))) 20 6) := ⟨_, rfl⟩
  rw [← e100, ← e99]
  replace K := K n97 e99 h98 e100
  obtain ⟨k101, K⟩ := K
  refine Wp.putf (op_ix (by decide) ol_128 81 rfl) b6 k101 (h' := (stR h98 v0 43 (some n97))) rfl rfl ?_
  refine Wp.blk (by decide) ol_128 82 2 (pc' := 167) (L' := [.ref v0]) (S' := [.int (6 : Int32), .ref v0]) (h' := (stR h98 v0 43 (some n97))) rfl ?_
  refine Wp.blk (by decide) ol_128 84 1 (pc' := 169) (L' := [.ref v0]) (S' := [.ref (NX ((stR h98 v0 43 (some n97)))), .ref v0]) (h' := (newO ((stR h98 v0 43 (some n97))) 20 6)) rfl ?_
  obtain ⟨n102, e104⟩ : ∃ x, x = (NX ((stR h98 v0 43 (some n97)))) := ⟨_, rfl⟩
  obtain ⟨h103, e105⟩ : ∃ x, x = (newO ((stR h98 v0 43 (some n97))) 20 6) := ⟨_, rfl⟩
  rw [← e105, ← e104]
  replace K := K n102 e104 h103 e105
  obtain ⟨k106, K⟩ := K
  refine Wp.putf (op_ix (by decide) ol_128 85 rfl) b6 k106 (h' := (stR h103 v0 44 (some n102))) rfl rfl ?_
  refine Wp.blk (by decide) ol_128 86 2 (pc' := 175) (L' := [.ref v0]) (S' := [.int (9 : Int32), .ref v0]) (h' := (stR h103 v0 44 (some n102))) rfl ?_
  refine Wp.blk (by decide) ol_128 88 1 (pc' := 177) (L' := [.ref v0]) (S' := [.ref (NX ((stR h103 v0 44 (some n102)))), .ref v0]) (h' := (newO ((stR h103 v0 44 (some n102))) 20 9)) rfl ?_
  obtain ⟨n107, e109⟩ : ∃ x, x = (NX ((stR h103 v0 44 (some n102)))) := ⟨_, rfl⟩
  obtain ⟨h108, e110⟩ : ∃ x, x = (newO ((stR h103 v0 44 (some n102))) 20 9) := ⟨_, rfl⟩
  rw [← e110, ← e109]
  replace K := K n107 e109 h108 e110
  obtain ⟨k111, K⟩ := K
  refine Wp.putf (op_ix (by decide) ol_128 89 rfl) b6 k111 (h' := (stR h108 v0 45 (some n107))) rfl rfl ?_
  exact Wp.ret (op_ix (by decide) ol_128 90 rfl) rfl K
/-- CutsOrFastModel.within at 0 (III)Z -/
theorem g129_0 (d : Nat) (v0 : Int32) (v1 : Int32) (v2 : Int32) (h : AH) (HS : Sh h)  (Q : Option Value → AH → Prop) (K : ((v0 < v1 → Q (some (.int (0 : Int32))) h) ∧ (¬ v0 < v1 → ((v2 < v0 → Q (some (.int (0 : Int32))) h) ∧ (¬ v2 < v0 → Q (some (.int (1 : Int32))) h))))) : Wp d 129 0 [.int v0, .int v1, .int v2] [] h Q := by
  refine Wp.blk (by decide) ol_129 0 3 (pc' := (if v0 < v1 then 14 else 5)) (L' := [.int v0, .int v1, .int v2]) (S' := []) (h' := h) rfl ?_
  refine Wp.br (fun c1 => ?_) (fun c1 => ?_)
  · replace K := K.1 c1
    refine Wp.blk (by decide) ol_129 8 1 (pc' := 15) (L' := [.int v0, .int v1, .int v2]) (S' := [.int (0 : Int32)]) (h' := h) rfl ?_
    exact Wp.ret (op_ix (by decide) ol_129 9 rfl) rfl K
  · replace K := K.2 c1
    refine Wp.blk (by decide) ol_129 3 3 (pc' := (if v2 < v0 then 14 else 10)) (L' := [.int v0, .int v1, .int v2]) (S' := []) (h' := h) rfl ?_
    refine Wp.br (fun c2 => ?_) (fun c2 => ?_)
    · replace K := K.1 c2
      refine Wp.blk (by decide) ol_129 8 1 (pc' := 15) (L' := [.int v0, .int v1, .int v2]) (S' := [.int (0 : Int32)]) (h' := h) rfl ?_
      exact Wp.ret (op_ix (by decide) ol_129 9 rfl) rfl K
    · replace K := K.2 c2
      refine Wp.blk (by decide) ol_129 6 2 (pc' := 15) (L' := [.int v0, .int v1, .int v2]) (S' := [.int (1 : Int32)]) (h' := h) rfl ?_
      exact Wp.ret (op_ix (by decide) ol_129 9 rfl) rfl K
/-- CutsOrFastModel.has at 0 (II)Z -/
theorem g130_0 (d : Nat) (v0 : Int32) (v1 : Int32) (h : AH) (HS : Sh h)  (Q : Option Value → AH → Prop) (K : (((((v0 >>> (v1 &&& 31))) &&& ((1 : Int32))) = (1 : Int32) → Q (some (.int (1 : Int32))) h) ∧ (¬ (((v0 >>> (v1 &&& 31))) &&& ((1 : Int32))) = (1 : Int32) → Q (some (.int (0 : Int32))) h))) : Wp d 130 0 [.int v0, .int v1] [] h Q := by
  refine Wp.blk (by decide) ol_130 0 7 (pc' := (if (((v0 >>> (v1 &&& 31))) &&& ((1 : Int32))) = (1 : Int32) then 9 else 13)) (L' := [.int v0, .int v1]) (S' := []) (h' := h) rfl ?_
  refine Wp.br (fun c1 => ?_) (fun c1 => ?_)
  · replace K := K.1 c1
    refine Wp.blk (by decide) ol_130 7 2 (pc' := 14) (L' := [.int v0, .int v1]) (S' := [.int (1 : Int32)]) (h' := h) rfl ?_
    exact Wp.ret (op_ix (by decide) ol_130 10 rfl) rfl K
  · replace K := K.2 c1
    refine Wp.blk (by decide) ol_130 9 1 (pc' := 14) (L' := [.int v0, .int v1]) (S' := [.int (0 : Int32)]) (h' := h) rfl ?_
    exact Wp.ret (op_ix (by decide) ol_130 10 rfl) rfl K
/-- CutsOrFastModel.letters at 0 (J)I -/
theorem g131_0 (d : Nat) (v1 : Int64) (h : AH) (HS : Sh h)  (Q : Option Value → AH → Prop) (K : Wp d 131 8 [.ref 23, .long v1, mk0, .int (0 : Int32), .int (0 : Int32), .int (0 : Int32), mk0] [] h Q) : Wp d 131 0 [.ref 23, .long v1, mk0, mk0, mk0, mk0, mk0] [] h Q := by
  refine Wp.blk (by decide) ol_131 0 6 (pc' := 8) (L' := [.ref 23, .long v1, mk0, .int (0 : Int32), .int (0 : Int32), .int (0 : Int32), mk0]) (S' := []) (h' := h) rfl ?_
  exact K
/-- CutsOrFastModel.letters at 8 -/
theorem g131_8 (d : Nat) (v1 : Int64) (v3 : Int32) (v4 : Int32) (v5 : Int32) (h : AH) (HS : Sh h)  (Q : Option Value → AH → Prop) (K : ((v5 < (8 : Int32) → (((126 : Int32) < ((((v1 >>> (((((8 : Int32)) * v5)).toInt64 &&& 63))) &&& ((255 : Int64)))).toInt32 → Q (some (.int (-102 : Int32))) h) ∧ (¬ (126 : Int32) < ((((v1 >>> (((((8 : Int32)) * v5)).toInt64 &&& 63))) &&& ((255 : Int64)))).toInt32 → ((v4 = (0 : Int32) → ((((((v1 >>> (((((8 : Int32)) * v5)).toInt64 &&& 63))) &&& ((255 : Int64)))).toInt32 = (0 : Int32) → Wp d 131 64 [.ref 23, .long v1, mk0, .int v3, mk0, .int v5, .int ((((v1 >>> (((((8 : Int32)) * v5)).toInt64 &&& 63))) &&& ((255 : Int64)))).toInt32] [.int (1 : Int32)] h Q) ∧ (¬ ((((v1 >>> (((((8 : Int32)) * v5)).toInt64 &&& 63))) &&& ((255 : Int64)))).toInt32 = (0 : Int32) → Wp d 131 64 [.ref 23, .long v1, mk0, .int v3, mk0, .int v5, .int ((((v1 >>> (((((8 : Int32)) * v5)).toInt64 &&& 63))) &&& ((255 : Int64)))).toInt32] [.int (0 : Int32)] h Q))) ∧ (¬ v4 = (0 : Int32) → ((((((v1 >>> (((((8 : Int32)) * v5)).toInt64 &&& 63))) &&& ((255 : Int64)))).toInt32 = (0 : Int32) → Wp d 131 64 [.ref 23, .long v1, mk0, .int v3, mk0, .int v5, .int ((((v1 >>> (((((8 : Int32)) * v5)).toInt64 &&& 63))) &&& ((255 : Int64)))).toInt32] [.int (1 : Int32)] h Q) ∧ (¬ ((((v1 >>> (((((8 : Int32)) * v5)).toInt64 &&& 63))) &&& ((255 : Int64)))).toInt32 = (0 : Int32) → Q (some (.int (-102 : Int32))) h))))))) ∧ (¬ v5 < (8 : Int32) → (((50 : Int32) < (((AI h 23 14)) + v3) → Q (some (.int (-104 : Int32))) h) ∧ (¬ (50 : Int32) < (((AI h 23 14)) + v3) → Wp d 131 102 [.ref 23, .long v1, mk0, .int v3, mk0, .int (0 : Int32), mk0] [] h Q))))) : Wp d 131 8 [.ref 23, .long v1, mk0, .int v3, .int v4, .int v5, mk0] [] h Q := by
  refine Wp.blk (by decide) ol_131 6 3 (pc' := (if v5 < (8 : Int32) then 15 else 85)) (L' := [.ref 23, .long v1, mk0, .int v3, .int v4, .int v5, mk0]) (S' := []) (h' := h) rfl ?_
  refine Wp.br (fun c1 => ?_) (fun c1 => ?_)
  · replace K := K.1 c1
    refine Wp.blk (by decide) ol_131 9 12 (pc' := (if (126 : Int32) < ((((v1 >>> (((((8 : Int32)) * v5)).toInt64 &&& 63))) &&& ((255 : Int64)))).toInt32 then 46 else 36)) (L' := [.ref 23, .long v1, mk0, .int v3, .int v4, .int v5, .int ((((v1 >>> (((((8 : Int32)) * v5)).toInt64 &&& 63))) &&& ((255 : Int64)))).toInt32]) (S' := []) (h' := h) rfl ?_
    refine Wp.br (fun c2 => ?_) (fun c2 => ?_)
    · replace K := K.1 c2
      refine Wp.blk (by decide) ol_131 25 1 (pc' := 48) (L' := [.ref 23, .long v1, mk0, .int v3, .int v4, .int v5, .int ((((v1 >>> (((((8 : Int32)) * v5)).toInt64 &&& 63))) &&& ((255 : Int64)))).toInt32]) (S' := [.int (-102 : Int32)]) (h' := h) rfl ?_
      exact Wp.ret (op_ix (by decide) ol_131 26 rfl) rfl K
    · replace K := K.2 c2
      refine Wp.blk (by decide) ol_131 21 2 (pc' := (if v4 = (0 : Int32) then 49 else 41)) (L' := [.ref 23, .long v1, mk0, .int v3, .int v4, .int v5, .int ((((v1 >>> (((((8 : Int32)) * v5)).toInt64 &&& 63))) &&& ((255 : Int64)))).toInt32]) (S' := []) (h' := h) rfl ?_
      refine Wp.br (fun c3 => ?_) (fun c3 => ?_)
      · replace K := K.1 c3
        refine Wp.blk (by decide) ol_131 27 2 (pc' := (if v4 = (0 : Int32) then 54 else 59)) (L' := [.ref 23, .long v1, mk0, .int v3, .int v4, .int v5, .int ((((v1 >>> (((((8 : Int32)) * v5)).toInt64 &&& 63))) &&& ((255 : Int64)))).toInt32]) (S' := []) (h' := h) rfl ?_
        refine Wp.br (fun _ => ?_) (fun hc => absurd c3 hc)
        refine Wp.blk (by decide) ol_131 29 2 (pc' := (if ((((v1 >>> (((((8 : Int32)) * v5)).toInt64 &&& 63))) &&& ((255 : Int64)))).toInt32 = (0 : Int32) then 59 else 63)) (L' := [.ref 23, .long v1, mk0, .int v3, .int v4, .int v5, .int ((((v1 >>> (((((8 : Int32)) * v5)).toInt64 &&& 63))) &&& ((255 : Int64)))).toInt32]) (S' := []) (h' := h) rfl ?_
        refine Wp.br (fun c4 => ?_) (fun c4 => ?_)
        · replace K := K.1 c4
          refine Wp.blk (by decide) ol_131 31 2 (pc' := 64) (L' := [.ref 23, .long v1, mk0, .int v3, .int v4, .int v5, .int ((((v1 >>> (((((8 : Int32)) * v5)).toInt64 &&& 63))) &&& ((255 : Int64)))).toInt32]) (S' := [.int (1 : Int32)]) (h' := h) rfl ?_
          refine Wp.forget (L := [.ref 23, .long v1, mk0, .int v3, mk0, .int v5, .int ((((v1 >>> (((((8 : Int32)) * v5)).toInt64 &&& 63))) &&& ((255 : Int64)))).toInt32]) (⟨Or.inr rfl, ⟨Or.inr rfl, ⟨Or.inr rfl, ⟨Or.inr rfl, ⟨Or.inl rfl, ⟨Or.inr rfl, ⟨Or.inr rfl, trivial⟩⟩⟩⟩⟩⟩⟩) ?_
          exact K
        · replace K := K.2 c4
          refine Wp.blk (by decide) ol_131 33 1 (pc' := 64) (L' := [.ref 23, .long v1, mk0, .int v3, .int v4, .int v5, .int ((((v1 >>> (((((8 : Int32)) * v5)).toInt64 &&& 63))) &&& ((255 : Int64)))).toInt32]) (S' := [.int (0 : Int32)]) (h' := h) rfl ?_
          refine Wp.forget (L := [.ref 23, .long v1, mk0, .int v3, mk0, .int v5, .int ((((v1 >>> (((((8 : Int32)) * v5)).toInt64 &&& 63))) &&& ((255 : Int64)))).toInt32]) (⟨Or.inr rfl, ⟨Or.inr rfl, ⟨Or.inr rfl, ⟨Or.inr rfl, ⟨Or.inl rfl, ⟨Or.inr rfl, ⟨Or.inr rfl, trivial⟩⟩⟩⟩⟩⟩⟩) ?_
          exact K
      · replace K := K.2 c3
        refine Wp.blk (by decide) ol_131 23 2 (pc' := (if ((((v1 >>> (((((8 : Int32)) * v5)).toInt64 &&& 63))) &&& ((255 : Int64)))).toInt32 = (0 : Int32) then 49 else 46)) (L' := [.ref 23, .long v1, mk0, .int v3, .int v4, .int v5, .int ((((v1 >>> (((((8 : Int32)) * v5)).toInt64 &&& 63))) &&& ((255 : Int64)))).toInt32]) (S' := []) (h' := h) rfl ?_
        refine Wp.br (fun c5 => ?_) (fun c5 => ?_)
        · replace K := K.1 c5
          refine Wp.blk (by decide) ol_131 27 2 (pc' := (if v4 = (0 : Int32) then 54 else 59)) (L' := [.ref 23, .long v1, mk0, .int v3, .int v4, .int v5, .int ((((v1 >>> (((((8 : Int32)) * v5)).toInt64 &&& 63))) &&& ((255 : Int64)))).toInt32]) (S' := []) (h' := h) rfl ?_
          refine Wp.br (fun hc => absurd hc c3) (fun _ => ?_)
          refine Wp.blk (by decide) ol_131 31 2 (pc' := 64) (L' := [.ref 23, .long v1, mk0, .int v3, .int v4, .int v5, .int ((((v1 >>> (((((8 : Int32)) * v5)).toInt64 &&& 63))) &&& ((255 : Int64)))).toInt32]) (S' := [.int (1 : Int32)]) (h' := h) rfl ?_
          refine Wp.forget (L := [.ref 23, .long v1, mk0, .int v3, mk0, .int v5, .int ((((v1 >>> (((((8 : Int32)) * v5)).toInt64 &&& 63))) &&& ((255 : Int64)))).toInt32]) (⟨Or.inr rfl, ⟨Or.inr rfl, ⟨Or.inr rfl, ⟨Or.inr rfl, ⟨Or.inl rfl, ⟨Or.inr rfl, ⟨Or.inr rfl, trivial⟩⟩⟩⟩⟩⟩⟩) ?_
          exact K
        · replace K := K.2 c5
          refine Wp.blk (by decide) ol_131 25 1 (pc' := 48) (L' := [.ref 23, .long v1, mk0, .int v3, .int v4, .int v5, .int ((((v1 >>> (((((8 : Int32)) * v5)).toInt64 &&& 63))) &&& ((255 : Int64)))).toInt32]) (S' := [.int (-102 : Int32)]) (h' := h) rfl ?_
          exact Wp.ret (op_ix (by decide) ol_131 26 rfl) rfl K
  · replace K := K.2 c1
    refine Wp.blk (by decide) ol_131 45 1 (pc' := 86) (L' := [.ref 23, .long v1, mk0, .int v3, .int v4, .int v5, mk0]) (S' := [.ref 23]) (h' := h) rfl ?_
    refine Wp.getf (op_ix (by decide) ol_131 46 rfl) (okS HS 23 rfl rfl) (v := .int (AI h 23 14)) rfl rfl ?_
    refine Wp.blk (by decide) ol_131 47 4 (pc' := (if (50 : Int32) < (((AI h 23 14)) + v3) then 96 else 99)) (L' := [.ref 23, .long v1, mk0, .int v3, .int v4, .int v5, mk0]) (S' := []) (h' := h) rfl ?_
    refine Wp.br (fun c6 => ?_) (fun c6 => ?_)
    · replace K := K.1 c6
      refine Wp.blk (by decide) ol_131 51 1 (pc' := 98) (L' := [.ref 23, .long v1, mk0, .int v3, .int v4, .int v5, mk0]) (S' := [.int (-104 : Int32)]) (h' := h) rfl ?_
      exact Wp.ret (op_ix (by decide) ol_131 52 rfl) rfl K
    · replace K := K.2 c6
      refine Wp.blk (by decide) ol_131 53 2 (pc' := 102) (L' := [.ref 23, .long v1, mk0, .int v3, .int v4, .int (0 : Int32), mk0]) (S' := []) (h' := h) rfl ?_
      refine Wp.forget (L := [.ref 23, .long v1, mk0, .int v3, mk0, .int (0 : Int32), mk0]) (⟨Or.inr rfl, ⟨Or.inr rfl, ⟨Or.inr rfl, ⟨Or.inr rfl, ⟨Or.inl rfl, ⟨Or.inr rfl, ⟨Or.inr rfl, trivial⟩⟩⟩⟩⟩⟩⟩) ?_
      exact K
/-- CutsOrFastModel.letters at 64 -/
theorem g131_64 (d : Nat) (v1 : Int64) (v3 : Int32) (v5 : Int32) (v6 : Int32) (s0 : Int32) (h : AH) (HS : Sh h)  (Q : Option Value → AH → Prop) (K : ((v6 = (0 : Int32) → Wp d 131 8 [.ref 23, .long v1, mk0, .int (v3 + ((0 : Int32))), .int s0, .int (v5 + (1 : Int32)), mk0] [] h Q) ∧ (¬ v6 = (0 : Int32) → Wp d 131 8 [.ref 23, .long v1, mk0, .int (v3 + ((1 : Int32))), .int s0, .int (v5 + (1 : Int32)), mk0] [] h Q))) : Wp d 131 64 [.ref 23, .long v1, mk0, .int v3, mk0, .int v5, .int v6] [.int s0] h Q := by
  refine Wp.blk (by decide) ol_131 34 4 (pc' := (if v6 = (0 : Int32) then 72 else 76)) (L' := [.ref 23, .long v1, mk0, .int v3, .int s0, .int v5, .int v6]) (S' := [.int v3]) (h' := h) rfl ?_
  refine Wp.br (fun c1 => ?_) (fun c1 => ?_)
  · replace K := K.1 c1
    refine Wp.blk (by decide) ol_131 38 2 (pc' := 77) (L' := [.ref 23, .long v1, mk0, .int v3, .int s0, .int v5, .int v6]) (S' := [.int (0 : Int32), .int v3]) (h' := h) rfl ?_
    refine Wp.blk (by decide) ol_131 41 4 (pc' := 8) (L' := [.ref 23, .long v1, mk0, .int (v3 + ((0 : Int32))), .int s0, .int (v5 + (1 : Int32)), .int v6]) (S' := []) (h' := h) rfl ?_
    refine Wp.forget (L := [.ref 23, .long v1, mk0, .int (v3 + ((0 : Int32))), .int s0, .int (v5 + (1 : Int32)), mk0]) (⟨Or.inr rfl, ⟨Or.inr rfl, ⟨Or.inr rfl, ⟨Or.inr rfl, ⟨Or.inr rfl, ⟨Or.inr rfl, ⟨Or.inl rfl, trivial⟩⟩⟩⟩⟩⟩⟩) ?_
    exact K
  · replace K := K.2 c1
    refine Wp.blk (by decide) ol_131 40 5 (pc' := 8) (L' := [.ref 23, .long v1, mk0, .int (v3 + ((1 : Int32))), .int s0, .int (v5 + (1 : Int32)), .int v6]) (S' := []) (h' := h) rfl ?_
    refine Wp.forget (L := [.ref 23, .long v1, mk0, .int (v3 + ((1 : Int32))), .int s0, .int (v5 + (1 : Int32)), mk0]) (⟨Or.inr rfl, ⟨Or.inr rfl, ⟨Or.inr rfl, ⟨Or.inr rfl, ⟨Or.inr rfl, ⟨Or.inr rfl, ⟨Or.inl rfl, trivial⟩⟩⟩⟩⟩⟩⟩) ?_
    exact K
/-- CutsOrFastModel.letters at 102 -/
theorem g131_102 (d : Nat) (v1 : Int64) (v3 : Int32) (v5 : Int32) (h : AH) (HS : Sh h)  (Q : Option Value → AH → Prop) (K : ((v5 < v3 → (ixR ((((AI h 23 14)) + v5)) 50 ∧ Wp d 131 102 [.ref 23, .long v1, mk0, .int v3, mk0, .int (v5 + (1 : Int32)), mk0] [] (stI h 30 ((((AI h 23 14)) + v5)).toNatClampNeg (vp_nar .byte ((((v1 >>> (((((8 : Int32)) * v5)).toInt64 &&& 63))).toInt32).toInt8.toInt32))) Q)) ∧ (¬ v5 < v3 → Q (some (.int (AI ((stI h 23 14 ((((AI h 23 14)) + v3)))) 23 14))) (stI h 23 14 ((((AI h 23 14)) + v3)))))) : Wp d 131 102 [.ref 23, .long v1, mk0, .int v3, mk0, .int v5, mk0] [] h Q := by
  refine Wp.blk (by decide) ol_131 55 3 (pc' := (if v5 < v3 then 108 else 135)) (L' := [.ref 23, .long v1, mk0, .int v3, mk0, .int v5, mk0]) (S' := []) (h' := h) rfl ?_
  refine Wp.br (fun c1 => ?_) (fun c1 => ?_)
  · replace K := K.1 c1
    refine Wp.blk (by decide) ol_131 58 1 (pc' := 109) (L' := [.ref 23, .long v1, mk0, .int v3, mk0, .int v5, mk0]) (S' := [.ref 23]) (h' := h) rfl ?_
    refine Wp.getf (op_ix (by decide) ol_131 59 rfl) (okS HS 23 rfl rfl) (v := .ref 30) (congrArg va_rf (rS HS 23 15 rfl)) rfl ?_
    refine Wp.blk (by decide) ol_131 60 1 (pc' := 113) (L' := [.ref 23, .long v1, mk0, .int v3, mk0, .int v5, mk0]) (S' := [.ref 23, .ref 30]) (h' := h) rfl ?_
    refine Wp.getf (op_ix (by decide) ol_131 61 rfl) (okS HS 23 rfl rfl) (v := .int (AI h 23 14)) rfl rfl ?_
    refine Wp.blk (by decide) ol_131 62 9 (pc' := 128) (L' := [.ref 23, .long v1, mk0, .int v3, mk0, .int v5, mk0]) (S' := [.int (((v1 >>> (((((8 : Int32)) * v5)).toInt64 &&& 63))).toInt32).toInt8.toInt32, .int (((AI h 23 14)) + v5), .ref 30]) (h' := h) rfl ?_
    obtain ⟨r2, K⟩ := K
    refine Wp.bast (op_ix (by decide) ol_131 71 rfl) (by decide) (kS HS 30 rfl) (inS HS 30 rfl r2) rfl ?_
    refine Wp.blk (by decide) ol_131 72 2 (pc' := 102) (L' := [.ref 23, .long v1, mk0, .int v3, mk0, .int (v5 + (1 : Int32)), mk0]) (S' := []) (h' := (stI h 30 ((((AI h 23 14)) + v5)).toNatClampNeg (vp_nar .byte ((((v1 >>> (((((8 : Int32)) * v5)).toInt64 &&& 63))).toInt32).toInt8.toInt32)))) rfl ?_
    exact K
  · replace K := K.2 c1
    refine Wp.blk (by decide) ol_131 74 2 (pc' := 137) (L' := [.ref 23, .long v1, mk0, .int v3, mk0, .int v5, mk0]) (S' := [.ref 23, .ref 23]) (h' := h) rfl ?_
    refine Wp.getf (op_ix (by decide) ol_131 76 rfl) (okS HS 23 rfl rfl) (v := .int (AI h 23 14)) rfl rfl ?_
    refine Wp.blk (by decide) ol_131 77 2 (pc' := 142) (L' := [.ref 23, .long v1, mk0, .int v3, mk0, .int v5, mk0]) (S' := [.int (((AI h 23 14)) + v3), .ref 23]) (h' := h) rfl ?_
    refine Wp.putf (op_ix (by decide) ol_131 79 rfl) (by decide) (okS HS 23 rfl rfl) (h' := (stI h 23 14 ((((AI h 23 14)) + v3)))) rfl rfl ?_
    refine Wp.blk (by decide) ol_131 80 1 (pc' := 146) (L' := [.ref 23, .long v1, mk0, .int v3, mk0, .int v5, mk0]) (S' := [.ref 23]) (h' := (stI h 23 14 ((((AI h 23 14)) + v3)))) rfl ?_
    refine Wp.getf (op_ix (by decide) ol_131 81 rfl) (okS HS 23 rfl rfl) (v := .int (AI ((stI h 23 14 ((((AI h 23 14)) + v3)))) 23 14)) rfl rfl ?_
    exact Wp.ret (op_ix (by decide) ol_131 82 rfl) rfl K
/-- CutsOrFastModel.blank at 0 ()I -/
theorem g132_0 (d : Nat)  (h : AH) (HS : Sh h)  (Q : Option Value → AH → Prop) (K : Q (some (.int (AI h 23 14))) (stI h 23 14 ((0 : Int32)))) : Wp d 132 0 [.ref 23, mk0] [] h Q := by
  refine Wp.blk (by decide) ol_132 0 1 (pc' := 1) (L' := [.ref 23, mk0]) (S' := [.ref 23]) (h' := h) rfl ?_
  refine Wp.getf (op_ix (by decide) ol_132 1 rfl) (okS HS 23 rfl rfl) (v := .int (AI h 23 14)) rfl rfl ?_
  refine Wp.blk (by decide) ol_132 2 3 (pc' := 7) (L' := [.ref 23, .int (AI h 23 14)]) (S' := [.int (0 : Int32), .ref 23]) (h' := h) rfl ?_
  refine Wp.putf (op_ix (by decide) ol_132 5 rfl) (by decide) (okS HS 23 rfl rfl) (h' := (stI h 23 14 ((0 : Int32)))) rfl rfl ?_
  refine Wp.blk (by decide) ol_132 6 1 (pc' := 11) (L' := [.ref 23, .int (AI h 23 14)]) (S' := [.int (AI h 23 14)]) (h' := (stI h 23 14 ((0 : Int32)))) rfl ?_
  exact Wp.ret (op_ix (by decide) ol_132 7 rfl) rfl K
/-- CutsOrFastModel.nextState at 0 (II)I -/
theorem g133_0 (d : Nat) (v1 : Int32) (v2 : Int32) (h : AH) (HS : Sh h)  (Q : Option Value → AH → Prop) (K : ((v2 < (97 : Int32) → ((v1 = Int32.ofNat 0 → Q (some (.int (-1 : Int32))) (stI h 23 25 ((v2 - ((97 : Int32)))))) ∧ (¬ v1 = Int32.ofNat 0 → ((v1 = Int32.ofNat 1 → Q (some (.int (-1 : Int32))) (stI h 23 26 ((v2 - ((97 : Int32)))))) ∧ (¬ v1 = Int32.ofNat 1 → ((v1 = Int32.ofNat 2 → ((v2 = (58 : Int32) → Q (some (.int (3 : Int32))) h) ∧ (¬ v2 = (58 : Int32) → Q (some (.int (-1 : Int32))) h))) ∧ (¬ v1 = Int32.ofNat 2 → ((v1 = Int32.ofNat 3 → (ixR ((AI h 23 24)) 9 ∧ ixR ((AI ((stI h 33 ((AI h 23 24)).toNatClampNeg ((v2 - ((97 : Int32)))))) 23 24)) 9 ∧ ixR ((AI ((stI ((stI h 33 ((AI h 23 24)).toNatClampNeg ((v2 - ((97 : Int32)))))) 35 ((AI ((stI h 33 ((AI h 23 24)).toNatClampNeg ((v2 - ((97 : Int32)))))) 23 24)).toNatClampNeg ((0 : Int32)))) 23 24)) 9 ∧ Q (some (.int (-1 : Int32))) (stI ((stI ((stI h 33 ((AI h 23 24)).toNatClampNeg ((v2 - ((97 : Int32)))))) 35 ((AI ((stI h 33 ((AI h 23 24)).toNatClampNeg ((v2 - ((97 : Int32)))))) 23 24)).toNatClampNeg ((0 : Int32)))) 36 ((AI ((stI ((stI h 33 ((AI h 23 24)).toNatClampNeg ((v2 - ((97 : Int32)))))) 35 ((AI ((stI h 33 ((AI h 23 24)).toNatClampNeg ((v2 - ((97 : Int32)))))) 23 24)).toNatClampNeg ((0 : Int32)))) 23 24)).toNatClampNeg ((1 : Int32))))) ∧ (¬ v1 = Int32.ofNat 3 → ((v1 = Int32.ofNat 4 → Wp (d + 1) 133 171 [.ref 23, mk0, .int v2, mk0, mk0] [.int (0 : Int32)] h Q) ∧ (¬ v1 = Int32.ofNat 4 → (Cl d 134 [.ref 23, .int v1, .int v2] h (fun r h11 => ∃ x13 : Int32, r = some (.int x13) ∧ Sh h11 ∧ Q (some (.int x13)) h11))))))))))))) ∧ (¬ v2 < (97 : Int32) → (((102 : Int32) < v2 → ((v1 = Int32.ofNat 0 → Q (some (.int (-1 : Int32))) (stI h 23 25 ((v2 - ((97 : Int32)))))) ∧ (¬ v1 = Int32.ofNat 0 → ((v1 = Int32.ofNat 1 → Q (some (.int (-1 : Int32))) (stI h 23 26 ((v2 - ((97 : Int32)))))) ∧ (¬ v1 = Int32.ofNat 1 → ((v1 = Int32.ofNat 2 → ((v2 = (58 : Int32) → Q (some (.int (3 : Int32))) h) ∧ (¬ v2 = (58 : Int32) → Q (some (.int (-1 : Int32))) h))) ∧ (¬ v1 = Int32.ofNat 2 → ((v1 = Int32.ofNat 3 → (ixR ((AI h 23 24)) 9 ∧ ixR ((AI ((stI h 33 ((AI h 23 24)).toNatClampNeg ((v2 - ((97 : Int32)))))) 23 24)) 9 ∧ ixR ((AI ((stI ((stI h 33 ((AI h 23 24)).toNatClampNeg ((v2 - ((97 : Int32)))))) 35 ((AI ((stI h 33 ((AI h 23 24)).toNatClampNeg ((v2 - ((97 : Int32)))))) 23 24)).toNatClampNeg ((0 : Int32)))) 23 24)) 9 ∧ Q (some (.int (-1 : Int32))) (stI ((stI ((stI h 33 ((AI h 23 24)).toNatClampNeg ((v2 - ((97 : Int32)))))) 35 ((AI ((stI h 33 ((AI h 23 24)).toNatClampNeg ((v2 - ((97 : Int32)))))) 23 24)).toNatClampNeg ((0 : Int32)))) 36 ((AI ((stI ((stI h 33 ((AI h 23 24)).toNatClampNeg ((v2 - ((97 : Int32)))))) 35 ((AI ((stI h 33 ((AI h 23 24)).toNatClampNeg ((v2 - ((97 : Int32)))))) 23 24)).toNatClampNeg ((0 : Int32)))) 23 24)).toNatClampNeg ((1 : Int32))))) ∧ (¬ v1 = Int32.ofNat 3 → ((v1 = Int32.ofNat 4 → Wp (d + 1) 133 171 [.ref 23, mk0, .int v2, mk0, mk0] [.int (0 : Int32)] h Q) ∧ (¬ v1 = Int32.ofNat 4 → (Cl d 134 [.ref 23, .int v1, .int v2] h (fun r h24 => ∃ x26 : Int32, r = some (.int x26) ∧ Sh h24 ∧ Q (some (.int x26)) h24))))))))))))) ∧ (¬ (102 : Int32) < v2 → ((v1 = Int32.ofNat 0 → Q (some (.int (1 : Int32))) (stI h 23 25 ((v2 - ((97 : Int32)))))) ∧ (¬ v1 = Int32.ofNat 0 → ((v1 = Int32.ofNat 1 → (((AI ((stI h 23 26 ((v2 - ((97 : Int32)))))) 23 26) = (AI ((stI h 23 26 ((v2 - ((97 : Int32)))))) 23 25) → Q (some (.int (-1 : Int32))) (stI h 23 26 ((v2 - ((97 : Int32)))))) ∧ (¬ (AI ((stI h 23 26 ((v2 - ((97 : Int32)))))) 23 26) = (AI ((stI h 23 26 ((v2 - ((97 : Int32)))))) 23 25) → Q (some (.int (2 : Int32))) (stI h 23 26 ((v2 - ((97 : Int32)))))))) ∧ (¬ v1 = Int32.ofNat 1 → ((v1 = Int32.ofNat 2 → ((v2 = (58 : Int32) → Q (some (.int (3 : Int32))) h) ∧ (¬ v2 = (58 : Int32) → Q (some (.int (-1 : Int32))) h))) ∧ (¬ v1 = Int32.ofNat 2 → ((v1 = Int32.ofNat 3 → (ixR ((AI h 23 24)) 9 ∧ ixR ((AI ((stI h 33 ((AI h 23 24)).toNatClampNeg ((v2 - ((97 : Int32)))))) 23 24)) 9 ∧ ixR ((AI ((stI ((stI h 33 ((AI h 23 24)).toNatClampNeg ((v2 - ((97 : Int32)))))) 35 ((AI ((stI h 33 ((AI h 23 24)).toNatClampNeg ((v2 - ((97 : Int32)))))) 23 24)).toNatClampNeg ((0 : Int32)))) 23 24)) 9 ∧ Q (some (.int (4 : Int32))) (stI ((stI ((stI h 33 ((AI h 23 24)).toNatClampNeg ((v2 - ((97 : Int32)))))) 35 ((AI ((stI h 33 ((AI h 23 24)).toNatClampNeg ((v2 - ((97 : Int32)))))) 23 24)).toNatClampNeg ((0 : Int32)))) 36 ((AI ((stI ((stI h 33 ((AI h 23 24)).toNatClampNeg ((v2 - ((97 : Int32)))))) 35 ((AI ((stI h 33 ((AI h 23 24)).toNatClampNeg ((v2 - ((97 : Int32)))))) 23 24)).toNatClampNeg ((0 : Int32)))) 23 24)).toNatClampNeg ((1 : Int32))))) ∧ (¬ v1 = Int32.ofNat 3 → ((v1 = Int32.ofNat 4 → (ixR ((AI h 23 24)) 9 ∧ (((v2 - ((97 : Int32))) = (AI h 33 ((AI h 23 24)).toNatClampNeg) → Wp (d + 1) 133 171 [.ref 23, mk0, .int v2, mk0, mk0] [.int (0 : Int32)] h Q) ∧ (¬ (v2 - ((97 : Int32))) = (AI h 33 ((AI h 23 24)).toNatClampNeg) → Wp (d + 1) 133 171 [.ref 23, mk0, .int v2, mk0, mk0] [.int (1 : Int32)] h Q)))) ∧ (¬ v1 = Int32.ofNat 4 → (Cl d 134 [.ref 23, .int v1, .int v2] h (fun r h39 => ∃ x41 : Int32, r = some (.int x41) ∧ Sh h39 ∧ Q (some (.int x41)) h39))))))))))))))))) : Wp (d + 1) 133 0 [.ref 23, .int v1, .int v2, mk0, mk0] [] h Q := by
  refine Wp.blk (by decide) ol_133 0 3 (pc' := 5) (L' := [.ref 23, .int v1, .int v2, mk0, mk0]) (S' := [.int (102 : Int32), .int (97 : Int32), .int v2]) (h' := h) rfl ?_
  refine Wp.callI (op_ix (by decide) ol_133 3 rfl) rfl rfl (Cl.enter (L := [.int v2, .int (97 : Int32), .int (102 : Int32)]) rfl ?_)
  refine Wp.blk (by decide) ol_129 0 3 (pc' := (if v2 < (97 : Int32) then 14 else 5)) (L' := [.int v2, .int (97 : Int32), .int (102 : Int32)]) (S' := []) (h' := h) rfl ?_
  refine Wp.br (fun c1 => ?_) (fun c1 => ?_)
  · replace K := K.1 c1
    refine Wp.blk (by decide) ol_129 8 1 (pc' := 15) (L' := [.int v2, .int (97 : Int32), .int (102 : Int32)]) (S' := [.int (0 : Int32)]) (h' := h) rfl ?_
    refine Wp.ret (op_ix (by decide) ol_129 9 rfl) rfl ⟨_, rfl, ?_⟩
    refine Wp.blk (by decide) ol_133 4 3 (pc' := (tsw v1 [(0, 44), (1, 62), (2, 91), (3, 103), (4, 146)] 216)) (L' := [.ref 23, .int v1, .int v2, .int (0 : Int32), mk0]) (S' := []) (h' := h) rfl ?_
    refine Wp.tsw (fun c2 => ?_) (fun c2 => ?_)
    · replace K := K.1 c2
      refine Wp.blk (by decide) ol_133 7 4 (pc' := 49) (L' := [.ref 23, .int v1, .int v2, .int (0 : Int32), mk0]) (S' := [.int (v2 - ((97 : Int32))), .ref 23]) (h' := h) rfl ?_
      refine Wp.putf (op_ix (by decide) ol_133 11 rfl) (by decide) (okS HS 23 rfl rfl) (h' := (stI h 23 25 ((v2 - ((97 : Int32)))))) rfl rfl ?_
      refine Wp.blk (by decide) ol_133 12 2 (pc' := (if (0 : Int32) = (0 : Int32) then 60 else 56)) (L' := [.ref 23, .int v1, .int v2, .int (0 : Int32), mk0]) (S' := []) (h' := (stI h 23 25 ((v2 - ((97 : Int32)))))) rfl ?_
      refine Wp.br (fun _ => ?_) (fun hc => absurd (by decide) hc)
      refine Wp.blk (by decide) ol_133 16 1 (pc' := 61) (L' := [.ref 23, .int v1, .int v2, .int (0 : Int32), mk0]) (S' := [.int (-1 : Int32)]) (h' := (stI h 23 25 ((v2 - ((97 : Int32)))))) rfl ?_
      exact Wp.ret (op_ix (by decide) ol_133 17 rfl) rfl K
    replace K := K.2 c2
    refine Wp.tsw (fun c3 => ?_) (fun c3 => ?_)
    · replace K := K.1 c3
      refine Wp.blk (by decide) ol_133 18 4 (pc' := 67) (L' := [.ref 23, .int v1, .int v2, .int (0 : Int32), mk0]) (S' := [.int (v2 - ((97 : Int32))), .ref 23]) (h' := h) rfl ?_
      refine Wp.putf (op_ix (by decide) ol_133 22 rfl) (by decide) (okS HS 23 rfl rfl) (h' := (stI h 23 26 ((v2 - ((97 : Int32)))))) rfl rfl ?_
      refine Wp.blk (by decide) ol_133 23 2 (pc' := (if (0 : Int32) = (0 : Int32) then 89 else 74)) (L' := [.ref 23, .int v1, .int v2, .int (0 : Int32), mk0]) (S' := []) (h' := (stI h 23 26 ((v2 - ((97 : Int32)))))) rfl ?_
      refine Wp.br (fun _ => ?_) (fun hc => absurd (by decide) hc)
      refine Wp.blk (by decide) ol_133 32 1 (pc' := 90) (L' := [.ref 23, .int v1, .int v2, .int (0 : Int32), mk0]) (S' := [.int (-1 : Int32)]) (h' := (stI h 23 26 ((v2 - ((97 : Int32)))))) rfl ?_
      exact Wp.ret (op_ix (by decide) ol_133 33 rfl) rfl K
    replace K := K.2 c3
    refine Wp.tsw (fun c4 => ?_) (fun c4 => ?_)
    · replace K := K.1 c4
      refine Wp.blk (by decide) ol_133 34 3 (pc' := (if v2 = (58 : Int32) then 97 else 101)) (L' := [.ref 23, .int v1, .int v2, .int (0 : Int32), mk0]) (S' := []) (h' := h) rfl ?_
      refine Wp.br (fun c5 => ?_) (fun c5 => ?_)
      · replace K := K.1 c5
        refine Wp.blk (by decide) ol_133 37 2 (pc' := 102) (L' := [.ref 23, .int v1, .int v2, .int (0 : Int32), mk0]) (S' := [.int (3 : Int32)]) (h' := h) rfl ?_
        exact Wp.ret (op_ix (by decide) ol_133 40 rfl) rfl K
      · replace K := K.2 c5
        refine Wp.blk (by decide) ol_133 39 1 (pc' := 102) (L' := [.ref 23, .int v1, .int v2, .int (0 : Int32), mk0]) (S' := [.int (-1 : Int32)]) (h' := h) rfl ?_
        exact Wp.ret (op_ix (by decide) ol_133 40 rfl) rfl K
    replace K := K.2 c4
    refine Wp.tsw (fun c6 => ?_) (fun c6 => ?_)
    · replace K := K.1 c6
      refine Wp.blk (by decide) ol_133 41 1 (pc' := 104) (L' := [.ref 23, .int v1, .int v2, .int (0 : Int32), mk0]) (S' := [.ref 23]) (h' := h) rfl ?_
      refine Wp.getf (op_ix (by decide) ol_133 42 rfl) (okS HS 23 rfl rfl) (v := .ref 33) (congrArg va_rf (rS HS 23 27 rfl)) rfl ?_
      refine Wp.blk (by decide) ol_133 43 1 (pc' := 108) (L' := [.ref 23, .int v1, .int v2, .int (0 : Int32), mk0]) (S' := [.ref 23, .ref 33]) (h' := h) rfl ?_
      refine Wp.getf (op_ix (by decide) ol_133 44 rfl) (okS HS 23 rfl rfl) (v := .int (AI h 23 24)) rfl rfl ?_
      refine Wp.blk (by decide) ol_133 45 3 (pc' := 115) (L' := [.ref 23, .int v1, .int v2, .int (0 : Int32), mk0]) (S' := [.int (v2 - ((97 : Int32))), .int (AI h 23 24), .ref 33]) (h' := h) rfl ?_
      obtain ⟨r7, K⟩ := K
      refine Wp.iast (op_ix (by decide) ol_133 48 rfl) (by decide) (kS HS 33 rfl) (inS HS 33 rfl r7) rfl ?_
      refine Wp.blk (by decide) ol_133 49 1 (pc' := 117) (L' := [.ref 23, .int v1, .int v2, .int (0 : Int32), mk0]) (S' := [.ref 23]) (h' := (stI h 33 ((AI h 23 24)).toNatClampNeg ((v2 - ((97 : Int32)))))) rfl ?_
      refine Wp.getf (op_ix (by decide) ol_133 50 rfl) (okS HS 23 rfl rfl) (v := .ref 35) (congrArg va_rf (rS HS 23 29 rfl)) rfl ?_
      refine Wp.blk (by decide) ol_133 51 1 (pc' := 121) (L' := [.ref 23, .int v1, .int v2, .int (0 : Int32), mk0]) (S' := [.ref 23, .ref 35]) (h' := (stI h 33 ((AI h 23 24)).toNatClampNeg ((v2 - ((97 : Int32)))))) rfl ?_
      refine Wp.getf (op_ix (by decide) ol_133 52 rfl) (okS HS 23 rfl rfl) (v := .int (AI ((stI h 33 ((AI h 23 24)).toNatClampNeg ((v2 - ((97 : Int32)))))) 23 24)) rfl rfl ?_
      refine Wp.blk (by decide) ol_133 53 1 (pc' := 125) (L' := [.ref 23, .int v1, .int v2, .int (0 : Int32), mk0]) (S' := [.int (0 : Int32), .int (AI ((stI h 33 ((AI h 23 24)).toNatClampNeg ((v2 - ((97 : Int32)))))) 23 24), .ref 35]) (h' := (stI h 33 ((AI h 23 24)).toNatClampNeg ((v2 - ((97 : Int32)))))) rfl ?_
      obtain ⟨r8, K⟩ := K
      refine Wp.iast (op_ix (by decide) ol_133 54 rfl) (by decide) (kS HS 35 rfl) (inS HS 35 rfl r8) rfl ?_
      refine Wp.blk (by decide) ol_133 55 1 (pc' := 127) (L' := [.ref 23, .int v1, .int v2, .int (0 : Int32), mk0]) (S' := [.ref 23]) (h' := (stI ((stI h 33 ((AI h 23 24)).toNatClampNeg ((v2 - ((97 : Int32)))))) 35 ((AI ((stI h 33 ((AI h 23 24)).toNatClampNeg ((v2 - ((97 : Int32)))))) 23 24)).toNatClampNeg ((0 : Int32)))) rfl ?_
      refine Wp.getf (op_ix (by decide) ol_133 56 rfl) (okS HS 23 rfl rfl) (v := .ref 36) (congrArg va_rf (rS HS 23 30 rfl)) rfl ?_
      refine Wp.blk (by decide) ol_133 57 1 (pc' := 131) (L' := [.ref 23, .int v1, .int v2, .int (0 : Int32), mk0]) (S' := [.ref 23, .ref 36]) (h' := (stI ((stI h 33 ((AI h 23 24)).toNatClampNeg ((v2 - ((97 : Int32)))))) 35 ((AI ((stI h 33 ((AI h 23 24)).toNatClampNeg ((v2 - ((97 : Int32)))))) 23 24)).toNatClampNeg ((0 : Int32)))) rfl ?_
      refine Wp.getf (op_ix (by decide) ol_133 58 rfl) (okS HS 23 rfl rfl) (v := .int (AI ((stI ((stI h 33 ((AI h 23 24)).toNatClampNeg ((v2 - ((97 : Int32)))))) 35 ((AI ((stI h 33 ((AI h 23 24)).toNatClampNeg ((v2 - ((97 : Int32)))))) 23 24)).toNatClampNeg ((0 : Int32)))) 23 24)) rfl rfl ?_
      refine Wp.blk (by decide) ol_133 59 1 (pc' := 135) (L' := [.ref 23, .int v1, .int v2, .int (0 : Int32), mk0]) (S' := [.int (1 : Int32), .int (AI ((stI ((stI h 33 ((AI h 23 24)).toNatClampNeg ((v2 - ((97 : Int32)))))) 35 ((AI ((stI h 33 ((AI h 23 24)).toNatClampNeg ((v2 - ((97 : Int32)))))) 23 24)).toNatClampNeg ((0 : Int32)))) 23 24), .ref 36]) (h' := (stI ((stI h 33 ((AI h 23 24)).toNatClampNeg ((v2 - ((97 : Int32)))))) 35 ((AI ((stI h 33 ((AI h 23 24)).toNatClampNeg ((v2 - ((97 : Int32)))))) 23 24)).toNatClampNeg ((0 : Int32)))) rfl ?_
      obtain ⟨r9, K⟩ := K
      refine Wp.iast (op_ix (by decide) ol_133 60 rfl) (by decide) (kS HS 36 rfl) (inS HS 36 rfl r9) rfl ?_
      refine Wp.blk (by decide) ol_133 61 2 (pc' := (if (0 : Int32) = (0 : Int32) then 144 else 140)) (L' := [.ref 23, .int v1, .int v2, .int (0 : Int32), mk0]) (S' := []) (h' := (stI ((stI ((stI h 33 ((AI h 23 24)).toNatClampNeg ((v2 - ((97 : Int32)))))) 35 ((AI ((stI h 33 ((AI h 23 24)).toNatClampNeg ((v2 - ((97 : Int32)))))) 23 24)).toNatClampNeg ((0 : Int32)))) 36 ((AI ((stI ((stI h 33 ((AI h 23 24)).toNatClampNeg ((v2 - ((97 : Int32)))))) 35 ((AI ((stI h 33 ((AI h 23 24)).toNatClampNeg ((v2 - ((97 : Int32)))))) 23 24)).toNatClampNeg ((0 : Int32)))) 23 24)).toNatClampNeg ((1 : Int32)))) rfl ?_
      refine Wp.br (fun _ => ?_) (fun hc => absurd (by decide) hc)
      refine Wp.blk (by decide) ol_133 65 1 (pc' := 145) (L' := [.ref 23, .int v1, .int v2, .int (0 : Int32), mk0]) (S' := [.int (-1 : Int32)]) (h' := (stI ((stI ((stI h 33 ((AI h 23 24)).toNatClampNeg ((v2 - ((97 : Int32)))))) 35 ((AI ((stI h 33 ((AI h 23 24)).toNatClampNeg ((v2 - ((97 : Int32)))))) 23 24)).toNatClampNeg ((0 : Int32)))) 36 ((AI ((stI ((stI h 33 ((AI h 23 24)).toNatClampNeg ((v2 - ((97 : Int32)))))) 35 ((AI ((stI h 33 ((AI h 23 24)).toNatClampNeg ((v2 - ((97 : Int32)))))) 23 24)).toNatClampNeg ((0 : Int32)))) 23 24)).toNatClampNeg ((1 : Int32)))) rfl ?_
      exact Wp.ret (op_ix (by decide) ol_133 66 rfl) rfl K
    replace K := K.2 c6
    refine Wp.tsw (fun c10 => ?_) (fun c10 => ?_)
    · replace K := K.1 c10
      refine Wp.blk (by decide) ol_133 67 2 (pc' := (if (0 : Int32) = (0 : Int32) then 170 else 150)) (L' := [.ref 23, .int v1, .int v2, .int (0 : Int32), mk0]) (S' := []) (h' := h) rfl ?_
      refine Wp.br (fun _ => ?_) (fun hc => absurd (by decide) hc)
      refine Wp.blk (by decide) ol_133 80 1 (pc' := 171) (L' := [.ref 23, .int v1, .int v2, .int (0 : Int32), mk0]) (S' := [.int (0 : Int32)]) (h' := h) rfl ?_
      refine Wp.forget (L := [.ref 23, mk0, .int v2, mk0, mk0]) (⟨Or.inr rfl, ⟨Or.inl rfl, ⟨Or.inr rfl, ⟨Or.inl rfl, ⟨Or.inr rfl, trivial⟩⟩⟩⟩⟩) ?_
      exact K
    replace K := K.2 c10
    unfold tsw
    refine Wp.blk (by decide) ol_133 106 3 (pc' := 219) (L' := [.ref 23, .int v1, .int v2, .int (0 : Int32), mk0]) (S' := [.int v2, .int v1, .ref 23]) (h' := h) rfl ?_
    refine Wp.callI (op_ix (by decide) ol_133 109 rfl) (act_virt (c2 := 2) rfl (lk1 (kS HS 23 rfl)) rfl) rfl (K.mono ?_)
    rintro _ h11 ⟨x13, rfl, hs12, K⟩
    refine ⟨x13, rfl, ?_⟩
    exact Wp.ret (op_ix (by decide) ol_133 110 rfl) rfl K
  · replace K := K.2 c1
    refine Wp.blk (by decide) ol_129 3 3 (pc' := (if (102 : Int32) < v2 then 14 else 10)) (L' := [.int v2, .int (97 : Int32), .int (102 : Int32)]) (S' := []) (h' := h) rfl ?_
    refine Wp.br (fun c14 => ?_) (fun c14 => ?_)
    · replace K := K.1 c14
      refine Wp.blk (by decide) ol_129 8 1 (pc' := 15) (L' := [.int v2, .int (97 : Int32), .int (102 : Int32)]) (S' := [.int (0 : Int32)]) (h' := h) rfl ?_
      refine Wp.ret (op_ix (by decide) ol_129 9 rfl) rfl ⟨_, rfl, ?_⟩
      refine Wp.blk (by decide) ol_133 4 3 (pc' := (tsw v1 [(0, 44), (1, 62), (2, 91), (3, 103), (4, 146)] 216)) (L' := [.ref 23, .int v1, .int v2, .int (0 : Int32), mk0]) (S' := []) (h' := h) rfl ?_
      refine Wp.tsw (fun c15 => ?_) (fun c15 => ?_)
      · replace K := K.1 c15
        refine Wp.blk (by decide) ol_133 7 4 (pc' := 49) (L' := [.ref 23, .int v1, .int v2, .int (0 : Int32), mk0]) (S' := [.int (v2 - ((97 : Int32))), .ref 23]) (h' := h) rfl ?_
        refine Wp.putf (op_ix (by decide) ol_133 11 rfl) (by decide) (okS HS 23 rfl rfl) (h' := (stI h 23 25 ((v2 - ((97 : Int32)))))) rfl rfl ?_
        refine Wp.blk (by decide) ol_133 12 2 (pc' := (if (0 : Int32) = (0 : Int32) then 60 else 56)) (L' := [.ref 23, .int v1, .int v2, .int (0 : Int32), mk0]) (S' := []) (h' := (stI h 23 25 ((v2 - ((97 : Int32)))))) rfl ?_
        refine Wp.br (fun _ => ?_) (fun hc => absurd (by decide) hc)
        refine Wp.blk (by decide) ol_133 16 1 (pc' := 61) (L' := [.ref 23, .int v1, .int v2, .int (0 : Int32), mk0]) (S' := [.int (-1 : Int32)]) (h' := (stI h 23 25 ((v2 - ((97 : Int32)))))) rfl ?_
        exact Wp.ret (op_ix (by decide) ol_133 17 rfl) rfl K
      replace K := K.2 c15
      refine Wp.tsw (fun c16 => ?_) (fun c16 => ?_)
      · replace K := K.1 c16
        refine Wp.blk (by decide) ol_133 18 4 (pc' := 67) (L' := [.ref 23, .int v1, .int v2, .int (0 : Int32), mk0]) (S' := [.int (v2 - ((97 : Int32))), .ref 23]) (h' := h) rfl ?_
        refine Wp.putf (op_ix (by decide) ol_133 22 rfl) (by decide) (okS HS 23 rfl rfl) (h' := (stI h 23 26 ((v2 - ((97 : Int32)))))) rfl rfl ?_
        refine Wp.blk (by decide) ol_133 23 2 (pc' := (if (0 : Int32) = (0 : Int32) then 89 else 74)) (L' := [.ref 23, .int v1, .int v2, .int (0 : Int32), mk0]) (S' := []) (h' := (stI h 23 26 ((v2 - ((97 : Int32)))))) rfl ?_
        refine Wp.br (fun _ => ?_) (fun hc => absurd (by decide) hc)
        refine Wp.blk (by decide) ol_133 32 1 (pc' := 90) (L' := [.ref 23, .int v1, .int v2, .int (0 : Int32), mk0]) (S' := [.int (-1 : Int32)]) (h' := (stI h 23 26 ((v2 - ((97 : Int32)))))) rfl ?_
        exact Wp.ret (op_ix (by decide) ol_133 33 rfl) rfl K
      replace K := K.2 c16
      refine Wp.tsw (fun c17 => ?_) (fun c17 => ?_)
      · replace K := K.1 c17
        refine Wp.blk (by decide) ol_133 34 3 (pc' := (if v2 = (58 : Int32) then 97 else 101)) (L' := [.ref 23, .int v1, .int v2, .int (0 : Int32), mk0]) (S' := []) (h' := h) rfl ?_
        refine Wp.br (fun c18 => ?_) (fun c18 => ?_)
        · replace K := K.1 c18
          refine Wp.blk (by decide) ol_133 37 2 (pc' := 102) (L' := [.ref 23, .int v1, .int v2, .int (0 : Int32), mk0]) (S' := [.int (3 : Int32)]) (h' := h) rfl ?_
          exact Wp.ret (op_ix (by decide) ol_133 40 rfl) rfl K
        · replace K := K.2 c18
          refine Wp.blk (by decide) ol_133 39 1 (pc' := 102) (L' := [.ref 23, .int v1, .int v2, .int (0 : Int32), mk0]) (S' := [.int (-1 : Int32)]) (h' := h) rfl ?_
          exact Wp.ret (op_ix (by decide) ol_133 40 rfl) rfl K
      replace K := K.2 c17
      refine Wp.tsw (fun c19 => ?_) (fun c19 => ?_)
      · replace K := K.1 c19
        refine Wp.blk (by decide) ol_133 41 1 (pc' := 104) (L' := [.ref 23, .int v1, .int v2, .int (0 : Int32), mk0]) (S' := [.ref 23]) (h' := h) rfl ?_
        refine Wp.getf (op_ix (by decide) ol_133 42 rfl) (okS HS 23 rfl rfl) (v := .ref 33) (congrArg va_rf (rS HS 23 27 rfl)) rfl ?_
        refine Wp.blk (by decide) ol_133 43 1 (pc' := 108) (L' := [.ref 23, .int v1, .int v2, .int (0 : Int32), mk0]) (S' := [.ref 23, .ref 33]) (h' := h) rfl ?_
        refine Wp.getf (op_ix (by decide) ol_133 44 rfl) (okS HS 23 rfl rfl) (v := .int (AI h 23 24)) rfl rfl ?_
        refine Wp.blk (by decide) ol_133 45 3 (pc' := 115) (L' := [.ref 23, .int v1, .int v2, .int (0 : Int32), mk0]) (S' := [.int (v2 - ((97 : Int32))), .int (AI h 23 24), .ref 33]) (h' := h) rfl ?_
        obtain ⟨r20, K⟩ := K
        refine Wp.iast (op_ix (by decide) ol_133 48 rfl) (by decide) (kS HS 33 rfl) (inS HS 33 rfl r20) rfl ?_
        refine Wp.blk (by decide) ol_133 49 1 (pc' := 117) (L' := [.ref 23, .int v1, .int v2, .int (0 : Int32), mk0]) (S' := [.ref 23]) (h' := (stI h 33 ((AI h 23 24)).toNatClampNeg ((v2 - ((97 : Int32)))))) rfl ?_
        refine Wp.getf (op_ix (by decide) ol_133 50 rfl) (okS HS 23 rfl rfl) (v := .ref 35) (congrArg va_rf (rS HS 23 29 rfl)) rfl ?_
        refine Wp.blk (by decide) ol_133 51 1 (pc' := 121) (L' := [.ref 23, .int v1, .int v2, .int (0 : Int32), mk0]) (S' := [.ref 23, .ref 35]) (h' := (stI h 33 ((AI h 23 24)).toNatClampNeg ((v2 - ((97 : Int32)))))) rfl ?_
        refine Wp.getf (op_ix (by decide) ol_133 52 rfl) (okS HS 23 rfl rfl) (v := .int (AI ((stI h 33 ((AI h 23 24)).toNatClampNeg ((v2 - ((97 : Int32)))))) 23 24)) rfl rfl ?_
        refine Wp.blk (by decide) ol_133 53 1 (pc' := 125) (L' := [.ref 23, .int v1, .int v2, .int (0 : Int32), mk0]) (S' := [.int (0 : Int32), .int (AI ((stI h 33 ((AI h 23 24)).toNatClampNeg ((v2 - ((97 : Int32)))))) 23 24), .ref 35]) (h' := (stI h 33 ((AI h 23 24)).toNatClampNeg ((v2 - ((97 : Int32)))))) rfl ?_
        obtain ⟨r21, K⟩ := K
        refine Wp.iast (op_ix (by decide) ol_133 54 rfl) (by decide) (kS HS 35 rfl) (inS HS 35 rfl r21) rfl ?_
        refine Wp.blk (by decide) ol_133 55 1 (pc' := 127) (L' := [.ref 23, .int v1, .int v2, .int (0 : Int32), mk0]) (S' := [.ref 23]) (h' := (stI ((stI h 33 ((AI h 23 24)).toNatClampNeg ((v2 - ((97 : Int32)))))) 35 ((AI ((stI h 33 ((AI h 23 24)).toNatClampNeg ((v2 - ((97 : Int32)))))) 23 24)).toNatClampNeg ((0 : Int32)))) rfl ?_
        refine Wp.getf (op_ix (by decide) ol_133 56 rfl) (okS HS 23 rfl rfl) (v := .ref 36) (congrArg va_rf (rS HS 23 30 rfl)) rfl ?_
        refine Wp.blk (by decide) ol_133 57 1 (pc' := 131) (L' := [.ref 23, .int v1, .int v2, .int (0 : Int32), mk0]) (S' := [.ref 23, .ref 36]) (h' := (stI ((stI h 33 ((AI h 23 24)).toNatClampNeg ((v2 - ((97 : Int32)))))) 35 ((AI ((stI h 33 ((AI h 23 24)).toNatClampNeg ((v2 - ((97 : Int32)))))) 23 24)).toNatClampNeg ((0 : Int32)))) rfl ?_
        refine Wp.getf (op_ix (by decide) ol_133 58 rfl) (okS HS 23 rfl rfl) (v := .int (AI ((stI ((stI h 33 ((AI h 23 24)).toNatClampNeg ((v2 - ((97 : Int32)))))) 35 ((AI ((stI h 33 ((AI h 23 24)).toNatClampNeg ((v2 - ((97 : Int32)))))) 23 24)).toNatClampNeg ((0 : Int32)))) 23 24)) rfl rfl ?_
        refine Wp.blk (by decide) ol_133 59 1 (pc' := 135) (L' := [.ref 23, .int v1, .int v2, .int (0 : Int32), mk0]) (S' := [.int (1 : Int32), .int (AI ((stI ((stI h 33 ((AI h 23 24)).toNatClampNeg ((v2 - ((97 : Int32)))))) 35 ((AI ((stI h 33 ((AI h 23 24)).toNatClampNeg ((v2 - ((97 : Int32)))))) 23 24)).toNatClampNeg ((0 : Int32)))) 23 24), .ref 36]) (h' := (stI ((stI h 33 ((AI h 23 24)).toNatClampNeg ((v2 - ((97 : Int32)))))) 35 ((AI ((stI h 33 ((AI h 23 24)).toNatClampNeg ((v2 - ((97 : Int32)))))) 23 24)).toNatClampNeg ((0 : Int32)))) rfl ?_
        obtain ⟨r22, K⟩ := K
        refine Wp.iast (op_ix (by decide) ol_133 60 rfl) (by decide) (kS HS 36 rfl) (inS HS 36 rfl r22) rfl ?_
        refine Wp.blk (by decide) ol_133 61 2 (pc' := (if (0 : Int32) = (0 : Int32) then 144 else 140)) (L' := [.ref 23, .int v1, .int v2, .int (0 : Int32), mk0]) (S' := []) (h' := (stI ((stI ((stI h 33 ((AI h 23 24)).toNatClampNeg ((v2 - ((97 : Int32)))))) 35 ((AI ((stI h 33 ((AI h 23 24)).toNatClampNeg ((v2 - ((97 : Int32)))))) 23 24)).toNatClampNeg ((0 : Int32)))) 36 ((AI ((stI ((stI h 33 ((AI h 23 24)).toNatClampNeg ((v2 - ((97 : Int32)))))) 35 ((AI ((stI h 33 ((AI h 23 24)).toNatClampNeg ((v2 - ((97 : Int32)))))) 23 24)).toNatClampNeg ((0 : Int32)))) 23 24)).toNatClampNeg ((1 : Int32)))) rfl ?_
        refine Wp.br (fun _ => ?_) (fun hc => absurd (by decide) hc)
        refine Wp.blk (by decide) ol_133 65 1 (pc' := 145) (L' := [.ref 23, .int v1, .int v2, .int (0 : Int32), mk0]) (S' := [.int (-1 : Int32)]) (h' := (stI ((stI ((stI h 33 ((AI h 23 24)).toNatClampNeg ((v2 - ((97 : Int32)))))) 35 ((AI ((stI h 33 ((AI h 23 24)).toNatClampNeg ((v2 - ((97 : Int32)))))) 23 24)).toNatClampNeg ((0 : Int32)))) 36 ((AI ((stI ((stI h 33 ((AI h 23 24)).toNatClampNeg ((v2 - ((97 : Int32)))))) 35 ((AI ((stI h 33 ((AI h 23 24)).toNatClampNeg ((v2 - ((97 : Int32)))))) 23 24)).toNatClampNeg ((0 : Int32)))) 23 24)).toNatClampNeg ((1 : Int32)))) rfl ?_
        exact Wp.ret (op_ix (by decide) ol_133 66 rfl) rfl K
      replace K := K.2 c19
      refine Wp.tsw (fun c23 => ?_) (fun c23 => ?_)
      · replace K := K.1 c23
        refine Wp.blk (by decide) ol_133 67 2 (pc' := (if (0 : Int32) = (0 : Int32) then 170 else 150)) (L' := [.ref 23, .int v1, .int v2, .int (0 : Int32), mk0]) (S' := []) (h' := h) rfl ?_
        refine Wp.br (fun _ => ?_) (fun hc => absurd (by decide) hc)
        refine Wp.blk (by decide) ol_133 80 1 (pc' := 171) (L' := [.ref 23, .int v1, .int v2, .int (0 : Int32), mk0]) (S' := [.int (0 : Int32)]) (h' := h) rfl ?_
        refine Wp.forget (L := [.ref 23, mk0, .int v2, mk0, mk0]) (⟨Or.inr rfl, ⟨Or.inl rfl, ⟨Or.inr rfl, ⟨Or.inl rfl, ⟨Or.inr rfl, trivial⟩⟩⟩⟩⟩) ?_
        exact K
      replace K := K.2 c23
      unfold tsw
      refine Wp.blk (by decide) ol_133 106 3 (pc' := 219) (L' := [.ref 23, .int v1, .int v2, .int (0 : Int32), mk0]) (S' := [.int v2, .int v1, .ref 23]) (h' := h) rfl ?_
      refine Wp.callI (op_ix (by decide) ol_133 109 rfl) (act_virt (c2 := 2) rfl (lk1 (kS HS 23 rfl)) rfl) rfl (K.mono ?_)
      rintro _ h24 ⟨x26, rfl, hs25, K⟩
      refine ⟨x26, rfl, ?_⟩
      exact Wp.ret (op_ix (by decide) ol_133 110 rfl) rfl K
    · replace K := K.2 c14
      refine Wp.blk (by decide) ol_129 6 2 (pc' := 15) (L' := [.int v2, .int (97 : Int32), .int (102 : Int32)]) (S' := [.int (1 : Int32)]) (h' := h) rfl ?_
      refine Wp.ret (op_ix (by decide) ol_129 9 rfl) rfl ⟨_, rfl, ?_⟩
      refine Wp.blk (by decide) ol_133 4 3 (pc' := (tsw v1 [(0, 44), (1, 62), (2, 91), (3, 103), (4, 146)] 216)) (L' := [.ref 23, .int v1, .int v2, .int (1 : Int32), mk0]) (S' := []) (h' := h) rfl ?_
      refine Wp.tsw (fun c27 => ?_) (fun c27 => ?_)
      · replace K := K.1 c27
        refine Wp.blk (by decide) ol_133 7 4 (pc' := 49) (L' := [.ref 23, .int v1, .int v2, .int (1 : Int32), mk0]) (S' := [.int (v2 - ((97 : Int32))), .ref 23]) (h' := h) rfl ?_
        refine Wp.putf (op_ix (by decide) ol_133 11 rfl) (by decide) (okS HS 23 rfl rfl) (h' := (stI h 23 25 ((v2 - ((97 : Int32)))))) rfl rfl ?_
        refine Wp.blk (by decide) ol_133 12 2 (pc' := (if (1 : Int32) = (0 : Int32) then 60 else 56)) (L' := [.ref 23, .int v1, .int v2, .int (1 : Int32), mk0]) (S' := []) (h' := (stI h 23 25 ((v2 - ((97 : Int32)))))) rfl ?_
        refine Wp.br (fun hc => absurd hc (by decide)) (fun _ => ?_)
        refine Wp.blk (by decide) ol_133 14 2 (pc' := 61) (L' := [.ref 23, .int v1, .int v2, .int (1 : Int32), mk0]) (S' := [.int (1 : Int32)]) (h' := (stI h 23 25 ((v2 - ((97 : Int32)))))) rfl ?_
        exact Wp.ret (op_ix (by decide) ol_133 17 rfl) rfl K
      replace K := K.2 c27
      refine Wp.tsw (fun c28 => ?_) (fun c28 => ?_)
      · replace K := K.1 c28
        refine Wp.blk (by decide) ol_133 18 4 (pc' := 67) (L' := [.ref 23, .int v1, .int v2, .int (1 : Int32), mk0]) (S' := [.int (v2 - ((97 : Int32))), .ref 23]) (h' := h) rfl ?_
        refine Wp.putf (op_ix (by decide) ol_133 22 rfl) (by decide) (okS HS 23 rfl rfl) (h' := (stI h 23 26 ((v2 - ((97 : Int32)))))) rfl rfl ?_
        refine Wp.blk (by decide) ol_133 23 2 (pc' := (if (1 : Int32) = (0 : Int32) then 89 else 74)) (L' := [.ref 23, .int v1, .int v2, .int (1 : Int32), mk0]) (S' := []) (h' := (stI h 23 26 ((v2 - ((97 : Int32)))))) rfl ?_
        refine Wp.br (fun hc => absurd hc (by decide)) (fun _ => ?_)
        refine Wp.blk (by decide) ol_133 25 1 (pc' := 75) (L' := [.ref 23, .int v1, .int v2, .int (1 : Int32), mk0]) (S' := [.ref 23]) (h' := (stI h 23 26 ((v2 - ((97 : Int32)))))) rfl ?_
        refine Wp.getf (op_ix (by decide) ol_133 26 rfl) (okS HS 23 rfl rfl) (v := .int (AI ((stI h 23 26 ((v2 - ((97 : Int32)))))) 23 26)) rfl rfl ?_
        refine Wp.blk (by decide) ol_133 27 1 (pc' := 79) (L' := [.ref 23, .int v1, .int v2, .int (1 : Int32), mk0]) (S' := [.ref 23, .int (AI ((stI h 23 26 ((v2 - ((97 : Int32)))))) 23 26)]) (h' := (stI h 23 26 ((v2 - ((97 : Int32)))))) rfl ?_
        refine Wp.getf (op_ix (by decide) ol_133 28 rfl) (okS HS 23 rfl rfl) (v := .int (AI ((stI h 23 26 ((v2 - ((97 : Int32)))))) 23 25)) rfl rfl ?_
        refine Wp.blk (by decide) ol_133 29 1 (pc' := (if (AI ((stI h 23 26 ((v2 - ((97 : Int32)))))) 23 26) = (AI ((stI h 23 26 ((v2 - ((97 : Int32)))))) 23 25) then 89 else 85)) (L' := [.ref 23, .int v1, .int v2, .int (1 : Int32), mk0]) (S' := []) (h' := (stI h 23 26 ((v2 - ((97 : Int32)))))) rfl ?_
        refine Wp.br (fun c29 => ?_) (fun c29 => ?_)
        · replace K := K.1 c29
          refine Wp.blk (by decide) ol_133 32 1 (pc' := 90) (L' := [.ref 23, .int v1, .int v2, .int (1 : Int32), mk0]) (S' := [.int (-1 : Int32)]) (h' := (stI h 23 26 ((v2 - ((97 : Int32)))))) rfl ?_
          exact Wp.ret (op_ix (by decide) ol_133 33 rfl) rfl K
        · replace K := K.2 c29
          refine Wp.blk (by decide) ol_133 30 2 (pc' := 90) (L' := [.ref 23, .int v1, .int v2, .int (1 : Int32), mk0]) (S' := [.int (2 : Int32)]) (h' := (stI h 23 26 ((v2 - ((97 : Int32)))))) rfl ?_
          exact Wp.ret (op_ix (by decide) ol_133 33 rfl) rfl K
      replace K := K.2 c28
      refine Wp.tsw (fun c30 => ?_) (fun c30 => ?_)
      · replace K := K.1 c30
        refine Wp.blk (by decide) ol_133 34 3 (pc' := (if v2 = (58 : Int32) then 97 else 101)) (L' := [.ref 23, .int v1, .int v2, .int (1 : Int32), mk0]) (S' := []) (h' := h) rfl ?_
        refine Wp.br (fun c31 => ?_) (fun c31 => ?_)
        · replace K := K.1 c31
          refine Wp.blk (by decide) ol_133 37 2 (pc' := 102) (L' := [.ref 23, .int v1, .int v2, .int (1 : Int32), mk0]) (S' := [.int (3 : Int32)]) (h' := h) rfl ?_
          exact Wp.ret (op_ix (by decide) ol_133 40 rfl) rfl K
        · replace K := K.2 c31
          refine Wp.blk (by decide) ol_133 39 1 (pc' := 102) (L' := [.ref 23, .int v1, .int v2, .int (1 : Int32), mk0]) (S' := [.int (-1 : Int32)]) (h' := h) rfl ?_
          exact Wp.ret (op_ix (by decide) ol_133 40 rfl) rfl K
      replace K := K.2 c30
      refine Wp.tsw (fun c32 => ?_) (fun c32 => ?_)
      · replace K := K.1 c32
        refine Wp.blk (by decide) ol_133 41 1 (pc' := 104) (L' := [.ref 23, .int v1, .int v2, .int (1 : Int32), mk0]) (S' := [.ref 23]) (h' := h) rfl ?_
        refine Wp.getf (op_ix (by decide) ol_133 42 rfl) (okS HS 23 rfl rfl) (v := .ref 33) (congrArg va_rf (rS HS 23 27 rfl)) rfl ?_
        refine Wp.blk (by decide) ol_133 43 1 (pc' := 108) (L' := [.ref 23, .int v1, .int v2, .int (1 : Int32), mk0]) (S' := [.ref 23, .ref 33]) (h' := h) rfl ?_
        refine Wp.getf (op_ix (by decide) ol_133 44 rfl) (okS HS 23 rfl rfl) (v := .int (AI h 23 24)) rfl rfl ?_
        refine Wp.blk (by decide) ol_133 45 3 (pc' := 115) (L' := [.ref 23, .int v1, .int v2, .int (1 : Int32), mk0]) (S' := [.int (v2 - ((97 : Int32))), .int (AI h 23 24), .ref 33]) (h' := h) rfl ?_
        obtain ⟨r33, K⟩ := K
        refine Wp.iast (op_ix (by decide) ol_133 48 rfl) (by decide) (kS HS 33 rfl) (inS HS 33 rfl r33) rfl ?_
        refine Wp.blk (by decide) ol_133 49 1 (pc' := 117) (L' := [.ref 23, .int v1, .int v2, .int (1 : Int32), mk0]) (S' := [.ref 23]) (h' := (stI h 33 ((AI h 23 24)).toNatClampNeg ((v2 - ((97 : Int32)))))) rfl ?_
        refine Wp.getf (op_ix (by decide) ol_133 50 rfl) (okS HS 23 rfl rfl) (v := .ref 35) (congrArg va_rf (rS HS 23 29 rfl)) rfl ?_
        refine Wp.blk (by decide) ol_133 51 1 (pc' := 121) (L' := [.ref 23, .int v1, .int v2, .int (1 : Int32), mk0]) (S' := [.ref 23, .ref 35]) (h' := (stI h 33 ((AI h 23 24)).toNatClampNeg ((v2 - ((97 : Int32)))))) rfl ?_
        refine Wp.getf (op_ix (by decide) ol_133 52 rfl) (okS HS 23 rfl rfl) (v := .int (AI ((stI h 33 ((AI h 23 24)).toNatClampNeg ((v2 - ((97 : Int32)))))) 23 24)) rfl rfl ?_
        refine Wp.blk (by decide) ol_133 53 1 (pc' := 125) (L' := [.ref 23, .int v1, .int v2, .int (1 : Int32), mk0]) (S' := [.int (0 : Int32), .int (AI ((stI h 33 ((AI h 23 24)).toNatClampNeg ((v2 - ((97 : Int32)))))) 23 24), .ref 35]) (h' := (stI h 33 ((AI h 23 24)).toNatClampNeg ((v2 - ((97 : Int32)))))) rfl ?_
        obtain ⟨r34, K⟩ := K
        refine Wp.iast (op_ix (by decide) ol_133 54 rfl) (by decide) (kS HS 35 rfl) (inS HS 35 rfl r34) rfl ?_
        refine Wp.blk (by decide) ol_133 55 1 (pc' := 127) (L' := [.ref 23, .int v1, .int v2, .int (1 : Int32), mk0]) (S' := [.ref 23]) (h' := (stI ((stI h 33 ((AI h 23 24)).toNatClampNeg ((v2 - ((97 : Int32)))))) 35 ((AI ((stI h 33 ((AI h 23 24)).toNatClampNeg ((v2 - ((97 : Int32)))))) 23 24)).toNatClampNeg ((0 : Int32)))) rfl ?_
        refine Wp.getf (op_ix (by decide) ol_133 56 rfl) (okS HS 23 rfl rfl) (v := .ref 36) (congrArg va_rf (rS HS 23 30 rfl)) rfl ?_
        refine Wp.blk (by decide) ol_133 57 1 (pc' := 131) (L' := [.ref 23, .int v1, .int v2, .int (1 : Int32), mk0]) (S' := [.ref 23, .ref 36]) (h' := (stI ((stI h 33 ((AI h 23 24)).toNatClampNeg ((v2 - ((97 : Int32)))))) 35 ((AI ((stI h 33 ((AI h 23 24)).toNatClampNeg ((v2 - ((97 : Int32)))))) 23 24)).toNatClampNeg ((0 : Int32)))) rfl ?_
        refine Wp.getf (op_ix (by decide) ol_133 58 rfl) (okS HS 23 rfl rfl) (v := .int (AI ((stI ((stI h 33 ((AI h 23 24)).toNatClampNeg ((v2 - ((97 : Int32)))))) 35 ((AI ((stI h 33 ((AI h 23 24)).toNatClampNeg ((v2 - ((97 : Int32)))))) 23 24)).toNatClampNeg ((0 : Int32)))) 23 24)) rfl rfl ?_
        refine Wp.blk (by decide) ol_133 59 1 (pc' := 135) (L' := [.ref 23, .int v1, .int v2, .int (1 : Int32), mk0]) (S' := [.int (1 : Int32), .int (AI ((stI ((stI h 33 ((AI h 23 24)).toNatClampNeg ((v2 - ((97 : Int32)))))) 35 ((AI ((stI h 33 ((AI h 23 24)).toNatClampNeg ((v2 - ((97 : Int32)))))) 23 24)).toNatClampNeg ((0 : Int32)))) 23 24), .ref 36]) (h' := (stI ((stI h 33 ((AI h 23 24)).toNatClampNeg ((v2 - ((97 : Int32)))))) 35 ((AI ((stI h 33 ((AI h 23 24)).toNatClampNeg ((v2 - ((97 : Int32)))))) 23 24)).toNatClampNeg ((0 : Int32)))) rfl ?_
        obtain ⟨r35, K⟩ := K
        refine Wp.iast (op_ix (by decide) ol_133 60 rfl) (by decide) (kS HS 36 rfl) (inS HS 36 rfl r35) rfl ?_
        refine Wp.blk (by decide) ol_133 61 2 (pc' := (if (1 : Int32) = (0 : Int32) then 144 else 140)) (L' := [.ref 23, .int v1, .int v2, .int (1 : Int32), mk0]) (S' := []) (h' := (stI ((stI ((stI h 33 ((AI h 23 24)).toNatClampNeg ((v2 - ((97 : Int32)))))) 35 ((AI ((stI h 33 ((AI h 23 24)).toNatClampNeg ((v2 - ((97 : Int32)))))) 23 24)).toNatClampNeg ((0 : Int32)))) 36 ((AI ((stI ((stI h 33 ((AI h 23 24)).toNatClampNeg ((v2 - ((97 : Int32)))))) 35 ((AI ((stI h 33 ((AI h 23 24)).toNatClampNeg ((v2 - ((97 : Int32)))))) 23 24)).toNatClampNeg ((0 : Int32)))) 23 24)).toNatClampNeg ((1 : Int32)))) rfl ?_
        refine Wp.br (fun hc => absurd hc (by decide)) (fun _ => ?_)
        refine Wp.blk (by decide) ol_133 63 2 (pc' := 145) (L' := [.ref 23, .int v1, .int v2, .int (1 : Int32), mk0]) (S' := [.int (4 : Int32)]) (h' := (stI ((stI ((stI h 33 ((AI h 23 24)).toNatClampNeg ((v2 - ((97 : Int32)))))) 35 ((AI ((stI h 33 ((AI h 23 24)).toNatClampNeg ((v2 - ((97 : Int32)))))) 23 24)).toNatClampNeg ((0 : Int32)))) 36 ((AI ((stI ((stI h 33 ((AI h 23 24)).toNatClampNeg ((v2 - ((97 : Int32)))))) 35 ((AI ((stI h 33 ((AI h 23 24)).toNatClampNeg ((v2 - ((97 : Int32)))))) 23 24)).toNatClampNeg ((0 : Int32)))) 23 24)).toNatClampNeg ((1 : Int32)))) rfl ?_
        exact Wp.ret (op_ix (by decide) ol_133 66 rfl) rfl K
      replace K := K.2 c32
      refine Wp.tsw (fun c36 => ?_) (fun c36 => ?_)
      · replace K := K.1 c36
        refine Wp.blk (by decide) ol_133 67 2 (pc' := (if (1 : Int32) = (0 : Int32) then 170 else 150)) (L' := [.ref 23, .int v1, .int v2, .int (1 : Int32), mk0]) (S' := []) (h' := h) rfl ?_
        refine Wp.br (fun hc => absurd hc (by decide)) (fun _ => ?_)
        refine Wp.blk (by decide) ol_133 69 4 (pc' := 155) (L' := [.ref 23, .int v1, .int v2, .int (1 : Int32), mk0]) (S' := [.ref 23, .int (v2 - ((97 : Int32)))]) (h' := h) rfl ?_
        refine Wp.getf (op_ix (by decide) ol_133 73 rfl) (okS HS 23 rfl rfl) (v := .ref 33) (congrArg va_rf (rS HS 23 27 rfl)) rfl ?_
        refine Wp.blk (by decide) ol_133 74 1 (pc' := 159) (L' := [.ref 23, .int v1, .int v2, .int (1 : Int32), mk0]) (S' := [.ref 23, .ref 33, .int (v2 - ((97 : Int32)))]) (h' := h) rfl ?_
        refine Wp.getf (op_ix (by decide) ol_133 75 rfl) (okS HS 23 rfl rfl) (v := .int (AI h 23 24)) rfl rfl ?_
        obtain ⟨r37, K⟩ := K
        refine Wp.iald (op_ix (by decide) ol_133 76 rfl) (kS HS 33 rfl) (inS HS 33 rfl r37) rfl ?_
        refine Wp.blk (by decide) ol_133 77 1 (pc' := (if (v2 - ((97 : Int32))) = (AI h 33 ((AI h 23 24)).toNatClampNeg) then 170 else 166)) (L' := [.ref 23, .int v1, .int v2, .int (1 : Int32), mk0]) (S' := []) (h' := h) rfl ?_
        refine Wp.br (fun c38 => ?_) (fun c38 => ?_)
        · replace K := K.1 c38
          refine Wp.blk (by decide) ol_133 80 1 (pc' := 171) (L' := [.ref 23, .int v1, .int v2, .int (1 : Int32), mk0]) (S' := [.int (0 : Int32)]) (h' := h) rfl ?_
          refine Wp.forget (L := [.ref 23, mk0, .int v2, mk0, mk0]) (⟨Or.inr rfl, ⟨Or.inl rfl, ⟨Or.inr rfl, ⟨Or.inl rfl, ⟨Or.inr rfl, trivial⟩⟩⟩⟩⟩) ?_
          exact K
        · replace K := K.2 c38
          refine Wp.blk (by decide) ol_133 78 2 (pc' := 171) (L' := [.ref 23, .int v1, .int v2, .int (1 : Int32), mk0]) (S' := [.int (1 : Int32)]) (h' := h) rfl ?_
          refine Wp.forget (L := [.ref 23, mk0, .int v2, mk0, mk0]) (⟨Or.inr rfl, ⟨Or.inl rfl, ⟨Or.inr rfl, ⟨Or.inl rfl, ⟨Or.inr rfl, trivial⟩⟩⟩⟩⟩) ?_
          exact K
      replace K := K.2 c36
      unfold tsw
      refine Wp.blk (by decide) ol_133 106 3 (pc' := 219) (L' := [.ref 23, .int v1, .int v2, .int (1 : Int32), mk0]) (S' := [.int v2, .int v1, .ref 23]) (h' := h) rfl ?_
      refine Wp.callI (op_ix (by decide) ol_133 109 rfl) (act_virt (c2 := 2) rfl (lk1 (kS HS 23 rfl)) rfl) rfl (K.mono ?_)
      rintro _ h39 ⟨x41, rfl, hs40, K⟩
      refine ⟨x41, rfl, ?_⟩
      exact Wp.ret (op_ix (by decide) ol_133 110 rfl) rfl K
/-- CutsOrFastModel.nextState at 171 -/
theorem g133_171 (d : Nat) (v2 : Int32) (s0 : Int32) (h : AH) (HS : Sh h)  (Q : Option Value → AH → Prop) (K : (ixR ((AI h 23 24)) 9 ∧ ((s0 = (0 : Int32) → Q (some (.int (-1 : Int32))) (stI ((stI h 34 ((AI h 23 24)).toNatClampNeg ((v2 - ((97 : Int32)))))) 23 24 ((((AI ((stI h 34 ((AI h 23 24)).toNatClampNeg ((v2 - ((97 : Int32)))))) 23 24)) + ((0 : Int32)))))) ∧ (¬ s0 = (0 : Int32) → Q (some (.int (5 : Int32))) (stI ((stI h 34 ((AI h 23 24)).toNatClampNeg ((v2 - ((97 : Int32)))))) 23 24 ((((AI ((stI h 34 ((AI h 23 24)).toNatClampNeg ((v2 - ((97 : Int32)))))) 23 24)) + ((1 : Int32))))))))) : Wp d 133 171 [.ref 23, mk0, .int v2, mk0, mk0] [.int s0] h Q := by
  refine Wp.blk (by decide) ol_133 81 2 (pc' := 174) (L' := [.ref 23, mk0, .int v2, mk0, .int s0]) (S' := [.ref 23]) (h' := h) rfl ?_
  refine Wp.getf (op_ix (by decide) ol_133 83 rfl) (okS HS 23 rfl rfl) (v := .ref 34) (congrArg va_rf (rS HS 23 28 rfl)) rfl ?_
  refine Wp.blk (by decide) ol_133 84 1 (pc' := 178) (L' := [.ref 23, mk0, .int v2, mk0, .int s0]) (S' := [.ref 23, .ref 34]) (h' := h) rfl ?_
  refine Wp.getf (op_ix (by decide) ol_133 85 rfl) (okS HS 23 rfl rfl) (v := .int (AI h 23 24)) rfl rfl ?_
  refine Wp.blk (by decide) ol_133 86 3 (pc' := 185) (L' := [.ref 23, mk0, .int v2, mk0, .int s0]) (S' := [.int (v2 - ((97 : Int32))), .int (AI h 23 24), .ref 34]) (h' := h) rfl ?_
  obtain ⟨r1, K⟩ := K
  refine Wp.iast (op_ix (by decide) ol_133 89 rfl) (by decide) (kS HS 34 rfl) (inS HS 34 rfl r1) rfl ?_
  refine Wp.blk (by decide) ol_133 90 2 (pc' := 188) (L' := [.ref 23, mk0, .int v2, mk0, .int s0]) (S' := [.ref 23, .ref 23]) (h' := (stI h 34 ((AI h 23 24)).toNatClampNeg ((v2 - ((97 : Int32)))))) rfl ?_
  refine Wp.getf (op_ix (by decide) ol_133 92 rfl) (okS HS 23 rfl rfl) (v := .int (AI ((stI h 34 ((AI h 23 24)).toNatClampNeg ((v2 - ((97 : Int32)))))) 23 24)) rfl rfl ?_
  refine Wp.blk (by decide) ol_133 93 2 (pc' := (if s0 = (0 : Int32) then 200 else 196)) (L' := [.ref 23, mk0, .int v2, mk0, .int s0]) (S' := [.int (AI ((stI h 34 ((AI h 23 24)).toNatClampNeg ((v2 - ((97 : Int32)))))) 23 24), .ref 23]) (h' := (stI h 34 ((AI h 23 24)).toNatClampNeg ((v2 - ((97 : Int32)))))) rfl ?_
  refine Wp.br (fun c2 => ?_) (fun c2 => ?_)
  · replace K := K.1 c2
    refine Wp.blk (by decide) ol_133 97 2 (pc' := 202) (L' := [.ref 23, mk0, .int v2, mk0, .int s0]) (S' := [.int (((AI ((stI h 34 ((AI h 23 24)).toNatClampNeg ((v2 - ((97 : Int32)))))) 23 24)) + ((0 : Int32))), .ref 23]) (h' := (stI h 34 ((AI h 23 24)).toNatClampNeg ((v2 - ((97 : Int32)))))) rfl ?_
    refine Wp.putf (op_ix (by decide) ol_133 99 rfl) (by decide) (okS HS 23 rfl rfl) (h' := (stI ((stI h 34 ((AI h 23 24)).toNatClampNeg ((v2 - ((97 : Int32)))))) 23 24 ((((AI ((stI h 34 ((AI h 23 24)).toNatClampNeg ((v2 - ((97 : Int32)))))) 23 24)) + ((0 : Int32)))))) rfl rfl ?_
    refine Wp.blk (by decide) ol_133 100 2 (pc' := (if s0 = (0 : Int32) then 214 else 210)) (L' := [.ref 23, mk0, .int v2, mk0, .int s0]) (S' := []) (h' := (stI ((stI h 34 ((AI h 23 24)).toNatClampNeg ((v2 - ((97 : Int32)))))) 23 24 ((((AI ((stI h 34 ((AI h 23 24)).toNatClampNeg ((v2 - ((97 : Int32)))))) 23 24)) + ((0 : Int32)))))) rfl ?_
    refine Wp.br (fun _ => ?_) (fun hc => absurd c2 hc)
    refine Wp.blk (by decide) ol_133 104 1 (pc' := 215) (L' := [.ref 23, mk0, .int v2, mk0, .int s0]) (S' := [.int (-1 : Int32)]) (h' := (stI ((stI h 34 ((AI h 23 24)).toNatClampNeg ((v2 - ((97 : Int32)))))) 23 24 ((((AI ((stI h 34 ((AI h 23 24)).toNatClampNeg ((v2 - ((97 : Int32)))))) 23 24)) + ((0 : Int32)))))) rfl ?_
    exact Wp.ret (op_ix (by decide) ol_133 105 rfl) rfl K
  · replace K := K.2 c2
    refine Wp.blk (by decide) ol_133 95 2 (pc' := 201) (L' := [.ref 23, mk0, .int v2, mk0, .int s0]) (S' := [.int (1 : Int32), .int (AI ((stI h 34 ((AI h 23 24)).toNatClampNeg ((v2 - ((97 : Int32)))))) 23 24), .ref 23]) (h' := (stI h 34 ((AI h 23 24)).toNatClampNeg ((v2 - ((97 : Int32)))))) rfl ?_
    refine Wp.blk (by decide) ol_133 98 1 (pc' := 202) (L' := [.ref 23, mk0, .int v2, mk0, .int s0]) (S' := [.int (((AI ((stI h 34 ((AI h 23 24)).toNatClampNeg ((v2 - ((97 : Int32)))))) 23 24)) + ((1 : Int32))), .ref 23]) (h' := (stI h 34 ((AI h 23 24)).toNatClampNeg ((v2 - ((97 : Int32)))))) rfl ?_
    refine Wp.putf (op_ix (by decide) ol_133 99 rfl) (by decide) (okS HS 23 rfl rfl) (h' := (stI ((stI h 34 ((AI h 23 24)).toNatClampNeg ((v2 - ((97 : Int32)))))) 23 24 ((((AI ((stI h 34 ((AI h 23 24)).toNatClampNeg ((v2 - ((97 : Int32)))))) 23 24)) + ((1 : Int32)))))) rfl rfl ?_
    refine Wp.blk (by decide) ol_133 100 2 (pc' := (if s0 = (0 : Int32) then 214 else 210)) (L' := [.ref 23, mk0, .int v2, mk0, .int s0]) (S' := []) (h' := (stI ((stI h 34 ((AI h 23 24)).toNatClampNeg ((v2 - ((97 : Int32)))))) 23 24 ((((AI ((stI h 34 ((AI h 23 24)).toNatClampNeg ((v2 - ((97 : Int32)))))) 23 24)) + ((1 : Int32)))))) rfl ?_
    refine Wp.br (fun hc => absurd hc c2) (fun _ => ?_)
    refine Wp.blk (by decide) ol_133 102 2 (pc' := 215) (L' := [.ref 23, mk0, .int v2, mk0, .int s0]) (S' := [.int (5 : Int32)]) (h' := (stI ((stI h 34 ((AI h 23 24)).toNatClampNeg ((v2 - ((97 : Int32)))))) 23 24 ((((AI ((stI h 34 ((AI h 23 24)).toNatClampNeg ((v2 - ((97 : Int32)))))) 23 24)) + ((1 : Int32)))))) rfl ?_
    exact Wp.ret (op_ix (by decide) ol_133 105 rfl) rfl K
/-- CutsOrFastModel.behindLane at 0 (II)I -/
theorem g134_0 (d : Nat) (v1 : Int32) (v2 : Int32) (h : AH) (HS : Sh h)  (Q : Option Value → AH → Prop) (K : ((v1 = (5 : Int32) → ((v2 = (43 : Int32) → Wp d 134 17 [.ref 23, mk0, .int v2] [] h Q) ∧ (¬ v2 = (43 : Int32) → ((v2 = (45 : Int32) → Wp d 134 17 [.ref 23, mk0, .int v2] [] h Q) ∧ (¬ v2 = (45 : Int32) → Wp d 134 42 [.ref 23, .int v1, .int v2] [] h Q))))) ∧ (¬ v1 = (5 : Int32) → Wp d 134 42 [.ref 23, .int v1, .int v2] [] h Q))) : Wp d 134 0 [.ref 23, .int v1, .int v2] [] h Q := by
  refine Wp.blk (by decide) ol_134 0 3 (pc' := (if v1 = (5 : Int32) then 5 else 42)) (L' := [.ref 23, .int v1, .int v2]) (S' := []) (h' := h) rfl ?_
  refine Wp.br (fun c1 => ?_) (fun c1 => ?_)
  · replace K := K.1 c1
    refine Wp.blk (by decide) ol_134 3 3 (pc' := (if v2 = (43 : Int32) then 17 else 11)) (L' := [.ref 23, .int v1, .int v2]) (S' := []) (h' := h) rfl ?_
    refine Wp.br (fun c2 => ?_) (fun c2 => ?_)
    · replace K := K.1 c2
      refine Wp.forget (L := [.ref 23, mk0, .int v2]) (⟨Or.inr rfl, ⟨Or.inl rfl, ⟨Or.inr rfl, trivial⟩⟩⟩) ?_
      exact K
    · replace K := K.2 c2
      refine Wp.blk (by decide) ol_134 6 3 (pc' := (if v2 = (45 : Int32) then 17 else 42)) (L' := [.ref 23, .int v1, .int v2]) (S' := []) (h' := h) rfl ?_
      refine Wp.br (fun c3 => ?_) (fun c3 => ?_)
      · replace K := K.1 c3
        refine Wp.forget (L := [.ref 23, mk0, .int v2]) (⟨Or.inr rfl, ⟨Or.inl rfl, ⟨Or.inr rfl, trivial⟩⟩⟩) ?_
        exact K
      · replace K := K.2 c3
        exact K
  · replace K := K.2 c1
    exact K
/-- CutsOrFastModel.behindLane at 17 -/
theorem g134_17 (d : Nat) (v2 : Int32) (h : AH) (HS : Sh h)  (Q : Option Value → AH → Prop) (K : ((v2 = (43 : Int32) → (ixR ((((AI h 23 24)) - ((1 : Int32)))) 9 ∧ Q (some (.int (6 : Int32))) (stI h 35 ((((AI h 23 24)) - ((1 : Int32)))).toNatClampNeg ((1 : Int32))))) ∧ (¬ v2 = (43 : Int32) → (ixR ((((AI h 23 24)) - ((1 : Int32)))) 9 ∧ Q (some (.int (6 : Int32))) (stI h 35 ((((AI h 23 24)) - ((1 : Int32)))).toNatClampNeg ((2 : Int32))))))) : Wp d 134 17 [.ref 23, mk0, .int v2] [] h Q := by
  refine Wp.blk (by decide) ol_134 9 1 (pc' := 18) (L' := [.ref 23, mk0, .int v2]) (S' := [.ref 23]) (h' := h) rfl ?_
  refine Wp.getf (op_ix (by decide) ol_134 10 rfl) (okS HS 23 rfl rfl) (v := .ref 35) (congrArg va_rf (rS HS 23 29 rfl)) rfl ?_
  refine Wp.blk (by decide) ol_134 11 1 (pc' := 22) (L' := [.ref 23, mk0, .int v2]) (S' := [.ref 23, .ref 35]) (h' := h) rfl ?_
  refine Wp.getf (op_ix (by decide) ol_134 12 rfl) (okS HS 23 rfl rfl) (v := .int (AI h 23 24)) rfl rfl ?_
  refine Wp.blk (by decide) ol_134 13 5 (pc' := (if v2 = (43 : Int32) then 33 else 37)) (L' := [.ref 23, mk0, .int v2]) (S' := [.int (((AI h 23 24)) - ((1 : Int32))), .ref 35]) (h' := h) rfl ?_
  refine Wp.br (fun c1 => ?_) (fun c1 => ?_)
  · replace K := K.1 c1
    refine Wp.blk (by decide) ol_134 18 2 (pc' := 38) (L' := [.ref 23, mk0, .int v2]) (S' := [.int (1 : Int32), .int (((AI h 23 24)) - ((1 : Int32))), .ref 35]) (h' := h) rfl ?_
    obtain ⟨r2, K⟩ := K
    refine Wp.iast (op_ix (by decide) ol_134 21 rfl) (by decide) (kS HS 35 rfl) (inS HS 35 rfl r2) rfl ?_
    refine Wp.blk (by decide) ol_134 22 1 (pc' := 41) (L' := [.ref 23, mk0, .int v2]) (S' := [.int (6 : Int32)]) (h' := (stI h 35 ((((AI h 23 24)) - ((1 : Int32)))).toNatClampNeg ((1 : Int32)))) rfl ?_
    exact Wp.ret (op_ix (by decide) ol_134 23 rfl) rfl K
  · replace K := K.2 c1
    refine Wp.blk (by decide) ol_134 20 1 (pc' := 38) (L' := [.ref 23, mk0, .int v2]) (S' := [.int (2 : Int32), .int (((AI h 23 24)) - ((1 : Int32))), .ref 35]) (h' := h) rfl ?_
    obtain ⟨r3, K⟩ := K
    refine Wp.iast (op_ix (by decide) ol_134 21 rfl) (by decide) (kS HS 35 rfl) (inS HS 35 rfl r3) rfl ?_
    refine Wp.blk (by decide) ol_134 22 1 (pc' := 41) (L' := [.ref 23, mk0, .int v2]) (S' := [.int (6 : Int32)]) (h' := (stI h 35 ((((AI h 23 24)) - ((1 : Int32)))).toNatClampNeg ((2 : Int32)))) rfl ?_
    exact Wp.ret (op_ix (by decide) ol_134 23 rfl) rfl K
/-- CutsOrFastModel.behindLane at 42 -/
theorem g134_42 (d : Nat) (v1 : Int32) (v2 : Int32) (h : AH) (HS : Sh h)  (Q : Option Value → AH → Prop) (K : ((v1 < (7 : Int32) → ((v2 < (49 : Int32) → ((v2 = (44 : Int32) → (((AI h 23 24) < (9 : Int32) → Q (some (.int (3 : Int32))) h) ∧ (¬ (AI h 23 24) < (9 : Int32) → Q (some (.int (-1 : Int32))) h))) ∧ (¬ v2 = (44 : Int32) → Q (some (.int (-1 : Int32))) h))) ∧ (¬ v2 < (49 : Int32) → (((57 : Int32) < v2 → ((v2 = (44 : Int32) → (((AI h 23 24) < (9 : Int32) → Q (some (.int (3 : Int32))) h) ∧ (¬ (AI h 23 24) < (9 : Int32) → Q (some (.int (-1 : Int32))) h))) ∧ (¬ v2 = (44 : Int32) → Q (some (.int (-1 : Int32))) h))) ∧ (¬ (57 : Int32) < v2 → (ixR ((((AI h 23 24)) - ((1 : Int32)))) 9 ∧ Q (some (.int (7 : Int32))) (stI h 36 ((((AI h 23 24)) - ((1 : Int32)))).toNatClampNeg ((v2 - ((48 : Int32))))))))))) ∧ (¬ v1 < (7 : Int32) → ((v2 = (44 : Int32) → (((AI h 23 24) < (9 : Int32) → Q (some (.int (3 : Int32))) h) ∧ (¬ (AI h 23 24) < (9 : Int32) → Q (some (.int (-1 : Int32))) h))) ∧ (¬ v2 = (44 : Int32) → Q (some (.int (-1 : Int32))) h))))) : Wp (d + 1) 134 42 [.ref 23, .int v1, .int v2] [] h Q := by
  refine Wp.blk (by decide) ol_134 24 3 (pc' := (if v1 < (7 : Int32) then 48 else 77)) (L' := [.ref 23, .int v1, .int v2]) (S' := []) (h' := h) rfl ?_
  refine Wp.br (fun c1 => ?_) (fun c1 => ?_)
  · replace K := K.1 c1
    refine Wp.blk (by decide) ol_134 27 3 (pc' := 53) (L' := [.ref 23, .int v1, .int v2]) (S' := [.int (57 : Int32), .int (49 : Int32), .int v2]) (h' := h) rfl ?_
    refine Wp.callI (op_ix (by decide) ol_134 30 rfl) rfl rfl (Cl.enter (L := [.int v2, .int (49 : Int32), .int (57 : Int32)]) rfl ?_)
    refine Wp.blk (by decide) ol_129 0 3 (pc' := (if v2 < (49 : Int32) then 14 else 5)) (L' := [.int v2, .int (49 : Int32), .int (57 : Int32)]) (S' := []) (h' := h) rfl ?_
    refine Wp.br (fun c2 => ?_) (fun c2 => ?_)
    · replace K := K.1 c2
      refine Wp.blk (by decide) ol_129 8 1 (pc' := 15) (L' := [.int v2, .int (49 : Int32), .int (57 : Int32)]) (S' := [.int (0 : Int32)]) (h' := h) rfl ?_
      refine Wp.ret (op_ix (by decide) ol_129 9 rfl) rfl ⟨_, rfl, ?_⟩
      refine Wp.blk (by decide) ol_134 31 1 (pc' := (if (0 : Int32) = (0 : Int32) then 77 else 59)) (L' := [.ref 23, .int v1, .int v2]) (S' := []) (h' := h) rfl ?_
      refine Wp.br (fun _ => ?_) (fun hc => absurd (by decide) hc)
      refine Wp.blk (by decide) ol_134 44 3 (pc' := (if v2 = (44 : Int32) then 83 else 96)) (L' := [.ref 23, .int v1, .int v2]) (S' := []) (h' := h) rfl ?_
      refine Wp.br (fun c3 => ?_) (fun c3 => ?_)
      · replace K := K.1 c3
        refine Wp.blk (by decide) ol_134 47 1 (pc' := 84) (L' := [.ref 23, .int v1, .int v2]) (S' := [.ref 23]) (h' := h) rfl ?_
        refine Wp.getf (op_ix (by decide) ol_134 48 rfl) (okS HS 23 rfl rfl) (v := .int (AI h 23 24)) rfl rfl ?_
        refine Wp.blk (by decide) ol_134 49 2 (pc' := (if (AI h 23 24) < (9 : Int32) then 92 else 96)) (L' := [.ref 23, .int v1, .int v2]) (S' := []) (h' := h) rfl ?_
        refine Wp.br (fun c4 => ?_) (fun c4 => ?_)
        · replace K := K.1 c4
          refine Wp.blk (by decide) ol_134 51 2 (pc' := 97) (L' := [.ref 23, .int v1, .int v2]) (S' := [.int (3 : Int32)]) (h' := h) rfl ?_
          exact Wp.ret (op_ix (by decide) ol_134 54 rfl) rfl K
        · replace K := K.2 c4
          refine Wp.blk (by decide) ol_134 53 1 (pc' := 97) (L' := [.ref 23, .int v1, .int v2]) (S' := [.int (-1 : Int32)]) (h' := h) rfl ?_
          exact Wp.ret (op_ix (by decide) ol_134 54 rfl) rfl K
      · replace K := K.2 c3
        refine Wp.blk (by decide) ol_134 53 1 (pc' := 97) (L' := [.ref 23, .int v1, .int v2]) (S' := [.int (-1 : Int32)]) (h' := h) rfl ?_
        exact Wp.ret (op_ix (by decide) ol_134 54 rfl) rfl K
    · replace K := K.2 c2
      refine Wp.blk (by decide) ol_129 3 3 (pc' := (if (57 : Int32) < v2 then 14 else 10)) (L' := [.int v2, .int (49 : Int32), .int (57 : Int32)]) (S' := []) (h' := h) rfl ?_
      refine Wp.br (fun c5 => ?_) (fun c5 => ?_)
      · replace K := K.1 c5
        refine Wp.blk (by decide) ol_129 8 1 (pc' := 15) (L' := [.int v2, .int (49 : Int32), .int (57 : Int32)]) (S' := [.int (0 : Int32)]) (h' := h) rfl ?_
        refine Wp.ret (op_ix (by decide) ol_129 9 rfl) rfl ⟨_, rfl, ?_⟩
        refine Wp.blk (by decide) ol_134 31 1 (pc' := (if (0 : Int32) = (0 : Int32) then 77 else 59)) (L' := [.ref 23, .int v1, .int v2]) (S' := []) (h' := h) rfl ?_
        refine Wp.br (fun _ => ?_) (fun hc => absurd (by decide) hc)
        refine Wp.blk (by decide) ol_134 44 3 (pc' := (if v2 = (44 : Int32) then 83 else 96)) (L' := [.ref 23, .int v1, .int v2]) (S' := []) (h' := h) rfl ?_
        refine Wp.br (fun c6 => ?_) (fun c6 => ?_)
        · replace K := K.1 c6
          refine Wp.blk (by decide) ol_134 47 1 (pc' := 84) (L' := [.ref 23, .int v1, .int v2]) (S' := [.ref 23]) (h' := h) rfl ?_
          refine Wp.getf (op_ix (by decide) ol_134 48 rfl) (okS HS 23 rfl rfl) (v := .int (AI h 23 24)) rfl rfl ?_
          refine Wp.blk (by decide) ol_134 49 2 (pc' := (if (AI h 23 24) < (9 : Int32) then 92 else 96)) (L' := [.ref 23, .int v1, .int v2]) (S' := []) (h' := h) rfl ?_
          refine Wp.br (fun c7 => ?_) (fun c7 => ?_)
          · replace K := K.1 c7
            refine Wp.blk (by decide) ol_134 51 2 (pc' := 97) (L' := [.ref 23, .int v1, .int v2]) (S' := [.int (3 : Int32)]) (h' := h) rfl ?_
            exact Wp.ret (op_ix (by decide) ol_134 54 rfl) rfl K
          · replace K := K.2 c7
            refine Wp.blk (by decide) ol_134 53 1 (pc' := 97) (L' := [.ref 23, .int v1, .int v2]) (S' := [.int (-1 : Int32)]) (h' := h) rfl ?_
            exact Wp.ret (op_ix (by decide) ol_134 54 rfl) rfl K
        · replace K := K.2 c6
          refine Wp.blk (by decide) ol_134 53 1 (pc' := 97) (L' := [.ref 23, .int v1, .int v2]) (S' := [.int (-1 : Int32)]) (h' := h) rfl ?_
          exact Wp.ret (op_ix (by decide) ol_134 54 rfl) rfl K
      · replace K := K.2 c5
        refine Wp.blk (by decide) ol_129 6 2 (pc' := 15) (L' := [.int v2, .int (49 : Int32), .int (57 : Int32)]) (S' := [.int (1 : Int32)]) (h' := h) rfl ?_
        refine Wp.ret (op_ix (by decide) ol_129 9 rfl) rfl ⟨_, rfl, ?_⟩
        refine Wp.blk (by decide) ol_134 31 1 (pc' := (if (1 : Int32) = (0 : Int32) then 77 else 59)) (L' := [.ref 23, .int v1, .int v2]) (S' := []) (h' := h) rfl ?_
        refine Wp.br (fun hc => absurd hc (by decide)) (fun _ => ?_)
        refine Wp.blk (by decide) ol_134 32 1 (pc' := 60) (L' := [.ref 23, .int v1, .int v2]) (S' := [.ref 23]) (h' := h) rfl ?_
        refine Wp.getf (op_ix (by decide) ol_134 33 rfl) (okS HS 23 rfl rfl) (v := .ref 36) (congrArg va_rf (rS HS 23 30 rfl)) rfl ?_
        refine Wp.blk (by decide) ol_134 34 1 (pc' := 64) (L' := [.ref 23, .int v1, .int v2]) (S' := [.ref 23, .ref 36]) (h' := h) rfl ?_
        refine Wp.getf (op_ix (by decide) ol_134 35 rfl) (okS HS 23 rfl rfl) (v := .int (AI h 23 24)) rfl rfl ?_
        refine Wp.blk (by decide) ol_134 36 5 (pc' := 73) (L' := [.ref 23, .int v1, .int v2]) (S' := [.int (v2 - ((48 : Int32))), .int (((AI h 23 24)) - ((1 : Int32))), .ref 36]) (h' := h) rfl ?_
        obtain ⟨r8, K⟩ := K
        refine Wp.iast (op_ix (by decide) ol_134 41 rfl) (by decide) (kS HS 36 rfl) (inS HS 36 rfl r8) rfl ?_
        refine Wp.blk (by decide) ol_134 42 1 (pc' := 76) (L' := [.ref 23, .int v1, .int v2]) (S' := [.int (7 : Int32)]) (h' := (stI h 36 ((((AI h 23 24)) - ((1 : Int32)))).toNatClampNeg ((v2 - ((48 : Int32)))))) rfl ?_
        exact Wp.ret (op_ix (by decide) ol_134 43 rfl) rfl K
  · replace K := K.2 c1
    refine Wp.blk (by decide) ol_134 44 3 (pc' := (if v2 = (44 : Int32) then 83 else 96)) (L' := [.ref 23, .int v1, .int v2]) (S' := []) (h' := h) rfl ?_
    refine Wp.br (fun c9 => ?_) (fun c9 => ?_)
    · replace K := K.1 c9
      refine Wp.blk (by decide) ol_134 47 1 (pc' := 84) (L' := [.ref 23, .int v1, .int v2]) (S' := [.ref 23]) (h' := h) rfl ?_
      refine Wp.getf (op_ix (by decide) ol_134 48 rfl) (okS HS 23 rfl rfl) (v := .int (AI h 23 24)) rfl rfl ?_
      refine Wp.blk (by decide) ol_134 49 2 (pc' := (if (AI h 23 24) < (9 : Int32) then 92 else 96)) (L' := [.ref 23, .int v1, .int v2]) (S' := []) (h' := h) rfl ?_
      refine Wp.br (fun c10 => ?_) (fun c10 => ?_)
      · replace K := K.1 c10
        refine Wp.blk (by decide) ol_134 51 2 (pc' := 97) (L' := [.ref 23, .int v1, .int v2]) (S' := [.int (3 : Int32)]) (h' := h) rfl ?_
        exact Wp.ret (op_ix (by decide) ol_134 54 rfl) rfl K
      · replace K := K.2 c10
        refine Wp.blk (by decide) ol_134 53 1 (pc' := 97) (L' := [.ref 23, .int v1, .int v2]) (S' := [.int (-1 : Int32)]) (h' := h) rfl ?_
        exact Wp.ret (op_ix (by decide) ol_134 54 rfl) rfl K
    · replace K := K.2 c9
      refine Wp.blk (by decide) ol_134 53 1 (pc' := 97) (L' := [.ref 23, .int v1, .int v2]) (S' := [.int (-1 : Int32)]) (h' := h) rfl ?_
      exact Wp.ret (op_ix (by decide) ol_134 54 rfl) rfl K
/-- CutsOrFastModel.readNet at 0 ()V -/
theorem g135_0 (d : Nat)  (h : AH) (HS : Sh h)  (Q : Option Value → AH → Prop) (K : Wp d 135 11 [.ref 23, .int (0 : Int32), .int (0 : Int32), .int (1 : Int32), mk0] [] (stI h 23 24 ((0 : Int32))) Q) : Wp d 135 0 [.ref 23, mk0, mk0, mk0, mk0] [] h Q := by
  refine Wp.blk (by decide) ol_135 0 2 (pc' := 2) (L' := [.ref 23, mk0, mk0, mk0, mk0]) (S' := [.int (0 : Int32), .ref 23]) (h' := h) rfl ?_
  refine Wp.putf (op_ix (by decide) ol_135 2 rfl) (by decide) (okS HS 23 rfl rfl) (h' := (stI h 23 24 ((0 : Int32)))) rfl rfl ?_
  refine Wp.blk (by decide) ol_135 3 6 (pc' := 11) (L' := [.ref 23, .int (0 : Int32), .int (0 : Int32), .int (1 : Int32), mk0]) (S' := []) (h' := (stI h 23 24 ((0 : Int32)))) rfl ?_
  exact K
/-- CutsOrFastModel.readNet at 11 -/
theorem g135_11 (d : Nat) (v1 : Int32) (v2 : Int32) (v3 : Int32) (h : AH) (HS : Sh h)  (Q : Option Value → AH → Prop) (K : ((v2 < (AI h 23 14) → ((v3 = (0 : Int32) → Wp (d + 1) 135 74 [.ref 23, .int v1, .int v2, mk0, mk0] [] h Q) ∧ (¬ v3 = (0 : Int32) → (ixR v2 50 ∧ (Cl d 133 [.ref 23, .int v1, .int (AI h 30 v2.toNatClampNeg)] h (fun r h4 => ∃ x6 : Int32, r = some (.int x6) ∧ Sh h4 ∧ ((x6 = (-1 : Int32) → Wp (d + 1) 135 47 [.ref 23, .int v1, .int v2, mk0, .int x6] [.int (0 : Int32)] h4 Q) ∧ (¬ x6 = (-1 : Int32) → Wp (d + 1) 135 47 [.ref 23, .int v1, .int v2, mk0, .int x6] [.int (1 : Int32)] h4 Q)))))))) ∧ (¬ v2 < (AI h 23 14) → Wp (d + 1) 135 74 [.ref 23, .int v1, .int v2, mk0, mk0] [] h Q))) : Wp (d + 1) 135 11 [.ref 23, .int v1, .int v2, .int v3, mk0] [] h Q := by
  refine Wp.blk (by decide) ol_135 9 2 (pc' := 13) (L' := [.ref 23, .int v1, .int v2, .int v3, mk0]) (S' := [.ref 23, .int v2]) (h' := h) rfl ?_
  refine Wp.getf (op_ix (by decide) ol_135 11 rfl) (okS HS 23 rfl rfl) (v := .int (AI h 23 14)) rfl rfl ?_
  refine Wp.blk (by decide) ol_135 12 1 (pc' := (if v2 < (AI h 23 14) then 19 else 74)) (L' := [.ref 23, .int v1, .int v2, .int v3, mk0]) (S' := []) (h' := h) rfl ?_
  refine Wp.br (fun c1 => ?_) (fun c1 => ?_)
  · replace K := K.1 c1
    refine Wp.blk (by decide) ol_135 13 2 (pc' := (if v3 = (0 : Int32) then 74 else 23)) (L' := [.ref 23, .int v1, .int v2, .int v3, mk0]) (S' := []) (h' := h) rfl ?_
    refine Wp.br (fun c2 => ?_) (fun c2 => ?_)
    · replace K := K.1 c2
      refine Wp.forget (L := [.ref 23, .int v1, .int v2, mk0, mk0]) (⟨Or.inr rfl, ⟨Or.inr rfl, ⟨Or.inr rfl, ⟨Or.inl rfl, ⟨Or.inr rfl, trivial⟩⟩⟩⟩⟩) ?_
      exact K
    · replace K := K.2 c2
      refine Wp.blk (by decide) ol_135 15 3 (pc' := 26) (L' := [.ref 23, .int v1, .int v2, .int v3, mk0]) (S' := [.ref 23, .int v1, .ref 23]) (h' := h) rfl ?_
      refine Wp.getf (op_ix (by decide) ol_135 18 rfl) (okS HS 23 rfl rfl) (v := .ref 30) (congrArg va_rf (rS HS 23 15 rfl)) rfl ?_
      refine Wp.blk (by decide) ol_135 19 1 (pc' := 30) (L' := [.ref 23, .int v1, .int v2, .int v3, mk0]) (S' := [.int v2, .ref 30, .int v1, .ref 23]) (h' := h) rfl ?_
      obtain ⟨r3, K⟩ := K
      refine Wp.bald (op_ix (by decide) ol_135 20 rfl) (Or.inl (kS HS 30 rfl)) (inS HS 30 rfl r3) rfl ?_
      refine Wp.callI (op_ix (by decide) ol_135 21 rfl) (act_virt (c2 := 2) rfl (lk1 (kS HS 23 rfl)) rfl) rfl (K.mono ?_)
      rintro _ h4 ⟨x6, rfl, hs5, K⟩
      refine ⟨x6, rfl, ?_⟩
      refine Wp.blk (by decide) ol_135 22 4 (pc' := (if x6 = (-1 : Int32) then 46 else 42)) (L' := [.ref 23, .int v1, .int v2, .int v3, .int x6]) (S' := []) (h' := h4) rfl ?_
      refine Wp.br (fun c7 => ?_) (fun c7 => ?_)
      · replace K := K.1 c7
        refine Wp.blk (by decide) ol_135 28 1 (pc' := 47) (L' := [.ref 23, .int v1, .int v2, .int v3, .int x6]) (S' := [.int (0 : Int32)]) (h' := h4) rfl ?_
        refine Wp.forget (L := [.ref 23, .int v1, .int v2, mk0, .int x6]) (⟨Or.inr rfl, ⟨Or.inr rfl, ⟨Or.inr rfl, ⟨Or.inl rfl, ⟨Or.inr rfl, trivial⟩⟩⟩⟩⟩) ?_
        exact K
      · replace K := K.2 c7
        refine Wp.blk (by decide) ol_135 26 2 (pc' := 47) (L' := [.ref 23, .int v1, .int v2, .int v3, .int x6]) (S' := [.int (1 : Int32)]) (h' := h4) rfl ?_
        refine Wp.forget (L := [.ref 23, .int v1, .int v2, mk0, .int x6]) (⟨Or.inr rfl, ⟨Or.inr rfl, ⟨Or.inr rfl, ⟨Or.inl rfl, ⟨Or.inr rfl, trivial⟩⟩⟩⟩⟩) ?_
        exact K
  · replace K := K.2 c1
    refine Wp.forget (L := [.ref 23, .int v1, .int v2, mk0, mk0]) (⟨Or.inr rfl, ⟨Or.inr rfl, ⟨Or.inr rfl, ⟨Or.inl rfl, ⟨Or.inr rfl, trivial⟩⟩⟩⟩⟩) ?_
    exact K
/-- CutsOrFastModel.readNet at 47 -/
theorem g135_47 (d : Nat) (v1 : Int32) (v2 : Int32) (v4 : Int32) (s0 : Int32) (h : AH) (HS : Sh h)  (Q : Option Value → AH → Prop) (K : ((s0 = (0 : Int32) → Wp d 135 11 [.ref 23, .int v1, .int (v2 + ((0 : Int32))), .int s0, mk0] [] h Q) ∧ (¬ s0 = (0 : Int32) → Wp d 135 11 [.ref 23, .int v4, .int (v2 + ((1 : Int32))), .int s0, mk0] [] h Q))) : Wp d 135 47 [.ref 23, .int v1, .int v2, mk0, .int v4] [.int s0] h Q := by
  refine Wp.blk (by decide) ol_135 29 3 (pc' := (if s0 = (0 : Int32) then 57 else 52)) (L' := [.ref 23, .int v1, .int v2, .int s0, .int v4]) (S' := []) (h' := h) rfl ?_
  refine Wp.br (fun c1 => ?_) (fun c1 => ?_)
  · replace K := K.1 c1
    refine Wp.blk (by decide) ol_135 34 5 (pc' := (if s0 = (0 : Int32) then 68 else 64)) (L' := [.ref 23, .int v1, .int v2, .int s0, .int v4]) (S' := [.int v2]) (h' := h) rfl ?_
    refine Wp.br (fun _ => ?_) (fun hc => absurd c1 hc)
    refine Wp.blk (by decide) ol_135 41 4 (pc' := 11) (L' := [.ref 23, .int v1, .int (v2 + ((0 : Int32))), .int s0, .int v4]) (S' := []) (h' := h) rfl ?_
    refine Wp.forget (L := [.ref 23, .int v1, .int (v2 + ((0 : Int32))), .int s0, mk0]) (⟨Or.inr rfl, ⟨Or.inr rfl, ⟨Or.inr rfl, ⟨Or.inr rfl, ⟨Or.inl rfl, trivial⟩⟩⟩⟩⟩) ?_
    exact K
  · replace K := K.2 c1
    refine Wp.blk (by decide) ol_135 32 2 (pc' := 58) (L' := [.ref 23, .int v1, .int v2, .int s0, .int v4]) (S' := [.int v4]) (h' := h) rfl ?_
    refine Wp.blk (by decide) ol_135 35 4 (pc' := (if s0 = (0 : Int32) then 68 else 64)) (L' := [.ref 23, .int v4, .int v2, .int s0, .int v4]) (S' := [.int v2]) (h' := h) rfl ?_
    refine Wp.br (fun hc => absurd hc c1) (fun _ => ?_)
    refine Wp.blk (by decide) ol_135 39 2 (pc' := 69) (L' := [.ref 23, .int v4, .int v2, .int s0, .int v4]) (S' := [.int (1 : Int32), .int v2]) (h' := h) rfl ?_
    refine Wp.blk (by decide) ol_135 42 3 (pc' := 11) (L' := [.ref 23, .int v4, .int (v2 + ((1 : Int32))), .int s0, .int v4]) (S' := []) (h' := h) rfl ?_
    refine Wp.forget (L := [.ref 23, .int v4, .int (v2 + ((1 : Int32))), .int s0, mk0]) (⟨Or.inr rfl, ⟨Or.inr rfl, ⟨Or.inr rfl, ⟨Or.inr rfl, ⟨Or.inl rfl, trivial⟩⟩⟩⟩⟩) ?_
    exact K
/-- CutsOrFastModel.readNet at 74 -/
theorem g135_74 (d : Nat) (v1 : Int32) (v2 : Int32) (h : AH) (HS : Sh h)  (Q : Option Value → AH → Prop) (K : ((v2 = (AI ((stI h 23 22 v2)) 23 14) → (((4 : Int32) < v1 → Q none (stI ((stI h 23 22 v2)) 23 23 ((1 : Int32)))) ∧ (¬ (4 : Int32) < v1 → Q none (stI ((stI h 23 22 v2)) 23 23 ((0 : Int32)))))) ∧ (¬ v2 = (AI ((stI h 23 22 v2)) 23 14) → Q none (stI ((stI h 23 22 v2)) 23 23 ((0 : Int32)))))) : Wp d 135 74 [.ref 23, .int v1, .int v2, mk0, mk0] [] h Q := by
  refine Wp.blk (by decide) ol_135 45 2 (pc' := 76) (L' := [.ref 23, .int v1, .int v2, mk0, mk0]) (S' := [.int v2, .ref 23]) (h' := h) rfl ?_
  refine Wp.putf (op_ix (by decide) ol_135 47 rfl) (by decide) (okS HS 23 rfl rfl) (h' := (stI h 23 22 v2)) rfl rfl ?_
  refine Wp.blk (by decide) ol_135 48 3 (pc' := 82) (L' := [.ref 23, .int v1, .int v2, mk0, mk0]) (S' := [.ref 23, .int v2, .ref 23]) (h' := (stI h 23 22 v2)) rfl ?_
  refine Wp.getf (op_ix (by decide) ol_135 51 rfl) (okS HS 23 rfl rfl) (v := .int (AI ((stI h 23 22 v2)) 23 14)) rfl rfl ?_
  refine Wp.blk (by decide) ol_135 52 1 (pc' := (if v2 = (AI ((stI h 23 22 v2)) 23 14) then 88 else 97)) (L' := [.ref 23, .int v1, .int v2, mk0, mk0]) (S' := [.ref 23]) (h' := (stI h 23 22 v2)) rfl ?_
  refine Wp.br (fun c1 => ?_) (fun c1 => ?_)
  · replace K := K.1 c1
    refine Wp.blk (by decide) ol_135 53 3 (pc' := (if (4 : Int32) < v1 then 93 else 97)) (L' := [.ref 23, .int v1, .int v2, mk0, mk0]) (S' := [.ref 23]) (h' := (stI h 23 22 v2)) rfl ?_
    refine Wp.br (fun c2 => ?_) (fun c2 => ?_)
    · replace K := K.1 c2
      refine Wp.blk (by decide) ol_135 56 2 (pc' := 98) (L' := [.ref 23, .int v1, .int v2, mk0, mk0]) (S' := [.int (1 : Int32), .ref 23]) (h' := (stI h 23 22 v2)) rfl ?_
      refine Wp.putf (op_ix (by decide) ol_135 59 rfl) (by decide) (okS HS 23 rfl rfl) (h' := (stI ((stI h 23 22 v2)) 23 23 ((1 : Int32)))) rfl rfl ?_
      exact Wp.ret (op_ix (by decide) ol_135 60 rfl) rfl K
    · replace K := K.2 c2
      refine Wp.blk (by decide) ol_135 58 1 (pc' := 98) (L' := [.ref 23, .int v1, .int v2, mk0, mk0]) (S' := [.int (0 : Int32), .ref 23]) (h' := (stI h 23 22 v2)) rfl ?_
      refine Wp.putf (op_ix (by decide) ol_135 59 rfl) (by decide) (okS HS 23 rfl rfl) (h' := (stI ((stI h 23 22 v2)) 23 23 ((0 : Int32)))) rfl rfl ?_
      exact Wp.ret (op_ix (by decide) ol_135 60 rfl) rfl K
  · replace K := K.2 c1
    refine Wp.blk (by decide) ol_135 58 1 (pc' := 98) (L' := [.ref 23, .int v1, .int v2, mk0, mk0]) (S' := [.int (0 : Int32), .ref 23]) (h' := (stI h 23 22 v2)) rfl ?_
    refine Wp.putf (op_ix (by decide) ol_135 59 rfl) (by decide) (okS HS 23 rfl rfl) (h' := (stI ((stI h 23 22 v2)) 23 23 ((0 : Int32)))) rfl rfl ?_
    exact Wp.ret (op_ix (by decide) ol_135 60 rfl) rfl K
/-- CutsOrFastModel.fault at 0 ()I -/
theorem g136_0 (d : Nat)  (h : AH) (HS : Sh h)  (Q : Option Value → AH → Prop) (K : (Cl d 135 [.ref 23] h (fun r h1 => r = none ∧ Sh h1 ∧ Q (some (.int (AI h1 23 22))) h1))) : Wp (d + 1) 136 0 [.ref 23] [] h Q := by
  refine Wp.blk (by decide) ol_136 0 1 (pc' := 1) (L' := [.ref 23]) (S' := [.ref 23]) (h' := h) rfl ?_
  refine Wp.callV (op_ix (by decide) ol_136 1 rfl) (act_virt (c2 := 0) rfl (lk1 (kS HS 23 rfl)) rfl) rfl (K.mono ?_)
  rintro _ h1 ⟨rfl, hs2, K⟩
  refine ⟨rfl, ?_⟩
  refine Wp.blk (by decide) ol_136 2 1 (pc' := 5) (L' := [.ref 23]) (S' := [.ref 23]) (h' := h1) rfl ?_
  refine Wp.getf (op_ix (by decide) ol_136 3 rfl) (okS hs2 23 rfl rfl) (v := .int (AI h1 23 22)) rfl rfl ?_
  exact Wp.ret (op_ix (by decide) ol_136 4 rfl) rfl K
/-- CutsOrFastModel.net at 0 ()I -/
theorem g137_0 (d : Nat)  (h : AH) (HS : Sh h)  (Q : Option Value → AH → Prop) (K : (Cl d 135 [.ref 23] h (fun r h1 => r = none ∧ Sh h1 ∧ (((AI h1 23 23) = (0 : Int32) → Q (some (.int (-103 : Int32))) h1) ∧ (¬ (AI h1 23 23) = (0 : Int32) → Wp (d + 1) 137 40 [.ref 23, .int (0 : Int32)] [] (stI ((stI ((stI h1 23 0 ((AI h1 23 24)))) 23 2 ((AI ((stI h1 23 0 ((AI h1 23 24)))) 23 25)))) 23 3 ((AI ((stI ((stI h1 23 0 ((AI h1 23 24)))) 23 2 ((AI ((stI h1 23 0 ((AI h1 23 24)))) 23 25)))) 23 26))) Q))))) : Wp (d + 1) 137 0 [.ref 23, mk0] [] h Q := by
  refine Wp.blk (by decide) ol_137 0 1 (pc' := 1) (L' := [.ref 23, mk0]) (S' := [.ref 23]) (h' := h) rfl ?_
  refine Wp.callV (op_ix (by decide) ol_137 1 rfl) (act_virt (c2 := 0) rfl (lk1 (kS HS 23 rfl)) rfl) rfl (K.mono ?_)
  rintro _ h1 ⟨rfl, hs2, K⟩
  refine ⟨rfl, ?_⟩
  refine Wp.blk (by decide) ol_137 2 1 (pc' := 5) (L' := [.ref 23, mk0]) (S' := [.ref 23]) (h' := h1) rfl ?_
  refine Wp.getf (op_ix (by decide) ol_137 3 rfl) (okS hs2 23 rfl rfl) (v := .int (AI h1 23 23)) rfl rfl ?_
  refine Wp.blk (by decide) ol_137 4 1 (pc' := (if (AI h1 23 23) = (0 : Int32) then 11 else 14)) (L' := [.ref 23, mk0]) (S' := []) (h' := h1) rfl ?_
  refine Wp.br (fun c3 => ?_) (fun c3 => ?_)
  · replace K := K.1 c3
    refine Wp.blk (by decide) ol_137 5 1 (pc' := 13) (L' := [.ref 23, mk0]) (S' := [.int (-103 : Int32)]) (h' := h1) rfl ?_
    exact Wp.ret (op_ix (by decide) ol_137 6 rfl) rfl K
  · replace K := K.2 c3
    refine Wp.blk (by decide) ol_137 7 2 (pc' := 16) (L' := [.ref 23, mk0]) (S' := [.ref 23, .ref 23]) (h' := h1) rfl ?_
    refine Wp.getf (op_ix (by decide) ol_137 9 rfl) (okS hs2 23 rfl rfl) (v := .int (AI h1 23 24)) rfl rfl ?_
    refine Wp.putf (op_ix (by decide) ol_137 10 rfl) (by decide) (okS hs2 23 rfl rfl) (h' := (stI h1 23 0 ((AI h1 23 24)))) rfl rfl ?_
    refine Wp.blk (by decide) ol_137 11 2 (pc' := 24) (L' := [.ref 23, mk0]) (S' := [.ref 23, .ref 23]) (h' := (stI h1 23 0 ((AI h1 23 24)))) rfl ?_
    refine Wp.getf (op_ix (by decide) ol_137 13 rfl) (okS hs2 23 rfl rfl) (v := .int (AI ((stI h1 23 0 ((AI h1 23 24)))) 23 25)) rfl rfl ?_
    refine Wp.putf (op_ix (by decide) ol_137 14 rfl) (by decide) (okS hs2 23 rfl rfl) (h' := (stI ((stI h1 23 0 ((AI h1 23 24)))) 23 2 ((AI ((stI h1 23 0 ((AI h1 23 24)))) 23 25)))) rfl rfl ?_
    refine Wp.blk (by decide) ol_137 15 2 (pc' := 32) (L' := [.ref 23, mk0]) (S' := [.ref 23, .ref 23]) (h' := (stI ((stI h1 23 0 ((AI h1 23 24)))) 23 2 ((AI ((stI h1 23 0 ((AI h1 23 24)))) 23 25)))) rfl ?_
    refine Wp.getf (op_ix (by decide) ol_137 17 rfl) (okS hs2 23 rfl rfl) (v := .int (AI ((stI ((stI h1 23 0 ((AI h1 23 24)))) 23 2 ((AI ((stI h1 23 0 ((AI h1 23 24)))) 23 25)))) 23 26)) rfl rfl ?_
    refine Wp.putf (op_ix (by decide) ol_137 18 rfl) (by decide) (okS hs2 23 rfl rfl) (h' := (stI ((stI ((stI h1 23 0 ((AI h1 23 24)))) 23 2 ((AI ((stI h1 23 0 ((AI h1 23 24)))) 23 25)))) 23 3 ((AI ((stI ((stI h1 23 0 ((AI h1 23 24)))) 23 2 ((AI ((stI h1 23 0 ((AI h1 23 24)))) 23 25)))) 23 26)))) rfl rfl ?_
    refine Wp.blk (by decide) ol_137 19 2 (pc' := 40) (L' := [.ref 23, .int (0 : Int32)]) (S' := []) (h' := (stI ((stI ((stI h1 23 0 ((AI h1 23 24)))) 23 2 ((AI ((stI h1 23 0 ((AI h1 23 24)))) 23 25)))) 23 3 ((AI ((stI ((stI h1 23 0 ((AI h1 23 24)))) 23 2 ((AI ((stI h1 23 0 ((AI h1 23 24)))) 23 25)))) 23 26)))) rfl ?_
    exact K
/-- CutsOrFastModel.net at 40 -/
theorem g137_40 (d : Nat) (v1 : Int32) (h : AH) (HS : Sh h)  (Q : Option Value → AH → Prop) (K : ((v1 < (AI h 23 0) → (ixR v1 9 ∧ ixR v1 10 ∧ ixR v1 9 ∧ ixR v1 10 ∧ ixR v1 9 ∧ ixR v1 10 ∧ ixR v1 9 ∧ ixR v1 10 ∧ Wp d 137 40 [.ref 23, .int (v1 + (1 : Int32))] [] (stI ((stI ((stI ((stI h 24 v1.toNatClampNeg ((AI h 33 v1.toNatClampNeg)))) 25 v1.toNatClampNeg ((AI ((stI h 24 v1.toNatClampNeg ((AI h 33 v1.toNatClampNeg)))) 34 v1.toNatClampNeg)))) 26 v1.toNatClampNeg ((AI ((stI ((stI h 24 v1.toNatClampNeg ((AI h 33 v1.toNatClampNeg)))) 25 v1.toNatClampNeg ((AI ((stI h 24 v1.toNatClampNeg ((AI h 33 v1.toNatClampNeg)))) 34 v1.toNatClampNeg)))) 35 v1.toNatClampNeg)))) 27 v1.toNatClampNeg ((AI ((stI ((stI ((stI h 24 v1.toNatClampNeg ((AI h 33 v1.toNatClampNeg)))) 25 v1.toNatClampNeg ((AI ((stI h 24 v1.toNatClampNeg ((AI h 33 v1.toNatClampNeg)))) 34 v1.toNatClampNeg)))) 26 v1.toNatClampNeg ((AI ((stI ((stI h 24 v1.toNatClampNeg ((AI h 33 v1.toNatClampNeg)))) 25 v1.toNatClampNeg ((AI ((stI h 24 v1.toNatClampNeg ((AI h 33 v1.toNatClampNeg)))) 34 v1.toNatClampNeg)))) 35 v1.toNatClampNeg)))) 36 v1.toNatClampNeg))) Q)) ∧ (¬ v1 < (AI h 23 0) → Q (some (.int (AI ((stI ((stI ((stI ((stI h 23 8 ((0 : Int32)))) 23 9 ((0 : Int32)))) 23 1 ((((AI ((stI ((stI h 23 8 ((0 : Int32)))) 23 9 ((0 : Int32)))) 23 1)) + ((1 : Int32)))))) 23 14 ((0 : Int32)))) 23 0))) (stI ((stI ((stI ((stI h 23 8 ((0 : Int32)))) 23 9 ((0 : Int32)))) 23 1 ((((AI ((stI ((stI h 23 8 ((0 : Int32)))) 23 9 ((0 : Int32)))) 23 1)) + ((1 : Int32)))))) 23 14 ((0 : Int32)))))) : Wp d 137 40 [.ref 23, .int v1] [] h Q := by
  refine Wp.blk (by decide) ol_137 21 2 (pc' := 42) (L' := [.ref 23, .int v1]) (S' := [.ref 23, .int v1]) (h' := h) rfl ?_
  refine Wp.getf (op_ix (by decide) ol_137 23 rfl) (okS HS 23 rfl rfl) (v := .int (AI h 23 0)) rfl rfl ?_
  refine Wp.blk (by decide) ol_137 24 1 (pc' := (if v1 < (AI h 23 0) then 48 else 102)) (L' := [.ref 23, .int v1]) (S' := []) (h' := h) rfl ?_
  refine Wp.br (fun c1 => ?_) (fun c1 => ?_)
  · replace K := K.1 c1
    refine Wp.blk (by decide) ol_137 25 1 (pc' := 49) (L' := [.ref 23, .int v1]) (S' := [.ref 23]) (h' := h) rfl ?_
    refine Wp.getf (op_ix (by decide) ol_137 26 rfl) (okS HS 23 rfl rfl) (v := .ref 24) (congrArg va_rf (rS HS 23 4 rfl)) rfl ?_
    refine Wp.blk (by decide) ol_137 27 2 (pc' := 54) (L' := [.ref 23, .int v1]) (S' := [.ref 23, .int v1, .ref 24]) (h' := h) rfl ?_
    refine Wp.getf (op_ix (by decide) ol_137 29 rfl) (okS HS 23 rfl rfl) (v := .ref 33) (congrArg va_rf (rS HS 23 27 rfl)) rfl ?_
    refine Wp.blk (by decide) ol_137 30 1 (pc' := 58) (L' := [.ref 23, .int v1]) (S' := [.int v1, .ref 33, .int v1, .ref 24]) (h' := h) rfl ?_
    obtain ⟨r2, K⟩ := K
    refine Wp.iald (op_ix (by decide) ol_137 31 rfl) (kS HS 33 rfl) (inS HS 33 rfl r2) rfl ?_
    obtain ⟨r3, K⟩ := K
    refine Wp.iast (op_ix (by decide) ol_137 32 rfl) (by decide) (kS HS 24 rfl) (inS HS 24 rfl r3) rfl ?_
    refine Wp.blk (by decide) ol_137 33 1 (pc' := 61) (L' := [.ref 23, .int v1]) (S' := [.ref 23]) (h' := (stI h 24 v1.toNatClampNeg ((AI h 33 v1.toNatClampNeg)))) rfl ?_
    refine Wp.getf (op_ix (by decide) ol_137 34 rfl) (okS HS 23 rfl rfl) (v := .ref 25) (congrArg va_rf (rS HS 23 5 rfl)) rfl ?_
    refine Wp.blk (by decide) ol_137 35 2 (pc' := 66) (L' := [.ref 23, .int v1]) (S' := [.ref 23, .int v1, .ref 25]) (h' := (stI h 24 v1.toNatClampNeg ((AI h 33 v1.toNatClampNeg)))) rfl ?_
    refine Wp.getf (op_ix (by decide) ol_137 37 rfl) (okS HS 23 rfl rfl) (v := .ref 34) (congrArg va_rf (rS HS 23 28 rfl)) rfl ?_
    refine Wp.blk (by decide) ol_137 38 1 (pc' := 70) (L' := [.ref 23, .int v1]) (S' := [.int v1, .ref 34, .int v1, .ref 25]) (h' := (stI h 24 v1.toNatClampNeg ((AI h 33 v1.toNatClampNeg)))) rfl ?_
    obtain ⟨r4, K⟩ := K
    refine Wp.iald (op_ix (by decide) ol_137 39 rfl) (kS HS 34 rfl) (inS HS 34 rfl r4) rfl ?_
    obtain ⟨r5, K⟩ := K
    refine Wp.iast (op_ix (by decide) ol_137 40 rfl) (by decide) (kS HS 25 rfl) (inS HS 25 rfl r5) rfl ?_
    refine Wp.blk (by decide) ol_137 41 1 (pc' := 73) (L' := [.ref 23, .int v1]) (S' := [.ref 23]) (h' := (stI ((stI h 24 v1.toNatClampNeg ((AI h 33 v1.toNatClampNeg)))) 25 v1.toNatClampNeg ((AI ((stI h 24 v1.toNatClampNeg ((AI h 33 v1.toNatClampNeg)))) 34 v1.toNatClampNeg)))) rfl ?_
    refine Wp.getf (op_ix (by decide) ol_137 42 rfl) (okS HS 23 rfl rfl) (v := .ref 26) (congrArg va_rf (rS HS 23 6 rfl)) rfl ?_
    refine Wp.blk (by decide) ol_137 43 2 (pc' := 78) (L' := [.ref 23, .int v1]) (S' := [.ref 23, .int v1, .ref 26]) (h' := (stI ((stI h 24 v1.toNatClampNeg ((AI h 33 v1.toNatClampNeg)))) 25 v1.toNatClampNeg ((AI ((stI h 24 v1.toNatClampNeg ((AI h 33 v1.toNatClampNeg)))) 34 v1.toNatClampNeg)))) rfl ?_
    refine Wp.getf (op_ix (by decide) ol_137 45 rfl) (okS HS 23 rfl rfl) (v := .ref 35) (congrArg va_rf (rS HS 23 29 rfl)) rfl ?_
    refine Wp.blk (by decide) ol_137 46 1 (pc' := 82) (L' := [.ref 23, .int v1]) (S' := [.int v1, .ref 35, .int v1, .ref 26]) (h' := (stI ((stI h 24 v1.toNatClampNeg ((AI h 33 v1.toNatClampNeg)))) 25 v1.toNatClampNeg ((AI ((stI h 24 v1.toNatClampNeg ((AI h 33 v1.toNatClampNeg)))) 34 v1.toNatClampNeg)))) rfl ?_
    obtain ⟨r6, K⟩ := K
    refine Wp.iald (op_ix (by decide) ol_137 47 rfl) (kS HS 35 rfl) (inS HS 35 rfl r6) rfl ?_
    obtain ⟨r7, K⟩ := K
    refine Wp.iast (op_ix (by decide) ol_137 48 rfl) (by decide) (kS HS 26 rfl) (inS HS 26 rfl r7) rfl ?_
    refine Wp.blk (by decide) ol_137 49 1 (pc' := 85) (L' := [.ref 23, .int v1]) (S' := [.ref 23]) (h' := (stI ((stI ((stI h 24 v1.toNatClampNeg ((AI h 33 v1.toNatClampNeg)))) 25 v1.toNatClampNeg ((AI ((stI h 24 v1.toNatClampNeg ((AI h 33 v1.toNatClampNeg)))) 34 v1.toNatClampNeg)))) 26 v1.toNatClampNeg ((AI ((stI ((stI h 24 v1.toNatClampNeg ((AI h 33 v1.toNatClampNeg)))) 25 v1.toNatClampNeg ((AI ((stI h 24 v1.toNatClampNeg ((AI h 33 v1.toNatClampNeg)))) 34 v1.toNatClampNeg)))) 35 v1.toNatClampNeg)))) rfl ?_
    refine Wp.getf (op_ix (by decide) ol_137 50 rfl) (okS HS 23 rfl rfl) (v := .ref 27) (congrArg va_rf (rS HS 23 7 rfl)) rfl ?_
    refine Wp.blk (by decide) ol_137 51 2 (pc' := 90) (L' := [.ref 23, .int v1]) (S' := [.ref 23, .int v1, .ref 27]) (h' := (stI ((stI ((stI h 24 v1.toNatClampNeg ((AI h 33 v1.toNatClampNeg)))) 25 v1.toNatClampNeg ((AI ((stI h 24 v1.toNatClampNeg ((AI h 33 v1.toNatClampNeg)))) 34 v1.toNatClampNeg)))) 26 v1.toNatClampNeg ((AI ((stI ((stI h 24 v1.toNatClampNeg ((AI h 33 v1.toNatClampNeg)))) 25 v1.toNatClampNeg ((AI ((stI h 24 v1.toNatClampNeg ((AI h 33 v1.toNatClampNeg)))) 34 v1.toNatClampNeg)))) 35 v1.toNatClampNeg)))) rfl ?_
    refine Wp.getf (op_ix (by decide) ol_137 53 rfl) (okS HS 23 rfl rfl) (v := .ref 36) (congrArg va_rf (rS HS 23 30 rfl)) rfl ?_
    refine Wp.blk (by decide) ol_137 54 1 (pc' := 94) (L' := [.ref 23, .int v1]) (S' := [.int v1, .ref 36, .int v1, .ref 27]) (h' := (stI ((stI ((stI h 24 v1.toNatClampNeg ((AI h 33 v1.toNatClampNeg)))) 25 v1.toNatClampNeg ((AI ((stI h 24 v1.toNatClampNeg ((AI h 33 v1.toNatClampNeg)))) 34 v1.toNatClampNeg)))) 26 v1.toNatClampNeg ((AI ((stI ((stI h 24 v1.toNatClampNeg ((AI h 33 v1.toNatClampNeg)))) 25 v1.toNatClampNeg ((AI ((stI h 24 v1.toNatClampNeg ((AI h 33 v1.toNatClampNeg)))) 34 v1.toNatClampNeg)))) 35 v1.toNatClampNeg)))) rfl ?_
    obtain ⟨r8, K⟩ := K
    refine Wp.iald (op_ix (by decide) ol_137 55 rfl) (kS HS 36 rfl) (inS HS 36 rfl r8) rfl ?_
    obtain ⟨r9, K⟩ := K
    refine Wp.iast (op_ix (by decide) ol_137 56 rfl) (by decide) (kS HS 27 rfl) (inS HS 27 rfl r9) rfl ?_
    refine Wp.blk (by decide) ol_137 57 2 (pc' := 40) (L' := [.ref 23, .int (v1 + (1 : Int32))]) (S' := []) (h' := (stI ((stI ((stI ((stI h 24 v1.toNatClampNeg ((AI h 33 v1.toNatClampNeg)))) 25 v1.toNatClampNeg ((AI ((stI h 24 v1.toNatClampNeg ((AI h 33 v1.toNatClampNeg)))) 34 v1.toNatClampNeg)))) 26 v1.toNatClampNeg ((AI ((stI ((stI h 24 v1.toNatClampNeg ((AI h 33 v1.toNatClampNeg)))) 25 v1.toNatClampNeg ((AI ((stI h 24 v1.toNatClampNeg ((AI h 33 v1.toNatClampNeg)))) 34 v1.toNatClampNeg)))) 35 v1.toNatClampNeg)))) 27 v1.toNatClampNeg ((AI ((stI ((stI ((stI h 24 v1.toNatClampNeg ((AI h 33 v1.toNatClampNeg)))) 25 v1.toNatClampNeg ((AI ((stI h 24 v1.toNatClampNeg ((AI h 33 v1.toNatClampNeg)))) 34 v1.toNatClampNeg)))) 26 v1.toNatClampNeg ((AI ((stI ((stI h 24 v1.toNatClampNeg ((AI h 33 v1.toNatClampNeg)))) 25 v1.toNatClampNeg ((AI ((stI h 24 v1.toNatClampNeg ((AI h 33 v1.toNatClampNeg)))) 34 v1.toNatClampNeg)))) 35 v1.toNatClampNeg)))) 36 v1.toNatClampNeg)))) rfl ?_
    exact K
  · replace K := K.2 c1
    refine Wp.blk (by decide) ol_137 59 2 (pc' := 104) (L' := [.ref 23, .int v1]) (S' := [.int (0 : Int32), .ref 23]) (h' := h) rfl ?_
    refine Wp.putf (op_ix (by decide) ol_137 61 rfl) (by decide) (okS HS 23 rfl rfl) (h' := (stI h 23 8 ((0 : Int32)))) rfl rfl ?_
    refine Wp.blk (by decide) ol_137 62 2 (pc' := 109) (L' := [.ref 23, .int v1]) (S' := [.int (0 : Int32), .ref 23]) (h' := (stI h 23 8 ((0 : Int32)))) rfl ?_
    refine Wp.putf (op_ix (by decide) ol_137 64 rfl) (by decide) (okS HS 23 rfl rfl) (h' := (stI ((stI h 23 8 ((0 : Int32)))) 23 9 ((0 : Int32)))) rfl rfl ?_
    refine Wp.blk (by decide) ol_137 65 2 (pc' := 114) (L' := [.ref 23, .int v1]) (S' := [.ref 23, .ref 23]) (h' := (stI ((stI h 23 8 ((0 : Int32)))) 23 9 ((0 : Int32)))) rfl ?_
    refine Wp.getf (op_ix (by decide) ol_137 67 rfl) (okS HS 23 rfl rfl) (v := .int (AI ((stI ((stI h 23 8 ((0 : Int32)))) 23 9 ((0 : Int32)))) 23 1)) rfl rfl ?_
    refine Wp.blk (by decide) ol_137 68 2 (pc' := 119) (L' := [.ref 23, .int v1]) (S' := [.int (((AI ((stI ((stI h 23 8 ((0 : Int32)))) 23 9 ((0 : Int32)))) 23 1)) + ((1 : Int32))), .ref 23]) (h' := (stI ((stI h 23 8 ((0 : Int32)))) 23 9 ((0 : Int32)))) rfl ?_
    refine Wp.putf (op_ix (by decide) ol_137 70 rfl) (by decide) (okS HS 23 rfl rfl) (h' := (stI ((stI ((stI h 23 8 ((0 : Int32)))) 23 9 ((0 : Int32)))) 23 1 ((((AI ((stI ((stI h 23 8 ((0 : Int32)))) 23 9 ((0 : Int32)))) 23 1)) + ((1 : Int32)))))) rfl rfl ?_
    refine Wp.blk (by decide) ol_137 71 2 (pc' := 124) (L' := [.ref 23, .int v1]) (S' := [.int (0 : Int32), .ref 23]) (h' := (stI ((stI ((stI h 23 8 ((0 : Int32)))) 23 9 ((0 : Int32)))) 23 1 ((((AI ((stI ((stI h 23 8 ((0 : Int32)))) 23 9 ((0 : Int32)))) 23 1)) + ((1 : Int32)))))) rfl ?_
    refine Wp.putf (op_ix (by decide) ol_137 73 rfl) (by decide) (okS HS 23 rfl rfl) (h' := (stI ((stI ((stI ((stI h 23 8 ((0 : Int32)))) 23 9 ((0 : Int32)))) 23 1 ((((AI ((stI ((stI h 23 8 ((0 : Int32)))) 23 9 ((0 : Int32)))) 23 1)) + ((1 : Int32)))))) 23 14 ((0 : Int32)))) rfl rfl ?_
    refine Wp.blk (by decide) ol_137 74 1 (pc' := 128) (L' := [.ref 23, .int v1]) (S' := [.ref 23]) (h' := (stI ((stI ((stI ((stI h 23 8 ((0 : Int32)))) 23 9 ((0 : Int32)))) 23 1 ((((AI ((stI ((stI h 23 8 ((0 : Int32)))) 23 9 ((0 : Int32)))) 23 1)) + ((1 : Int32)))))) 23 14 ((0 : Int32)))) rfl ?_
    refine Wp.getf (op_ix (by decide) ol_137 75 rfl) (okS HS 23 rfl rfl) (v := .int (AI ((stI ((stI ((stI ((stI h 23 8 ((0 : Int32)))) 23 9 ((0 : Int32)))) 23 1 ((((AI ((stI ((stI h 23 8 ((0 : Int32)))) 23 9 ((0 : Int32)))) 23 1)) + ((1 : Int32)))))) 23 14 ((0 : Int32)))) 23 0)) rfl rfl ?_
    exact Wp.ret (op_ix (by decide) ol_137 76 rfl) rfl K
/-- CutsOrFastModel.isLaneNumber at 0 (I)Z -/
theorem g138_0 (d : Nat) (v1 : Int32) (h : AH) (HS : Sh h)  (Q : Option Value → AH → Prop) (K : ((v1 < (0 : Int32) → Q (some (.int (0 : Int32))) h) ∧ (¬ v1 < (0 : Int32) → (((((AI h 23 0)) - ((1 : Int32))) < v1 → Q (some (.int (0 : Int32))) h) ∧ (¬ (((AI h 23 0)) - ((1 : Int32))) < v1 → Q (some (.int (1 : Int32))) h))))) : Wp (d + 1) 138 0 [.ref 23, .int v1] [] h Q := by
  refine Wp.blk (by decide) ol_138 0 3 (pc' := 3) (L' := [.ref 23, .int v1]) (S' := [.ref 23, .int (0 : Int32), .int v1]) (h' := h) rfl ?_
  refine Wp.getf (op_ix (by decide) ol_138 3 rfl) (okS HS 23 rfl rfl) (v := .int (AI h 23 0)) rfl rfl ?_
  refine Wp.blk (by decide) ol_138 4 2 (pc' := 8) (L' := [.ref 23, .int v1]) (S' := [.int (((AI h 23 0)) - ((1 : Int32))), .int (0 : Int32), .int v1]) (h' := h) rfl ?_
  refine Wp.callI (op_ix (by decide) ol_138 6 rfl) rfl rfl (Cl.enter (L := [.int v1, .int (0 : Int32), .int (((AI h 23 0)) - ((1 : Int32)))]) rfl ?_)
  refine Wp.blk (by decide) ol_129 0 3 (pc' := (if v1 < (0 : Int32) then 14 else 5)) (L' := [.int v1, .int (0 : Int32), .int (((AI h 23 0)) - ((1 : Int32)))]) (S' := []) (h' := h) rfl ?_
  refine Wp.br (fun c1 => ?_) (fun c1 => ?_)
  · replace K := K.1 c1
    refine Wp.blk (by decide) ol_129 8 1 (pc' := 15) (L' := [.int v1, .int (0 : Int32), .int (((AI h 23 0)) - ((1 : Int32)))]) (S' := [.int (0 : Int32)]) (h' := h) rfl ?_
    refine Wp.ret (op_ix (by decide) ol_129 9 rfl) rfl ⟨_, rfl, ?_⟩
    exact Wp.ret (op_ix (by decide) ol_138 7 rfl) rfl K
  · replace K := K.2 c1
    refine Wp.blk (by decide) ol_129 3 3 (pc' := (if (((AI h 23 0)) - ((1 : Int32))) < v1 then 14 else 10)) (L' := [.int v1, .int (0 : Int32), .int (((AI h 23 0)) - ((1 : Int32)))]) (S' := []) (h' := h) rfl ?_
    refine Wp.br (fun c2 => ?_) (fun c2 => ?_)
    · replace K := K.1 c2
      refine Wp.blk (by decide) ol_129 8 1 (pc' := 15) (L' := [.int v1, .int (0 : Int32), .int (((AI h 23 0)) - ((1 : Int32)))]) (S' := [.int (0 : Int32)]) (h' := h) rfl ?_
      refine Wp.ret (op_ix (by decide) ol_129 9 rfl) rfl ⟨_, rfl, ?_⟩
      exact Wp.ret (op_ix (by decide) ol_138 7 rfl) rfl K
    · replace K := K.2 c2
      refine Wp.blk (by decide) ol_129 6 2 (pc' := 15) (L' := [.int v1, .int (0 : Int32), .int (((AI h 23 0)) - ((1 : Int32)))]) (S' := [.int (1 : Int32)]) (h' := h) rfl ?_
      refine Wp.ret (op_ix (by decide) ol_129 9 rfl) rfl ⟨_, rfl, ?_⟩
      exact Wp.ret (op_ix (by decide) ol_138 7 rfl) rfl K
/-- CutsOrFastModel.laneNow at 0 (II)I -/
theorem g139_0 (d : Nat) (v1 : Int32) (v2 : Int32) (h : AH) (HS : Sh h)  (Q : Option Value → AH → Prop) (K : ((v2 = Int32.ofNat 0 → (ixR v1 10 ∧ Q (some (.int (AI h 24 v1.toNatClampNeg))) h)) ∧ (¬ v2 = Int32.ofNat 0 → ((v2 = Int32.ofNat 1 → (ixR v1 10 ∧ Q (some (.int (AI h 25 v1.toNatClampNeg))) h)) ∧ (¬ v2 = Int32.ofNat 1 → ((v2 = Int32.ofNat 2 → (ixR v1 10 ∧ Q (some (.int (AI h 26 v1.toNatClampNeg))) h)) ∧ (¬ v2 = Int32.ofNat 2 → (ixR v1 10 ∧ Q (some (.int (AI h 27 v1.toNatClampNeg))) h)))))))) : Wp d 139 0 [.ref 23, .int v1, .int v2] [] h Q := by
  refine Wp.blk (by decide) ol_139 0 2 (pc' := (tsw v2 [(0, 28), (1, 35), (2, 42)] 49)) (L' := [.ref 23, .int v1, .int v2]) (S' := []) (h' := h) rfl ?_
  refine Wp.tsw (fun c1 => ?_) (fun c1 => ?_)
  · replace K := K.1 c1
    refine Wp.blk (by decide) ol_139 2 1 (pc' := 29) (L' := [.ref 23, .int v1, .int v2]) (S' := [.ref 23]) (h' := h) rfl ?_
    refine Wp.getf (op_ix (by decide) ol_139 3 rfl) (okS HS 23 rfl rfl) (v := .ref 24) (congrArg va_rf (rS HS 23 4 rfl)) rfl ?_
    refine Wp.blk (by decide) ol_139 4 1 (pc' := 33) (L' := [.ref 23, .int v1, .int v2]) (S' := [.int v1, .ref 24]) (h' := h) rfl ?_
    obtain ⟨r2, K⟩ := K
    refine Wp.iald (op_ix (by decide) ol_139 5 rfl) (kS HS 24 rfl) (inS HS 24 rfl r2) rfl ?_
    exact Wp.ret (op_ix (by decide) ol_139 6 rfl) rfl K
  replace K := K.2 c1
  refine Wp.tsw (fun c3 => ?_) (fun c3 => ?_)
  · replace K := K.1 c3
    refine Wp.blk (by decide) ol_139 7 1 (pc' := 36) (L' := [.ref 23, .int v1, .int v2]) (S' := [.ref 23]) (h' := h) rfl ?_
    refine Wp.getf (op_ix (by decide) ol_139 8 rfl) (okS HS 23 rfl rfl) (v := .ref 25) (congrArg va_rf (rS HS 23 5 rfl)) rfl ?_
    refine Wp.blk (by decide) ol_139 9 1 (pc' := 40) (L' := [.ref 23, .int v1, .int v2]) (S' := [.int v1, .ref 25]) (h' := h) rfl ?_
    obtain ⟨r4, K⟩ := K
    refine Wp.iald (op_ix (by decide) ol_139 10 rfl) (kS HS 25 rfl) (inS HS 25 rfl r4) rfl ?_
    exact Wp.ret (op_ix (by decide) ol_139 11 rfl) rfl K
  replace K := K.2 c3
  refine Wp.tsw (fun c5 => ?_) (fun c5 => ?_)
  · replace K := K.1 c5
    refine Wp.blk (by decide) ol_139 12 1 (pc' := 43) (L' := [.ref 23, .int v1, .int v2]) (S' := [.ref 23]) (h' := h) rfl ?_
    refine Wp.getf (op_ix (by decide) ol_139 13 rfl) (okS HS 23 rfl rfl) (v := .ref 26) (congrArg va_rf (rS HS 23 6 rfl)) rfl ?_
    refine Wp.blk (by decide) ol_139 14 1 (pc' := 47) (L' := [.ref 23, .int v1, .int v2]) (S' := [.int v1, .ref 26]) (h' := h) rfl ?_
    obtain ⟨r6, K⟩ := K
    refine Wp.iald (op_ix (by decide) ol_139 15 rfl) (kS HS 26 rfl) (inS HS 26 rfl r6) rfl ?_
    exact Wp.ret (op_ix (by decide) ol_139 16 rfl) rfl K
  replace K := K.2 c5
  unfold tsw
  refine Wp.blk (by decide) ol_139 17 1 (pc' := 50) (L' := [.ref 23, .int v1, .int v2]) (S' := [.ref 23]) (h' := h) rfl ?_
  refine Wp.getf (op_ix (by decide) ol_139 18 rfl) (okS HS 23 rfl rfl) (v := .ref 27) (congrArg va_rf (rS HS 23 7 rfl)) rfl ?_
  refine Wp.blk (by decide) ol_139 19 1 (pc' := 54) (L' := [.ref 23, .int v1, .int v2]) (S' := [.int v1, .ref 27]) (h' := h) rfl ?_
  obtain ⟨r7, K⟩ := K
  refine Wp.iald (op_ix (by decide) ol_139 20 rfl) (kS HS 27 rfl) (inS HS 27 rfl r7) rfl ?_
  exact Wp.ret (op_ix (by decide) ol_139 21 rfl) rfl K
/-- CutsOrFastModel.lane at 0 (II)I -/
theorem g140_0 (d : Nat) (v1 : Int32) (v2 : Int32) (h : AH) (HS : Sh h)  (Q : Option Value → AH → Prop) (K : ((v1 < (0 : Int32) → Q (some (.int (-101 : Int32))) h) ∧ (¬ v1 < (0 : Int32) → (((((AI h 23 0)) - ((1 : Int32))) < v1 → Q (some (.int (-101 : Int32))) h) ∧ (¬ (((AI h 23 0)) - ((1 : Int32))) < v1 → ((v2 < (0 : Int32) → Q (some (.int (-102 : Int32))) h) ∧ (¬ v2 < (0 : Int32) → (((3 : Int32) < v2 → Q (some (.int (-102 : Int32))) h) ∧ (¬ (3 : Int32) < v2 → (Cl (d + 1) 139 [.ref 23, .int v1, .int v2] h (fun r h5 => ∃ x7 : Int32, r = some (.int x7) ∧ Sh h5 ∧ Q (some (.int x7)) h5))))))))))) : Wp (d + 2) 140 0 [.ref 23, .int v1, .int v2] [] h Q := by
  refine Wp.blk (by decide) ol_140 0 2 (pc' := 2) (L' := [.ref 23, .int v1, .int v2]) (S' := [.int v1, .ref 23]) (h' := h) rfl ?_
  refine Wp.callI (op_ix (by decide) ol_140 2 rfl) (act_virt (c2 := 1) rfl (lk1 (kS HS 23 rfl)) rfl) rfl (Cl.enter (L := [.ref 23, .int v1]) rfl ?_)
  refine Wp.blk (by decide) ol_138 0 3 (pc' := 3) (L' := [.ref 23, .int v1]) (S' := [.ref 23, .int (0 : Int32), .int v1]) (h' := h) rfl ?_
  refine Wp.getf (op_ix (by decide) ol_138 3 rfl) (okS HS 23 rfl rfl) (v := .int (AI h 23 0)) rfl rfl ?_
  refine Wp.blk (by decide) ol_138 4 2 (pc' := 8) (L' := [.ref 23, .int v1]) (S' := [.int (((AI h 23 0)) - ((1 : Int32))), .int (0 : Int32), .int v1]) (h' := h) rfl ?_
  refine Wp.callI (op_ix (by decide) ol_138 6 rfl) rfl rfl (Cl.enter (L := [.int v1, .int (0 : Int32), .int (((AI h 23 0)) - ((1 : Int32)))]) rfl ?_)
  refine Wp.blk (by decide) ol_129 0 3 (pc' := (if v1 < (0 : Int32) then 14 else 5)) (L' := [.int v1, .int (0 : Int32), .int (((AI h 23 0)) - ((1 : Int32)))]) (S' := []) (h' := h) rfl ?_
  refine Wp.br (fun c1 => ?_) (fun c1 => ?_)
  · replace K := K.1 c1
    refine Wp.blk (by decide) ol_129 8 1 (pc' := 15) (L' := [.int v1, .int (0 : Int32), .int (((AI h 23 0)) - ((1 : Int32)))]) (S' := [.int (0 : Int32)]) (h' := h) rfl ?_
    refine Wp.ret (op_ix (by decide) ol_129 9 rfl) rfl ⟨_, rfl, ?_⟩
    refine Wp.ret (op_ix (by decide) ol_138 7 rfl) rfl ⟨_, rfl, ?_⟩
    refine Wp.blk (by decide) ol_140 3 1 (pc' := (if (0 : Int32) = (0 : Int32) then 8 else 13)) (L' := [.ref 23, .int v1, .int v2]) (S' := []) (h' := h) rfl ?_
    refine Wp.br (fun _ => ?_) (fun hc => absurd (by decide) hc)
    refine Wp.blk (by decide) ol_140 4 2 (pc' := 33) (L' := [.ref 23, .int v1, .int v2]) (S' := [.int (-101 : Int32)]) (h' := h) rfl ?_
    exact Wp.ret (op_ix (by decide) ol_140 17 rfl) rfl K
  · replace K := K.2 c1
    refine Wp.blk (by decide) ol_129 3 3 (pc' := (if (((AI h 23 0)) - ((1 : Int32))) < v1 then 14 else 10)) (L' := [.int v1, .int (0 : Int32), .int (((AI h 23 0)) - ((1 : Int32)))]) (S' := []) (h' := h) rfl ?_
    refine Wp.br (fun c2 => ?_) (fun c2 => ?_)
    · replace K := K.1 c2
      refine Wp.blk (by decide) ol_129 8 1 (pc' := 15) (L' := [.int v1, .int (0 : Int32), .int (((AI h 23 0)) - ((1 : Int32)))]) (S' := [.int (0 : Int32)]) (h' := h) rfl ?_
      refine Wp.ret (op_ix (by decide) ol_129 9 rfl) rfl ⟨_, rfl, ?_⟩
      refine Wp.ret (op_ix (by decide) ol_138 7 rfl) rfl ⟨_, rfl, ?_⟩
      refine Wp.blk (by decide) ol_140 3 1 (pc' := (if (0 : Int32) = (0 : Int32) then 8 else 13)) (L' := [.ref 23, .int v1, .int v2]) (S' := []) (h' := h) rfl ?_
      refine Wp.br (fun _ => ?_) (fun hc => absurd (by decide) hc)
      refine Wp.blk (by decide) ol_140 4 2 (pc' := 33) (L' := [.ref 23, .int v1, .int v2]) (S' := [.int (-101 : Int32)]) (h' := h) rfl ?_
      exact Wp.ret (op_ix (by decide) ol_140 17 rfl) rfl K
    · replace K := K.2 c2
      refine Wp.blk (by decide) ol_129 6 2 (pc' := 15) (L' := [.int v1, .int (0 : Int32), .int (((AI h 23 0)) - ((1 : Int32)))]) (S' := [.int (1 : Int32)]) (h' := h) rfl ?_
      refine Wp.ret (op_ix (by decide) ol_129 9 rfl) rfl ⟨_, rfl, ?_⟩
      refine Wp.ret (op_ix (by decide) ol_138 7 rfl) rfl ⟨_, rfl, ?_⟩
      refine Wp.blk (by decide) ol_140 3 1 (pc' := (if (1 : Int32) = (0 : Int32) then 8 else 13)) (L' := [.ref 23, .int v1, .int v2]) (S' := []) (h' := h) rfl ?_
      refine Wp.br (fun hc => absurd hc (by decide)) (fun _ => ?_)
      refine Wp.blk (by decide) ol_140 6 3 (pc' := 16) (L' := [.ref 23, .int v1, .int v2]) (S' := [.int (3 : Int32), .int (0 : Int32), .int v2]) (h' := h) rfl ?_
      refine Wp.callI (op_ix (by decide) ol_140 9 rfl) rfl rfl (Cl.enter (L := [.int v2, .int (0 : Int32), .int (3 : Int32)]) rfl ?_)
      refine Wp.blk (by decide) ol_129 0 3 (pc' := (if v2 < (0 : Int32) then 14 else 5)) (L' := [.int v2, .int (0 : Int32), .int (3 : Int32)]) (S' := []) (h' := h) rfl ?_
      refine Wp.br (fun c3 => ?_) (fun c3 => ?_)
      · replace K := K.1 c3
        refine Wp.blk (by decide) ol_129 8 1 (pc' := 15) (L' := [.int v2, .int (0 : Int32), .int (3 : Int32)]) (S' := [.int (0 : Int32)]) (h' := h) rfl ?_
        refine Wp.ret (op_ix (by decide) ol_129 9 rfl) rfl ⟨_, rfl, ?_⟩
        refine Wp.blk (by decide) ol_140 10 1 (pc' := (if (0 : Int32) = (0 : Int32) then 31 else 22)) (L' := [.ref 23, .int v1, .int v2]) (S' := []) (h' := h) rfl ?_
        refine Wp.br (fun _ => ?_) (fun hc => absurd (by decide) hc)
        refine Wp.blk (by decide) ol_140 16 1 (pc' := 33) (L' := [.ref 23, .int v1, .int v2]) (S' := [.int (-102 : Int32)]) (h' := h) rfl ?_
        exact Wp.ret (op_ix (by decide) ol_140 17 rfl) rfl K
      · replace K := K.2 c3
        refine Wp.blk (by decide) ol_129 3 3 (pc' := (if (3 : Int32) < v2 then 14 else 10)) (L' := [.int v2, .int (0 : Int32), .int (3 : Int32)]) (S' := []) (h' := h) rfl ?_
        refine Wp.br (fun c4 => ?_) (fun c4 => ?_)
        · replace K := K.1 c4
          refine Wp.blk (by decide) ol_129 8 1 (pc' := 15) (L' := [.int v2, .int (0 : Int32), .int (3 : Int32)]) (S' := [.int (0 : Int32)]) (h' := h) rfl ?_
          refine Wp.ret (op_ix (by decide) ol_129 9 rfl) rfl ⟨_, rfl, ?_⟩
          refine Wp.blk (by decide) ol_140 10 1 (pc' := (if (0 : Int32) = (0 : Int32) then 31 else 22)) (L' := [.ref 23, .int v1, .int v2]) (S' := []) (h' := h) rfl ?_
          refine Wp.br (fun _ => ?_) (fun hc => absurd (by decide) hc)
          refine Wp.blk (by decide) ol_140 16 1 (pc' := 33) (L' := [.ref 23, .int v1, .int v2]) (S' := [.int (-102 : Int32)]) (h' := h) rfl ?_
          exact Wp.ret (op_ix (by decide) ol_140 17 rfl) rfl K
        · replace K := K.2 c4
          refine Wp.blk (by decide) ol_129 6 2 (pc' := 15) (L' := [.int v2, .int (0 : Int32), .int (3 : Int32)]) (S' := [.int (1 : Int32)]) (h' := h) rfl ?_
          refine Wp.ret (op_ix (by decide) ol_129 9 rfl) rfl ⟨_, rfl, ?_⟩
          refine Wp.blk (by decide) ol_140 10 1 (pc' := (if (1 : Int32) = (0 : Int32) then 31 else 22)) (L' := [.ref 23, .int v1, .int v2]) (S' := []) (h' := h) rfl ?_
          refine Wp.br (fun hc => absurd hc (by decide)) (fun _ => ?_)
          refine Wp.blk (by decide) ol_140 11 3 (pc' := 25) (L' := [.ref 23, .int v1, .int v2]) (S' := [.int v2, .int v1, .ref 23]) (h' := h) rfl ?_
          refine Wp.callI (op_ix (by decide) ol_140 14 rfl) (act_virt (c2 := 2) rfl (lk1 (kS HS 23 rfl)) rfl) rfl (K.mono ?_)
          rintro _ h5 ⟨x7, rfl, hs6, K⟩
          refine ⟨x7, rfl, ?_⟩
          refine Wp.blk (by decide) ol_140 15 1 (pc' := 33) (L' := [.ref 23, .int v1, .int v2]) (S' := [.int x7]) (h' := h5) rfl ?_
          exact Wp.ret (op_ix (by decide) ol_140 17 rfl) rfl K
/-- CutsOrFastModel.reached at 0 (III)I -/
theorem g141_0 (d : Nat) (v1 : Int32) (v2 : Int32) (v3 : Int32) (h : AH) (HS : Sh h)  (Q : Option Value → AH → Prop) (K : Wp d 141 8 [.ref 23, mk0, .int v2, .int v3, .int (((1 : Int32)) <<< (v1 &&& 31)), .int (1 : Int32), mk0, mk0, mk0] [] h Q) : Wp d 141 0 [.ref 23, .int v1, .int v2, .int v3, mk0, mk0, mk0, mk0, mk0] [] h Q := by
  refine Wp.blk (by decide) ol_141 0 6 (pc' := 8) (L' := [.ref 23, .int v1, .int v2, .int v3, .int (((1 : Int32)) <<< (v1 &&& 31)), .int (1 : Int32), mk0, mk0, mk0]) (S' := []) (h' := h) rfl ?_
  refine Wp.forget (L := [.ref 23, mk0, .int v2, .int v3, .int (((1 : Int32)) <<< (v1 &&& 31)), .int (1 : Int32), mk0, mk0, mk0]) (⟨Or.inr rfl, ⟨Or.inl rfl, ⟨Or.inr rfl, ⟨Or.inr rfl, ⟨Or.inr rfl, ⟨Or.inr rfl, ⟨Or.inr rfl, ⟨Or.inr rfl, ⟨Or.inr rfl, trivial⟩⟩⟩⟩⟩⟩⟩⟩⟩) ?_
  exact K
/-- CutsOrFastModel.reached at 8 -/
theorem g141_8 (d : Nat) (v2 : Int32) (v3 : Int32) (v4 : Int32) (v5 : Int32) (h : AH) (HS : Sh h)  (Q : Option Value → AH → Prop) (K : ((v5 = (0 : Int32) → Q (some (.int v4)) h) ∧ (¬ v5 = (0 : Int32) → Wp d 141 20 [.ref 23, mk0, .int v2, .int v3, .int v4, mk0, .int v4, .int (0 : Int32), mk0] [] h Q))) : Wp d 141 8 [.ref 23, mk0, .int v2, .int v3, .int v4, .int v5, mk0, mk0, mk0] [] h Q := by
  refine Wp.blk (by decide) ol_141 6 2 (pc' := (if v5 = (0 : Int32) then 128 else 13)) (L' := [.ref 23, mk0, .int v2, .int v3, .int v4, .int v5, mk0, mk0, mk0]) (S' := []) (h' := h) rfl ?_
  refine Wp.br (fun c1 => ?_) (fun c1 => ?_)
  · replace K := K.1 c1
    refine Wp.blk (by decide) ol_141 67 1 (pc' := 130) (L' := [.ref 23, mk0, .int v2, .int v3, .int v4, .int v5, mk0, mk0, mk0]) (S' := [.int v4]) (h' := h) rfl ?_
    exact Wp.ret (op_ix (by decide) ol_141 68 rfl) rfl K
  · replace K := K.2 c1
    refine Wp.blk (by decide) ol_141 8 4 (pc' := 20) (L' := [.ref 23, mk0, .int v2, .int v3, .int v4, .int v5, .int v4, .int (0 : Int32), mk0]) (S' := []) (h' := h) rfl ?_
    refine Wp.forget (L := [.ref 23, mk0, .int v2, .int v3, .int v4, mk0, .int v4, .int (0 : Int32), mk0]) (⟨Or.inr rfl, ⟨Or.inr rfl, ⟨Or.inr rfl, ⟨Or.inr rfl, ⟨Or.inr rfl, ⟨Or.inl rfl, ⟨Or.inr rfl, ⟨Or.inr rfl, ⟨Or.inr rfl, trivial⟩⟩⟩⟩⟩⟩⟩⟩⟩) ?_
    exact K
/-- CutsOrFastModel.reached at 20 -/
theorem g141_20 (d : Nat) (v2 : Int32) (v3 : Int32) (v4 : Int32) (v6 : Int32) (v7 : Int32) (h : AH) (HS : Sh h)  (Q : Option Value → AH → Prop) (K : ((v7 < v3 → (ixR v7 10 ∧ (((((v4 >>> (((AI h 24 v7.toNatClampNeg)) &&& 31))) &&& ((1 : Int32))) = (1 : Int32) → Wp (d + 1) 141 61 [.ref 23, mk0, .int v2, .int v3, .int v4, mk0, .int v6, .int v7, mk0] [.int (1 : Int32)] h Q) ∧ (¬ (((v4 >>> (((AI h 24 v7.toNatClampNeg)) &&& 31))) &&& ((1 : Int32))) = (1 : Int32) → (ixR v7 10 ∧ (((((v4 >>> (((AI h 25 v7.toNatClampNeg)) &&& 31))) &&& ((1 : Int32))) = (1 : Int32) → Wp (d + 1) 141 61 [.ref 23, mk0, .int v2, .int v3, .int v4, mk0, .int v6, .int v7, mk0] [.int (1 : Int32)] h Q) ∧ (¬ (((v4 >>> (((AI h 25 v7.toNatClampNeg)) &&& 31))) &&& ((1 : Int32))) = (1 : Int32) → Wp (d + 1) 141 61 [.ref 23, mk0, .int v2, .int v3, .int v4, mk0, .int v6, .int v7, mk0] [.int (0 : Int32)] h Q))))))) ∧ (¬ v7 < v3 → ((v4 = v6 → Wp (d + 1) 141 8 [.ref 23, mk0, .int v2, .int v3, .int v4, .int (0 : Int32), mk0, mk0, mk0] [] h Q) ∧ (¬ v4 = v6 → Wp (d + 1) 141 8 [.ref 23, mk0, .int v2, .int v3, .int v4, .int (1 : Int32), mk0, mk0, mk0] [] h Q))))) : Wp (d + 1) 141 20 [.ref 23, mk0, .int v2, .int v3, .int v4, mk0, .int v6, .int v7, mk0] [] h Q := by
  refine Wp.blk (by decide) ol_141 12 3 (pc' := (if v7 < v3 then 26 else 111)) (L' := [.ref 23, mk0, .int v2, .int v3, .int v4, mk0, .int v6, .int v7, mk0]) (S' := []) (h' := h) rfl ?_
  refine Wp.br (fun c1 => ?_) (fun c1 => ?_)
  · replace K := K.1 c1
    refine Wp.blk (by decide) ol_141 15 2 (pc' := 29) (L' := [.ref 23, mk0, .int v2, .int v3, .int v4, mk0, .int v6, .int v7, mk0]) (S' := [.ref 23, .int v4]) (h' := h) rfl ?_
    refine Wp.getf (op_ix (by decide) ol_141 17 rfl) (okS HS 23 rfl rfl) (v := .ref 24) (congrArg va_rf (rS HS 23 4 rfl)) rfl ?_
    refine Wp.blk (by decide) ol_141 18 1 (pc' := 34) (L' := [.ref 23, mk0, .int v2, .int v3, .int v4, mk0, .int v6, .int v7, mk0]) (S' := [.int v7, .ref 24, .int v4]) (h' := h) rfl ?_
    obtain ⟨r2, K⟩ := K
    refine Wp.iald (op_ix (by decide) ol_141 19 rfl) (kS HS 24 rfl) (inS HS 24 rfl r2) rfl ?_
    refine Wp.callI (op_ix (by decide) ol_141 20 rfl) rfl rfl (Cl.enter (L := [.int v4, .int (AI h 24 v7.toNatClampNeg)]) rfl ?_)
    refine Wp.blk (by decide) ol_130 0 7 (pc' := (if (((v4 >>> (((AI h 24 v7.toNatClampNeg)) &&& 31))) &&& ((1 : Int32))) = (1 : Int32) then 9 else 13)) (L' := [.int v4, .int (AI h 24 v7.toNatClampNeg)]) (S' := []) (h' := h) rfl ?_
    refine Wp.br (fun c3 => ?_) (fun c3 => ?_)
    · replace K := K.1 c3
      refine Wp.blk (by decide) ol_130 7 2 (pc' := 14) (L' := [.int v4, .int (AI h 24 v7.toNatClampNeg)]) (S' := [.int (1 : Int32)]) (h' := h) rfl ?_
      refine Wp.ret (op_ix (by decide) ol_130 10 rfl) rfl ⟨_, rfl, ?_⟩
      refine Wp.blk (by decide) ol_141 21 1 (pc' := (if (1 : Int32) = (0 : Int32) then 41 else 56)) (L' := [.ref 23, mk0, .int v2, .int v3, .int v4, mk0, .int v6, .int v7, mk0]) (S' := []) (h' := h) rfl ?_
      refine Wp.br (fun hc => absurd hc (by decide)) (fun _ => ?_)
      refine Wp.blk (by decide) ol_141 29 2 (pc' := 61) (L' := [.ref 23, mk0, .int v2, .int v3, .int v4, mk0, .int v6, .int v7, mk0]) (S' := [.int (1 : Int32)]) (h' := h) rfl ?_
      exact K
    · replace K := K.2 c3
      refine Wp.blk (by decide) ol_130 9 1 (pc' := 14) (L' := [.int v4, .int (AI h 24 v7.toNatClampNeg)]) (S' := [.int (0 : Int32)]) (h' := h) rfl ?_
      refine Wp.ret (op_ix (by decide) ol_130 10 rfl) rfl ⟨_, rfl, ?_⟩
      refine Wp.blk (by decide) ol_141 21 1 (pc' := (if (0 : Int32) = (0 : Int32) then 41 else 56)) (L' := [.ref 23, mk0, .int v2, .int v3, .int v4, mk0, .int v6, .int v7, mk0]) (S' := []) (h' := h) rfl ?_
      refine Wp.br (fun _ => ?_) (fun hc => absurd (by decide) hc)
      refine Wp.blk (by decide) ol_141 22 2 (pc' := 44) (L' := [.ref 23, mk0, .int v2, .int v3, .int v4, mk0, .int v6, .int v7, mk0]) (S' := [.ref 23, .int v4]) (h' := h) rfl ?_
      refine Wp.getf (op_ix (by decide) ol_141 24 rfl) (okS HS 23 rfl rfl) (v := .ref 25) (congrArg va_rf (rS HS 23 5 rfl)) rfl ?_
      refine Wp.blk (by decide) ol_141 25 1 (pc' := 49) (L' := [.ref 23, mk0, .int v2, .int v3, .int v4, mk0, .int v6, .int v7, mk0]) (S' := [.int v7, .ref 25, .int v4]) (h' := h) rfl ?_
      obtain ⟨r4, K⟩ := K
      refine Wp.iald (op_ix (by decide) ol_141 26 rfl) (kS HS 25 rfl) (inS HS 25 rfl r4) rfl ?_
      refine Wp.callI (op_ix (by decide) ol_141 27 rfl) rfl rfl (Cl.enter (L := [.int v4, .int (AI h 25 v7.toNatClampNeg)]) rfl ?_)
      refine Wp.blk (by decide) ol_130 0 7 (pc' := (if (((v4 >>> (((AI h 25 v7.toNatClampNeg)) &&& 31))) &&& ((1 : Int32))) = (1 : Int32) then 9 else 13)) (L' := [.int v4, .int (AI h 25 v7.toNatClampNeg)]) (S' := []) (h' := h) rfl ?_
      refine Wp.br (fun c5 => ?_) (fun c5 => ?_)
      · replace K := K.1 c5
        refine Wp.blk (by decide) ol_130 7 2 (pc' := 14) (L' := [.int v4, .int (AI h 25 v7.toNatClampNeg)]) (S' := [.int (1 : Int32)]) (h' := h) rfl ?_
        refine Wp.ret (op_ix (by decide) ol_130 10 rfl) rfl ⟨_, rfl, ?_⟩
        refine Wp.blk (by decide) ol_141 28 1 (pc' := (if (1 : Int32) = (0 : Int32) then 60 else 56)) (L' := [.ref 23, mk0, .int v2, .int v3, .int v4, mk0, .int v6, .int v7, mk0]) (S' := []) (h' := h) rfl ?_
        refine Wp.br (fun hc => absurd hc (by decide)) (fun _ => ?_)
        refine Wp.blk (by decide) ol_141 29 2 (pc' := 61) (L' := [.ref 23, mk0, .int v2, .int v3, .int v4, mk0, .int v6, .int v7, mk0]) (S' := [.int (1 : Int32)]) (h' := h) rfl ?_
        exact K
      · replace K := K.2 c5
        refine Wp.blk (by decide) ol_130 9 1 (pc' := 14) (L' := [.int v4, .int (AI h 25 v7.toNatClampNeg)]) (S' := [.int (0 : Int32)]) (h' := h) rfl ?_
        refine Wp.ret (op_ix (by decide) ol_130 10 rfl) rfl ⟨_, rfl, ?_⟩
        refine Wp.blk (by decide) ol_141 28 1 (pc' := (if (0 : Int32) = (0 : Int32) then 60 else 56)) (L' := [.ref 23, mk0, .int v2, .int v3, .int v4, mk0, .int v6, .int v7, mk0]) (S' := []) (h' := h) rfl ?_
        refine Wp.br (fun _ => ?_) (fun hc => absurd (by decide) hc)
        refine Wp.blk (by decide) ol_141 31 1 (pc' := 61) (L' := [.ref 23, mk0, .int v2, .int v3, .int v4, mk0, .int v6, .int v7, mk0]) (S' := [.int (0 : Int32)]) (h' := h) rfl ?_
        exact K
  · replace K := K.2 c1
    refine Wp.blk (by decide) ol_141 59 3 (pc' := (if v4 = v6 then 122 else 118)) (L' := [.ref 23, mk0, .int v2, .int v3, .int v4, mk0, .int v6, .int v7, mk0]) (S' := []) (h' := h) rfl ?_
    refine Wp.br (fun c6 => ?_) (fun c6 => ?_)
    · replace K := K.1 c6
      refine Wp.blk (by decide) ol_141 64 3 (pc' := 8) (L' := [.ref 23, mk0, .int v2, .int v3, .int v4, .int (0 : Int32), .int v6, .int v7, mk0]) (S' := []) (h' := h) rfl ?_
      refine Wp.forget (L := [.ref 23, mk0, .int v2, .int v3, .int v4, .int (0 : Int32), mk0, mk0, mk0]) (⟨Or.inr rfl, ⟨Or.inr rfl, ⟨Or.inr rfl, ⟨Or.inr rfl, ⟨Or.inr rfl, ⟨Or.inr rfl, ⟨Or.inl rfl, ⟨Or.inl rfl, ⟨Or.inr rfl, trivial⟩⟩⟩⟩⟩⟩⟩⟩⟩) ?_
      exact K
    · replace K := K.2 c6
      refine Wp.blk (by decide) ol_141 62 2 (pc' := 123) (L' := [.ref 23, mk0, .int v2, .int v3, .int v4, mk0, .int v6, .int v7, mk0]) (S' := [.int (1 : Int32)]) (h' := h) rfl ?_
      refine Wp.blk (by decide) ol_141 65 2 (pc' := 8) (L' := [.ref 23, mk0, .int v2, .int v3, .int v4, .int (1 : Int32), .int v6, .int v7, mk0]) (S' := []) (h' := h) rfl ?_
      refine Wp.forget (L := [.ref 23, mk0, .int v2, .int v3, .int v4, .int (1 : Int32), mk0, mk0, mk0]) (⟨Or.inr rfl, ⟨Or.inr rfl, ⟨Or.inr rfl, ⟨Or.inr rfl, ⟨Or.inr rfl, ⟨Or.inr rfl, ⟨Or.inl rfl, ⟨Or.inl rfl, ⟨Or.inr rfl, trivial⟩⟩⟩⟩⟩⟩⟩⟩⟩) ?_
      exact K
/-- CutsOrFastModel.reached at 61 -/
theorem g141_61 (d : Nat) (v2 : Int32) (v3 : Int32) (v4 : Int32) (v6 : Int32) (v7 : Int32) (s0 : Int32) (h : AH) (HS : Sh h)  (Q : Option Value → AH → Prop) (K : (((((v2 >>> (v7 &&& 31))) &&& ((1 : Int32))) = (1 : Int32) → ((s0 = (0 : Int32) → Wp (d + 1) 141 20 [.ref 23, mk0, .int v2, .int v3, .int (v4 ||| ((0 : Int32))), mk0, .int v6, .int (v7 + (1 : Int32)), mk0] [] h Q) ∧ (¬ s0 = (0 : Int32) → (ixR v7 10 ∧ ixR v7 10 ∧ Wp (d + 1) 141 20 [.ref 23, mk0, .int v2, .int v3, .int (v4 ||| ((((((1 : Int32)) <<< (((AI h 24 v7.toNatClampNeg)) &&& 31))) ||| ((((1 : Int32)) <<< (((AI h 25 v7.toNatClampNeg)) &&& 31)))))), mk0, .int v6, .int (v7 + (1 : Int32)), mk0] [] h Q)))) ∧ (¬ (((v2 >>> (v7 &&& 31))) &&& ((1 : Int32))) = (1 : Int32) → Wp (d + 1) 141 20 [.ref 23, mk0, .int v2, .int v3, .int (v4 ||| ((0 : Int32))), mk0, .int v6, .int (v7 + (1 : Int32)), mk0] [] h Q))) : Wp (d + 1) 141 61 [.ref 23, mk0, .int v2, .int v3, .int v4, mk0, .int v6, .int v7, mk0] [.int s0] h Q := by
  refine Wp.blk (by decide) ol_141 32 4 (pc' := 68) (L' := [.ref 23, mk0, .int v2, .int v3, .int v4, mk0, .int v6, .int v7, .int s0]) (S' := [.int v7, .int v2, .int v4]) (h' := h) rfl ?_
  refine Wp.callI (op_ix (by decide) ol_141 36 rfl) rfl rfl (Cl.enter (L := [.int v2, .int v7]) rfl ?_)
  refine Wp.blk (by decide) ol_130 0 7 (pc' := (if (((v2 >>> (v7 &&& 31))) &&& ((1 : Int32))) = (1 : Int32) then 9 else 13)) (L' := [.int v2, .int v7]) (S' := []) (h' := h) rfl ?_
  refine Wp.br (fun c1 => ?_) (fun c1 => ?_)
  · replace K := K.1 c1
    refine Wp.blk (by decide) ol_130 7 2 (pc' := 14) (L' := [.int v2, .int v7]) (S' := [.int (1 : Int32)]) (h' := h) rfl ?_
    refine Wp.ret (op_ix (by decide) ol_130 10 rfl) rfl ⟨_, rfl, ?_⟩
    refine Wp.blk (by decide) ol_141 37 1 (pc' := (if (1 : Int32) = (0 : Int32) then 101 else 74)) (L' := [.ref 23, mk0, .int v2, .int v3, .int v4, mk0, .int v6, .int v7, .int s0]) (S' := [.int v4]) (h' := h) rfl ?_
    refine Wp.br (fun hc => absurd hc (by decide)) (fun _ => ?_)
    refine Wp.blk (by decide) ol_141 38 2 (pc' := (if s0 = (0 : Int32) then 101 else 79)) (L' := [.ref 23, mk0, .int v2, .int v3, .int v4, mk0, .int v6, .int v7, .int s0]) (S' := [.int v4]) (h' := h) rfl ?_
    refine Wp.br (fun c2 => ?_) (fun c2 => ?_)
    · replace K := K.1 c2
      refine Wp.blk (by decide) ol_141 54 5 (pc' := 20) (L' := [.ref 23, mk0, .int v2, .int v3, .int (v4 ||| ((0 : Int32))), mk0, .int v6, .int (v7 + (1 : Int32)), .int s0]) (S' := []) (h' := h) rfl ?_
      refine Wp.forget (L := [.ref 23, mk0, .int v2, .int v3, .int (v4 ||| ((0 : Int32))), mk0, .int v6, .int (v7 + (1 : Int32)), mk0]) (⟨Or.inr rfl, ⟨Or.inr rfl, ⟨Or.inr rfl, ⟨Or.inr rfl, ⟨Or.inr rfl, ⟨Or.inr rfl, ⟨Or.inr rfl, ⟨Or.inr rfl, ⟨Or.inl rfl, trivial⟩⟩⟩⟩⟩⟩⟩⟩⟩) ?_
      exact K
    · replace K := K.2 c2
      refine Wp.blk (by decide) ol_141 40 2 (pc' := 81) (L' := [.ref 23, mk0, .int v2, .int v3, .int v4, mk0, .int v6, .int v7, .int s0]) (S' := [.ref 23, .int (1 : Int32), .int v4]) (h' := h) rfl ?_
      refine Wp.getf (op_ix (by decide) ol_141 42 rfl) (okS HS 23 rfl rfl) (v := .ref 24) (congrArg va_rf (rS HS 23 4 rfl)) rfl ?_
      refine Wp.blk (by decide) ol_141 43 1 (pc' := 86) (L' := [.ref 23, mk0, .int v2, .int v3, .int v4, mk0, .int v6, .int v7, .int s0]) (S' := [.int v7, .ref 24, .int (1 : Int32), .int v4]) (h' := h) rfl ?_
      obtain ⟨r3, K⟩ := K
      refine Wp.iald (op_ix (by decide) ol_141 44 rfl) (kS HS 24 rfl) (inS HS 24 rfl r3) rfl ?_
      refine Wp.blk (by decide) ol_141 45 3 (pc' := 90) (L' := [.ref 23, mk0, .int v2, .int v3, .int v4, mk0, .int v6, .int v7, .int s0]) (S' := [.ref 23, .int (1 : Int32), .int (((1 : Int32)) <<< (((AI h 24 v7.toNatClampNeg)) &&& 31)), .int v4]) (h' := h) rfl ?_
      refine Wp.getf (op_ix (by decide) ol_141 48 rfl) (okS HS 23 rfl rfl) (v := .ref 25) (congrArg va_rf (rS HS 23 5 rfl)) rfl ?_
      refine Wp.blk (by decide) ol_141 49 1 (pc' := 95) (L' := [.ref 23, mk0, .int v2, .int v3, .int v4, mk0, .int v6, .int v7, .int s0]) (S' := [.int v7, .ref 25, .int (1 : Int32), .int (((1 : Int32)) <<< (((AI h 24 v7.toNatClampNeg)) &&& 31)), .int v4]) (h' := h) rfl ?_
      obtain ⟨r4, K⟩ := K
      refine Wp.iald (op_ix (by decide) ol_141 50 rfl) (kS HS 25 rfl) (inS HS 25 rfl r4) rfl ?_
      refine Wp.blk (by decide) ol_141 51 3 (pc' := 102) (L' := [.ref 23, mk0, .int v2, .int v3, .int v4, mk0, .int v6, .int v7, .int s0]) (S' := [.int (((((1 : Int32)) <<< (((AI h 24 v7.toNatClampNeg)) &&& 31))) ||| ((((1 : Int32)) <<< (((AI h 25 v7.toNatClampNeg)) &&& 31)))), .int v4]) (h' := h) rfl ?_
      refine Wp.blk (by decide) ol_141 55 4 (pc' := 20) (L' := [.ref 23, mk0, .int v2, .int v3, .int (v4 ||| ((((((1 : Int32)) <<< (((AI h 24 v7.toNatClampNeg)) &&& 31))) ||| ((((1 : Int32)) <<< (((AI h 25 v7.toNatClampNeg)) &&& 31)))))), mk0, .int v6, .int (v7 + (1 : Int32)), .int s0]) (S' := []) (h' := h) rfl ?_
      refine Wp.forget (L := [.ref 23, mk0, .int v2, .int v3, .int (v4 ||| ((((((1 : Int32)) <<< (((AI h 24 v7.toNatClampNeg)) &&& 31))) ||| ((((1 : Int32)) <<< (((AI h 25 v7.toNatClampNeg)) &&& 31)))))), mk0, .int v6, .int (v7 + (1 : Int32)), mk0]) (⟨Or.inr rfl, ⟨Or.inr rfl, ⟨Or.inr rfl, ⟨Or.inr rfl, ⟨Or.inr rfl, ⟨Or.inr rfl, ⟨Or.inr rfl, ⟨Or.inr rfl, ⟨Or.inl rfl, trivial⟩⟩⟩⟩⟩⟩⟩⟩⟩) ?_
      exact K
  · replace K := K.2 c1
    refine Wp.blk (by decide) ol_130 9 1 (pc' := 14) (L' := [.int v2, .int v7]) (S' := [.int (0 : Int32)]) (h' := h) rfl ?_
    refine Wp.ret (op_ix (by decide) ol_130 10 rfl) rfl ⟨_, rfl, ?_⟩
    refine Wp.blk (by decide) ol_141 37 1 (pc' := (if (0 : Int32) = (0 : Int32) then 101 else 74)) (L' := [.ref 23, mk0, .int v2, .int v3, .int v4, mk0, .int v6, .int v7, .int s0]) (S' := [.int v4]) (h' := h) rfl ?_
    refine Wp.br (fun _ => ?_) (fun hc => absurd (by decide) hc)
    refine Wp.blk (by decide) ol_141 54 5 (pc' := 20) (L' := [.ref 23, mk0, .int v2, .int v3, .int (v4 ||| ((0 : Int32))), mk0, .int v6, .int (v7 + (1 : Int32)), .int s0]) (S' := []) (h' := h) rfl ?_
    refine Wp.forget (L := [.ref 23, mk0, .int v2, .int v3, .int (v4 ||| ((0 : Int32))), mk0, .int v6, .int (v7 + (1 : Int32)), mk0]) (⟨Or.inr rfl, ⟨Or.inr rfl, ⟨Or.inr rfl, ⟨Or.inr rfl, ⟨Or.inr rfl, ⟨Or.inr rfl, ⟨Or.inr rfl, ⟨Or.inr rfl, ⟨Or.inl rfl, trivial⟩⟩⟩⟩⟩⟩⟩⟩⟩) ?_
    exact K
/-- CutsOrFastModel.joins at 0 (II)Z -/
theorem g142_0 (d : Nat) (v1 : Int32) (v2 : Int32) (h : AH) (HS : Sh h)  (Q : Option Value → AH → Prop) (K : (Cl d 141 [.ref 23, .int (AI h 23 2), .int v1, .int v2] h (fun r h1 => ∃ x3 : Int32, r = some (.int x3) ∧ Sh h1 ∧ (((((x3 >>> (((AI h1 23 3)) &&& 31))) &&& ((1 : Int32))) = (1 : Int32) → Q (some (.int (1 : Int32))) h1) ∧ (¬ (((x3 >>> (((AI h1 23 3)) &&& 31))) &&& ((1 : Int32))) = (1 : Int32) → Q (some (.int (0 : Int32))) h1))))) : Wp (d + 1) 142 0 [.ref 23, .int v1, .int v2] [] h Q := by
  refine Wp.blk (by decide) ol_142 0 2 (pc' := 2) (L' := [.ref 23, .int v1, .int v2]) (S' := [.ref 23, .ref 23]) (h' := h) rfl ?_
  refine Wp.getf (op_ix (by decide) ol_142 2 rfl) (okS HS 23 rfl rfl) (v := .int (AI h 23 2)) rfl rfl ?_
  refine Wp.blk (by decide) ol_142 3 2 (pc' := 7) (L' := [.ref 23, .int v1, .int v2]) (S' := [.int v2, .int v1, .int (AI h 23 2), .ref 23]) (h' := h) rfl ?_
  refine Wp.callI (op_ix (by decide) ol_142 5 rfl) (act_virt (c2 := 3) rfl (lk1 (kS HS 23 rfl)) rfl) rfl (K.mono ?_)
  rintro _ h1 ⟨x3, rfl, hs2, K⟩
  refine ⟨x3, rfl, ?_⟩
  refine Wp.blk (by decide) ol_142 6 1 (pc' := 11) (L' := [.ref 23, .int v1, .int v2]) (S' := [.ref 23, .int x3]) (h' := h1) rfl ?_
  refine Wp.getf (op_ix (by decide) ol_142 7 rfl) (okS hs2 23 rfl rfl) (v := .int (AI h1 23 3)) rfl rfl ?_
  refine Wp.callI (op_ix (by decide) ol_142 8 rfl) rfl rfl (Cl.enter (L := [.int x3, .int (AI h1 23 3)]) rfl ?_)
  refine Wp.blk (by decide) ol_130 0 7 (pc' := (if (((x3 >>> (((AI h1 23 3)) &&& 31))) &&& ((1 : Int32))) = (1 : Int32) then 9 else 13)) (L' := [.int x3, .int (AI h1 23 3)]) (S' := []) (h' := h1) rfl ?_
  refine Wp.br (fun c4 => ?_) (fun c4 => ?_)
  · replace K := K.1 c4
    refine Wp.blk (by decide) ol_130 7 2 (pc' := 14) (L' := [.int x3, .int (AI h1 23 3)]) (S' := [.int (1 : Int32)]) (h' := h1) rfl ?_
    refine Wp.ret (op_ix (by decide) ol_130 10 rfl) rfl ⟨_, rfl, ?_⟩
    exact Wp.ret (op_ix (by decide) ol_142 9 rfl) rfl K
  · replace K := K.2 c4
    refine Wp.blk (by decide) ol_130 9 1 (pc' := 14) (L' := [.int x3, .int (AI h1 23 3)]) (S' := [.int (0 : Int32)]) (h' := h1) rfl ?_
    refine Wp.ret (op_ix (by decide) ol_130 10 rfl) rfl ⟨_, rfl, ?_⟩
    exact Wp.ret (op_ix (by decide) ol_142 9 rfl) rfl K
/-- CutsOrFastModel.setOf at 0 (I)I -/
theorem g143_0 (d : Nat) (v1 : Int32) (h : AH) (HS : Sh h)  (Q : Option Value → AH → Prop) (K : Wp d 143 4 [.ref 23, .int v1, .int (0 : Int32), .int (0 : Int32)] [] h Q) : Wp d 143 0 [.ref 23, .int v1, mk0, mk0] [] h Q := by
  refine Wp.blk (by decide) ol_143 0 4 (pc' := 4) (L' := [.ref 23, .int v1, .int (0 : Int32), .int (0 : Int32)]) (S' := []) (h' := h) rfl ?_
  exact K
/-- CutsOrFastModel.setOf at 4 -/
theorem g143_4 (d : Nat) (v1 : Int32) (v2 : Int32) (v3 : Int32) (h : AH) (HS : Sh h)  (Q : Option Value → AH → Prop) (K : ((v3 < (AI h 23 0) → (ixR v3 10 ∧ (((AI h 26 v3.toNatClampNeg) = v1 → Wp d 143 4 [.ref 23, .int v1, .int (v2 ||| ((((1 : Int32)) <<< (v3 &&& 31)))), .int (v3 + (1 : Int32))] [] h Q) ∧ (¬ (AI h 26 v3.toNatClampNeg) = v1 → Wp d 143 4 [.ref 23, .int v1, .int (v2 ||| ((0 : Int32))), .int (v3 + (1 : Int32))] [] h Q)))) ∧ (¬ v3 < (AI h 23 0) → Q (some (.int v2)) h))) : Wp d 143 4 [.ref 23, .int v1, .int v2, .int v3] [] h Q := by
  refine Wp.blk (by decide) ol_143 4 2 (pc' := 6) (L' := [.ref 23, .int v1, .int v2, .int v3]) (S' := [.ref 23, .int v3]) (h' := h) rfl ?_
  refine Wp.getf (op_ix (by decide) ol_143 6 rfl) (okS HS 23 rfl rfl) (v := .int (AI h 23 0)) rfl rfl ?_
  refine Wp.blk (by decide) ol_143 7 1 (pc' := (if v3 < (AI h 23 0) then 12 else 38)) (L' := [.ref 23, .int v1, .int v2, .int v3]) (S' := []) (h' := h) rfl ?_
  refine Wp.br (fun c1 => ?_) (fun c1 => ?_)
  · replace K := K.1 c1
    refine Wp.blk (by decide) ol_143 8 2 (pc' := 14) (L' := [.ref 23, .int v1, .int v2, .int v3]) (S' := [.ref 23, .int v2]) (h' := h) rfl ?_
    refine Wp.getf (op_ix (by decide) ol_143 10 rfl) (okS HS 23 rfl rfl) (v := .ref 26) (congrArg va_rf (rS HS 23 6 rfl)) rfl ?_
    refine Wp.blk (by decide) ol_143 11 1 (pc' := 18) (L' := [.ref 23, .int v1, .int v2, .int v3]) (S' := [.int v3, .ref 26, .int v2]) (h' := h) rfl ?_
    obtain ⟨r2, K⟩ := K
    refine Wp.iald (op_ix (by decide) ol_143 12 rfl) (kS HS 26 rfl) (inS HS 26 rfl r2) rfl ?_
    refine Wp.blk (by decide) ol_143 13 2 (pc' := (if (AI h 26 v3.toNatClampNeg) = v1 then 23 else 29)) (L' := [.ref 23, .int v1, .int v2, .int v3]) (S' := [.int v2]) (h' := h) rfl ?_
    refine Wp.br (fun c3 => ?_) (fun c3 => ?_)
    · replace K := K.1 c3
      refine Wp.blk (by decide) ol_143 15 4 (pc' := 30) (L' := [.ref 23, .int v1, .int v2, .int v3]) (S' := [.int (((1 : Int32)) <<< (v3 &&& 31)), .int v2]) (h' := h) rfl ?_
      refine Wp.blk (by decide) ol_143 20 4 (pc' := 4) (L' := [.ref 23, .int v1, .int (v2 ||| ((((1 : Int32)) <<< (v3 &&& 31)))), .int (v3 + (1 : Int32))]) (S' := []) (h' := h) rfl ?_
      exact K
    · replace K := K.2 c3
      refine Wp.blk (by decide) ol_143 19 5 (pc' := 4) (L' := [.ref 23, .int v1, .int (v2 ||| ((0 : Int32))), .int (v3 + (1 : Int32))]) (S' := []) (h' := h) rfl ?_
      exact K
  · replace K := K.2 c1
    refine Wp.blk (by decide) ol_143 24 1 (pc' := 39) (L' := [.ref 23, .int v1, .int v2, .int v3]) (S' := [.int v2]) (h' := h) rfl ?_
    exact Wp.ret (op_ix (by decide) ol_143 25 rfl) rfl K
/-- CutsOrFastModel.statusNow at 0 ()I -/
theorem g144_0 (d : Nat)  (h : AH) (HS : Sh h)  (Q : Option Value → AH → Prop) (K : (Cl (d + 1) 143 [.ref 23, .int (1 : Int32)] h (fun r h1 => ∃ x3 : Int32, r = some (.int x3) ∧ Sh h1 ∧ (Cl d 141 [.ref 23, .int (AI h1 23 2), .int x3, .int (AI h1 23 0)] h1 (fun r h4 => ∃ x6 : Int32, r = some (.int x6) ∧ Sh h4 ∧ (((((x6 >>> (((AI h4 23 3)) &&& 31))) &&& ((1 : Int32))) = (1 : Int32) → Q (some (.int (1 : Int32))) h4) ∧ (¬ (((x6 >>> (((AI h4 23 3)) &&& 31))) &&& ((1 : Int32))) = (1 : Int32) → (Cl (d + 1) 143 [.ref 23, .int (1 : Int32)] h4 (fun r h8 => ∃ x10 : Int32, r = some (.int x10) ∧ Sh h8 ∧ (Cl (d + 1) 143 [.ref 23, .int (0 : Int32)] h8 (fun r h11 => ∃ x13 : Int32, r = some (.int x13) ∧ Sh h11 ∧ (Cl d 141 [.ref 23, .int (AI h11 23 2), .int (x10 ||| x13), .int (AI h11 23 0)] h11 (fun r h14 => ∃ x16 : Int32, r = some (.int x16) ∧ Sh h14 ∧ (((((x16 >>> (((AI h14 23 3)) &&& 31))) &&& ((1 : Int32))) = (1 : Int32) → Q (some (.int (0 : Int32))) h14) ∧ (¬ (((x16 >>> (((AI h14 23 3)) &&& 31))) &&& ((1 : Int32))) = (1 : Int32) → Q (some (.int (2 : Int32))) h14))))))))))))))) : Wp (d + 2) 144 0 [.ref 23] [] h Q := by
  refine Wp.blk (by decide) ol_144 0 3 (pc' := 3) (L' := [.ref 23]) (S' := [.int (1 : Int32), .ref 23, .ref 23]) (h' := h) rfl ?_
  refine Wp.callI (op_ix (by decide) ol_144 3 rfl) (act_virt (c2 := 1) rfl (lk1 (kS HS 23 rfl)) rfl) rfl (K.mono ?_)
  rintro _ h1 ⟨x3, rfl, hs2, K⟩
  refine ⟨x3, rfl, ?_⟩
  refine Wp.blk (by decide) ol_144 4 1 (pc' := 7) (L' := [.ref 23]) (S' := [.ref 23, .int x3, .ref 23]) (h' := h1) rfl ?_
  refine Wp.getf (op_ix (by decide) ol_144 5 rfl) (okS hs2 23 rfl rfl) (v := .int (AI h1 23 0)) rfl rfl ?_
  refine Wp.callI (op_ix (by decide) ol_144 6 rfl) (act_virt (c2 := 2) rfl (lk1 (kS hs2 23 rfl)) rfl) rfl (Cl.enter (L := [.ref 23, .int x3, .int (AI h1 23 0)]) rfl ?_)
  refine Wp.blk (by decide) ol_142 0 2 (pc' := 2) (L' := [.ref 23, .int x3, .int (AI h1 23 0)]) (S' := [.ref 23, .ref 23]) (h' := h1) rfl ?_
  refine Wp.getf (op_ix (by decide) ol_142 2 rfl) (okS hs2 23 rfl rfl) (v := .int (AI h1 23 2)) rfl rfl ?_
  refine Wp.blk (by decide) ol_142 3 2 (pc' := 7) (L' := [.ref 23, .int x3, .int (AI h1 23 0)]) (S' := [.int (AI h1 23 0), .int x3, .int (AI h1 23 2), .ref 23]) (h' := h1) rfl ?_
  refine Wp.callI (op_ix (by decide) ol_142 5 rfl) (act_virt (c2 := 3) rfl (lk1 (kS hs2 23 rfl)) rfl) rfl (K.mono ?_)
  rintro _ h4 ⟨x6, rfl, hs5, K⟩
  refine ⟨x6, rfl, ?_⟩
  refine Wp.blk (by decide) ol_142 6 1 (pc' := 11) (L' := [.ref 23, .int x3, .int (AI h1 23 0)]) (S' := [.ref 23, .int x6]) (h' := h4) rfl ?_
  refine Wp.getf (op_ix (by decide) ol_142 7 rfl) (okS hs5 23 rfl rfl) (v := .int (AI h4 23 3)) rfl rfl ?_
  refine Wp.callI (op_ix (by decide) ol_142 8 rfl) rfl rfl (Cl.enter (L := [.int x6, .int (AI h4 23 3)]) rfl ?_)
  refine Wp.blk (by decide) ol_130 0 7 (pc' := (if (((x6 >>> (((AI h4 23 3)) &&& 31))) &&& ((1 : Int32))) = (1 : Int32) then 9 else 13)) (L' := [.int x6, .int (AI h4 23 3)]) (S' := []) (h' := h4) rfl ?_
  refine Wp.br (fun c7 => ?_) (fun c7 => ?_)
  · replace K := K.1 c7
    refine Wp.blk (by decide) ol_130 7 2 (pc' := 14) (L' := [.int x6, .int (AI h4 23 3)]) (S' := [.int (1 : Int32)]) (h' := h4) rfl ?_
    refine Wp.ret (op_ix (by decide) ol_130 10 rfl) rfl ⟨_, rfl, ?_⟩
    refine Wp.ret (op_ix (by decide) ol_142 9 rfl) rfl ⟨_, rfl, ?_⟩
    refine Wp.blk (by decide) ol_144 7 1 (pc' := (if (1 : Int32) = (0 : Int32) then 18 else 16)) (L' := [.ref 23]) (S' := []) (h' := h4) rfl ?_
    refine Wp.br (fun hc => absurd hc (by decide)) (fun _ => ?_)
    refine Wp.blk (by decide) ol_144 8 1 (pc' := 17) (L' := [.ref 23]) (S' := [.int (1 : Int32)]) (h' := h4) rfl ?_
    exact Wp.ret (op_ix (by decide) ol_144 9 rfl) rfl K
  · replace K := K.2 c7
    refine Wp.blk (by decide) ol_130 9 1 (pc' := 14) (L' := [.int x6, .int (AI h4 23 3)]) (S' := [.int (0 : Int32)]) (h' := h4) rfl ?_
    refine Wp.ret (op_ix (by decide) ol_130 10 rfl) rfl ⟨_, rfl, ?_⟩
    refine Wp.ret (op_ix (by decide) ol_142 9 rfl) rfl ⟨_, rfl, ?_⟩
    refine Wp.blk (by decide) ol_144 7 1 (pc' := (if (0 : Int32) = (0 : Int32) then 18 else 16)) (L' := [.ref 23]) (S' := []) (h' := h4) rfl ?_
    refine Wp.br (fun _ => ?_) (fun hc => absurd (by decide) hc)
    refine Wp.blk (by decide) ol_144 10 3 (pc' := 21) (L' := [.ref 23]) (S' := [.int (1 : Int32), .ref 23, .ref 23]) (h' := h4) rfl ?_
    refine Wp.callI (op_ix (by decide) ol_144 13 rfl) (act_virt (c2 := 1) rfl (lk1 (kS hs5 23 rfl)) rfl) rfl (K.mono ?_)
    rintro _ h8 ⟨x10, rfl, hs9, K⟩
    refine ⟨x10, rfl, ?_⟩
    refine Wp.blk (by decide) ol_144 14 2 (pc' := 26) (L' := [.ref 23]) (S' := [.int (0 : Int32), .ref 23, .int x10, .ref 23]) (h' := h8) rfl ?_
    refine Wp.callI (op_ix (by decide) ol_144 16 rfl) (act_virt (c2 := 1) rfl (lk1 (kS hs9 23 rfl)) rfl) rfl (K.mono ?_)
    rintro _ h11 ⟨x13, rfl, hs12, K⟩
    refine ⟨x13, rfl, ?_⟩
    refine Wp.blk (by decide) ol_144 17 2 (pc' := 31) (L' := [.ref 23]) (S' := [.ref 23, .int (x10 ||| x13), .ref 23]) (h' := h11) rfl ?_
    refine Wp.getf (op_ix (by decide) ol_144 19 rfl) (okS hs12 23 rfl rfl) (v := .int (AI h11 23 0)) rfl rfl ?_
    refine Wp.callI (op_ix (by decide) ol_144 20 rfl) (act_virt (c2 := 2) rfl (lk1 (kS hs12 23 rfl)) rfl) rfl (Cl.enter (L := [.ref 23, .int (x10 ||| x13), .int (AI h11 23 0)]) rfl ?_)
    refine Wp.blk (by decide) ol_142 0 2 (pc' := 2) (L' := [.ref 23, .int (x10 ||| x13), .int (AI h11 23 0)]) (S' := [.ref 23, .ref 23]) (h' := h11) rfl ?_
    refine Wp.getf (op_ix (by decide) ol_142 2 rfl) (okS hs12 23 rfl rfl) (v := .int (AI h11 23 2)) rfl rfl ?_
    refine Wp.blk (by decide) ol_142 3 2 (pc' := 7) (L' := [.ref 23, .int (x10 ||| x13), .int (AI h11 23 0)]) (S' := [.int (AI h11 23 0), .int (x10 ||| x13), .int (AI h11 23 2), .ref 23]) (h' := h11) rfl ?_
    refine Wp.callI (op_ix (by decide) ol_142 5 rfl) (act_virt (c2 := 3) rfl (lk1 (kS hs12 23 rfl)) rfl) rfl (K.mono ?_)
    rintro _ h14 ⟨x16, rfl, hs15, K⟩
    refine ⟨x16, rfl, ?_⟩
    refine Wp.blk (by decide) ol_142 6 1 (pc' := 11) (L' := [.ref 23, .int (x10 ||| x13), .int (AI h11 23 0)]) (S' := [.ref 23, .int x16]) (h' := h14) rfl ?_
    refine Wp.getf (op_ix (by decide) ol_142 7 rfl) (okS hs15 23 rfl rfl) (v := .int (AI h14 23 3)) rfl rfl ?_
    refine Wp.callI (op_ix (by decide) ol_142 8 rfl) rfl rfl (Cl.enter (L := [.int x16, .int (AI h14 23 3)]) rfl ?_)
    refine Wp.blk (by decide) ol_130 0 7 (pc' := (if (((x16 >>> (((AI h14 23 3)) &&& 31))) &&& ((1 : Int32))) = (1 : Int32) then 9 else 13)) (L' := [.int x16, .int (AI h14 23 3)]) (S' := []) (h' := h14) rfl ?_
    refine Wp.br (fun c17 => ?_) (fun c17 => ?_)
    · replace K := K.1 c17
      refine Wp.blk (by decide) ol_130 7 2 (pc' := 14) (L' := [.int x16, .int (AI h14 23 3)]) (S' := [.int (1 : Int32)]) (h' := h14) rfl ?_
      refine Wp.ret (op_ix (by decide) ol_130 10 rfl) rfl ⟨_, rfl, ?_⟩
      refine Wp.ret (op_ix (by decide) ol_142 9 rfl) rfl ⟨_, rfl, ?_⟩
      refine Wp.blk (by decide) ol_144 21 1 (pc' := (if (1 : Int32) = (0 : Int32) then 44 else 40)) (L' := [.ref 23]) (S' := []) (h' := h14) rfl ?_
      refine Wp.br (fun hc => absurd hc (by decide)) (fun _ => ?_)
      refine Wp.blk (by decide) ol_144 22 2 (pc' := 45) (L' := [.ref 23]) (S' := [.int (0 : Int32)]) (h' := h14) rfl ?_
      exact Wp.ret (op_ix (by decide) ol_144 25 rfl) rfl K
    · replace K := K.2 c17
      refine Wp.blk (by decide) ol_130 9 1 (pc' := 14) (L' := [.int x16, .int (AI h14 23 3)]) (S' := [.int (0 : Int32)]) (h' := h14) rfl ?_
      refine Wp.ret (op_ix (by decide) ol_130 10 rfl) rfl ⟨_, rfl, ?_⟩
      refine Wp.ret (op_ix (by decide) ol_142 9 rfl) rfl ⟨_, rfl, ?_⟩
      refine Wp.blk (by decide) ol_144 21 1 (pc' := (if (0 : Int32) = (0 : Int32) then 44 else 40)) (L' := [.ref 23]) (S' := []) (h' := h14) rfl ?_
      refine Wp.br (fun _ => ?_) (fun hc => absurd (by decide) hc)
      refine Wp.blk (by decide) ol_144 24 1 (pc' := 45) (L' := [.ref 23]) (S' := [.int (2 : Int32)]) (h' := h14) rfl ?_
      exact Wp.ret (op_ix (by decide) ol_144 25 rfl) rfl K
/-- CutsOrFastModel.status at 0 ()I -/
theorem g145_0 (d : Nat)  (h : AH) (HS : Sh h)  (Q : Option Value → AH → Prop) (K : (((AI h 23 0) = (0 : Int32) → Q (some (.int (-103 : Int32))) h) ∧ (¬ (AI h 23 0) = (0 : Int32) → (Cl d 144 [.ref 23] h (fun r h2 => ∃ x4 : Int32, r = some (.int x4) ∧ Sh h2 ∧ Q (some (.int x4)) h2))))) : Wp (d + 1) 145 0 [.ref 23] [] h Q := by
  refine Wp.blk (by decide) ol_145 0 1 (pc' := 1) (L' := [.ref 23]) (S' := [.ref 23]) (h' := h) rfl ?_
  refine Wp.getf (op_ix (by decide) ol_145 1 rfl) (okS HS 23 rfl rfl) (v := .int (AI h 23 0)) rfl rfl ?_
  refine Wp.blk (by decide) ol_145 2 1 (pc' := (if (AI h 23 0) = (0 : Int32) then 7 else 12)) (L' := [.ref 23]) (S' := []) (h' := h) rfl ?_
  refine Wp.br (fun c1 => ?_) (fun c1 => ?_)
  · replace K := K.1 c1
    refine Wp.blk (by decide) ol_145 3 2 (pc' := 16) (L' := [.ref 23]) (S' := [.int (-103 : Int32)]) (h' := h) rfl ?_
    exact Wp.ret (op_ix (by decide) ol_145 7 rfl) rfl K
  · replace K := K.2 c1
    refine Wp.blk (by decide) ol_145 5 1 (pc' := 13) (L' := [.ref 23]) (S' := [.ref 23]) (h' := h) rfl ?_
    refine Wp.callI (op_ix (by decide) ol_145 6 rfl) (act_virt (c2 := 0) rfl (lk1 (kS HS 23 rfl)) rfl) rfl (K.mono ?_)
    rintro _ h2 ⟨x4, rfl, hs3, K⟩
    refine ⟨x4, rfl, ?_⟩
    exact Wp.ret (op_ix (by decide) ol_145 7 rfl) rfl K
/-- CutsOrFastModel.layOpens at 0 (I)V -/
theorem g146_0 (d : Nat) (v1 : Int32) (h : AH) (HS : Sh h)  (Q : Option Value → AH → Prop) (K : Wp d 146 12 [.ref 23, .int v1, .int (0 : Int32)] [] (stI ((stI h 23 32 ((0 : Int32)))) 23 35 ((0 : Int32))) Q) : Wp d 146 0 [.ref 23, .int v1, mk0] [] h Q := by
  refine Wp.blk (by decide) ol_146 0 2 (pc' := 2) (L' := [.ref 23, .int v1, mk0]) (S' := [.int (0 : Int32), .ref 23]) (h' := h) rfl ?_
  refine Wp.putf (op_ix (by decide) ol_146 2 rfl) (by decide) (okS HS 23 rfl rfl) (h' := (stI h 23 32 ((0 : Int32)))) rfl rfl ?_
  refine Wp.blk (by decide) ol_146 3 2 (pc' := 7) (L' := [.ref 23, .int v1, mk0]) (S' := [.int (0 : Int32), .ref 23]) (h' := (stI h 23 32 ((0 : Int32)))) rfl ?_
  refine Wp.putf (op_ix (by decide) ol_146 5 rfl) (by decide) (okS HS 23 rfl rfl) (h' := (stI ((stI h 23 32 ((0 : Int32)))) 23 35 ((0 : Int32)))) rfl rfl ?_
  refine Wp.blk (by decide) ol_146 6 2 (pc' := 12) (L' := [.ref 23, .int v1, .int (0 : Int32)]) (S' := []) (h' := (stI ((stI h 23 32 ((0 : Int32)))) 23 35 ((0 : Int32)))) rfl ?_
  exact K
/-- CutsOrFastModel.layOpens at 12 -/
theorem g146_12 (d : Nat) (v1 : Int32) (v2 : Int32) (h : AH) (HS : Sh h)  (Q : Option Value → AH → Prop) (K : ((v2 < v1 → (ixR v2 10 ∧ (((AI h 26 v2.toNatClampNeg) = (0 : Int32) → (ixR ((AI h 23 32)) 10 ∧ Wp d 146 46 [.ref 23, .int v1, .int v2] [] (stI ((stI h 38 ((AI h 23 32)).toNatClampNeg v2)) 23 32 ((((AI ((stI h 38 ((AI h 23 32)).toNatClampNeg v2)) 23 32)) + ((1 : Int32))))) Q)) ∧ (¬ (AI h 26 v2.toNatClampNeg) = (0 : Int32) → Wp d 146 46 [.ref 23, .int v1, .int v2] [] h Q)))) ∧ (¬ v2 < v1 → (ixR ((0 : Int32)) 11 ∧ Wp d 146 87 [.ref 23, .int v1, .int (0 : Int32)] [] (stI h 39 ((0 : Int32)).toNatClampNeg ((1 : Int32))) Q)))) : Wp d 146 12 [.ref 23, .int v1, .int v2] [] h Q := by
  refine Wp.blk (by decide) ol_146 8 3 (pc' := (if v2 < v1 then 17 else 78)) (L' := [.ref 23, .int v1, .int v2]) (S' := []) (h' := h) rfl ?_
  refine Wp.br (fun c1 => ?_) (fun c1 => ?_)
  · replace K := K.1 c1
    refine Wp.blk (by decide) ol_146 11 1 (pc' := 18) (L' := [.ref 23, .int v1, .int v2]) (S' := [.ref 23]) (h' := h) rfl ?_
    refine Wp.getf (op_ix (by decide) ol_146 12 rfl) (okS HS 23 rfl rfl) (v := .ref 26) (congrArg va_rf (rS HS 23 6 rfl)) rfl ?_
    refine Wp.blk (by decide) ol_146 13 1 (pc' := 22) (L' := [.ref 23, .int v1, .int v2]) (S' := [.int v2, .ref 26]) (h' := h) rfl ?_
    obtain ⟨r2, K⟩ := K
    refine Wp.iald (op_ix (by decide) ol_146 14 rfl) (kS HS 26 rfl) (inS HS 26 rfl r2) rfl ?_
    refine Wp.blk (by decide) ol_146 15 1 (pc' := (if (AI h 26 v2.toNatClampNeg) = (0 : Int32) then 26 else 46)) (L' := [.ref 23, .int v1, .int v2]) (S' := []) (h' := h) rfl ?_
    refine Wp.br (fun c3 => ?_) (fun c3 => ?_)
    · replace K := K.1 c3
      refine Wp.blk (by decide) ol_146 16 1 (pc' := 27) (L' := [.ref 23, .int v1, .int v2]) (S' := [.ref 23]) (h' := h) rfl ?_
      refine Wp.getf (op_ix (by decide) ol_146 17 rfl) (okS HS 23 rfl rfl) (v := .ref 38) (congrArg va_rf (rS HS 23 33 rfl)) rfl ?_
      refine Wp.blk (by decide) ol_146 18 1 (pc' := 31) (L' := [.ref 23, .int v1, .int v2]) (S' := [.ref 23, .ref 38]) (h' := h) rfl ?_
      refine Wp.getf (op_ix (by decide) ol_146 19 rfl) (okS HS 23 rfl rfl) (v := .int (AI h 23 32)) rfl rfl ?_
      refine Wp.blk (by decide) ol_146 20 1 (pc' := 35) (L' := [.ref 23, .int v1, .int v2]) (S' := [.int v2, .int (AI h 23 32), .ref 38]) (h' := h) rfl ?_
      obtain ⟨r4, K⟩ := K
      refine Wp.iast (op_ix (by decide) ol_146 21 rfl) (by decide) (kS HS 38 rfl) (inS HS 38 rfl r4) rfl ?_
      refine Wp.blk (by decide) ol_146 22 2 (pc' := 38) (L' := [.ref 23, .int v1, .int v2]) (S' := [.ref 23, .ref 23]) (h' := (stI h 38 ((AI h 23 32)).toNatClampNeg v2)) rfl ?_
      refine Wp.getf (op_ix (by decide) ol_146 24 rfl) (okS HS 23 rfl rfl) (v := .int (AI ((stI h 38 ((AI h 23 32)).toNatClampNeg v2)) 23 32)) rfl rfl ?_
      refine Wp.blk (by decide) ol_146 25 2 (pc' := 43) (L' := [.ref 23, .int v1, .int v2]) (S' := [.int (((AI ((stI h 38 ((AI h 23 32)).toNatClampNeg v2)) 23 32)) + ((1 : Int32))), .ref 23]) (h' := (stI h 38 ((AI h 23 32)).toNatClampNeg v2)) rfl ?_
      refine Wp.putf (op_ix (by decide) ol_146 27 rfl) (by decide) (okS HS 23 rfl rfl) (h' := (stI ((stI h 38 ((AI h 23 32)).toNatClampNeg v2)) 23 32 ((((AI ((stI h 38 ((AI h 23 32)).toNatClampNeg v2)) 23 32)) + ((1 : Int32)))))) rfl rfl ?_
      exact K
    · replace K := K.2 c3
      exact K
  · replace K := K.2 c1
    refine Wp.blk (by decide) ol_146 46 1 (pc' := 79) (L' := [.ref 23, .int v1, .int v2]) (S' := [.ref 23]) (h' := h) rfl ?_
    refine Wp.getf (op_ix (by decide) ol_146 47 rfl) (okS HS 23 rfl rfl) (v := .ref 39) (congrArg va_rf (rS HS 23 34 rfl)) rfl ?_
    refine Wp.blk (by decide) ol_146 48 2 (pc' := 84) (L' := [.ref 23, .int v1, .int v2]) (S' := [.int (1 : Int32), .int (0 : Int32), .ref 39]) (h' := h) rfl ?_
    obtain ⟨r5, K⟩ := K
    refine Wp.iast (op_ix (by decide) ol_146 50 rfl) (by decide) (kS HS 39 rfl) (inS HS 39 rfl r5) rfl ?_
    refine Wp.blk (by decide) ol_146 51 2 (pc' := 87) (L' := [.ref 23, .int v1, .int (0 : Int32)]) (S' := []) (h' := (stI h 39 ((0 : Int32)).toNatClampNeg ((1 : Int32)))) rfl ?_
    exact K
/-- CutsOrFastModel.layOpens at 46 -/
theorem g146_46 (d : Nat) (v1 : Int32) (v2 : Int32) (h : AH) (HS : Sh h)  (Q : Option Value → AH → Prop) (K : (ixR v2 10 ∧ (((AI h 26 v2.toNatClampNeg) = (1 : Int32) → Wp d 146 12 [.ref 23, .int v1, .int (v2 + (1 : Int32))] [] (stI h 23 35 ((((AI h 23 35)) ||| ((((1 : Int32)) <<< (v2 &&& 31)))))) Q) ∧ (¬ (AI h 26 v2.toNatClampNeg) = (1 : Int32) → Wp d 146 12 [.ref 23, .int v1, .int (v2 + (1 : Int32))] [] (stI h 23 35 ((((AI h 23 35)) ||| ((0 : Int32))))) Q)))) : Wp d 146 46 [.ref 23, .int v1, .int v2] [] h Q := by
  refine Wp.blk (by decide) ol_146 28 2 (pc' := 48) (L' := [.ref 23, .int v1, .int v2]) (S' := [.ref 23, .ref 23]) (h' := h) rfl ?_
  refine Wp.getf (op_ix (by decide) ol_146 30 rfl) (okS HS 23 rfl rfl) (v := .int (AI h 23 35)) rfl rfl ?_
  refine Wp.blk (by decide) ol_146 31 1 (pc' := 52) (L' := [.ref 23, .int v1, .int v2]) (S' := [.ref 23, .int (AI h 23 35), .ref 23]) (h' := h) rfl ?_
  refine Wp.getf (op_ix (by decide) ol_146 32 rfl) (okS HS 23 rfl rfl) (v := .ref 26) (congrArg va_rf (rS HS 23 6 rfl)) rfl ?_
  refine Wp.blk (by decide) ol_146 33 1 (pc' := 56) (L' := [.ref 23, .int v1, .int v2]) (S' := [.int v2, .ref 26, .int (AI h 23 35), .ref 23]) (h' := h) rfl ?_
  obtain ⟨r1, K⟩ := K
  refine Wp.iald (op_ix (by decide) ol_146 34 rfl) (kS HS 26 rfl) (inS HS 26 rfl r1) rfl ?_
  refine Wp.blk (by decide) ol_146 35 2 (pc' := (if (AI h 26 v2.toNatClampNeg) = (1 : Int32) then 61 else 67)) (L' := [.ref 23, .int v1, .int v2]) (S' := [.int (AI h 23 35), .ref 23]) (h' := h) rfl ?_
  refine Wp.br (fun c2 => ?_) (fun c2 => ?_)
  · replace K := K.1 c2
    refine Wp.blk (by decide) ol_146 37 4 (pc' := 68) (L' := [.ref 23, .int v1, .int v2]) (S' := [.int (((1 : Int32)) <<< (v2 &&& 31)), .int (AI h 23 35), .ref 23]) (h' := h) rfl ?_
    refine Wp.blk (by decide) ol_146 42 1 (pc' := 69) (L' := [.ref 23, .int v1, .int v2]) (S' := [.int (((AI h 23 35)) ||| ((((1 : Int32)) <<< (v2 &&& 31)))), .ref 23]) (h' := h) rfl ?_
    refine Wp.putf (op_ix (by decide) ol_146 43 rfl) (by decide) (okS HS 23 rfl rfl) (h' := (stI h 23 35 ((((AI h 23 35)) ||| ((((1 : Int32)) <<< (v2 &&& 31))))))) rfl rfl ?_
    refine Wp.blk (by decide) ol_146 44 2 (pc' := 12) (L' := [.ref 23, .int v1, .int (v2 + (1 : Int32))]) (S' := []) (h' := (stI h 23 35 ((((AI h 23 35)) ||| ((((1 : Int32)) <<< (v2 &&& 31))))))) rfl ?_
    exact K
  · replace K := K.2 c2
    refine Wp.blk (by decide) ol_146 41 2 (pc' := 69) (L' := [.ref 23, .int v1, .int v2]) (S' := [.int (((AI h 23 35)) ||| ((0 : Int32))), .ref 23]) (h' := h) rfl ?_
    refine Wp.putf (op_ix (by decide) ol_146 43 rfl) (by decide) (okS HS 23 rfl rfl) (h' := (stI h 23 35 ((((AI h 23 35)) ||| ((0 : Int32)))))) rfl rfl ?_
    refine Wp.blk (by decide) ol_146 44 2 (pc' := 12) (L' := [.ref 23, .int v1, .int (v2 + (1 : Int32))]) (S' := []) (h' := (stI h 23 35 ((((AI h 23 35)) ||| ((0 : Int32)))))) rfl ?_
    exact K
/-- CutsOrFastModel.layOpens at 87 -/
theorem g146_87 (d : Nat) (v1 : Int32) (v2 : Int32) (h : AH) (HS : Sh h)  (Q : Option Value → AH → Prop) (K : ((v2 < (AI h 23 32) → (ixR v2 11 ∧ ixR ((v2 + ((1 : Int32)))) 11 ∧ Wp d 146 87 [.ref 23, .int v1, .int (v2 + (1 : Int32))] [] (stI h 39 ((v2 + ((1 : Int32)))).toNatClampNeg ((((3 : Int32)) * ((AI h 39 v2.toNatClampNeg))))) Q)) ∧ (¬ v2 < (AI h 23 32) → Wp d 146 119 [.ref 23, .int v1, .int (0 : Int32)] [] h Q))) : Wp d 146 87 [.ref 23, .int v1, .int v2] [] h Q := by
  refine Wp.blk (by decide) ol_146 53 2 (pc' := 89) (L' := [.ref 23, .int v1, .int v2]) (S' := [.ref 23, .int v2]) (h' := h) rfl ?_
  refine Wp.getf (op_ix (by decide) ol_146 55 rfl) (okS HS 23 rfl rfl) (v := .int (AI h 23 32)) rfl rfl ?_
  refine Wp.blk (by decide) ol_146 56 1 (pc' := (if v2 < (AI h 23 32) then 95 else 117)) (L' := [.ref 23, .int v1, .int v2]) (S' := []) (h' := h) rfl ?_
  refine Wp.br (fun c1 => ?_) (fun c1 => ?_)
  · replace K := K.1 c1
    refine Wp.blk (by decide) ol_146 57 1 (pc' := 96) (L' := [.ref 23, .int v1, .int v2]) (S' := [.ref 23]) (h' := h) rfl ?_
    refine Wp.getf (op_ix (by decide) ol_146 58 rfl) (okS HS 23 rfl rfl) (v := .ref 39) (congrArg va_rf (rS HS 23 34 rfl)) rfl ?_
    refine Wp.blk (by decide) ol_146 59 5 (pc' := 104) (L' := [.ref 23, .int v1, .int v2]) (S' := [.ref 23, .int (3 : Int32), .int (v2 + ((1 : Int32))), .ref 39]) (h' := h) rfl ?_
    refine Wp.getf (op_ix (by decide) ol_146 64 rfl) (okS HS 23 rfl rfl) (v := .ref 39) (congrArg va_rf (rS HS 23 34 rfl)) rfl ?_
    refine Wp.blk (by decide) ol_146 65 1 (pc' := 108) (L' := [.ref 23, .int v1, .int v2]) (S' := [.int v2, .ref 39, .int (3 : Int32), .int (v2 + ((1 : Int32))), .ref 39]) (h' := h) rfl ?_
    obtain ⟨r2, K⟩ := K
    refine Wp.iald (op_ix (by decide) ol_146 66 rfl) (kS HS 39 rfl) (inS HS 39 rfl r2) rfl ?_
    refine Wp.blk (by decide) ol_146 67 1 (pc' := 110) (L' := [.ref 23, .int v1, .int v2]) (S' := [.int (((3 : Int32)) * ((AI h 39 v2.toNatClampNeg))), .int (v2 + ((1 : Int32))), .ref 39]) (h' := h) rfl ?_
    obtain ⟨r3, K⟩ := K
    refine Wp.iast (op_ix (by decide) ol_146 68 rfl) (by decide) (kS HS 39 rfl) (inS HS 39 rfl r3) rfl ?_
    refine Wp.blk (by decide) ol_146 69 2 (pc' := 87) (L' := [.ref 23, .int v1, .int (v2 + (1 : Int32))]) (S' := []) (h' := (stI h 39 ((v2 + ((1 : Int32)))).toNatClampNeg ((((3 : Int32)) * ((AI h 39 v2.toNatClampNeg)))))) rfl ?_
    exact K
  · replace K := K.2 c1
    refine Wp.blk (by decide) ol_146 71 2 (pc' := 119) (L' := [.ref 23, .int v1, .int (0 : Int32)]) (S' := []) (h' := h) rfl ?_
    exact K
/-- CutsOrFastModel.layOpens at 119 -/
theorem g146_119 (d : Nat) (v1 : Int32) (v2 : Int32) (h : AH) (HS : Sh h)  (Q : Option Value → AH → Prop) (K : ((v2 < (((1 : Int32)) <<< (v1 &&& 31)) → (Cl d 141 [.ref 23, .int (AI h 23 2), .int v2, .int v1] h (fun r h2 => ∃ x4 : Int32, r = some (.int x4) ∧ Sh h2 ∧ (((((x4 >>> (((AI h2 23 3)) &&& 31))) &&& ((1 : Int32))) = (1 : Int32) → (ixR v2 1024 ∧ Wp (d + 2) 146 119 [.ref 23, .int v1, .int (v2 + (1 : Int32))] [] (stI h2 37 v2.toNatClampNeg (vp_nar .boolean ((1 : Int32)))) Q)) ∧ (¬ (((x4 >>> (((AI h2 23 3)) &&& 31))) &&& ((1 : Int32))) = (1 : Int32) → (ixR v2 1024 ∧ Wp (d + 2) 146 119 [.ref 23, .int v1, .int (v2 + (1 : Int32))] [] (stI h2 37 v2.toNatClampNeg (vp_nar .boolean ((0 : Int32)))) Q)))))) ∧ (¬ v2 < (((1 : Int32)) <<< (v1 &&& 31)) → Q none h))) : Wp (d + 2) 146 119 [.ref 23, .int v1, .int v2] [] h Q := by
  refine Wp.blk (by decide) ol_146 73 5 (pc' := (if v2 < (((1 : Int32)) <<< (v1 &&& 31)) then 126 else 144)) (L' := [.ref 23, .int v1, .int v2]) (S' := []) (h' := h) rfl ?_
  refine Wp.br (fun c1 => ?_) (fun c1 => ?_)
  · replace K := K.1 c1
    refine Wp.blk (by decide) ol_146 78 1 (pc' := 127) (L' := [.ref 23, .int v1, .int v2]) (S' := [.ref 23]) (h' := h) rfl ?_
    refine Wp.getf (op_ix (by decide) ol_146 79 rfl) (okS HS 23 rfl rfl) (v := .ref 37) (congrArg va_rf (rS HS 23 31 rfl)) rfl ?_
    refine Wp.blk (by decide) ol_146 80 4 (pc' := 134) (L' := [.ref 23, .int v1, .int v2]) (S' := [.int v1, .int v2, .ref 23, .int v2, .ref 37]) (h' := h) rfl ?_
    refine Wp.callI (op_ix (by decide) ol_146 84 rfl) (act_virt (c2 := 2) rfl (lk1 (kS HS 23 rfl)) rfl) rfl (Cl.enter (L := [.ref 23, .int v2, .int v1]) rfl ?_)
    refine Wp.blk (by decide) ol_142 0 2 (pc' := 2) (L' := [.ref 23, .int v2, .int v1]) (S' := [.ref 23, .ref 23]) (h' := h) rfl ?_
    refine Wp.getf (op_ix (by decide) ol_142 2 rfl) (okS HS 23 rfl rfl) (v := .int (AI h 23 2)) rfl rfl ?_
    refine Wp.blk (by decide) ol_142 3 2 (pc' := 7) (L' := [.ref 23, .int v2, .int v1]) (S' := [.int v1, .int v2, .int (AI h 23 2), .ref 23]) (h' := h) rfl ?_
    refine Wp.callI (op_ix (by decide) ol_142 5 rfl) (act_virt (c2 := 3) rfl (lk1 (kS HS 23 rfl)) rfl) rfl (K.mono ?_)
    rintro _ h2 ⟨x4, rfl, hs3, K⟩
    refine ⟨x4, rfl, ?_⟩
    refine Wp.blk (by decide) ol_142 6 1 (pc' := 11) (L' := [.ref 23, .int v2, .int v1]) (S' := [.ref 23, .int x4]) (h' := h2) rfl ?_
    refine Wp.getf (op_ix (by decide) ol_142 7 rfl) (okS hs3 23 rfl rfl) (v := .int (AI h2 23 3)) rfl rfl ?_
    refine Wp.callI (op_ix (by decide) ol_142 8 rfl) rfl rfl (Cl.enter (L := [.int x4, .int (AI h2 23 3)]) rfl ?_)
    refine Wp.blk (by decide) ol_130 0 7 (pc' := (if (((x4 >>> (((AI h2 23 3)) &&& 31))) &&& ((1 : Int32))) = (1 : Int32) then 9 else 13)) (L' := [.int x4, .int (AI h2 23 3)]) (S' := []) (h' := h2) rfl ?_
    refine Wp.br (fun c5 => ?_) (fun c5 => ?_)
    · replace K := K.1 c5
      refine Wp.blk (by decide) ol_130 7 2 (pc' := 14) (L' := [.int x4, .int (AI h2 23 3)]) (S' := [.int (1 : Int32)]) (h' := h2) rfl ?_
      refine Wp.ret (op_ix (by decide) ol_130 10 rfl) rfl ⟨_, rfl, ?_⟩
      refine Wp.ret (op_ix (by decide) ol_142 9 rfl) rfl ⟨_, rfl, ?_⟩
      obtain ⟨r6, K⟩ := K
      refine Wp.zast (op_ix (by decide) ol_146 85 rfl) (by decide) (kS hs3 37 rfl) (inS hs3 37 rfl r6) rfl ?_
      refine Wp.blk (by decide) ol_146 86 2 (pc' := 119) (L' := [.ref 23, .int v1, .int (v2 + (1 : Int32))]) (S' := []) (h' := (stI h2 37 v2.toNatClampNeg (vp_nar .boolean ((1 : Int32))))) rfl ?_
      exact K
    · replace K := K.2 c5
      refine Wp.blk (by decide) ol_130 9 1 (pc' := 14) (L' := [.int x4, .int (AI h2 23 3)]) (S' := [.int (0 : Int32)]) (h' := h2) rfl ?_
      refine Wp.ret (op_ix (by decide) ol_130 10 rfl) rfl ⟨_, rfl, ?_⟩
      refine Wp.ret (op_ix (by decide) ol_142 9 rfl) rfl ⟨_, rfl, ?_⟩
      obtain ⟨r7, K⟩ := K
      refine Wp.zast (op_ix (by decide) ol_146 85 rfl) (by decide) (kS hs3 37 rfl) (inS hs3 37 rfl r7) rfl ?_
      refine Wp.blk (by decide) ol_146 86 2 (pc' := 119) (L' := [.ref 23, .int v1, .int (v2 + (1 : Int32))]) (S' := []) (h' := (stI h2 37 v2.toNatClampNeg (vp_nar .boolean ((0 : Int32))))) rfl ?_
      exact K
  · replace K := K.2 c1
    exact Wp.ret (op_ix (by decide) ol_146 88 rfl) rfl K
/-- CutsOrFastModel.readCode at 0 (I)V -/
theorem g147_0 (d : Nat) (v1 : Int32) (h : AH) (HS : Sh h)  (Q : Option Value → AH → Prop) (K : Wp d 147 25 [.ref 23, mk0, .int v1, .int (0 : Int32), mk0] [] (stI ((stI ((stI h 23 37 ((AI h 23 35)))) 23 38 ((AI ((stI h 23 37 ((AI h 23 35)))) 23 35)))) 23 39 ((0 : Int32))) Q) : Wp d 147 0 [.ref 23, .int v1, mk0, mk0, mk0] [] h Q := by
  refine Wp.blk (by decide) ol_147 0 2 (pc' := 2) (L' := [.ref 23, .int v1, mk0, mk0, mk0]) (S' := [.ref 23, .ref 23]) (h' := h) rfl ?_
  refine Wp.getf (op_ix (by decide) ol_147 2 rfl) (okS HS 23 rfl rfl) (v := .int (AI h 23 35)) rfl rfl ?_
  refine Wp.putf (op_ix (by decide) ol_147 3 rfl) (by decide) (okS HS 23 rfl rfl) (h' := (stI h 23 37 ((AI h 23 35)))) rfl rfl ?_
  refine Wp.blk (by decide) ol_147 4 2 (pc' := 10) (L' := [.ref 23, .int v1, mk0, mk0, mk0]) (S' := [.ref 23, .ref 23]) (h' := (stI h 23 37 ((AI h 23 35)))) rfl ?_
  refine Wp.getf (op_ix (by decide) ol_147 6 rfl) (okS HS 23 rfl rfl) (v := .int (AI ((stI h 23 37 ((AI h 23 35)))) 23 35)) rfl rfl ?_
  refine Wp.putf (op_ix (by decide) ol_147 7 rfl) (by decide) (okS HS 23 rfl rfl) (h' := (stI ((stI h 23 37 ((AI h 23 35)))) 23 38 ((AI ((stI h 23 37 ((AI h 23 35)))) 23 35)))) rfl rfl ?_
  refine Wp.blk (by decide) ol_147 8 2 (pc' := 18) (L' := [.ref 23, .int v1, mk0, mk0, mk0]) (S' := [.int (0 : Int32), .ref 23]) (h' := (stI ((stI h 23 37 ((AI h 23 35)))) 23 38 ((AI ((stI h 23 37 ((AI h 23 35)))) 23 35)))) rfl ?_
  refine Wp.putf (op_ix (by decide) ol_147 10 rfl) (by decide) (okS HS 23 rfl rfl) (h' := (stI ((stI ((stI h 23 37 ((AI h 23 35)))) 23 38 ((AI ((stI h 23 37 ((AI h 23 35)))) 23 35)))) 23 39 ((0 : Int32)))) rfl rfl ?_
  refine Wp.blk (by decide) ol_147 11 4 (pc' := 25) (L' := [.ref 23, .int v1, .int v1, .int (0 : Int32), mk0]) (S' := []) (h' := (stI ((stI ((stI h 23 37 ((AI h 23 35)))) 23 38 ((AI ((stI h 23 37 ((AI h 23 35)))) 23 35)))) 23 39 ((0 : Int32)))) rfl ?_
  refine Wp.forget (L := [.ref 23, mk0, .int v1, .int (0 : Int32), mk0]) (⟨Or.inr rfl, ⟨Or.inl rfl, ⟨Or.inr rfl, ⟨Or.inr rfl, ⟨Or.inr rfl, trivial⟩⟩⟩⟩⟩) ?_
  exact K
/-- CutsOrFastModel.readCode at 25 -/
theorem g147_25 (d : Nat) (v2 : Int32) (v3 : Int32) (h : AH) (HS : Sh h)  (Q : Option Value → AH → Prop) (K : ((v3 < (AI h 23 32) → (((v2 - v2 / (3 : Int32) * (3 : Int32)) = (1 : Int32) → (ixR v3 10 ∧ Wp d 147 65 [.ref 23, mk0, .int (v2 / (3 : Int32)), .int v3, .int (v2 - v2 / (3 : Int32) * (3 : Int32))] [.int (((1 : Int32)) <<< (((AI h 38 v3.toNatClampNeg)) &&& 31)), .int (AI h 23 37), .ref 23] h Q)) ∧ (¬ (v2 - v2 / (3 : Int32) * (3 : Int32)) = (1 : Int32) → Wp d 147 65 [.ref 23, mk0, .int (v2 / (3 : Int32)), .int v3, .int (v2 - v2 / (3 : Int32) * (3 : Int32))] [.int (0 : Int32), .int (AI h 23 37), .ref 23] h Q))) ∧ (¬ v3 < (AI h 23 32) → Q none h))) : Wp d 147 25 [.ref 23, mk0, .int v2, .int v3, mk0] [] h Q := by
  refine Wp.blk (by decide) ol_147 15 2 (pc' := 27) (L' := [.ref 23, mk0, .int v2, .int v3, mk0]) (S' := [.ref 23, .int v3]) (h' := h) rfl ?_
  refine Wp.getf (op_ix (by decide) ol_147 17 rfl) (okS HS 23 rfl rfl) (v := .int (AI h 23 32)) rfl rfl ?_
  refine Wp.blk (by decide) ol_147 18 1 (pc' := (if v3 < (AI h 23 32) then 33 else 121)) (L' := [.ref 23, mk0, .int v2, .int v3, mk0]) (S' := []) (h' := h) rfl ?_
  refine Wp.br (fun c1 => ?_) (fun c1 => ?_)
  · replace K := K.1 c1
    refine Wp.blk (by decide) ol_147 19 10 (pc' := 44) (L' := [.ref 23, mk0, .int (v2 / (3 : Int32)), .int v3, .int (v2 - v2 / (3 : Int32) * (3 : Int32))]) (S' := [.ref 23, .ref 23]) (h' := h) rfl ?_
    refine Wp.getf (op_ix (by decide) ol_147 29 rfl) (okS HS 23 rfl rfl) (v := .int (AI h 23 37)) rfl rfl ?_
    refine Wp.blk (by decide) ol_147 30 3 (pc' := (if (v2 - v2 / (3 : Int32) * (3 : Int32)) = (1 : Int32) then 53 else 64)) (L' := [.ref 23, mk0, .int (v2 / (3 : Int32)), .int v3, .int (v2 - v2 / (3 : Int32) * (3 : Int32))]) (S' := [.int (AI h 23 37), .ref 23]) (h' := h) rfl ?_
    refine Wp.br (fun c2 => ?_) (fun c2 => ?_)
    · replace K := K.1 c2
      refine Wp.blk (by decide) ol_147 33 2 (pc' := 55) (L' := [.ref 23, mk0, .int (v2 / (3 : Int32)), .int v3, .int (v2 - v2 / (3 : Int32) * (3 : Int32))]) (S' := [.ref 23, .int (1 : Int32), .int (AI h 23 37), .ref 23]) (h' := h) rfl ?_
      refine Wp.getf (op_ix (by decide) ol_147 35 rfl) (okS HS 23 rfl rfl) (v := .ref 38) (congrArg va_rf (rS HS 23 33 rfl)) rfl ?_
      refine Wp.blk (by decide) ol_147 36 1 (pc' := 59) (L' := [.ref 23, mk0, .int (v2 / (3 : Int32)), .int v3, .int (v2 - v2 / (3 : Int32) * (3 : Int32))]) (S' := [.int v3, .ref 38, .int (1 : Int32), .int (AI h 23 37), .ref 23]) (h' := h) rfl ?_
      obtain ⟨r3, K⟩ := K
      refine Wp.iald (op_ix (by decide) ol_147 37 rfl) (kS HS 38 rfl) (inS HS 38 rfl r3) rfl ?_
      refine Wp.blk (by decide) ol_147 38 2 (pc' := 65) (L' := [.ref 23, mk0, .int (v2 / (3 : Int32)), .int v3, .int (v2 - v2 / (3 : Int32) * (3 : Int32))]) (S' := [.int (((1 : Int32)) <<< (((AI h 38 v3.toNatClampNeg)) &&& 31)), .int (AI h 23 37), .ref 23]) (h' := h) rfl ?_
      exact K
    · replace K := K.2 c2
      refine Wp.blk (by decide) ol_147 40 1 (pc' := 65) (L' := [.ref 23, mk0, .int (v2 / (3 : Int32)), .int v3, .int (v2 - v2 / (3 : Int32) * (3 : Int32))]) (S' := [.int (0 : Int32), .int (AI h 23 37), .ref 23]) (h' := h) rfl ?_
      exact K
  · replace K := K.2 c1
    exact Wp.ret (op_ix (by decide) ol_147 71 rfl) rfl K
/-- CutsOrFastModel.readCode at 65 -/
theorem g147_65 (d : Nat) (v2 : Int32) (v3 : Int32) (v4 : Int32) (s0 : Int32) (s1 : Int32) (s2 : Nat) (h : AH) (HS : Sh h)  (Q : Option Value → AH → Prop) (K : (okC 12 (AK h s2).1 = true ∧ 2 ≤ s2 ∧ ((v4 = (2 : Int32) → Wp d 147 92 [.ref 23, mk0, .int v2, .int v3, .int v4] [.int (0 : Int32), .int (AI ((stI h s2 37 ((s1 ||| s0)))) 23 38), .ref 23] (stI h s2 37 ((s1 ||| s0))) Q) ∧ (¬ v4 = (2 : Int32) → (ixR v3 10 ∧ Wp d 147 92 [.ref 23, mk0, .int v2, .int v3, .int v4] [.int (((1 : Int32)) <<< (((AI ((stI h s2 37 ((s1 ||| s0)))) 38 v3.toNatClampNeg)) &&& 31)), .int (AI ((stI h s2 37 ((s1 ||| s0)))) 23 38), .ref 23] (stI h s2 37 ((s1 ||| s0))) Q))))) : Wp d 147 65 [.ref 23, mk0, .int v2, .int v3, .int v4] [.int s0, .int s1, .ref s2] h Q := by
  refine Wp.blk (by decide) ol_147 41 1 (pc' := 66) (L' := [.ref 23, mk0, .int v2, .int v3, .int v4]) (S' := [.int (s1 ||| s0), .ref s2]) (h' := h) rfl ?_
  obtain ⟨k1, K⟩ := K
  obtain ⟨b2, K⟩ := K
  refine Wp.putf (op_ix (by decide) ol_147 42 rfl) b2 k1 (h' := (stI h s2 37 ((s1 ||| s0)))) rfl rfl ?_
  refine Wp.blk (by decide) ol_147 43 2 (pc' := 71) (L' := [.ref 23, mk0, .int v2, .int v3, .int v4]) (S' := [.ref 23, .ref 23]) (h' := (stI h s2 37 ((s1 ||| s0)))) rfl ?_
  refine Wp.getf (op_ix (by decide) ol_147 45 rfl) (okS HS 23 rfl rfl) (v := .int (AI ((stI h s2 37 ((s1 ||| s0)))) 23 38)) rfl rfl ?_
  refine Wp.blk (by decide) ol_147 46 3 (pc' := (if v4 = (2 : Int32) then 80 else 84)) (L' := [.ref 23, mk0, .int v2, .int v3, .int v4]) (S' := [.int (AI ((stI h s2 37 ((s1 ||| s0)))) 23 38), .ref 23]) (h' := (stI h s2 37 ((s1 ||| s0)))) rfl ?_
  refine Wp.br (fun c3 => ?_) (fun c3 => ?_)
  · replace K := K.1 c3
    refine Wp.blk (by decide) ol_147 49 2 (pc' := 92) (L' := [.ref 23, mk0, .int v2, .int v3, .int v4]) (S' := [.int (0 : Int32), .int (AI ((stI h s2 37 ((s1 ||| s0)))) 23 38), .ref 23]) (h' := (stI h s2 37 ((s1 ||| s0)))) rfl ?_
    exact K
  · replace K := K.2 c3
    refine Wp.blk (by decide) ol_147 51 2 (pc' := 86) (L' := [.ref 23, mk0, .int v2, .int v3, .int v4]) (S' := [.ref 23, .int (1 : Int32), .int (AI ((stI h s2 37 ((s1 ||| s0)))) 23 38), .ref 23]) (h' := (stI h s2 37 ((s1 ||| s0)))) rfl ?_
    refine Wp.getf (op_ix (by decide) ol_147 53 rfl) (okS HS 23 rfl rfl) (v := .ref 38) (congrArg va_rf (rS HS 23 33 rfl)) rfl ?_
    refine Wp.blk (by decide) ol_147 54 1 (pc' := 90) (L' := [.ref 23, mk0, .int v2, .int v3, .int v4]) (S' := [.int v3, .ref 38, .int (1 : Int32), .int (AI ((stI h s2 37 ((s1 ||| s0)))) 23 38), .ref 23]) (h' := (stI h s2 37 ((s1 ||| s0)))) rfl ?_
    obtain ⟨r4, K⟩ := K
    refine Wp.iald (op_ix (by decide) ol_147 55 rfl) (kS HS 38 rfl) (inS HS 38 rfl r4) rfl ?_
    refine Wp.blk (by decide) ol_147 56 1 (pc' := 92) (L' := [.ref 23, mk0, .int v2, .int v3, .int v4]) (S' := [.int (((1 : Int32)) <<< (((AI ((stI h s2 37 ((s1 ||| s0)))) 38 v3.toNatClampNeg)) &&& 31)), .int (AI ((stI h s2 37 ((s1 ||| s0)))) 23 38), .ref 23]) (h' := (stI h s2 37 ((s1 ||| s0)))) rfl ?_
    exact K
/-- CutsOrFastModel.readCode at 92 -/
theorem g147_92 (d : Nat) (v2 : Int32) (v3 : Int32) (v4 : Int32) (s0 : Int32) (s1 : Int32) (s2 : Nat) (h : AH) (HS : Sh h)  (Q : Option Value → AH → Prop) (K : (okC 12 (AK h s2).1 = true ∧ 2 ≤ s2 ∧ ((v4 = (0 : Int32) → Wp d 147 25 [.ref 23, mk0, .int v2, .int (v3 + (1 : Int32)), mk0] [] (stI ((stI h s2 38 ((s1 ||| s0)))) 23 39 ((((AI ((stI h s2 38 ((s1 ||| s0)))) 23 39)) + ((1 : Int32))))) Q) ∧ (¬ v4 = (0 : Int32) → Wp d 147 25 [.ref 23, mk0, .int v2, .int (v3 + (1 : Int32)), mk0] [] (stI ((stI h s2 38 ((s1 ||| s0)))) 23 39 ((((AI ((stI h s2 38 ((s1 ||| s0)))) 23 39)) + ((0 : Int32))))) Q)))) : Wp d 147 92 [.ref 23, mk0, .int v2, .int v3, .int v4] [.int s0, .int s1, .ref s2] h Q := by
  refine Wp.blk (by decide) ol_147 57 1 (pc' := 93) (L' := [.ref 23, mk0, .int v2, .int v3, .int v4]) (S' := [.int (s1 ||| s0), .ref s2]) (h' := h) rfl ?_
  obtain ⟨k1, K⟩ := K
  obtain ⟨b2, K⟩ := K
  refine Wp.putf (op_ix (by decide) ol_147 58 rfl) b2 k1 (h' := (stI h s2 38 ((s1 ||| s0)))) rfl rfl ?_
  refine Wp.blk (by decide) ol_147 59 2 (pc' := 98) (L' := [.ref 23, mk0, .int v2, .int v3, .int v4]) (S' := [.ref 23, .ref 23]) (h' := (stI h s2 38 ((s1 ||| s0)))) rfl ?_
  refine Wp.getf (op_ix (by decide) ol_147 61 rfl) (okS HS 23 rfl rfl) (v := .int (AI ((stI h s2 38 ((s1 ||| s0)))) 23 39)) rfl rfl ?_
  refine Wp.blk (by decide) ol_147 62 2 (pc' := (if v4 = (0 : Int32) then 106 else 110)) (L' := [.ref 23, mk0, .int v2, .int v3, .int v4]) (S' := [.int (AI ((stI h s2 38 ((s1 ||| s0)))) 23 39), .ref 23]) (h' := (stI h s2 38 ((s1 ||| s0)))) rfl ?_
  refine Wp.br (fun c3 => ?_) (fun c3 => ?_)
  · replace K := K.1 c3
    refine Wp.blk (by decide) ol_147 64 2 (pc' := 111) (L' := [.ref 23, mk0, .int v2, .int v3, .int v4]) (S' := [.int (1 : Int32), .int (AI ((stI h s2 38 ((s1 ||| s0)))) 23 39), .ref 23]) (h' := (stI h s2 38 ((s1 ||| s0)))) rfl ?_
    refine Wp.blk (by decide) ol_147 67 1 (pc' := 112) (L' := [.ref 23, mk0, .int v2, .int v3, .int v4]) (S' := [.int (((AI ((stI h s2 38 ((s1 ||| s0)))) 23 39)) + ((1 : Int32))), .ref 23]) (h' := (stI h s2 38 ((s1 ||| s0)))) rfl ?_
    refine Wp.putf (op_ix (by decide) ol_147 68 rfl) (by decide) (okS HS 23 rfl rfl) (h' := (stI ((stI h s2 38 ((s1 ||| s0)))) 23 39 ((((AI ((stI h s2 38 ((s1 ||| s0)))) 23 39)) + ((1 : Int32)))))) rfl rfl ?_
    refine Wp.blk (by decide) ol_147 69 2 (pc' := 25) (L' := [.ref 23, mk0, .int v2, .int (v3 + (1 : Int32)), .int v4]) (S' := []) (h' := (stI ((stI h s2 38 ((s1 ||| s0)))) 23 39 ((((AI ((stI h s2 38 ((s1 ||| s0)))) 23 39)) + ((1 : Int32)))))) rfl ?_
    refine Wp.forget (L := [.ref 23, mk0, .int v2, .int (v3 + (1 : Int32)), mk0]) (⟨Or.inr rfl, ⟨Or.inr rfl, ⟨Or.inr rfl, ⟨Or.inr rfl, ⟨Or.inl rfl, trivial⟩⟩⟩⟩⟩) ?_
    exact K
  · replace K := K.2 c3
    refine Wp.blk (by decide) ol_147 66 2 (pc' := 112) (L' := [.ref 23, mk0, .int v2, .int v3, .int v4]) (S' := [.int (((AI ((stI h s2 38 ((s1 ||| s0)))) 23 39)) + ((0 : Int32))), .ref 23]) (h' := (stI h s2 38 ((s1 ||| s0)))) rfl ?_
    refine Wp.putf (op_ix (by decide) ol_147 68 rfl) (by decide) (okS HS 23 rfl rfl) (h' := (stI ((stI h s2 38 ((s1 ||| s0)))) 23 39 ((((AI ((stI h s2 38 ((s1 ||| s0)))) 23 39)) + ((0 : Int32)))))) rfl rfl ?_
    refine Wp.blk (by decide) ol_147 69 2 (pc' := 25) (L' := [.ref 23, mk0, .int v2, .int (v3 + (1 : Int32)), .int v4]) (S' := []) (h' := (stI ((stI h s2 38 ((s1 ||| s0)))) 23 39 ((((AI ((stI h s2 38 ((s1 ||| s0)))) 23 39)) + ((0 : Int32)))))) rfl ?_
    refine Wp.forget (L := [.ref 23, mk0, .int v2, .int (v3 + (1 : Int32)), mk0]) (⟨Or.inr rfl, ⟨Or.inr rfl, ⟨Or.inr rfl, ⟨Or.inr rfl, ⟨Or.inl rfl, trivial⟩⟩⟩⟩⟩) ?_
    exact K
/-- CutsOrFastModel.figure at 0 (II)I -/
theorem g148_0 (d : Nat) (v0 : Int32) (v1 : Int32) (h : AH) (HS : Sh h)  (Q : Option Value → AH → Prop) (K : ((¬ v1 = 0) ∧ Q (some (.int ((v0 / v1) - (v0 / v1) / (3 : Int32) * (3 : Int32)))) h)) : Wp d 148 0 [.int v0, .int v1] [] h Q := by
  refine Wp.blk (by decide) ol_148 0 2 (pc' := 2) (L' := [.int v0, .int v1]) (S' := [.int v1, .int v0]) (h' := h) rfl ?_
  obtain ⟨z1, K⟩ := K
  refine Wp.div (op_ix (by decide) ol_148 2 rfl) z1 rfl ?_
  refine Wp.blk (by decide) ol_148 3 2 (pc' := 5) (L' := [.int v0, .int v1]) (S' := [.int ((v0 / v1) - (v0 / v1) / (3 : Int32) * (3 : Int32))]) (h' := h) rfl ?_
  exact Wp.ret (op_ix (by decide) ol_148 5 rfl) rfl K
/-- CutsOrFastModel.hasBy at 0 (II)Z -/
theorem g149_0 (d : Nat) (v1 : Int32) (v2 : Int32) (h : AH) (HS : Sh h)  (Q : Option Value → AH → Prop) (K : Wp d 149 8 [.ref 23, .int v1, .int v2, .int (0 : Int32), .int (1 : Int32), .int (0 : Int32), mk0] [] h Q) : Wp d 149 0 [.ref 23, .int v1, .int v2, mk0, mk0, mk0, mk0] [] h Q := by
  refine Wp.blk (by decide) ol_149 0 6 (pc' := 8) (L' := [.ref 23, .int v1, .int v2, .int (0 : Int32), .int (1 : Int32), .int (0 : Int32), mk0]) (S' := []) (h' := h) rfl ?_
  exact K
/-- CutsOrFastModel.hasBy at 8 -/
theorem g149_8 (d : Nat) (v1 : Int32) (v2 : Int32) (v3 : Int32) (v4 : Int32) (v5 : Int32) (h : AH) (HS : Sh h)  (Q : Option Value → AH → Prop) (K : ((v5 < (AI h 23 32) → (ixR v5 11 ∧ ((¬ (AI h 39 v5.toNatClampNeg) = 0) ∧ ((((v1 / (AI h 39 v5.toNatClampNeg)) - (v1 / (AI h 39 v5.toNatClampNeg)) / (3 : Int32) * (3 : Int32)) = (0 : Int32) → ((v2 = (0 : Int32) → Wp (d + 1) 149 46 [.ref 23, .int v1, .int v2, .int v3, .int v4, .int v5, mk0] [.int (1 : Int32), .int v1, .int (2 : Int32), .ref 40] h Q) ∧ (¬ v2 = (0 : Int32) → Wp (d + 1) 149 46 [.ref 23, .int v1, .int v2, .int v3, .int v4, .int v5, mk0] [.int (2 : Int32), .int v1, .int (2 : Int32), .ref 40] h Q))) ∧ (¬ ((v1 / (AI h 39 v5.toNatClampNeg)) - (v1 / (AI h 39 v5.toNatClampNeg)) / (3 : Int32) * (3 : Int32)) = (0 : Int32) → Wp (d + 1) 149 8 [.ref 23, .int v1, .int v2, .int v3, .int v4, .int (v5 + (1 : Int32)), mk0] [] h Q))))) ∧ (¬ v5 < (AI h 23 32) → ((v2 = (0 : Int32) → ((v3 = 0 ∨ v3 = 1) ∧ Q (some (.int v3)) h)) ∧ (¬ v2 = (0 : Int32) → ((v4 = 0 ∨ v4 = 1) ∧ Q (some (.int v4)) h)))))) : Wp (d + 1) 149 8 [.ref 23, .int v1, .int v2, .int v3, .int v4, .int v5, mk0] [] h Q := by
  refine Wp.blk (by decide) ol_149 6 2 (pc' := 11) (L' := [.ref 23, .int v1, .int v2, .int v3, .int v4, .int v5, mk0]) (S' := [.ref 23, .int v5]) (h' := h) rfl ?_
  refine Wp.getf (op_ix (by decide) ol_149 8 rfl) (okS HS 23 rfl rfl) (v := .int (AI h 23 32)) rfl rfl ?_
  refine Wp.blk (by decide) ol_149 9 1 (pc' := (if v5 < (AI h 23 32) then 17 else 101)) (L' := [.ref 23, .int v1, .int v2, .int v3, .int v4, .int v5, mk0]) (S' := []) (h' := h) rfl ?_
  refine Wp.br (fun c1 => ?_) (fun c1 => ?_)
  · replace K := K.1 c1
    refine Wp.blk (by decide) ol_149 10 2 (pc' := 19) (L' := [.ref 23, .int v1, .int v2, .int v3, .int v4, .int v5, mk0]) (S' := [.ref 23, .int v1]) (h' := h) rfl ?_
    refine Wp.getf (op_ix (by decide) ol_149 12 rfl) (okS HS 23 rfl rfl) (v := .ref 39) (congrArg va_rf (rS HS 23 34 rfl)) rfl ?_
    refine Wp.blk (by decide) ol_149 13 1 (pc' := 24) (L' := [.ref 23, .int v1, .int v2, .int v3, .int v4, .int v5, mk0]) (S' := [.int v5, .ref 39, .int v1]) (h' := h) rfl ?_
    obtain ⟨r2, K⟩ := K
    refine Wp.iald (op_ix (by decide) ol_149 14 rfl) (kS HS 39 rfl) (inS HS 39 rfl r2) rfl ?_
    refine Wp.callI (op_ix (by decide) ol_149 15 rfl) rfl rfl (Cl.enter (L := [.int v1, .int (AI h 39 v5.toNatClampNeg)]) rfl ?_)
    refine Wp.blk (by decide) ol_148 0 2 (pc' := 2) (L' := [.int v1, .int (AI h 39 v5.toNatClampNeg)]) (S' := [.int (AI h 39 v5.toNatClampNeg), .int v1]) (h' := h) rfl ?_
    obtain ⟨z3, K⟩ := K
    refine Wp.div (op_ix (by decide) ol_148 2 rfl) z3 rfl ?_
    refine Wp.blk (by decide) ol_148 3 2 (pc' := 5) (L' := [.int v1, .int (AI h 39 v5.toNatClampNeg)]) (S' := [.int ((v1 / (AI h 39 v5.toNatClampNeg)) - (v1 / (AI h 39 v5.toNatClampNeg)) / (3 : Int32) * (3 : Int32))]) (h' := h) rfl ?_
    refine Wp.ret (op_ix (by decide) ol_148 5 rfl) rfl ⟨_, rfl, ?_⟩
    refine Wp.blk (by decide) ol_149 16 1 (pc' := (if ((v1 / (AI h 39 v5.toNatClampNeg)) - (v1 / (AI h 39 v5.toNatClampNeg)) / (3 : Int32) * (3 : Int32)) = (0 : Int32) then 31 else 95)) (L' := [.ref 23, .int v1, .int v2, .int v3, .int v4, .int v5, mk0]) (S' := []) (h' := h) rfl ?_
    refine Wp.br (fun c4 => ?_) (fun c4 => ?_)
    · replace K := K.1 c4
      refine Wp.blk (by decide) ol_149 17 1 (pc' := 32) (L' := [.ref 23, .int v1, .int v2, .int v3, .int v4, .int v5, mk0]) (S' := [.ref 23]) (h' := h) rfl ?_
      refine Wp.getf (op_ix (by decide) ol_149 18 rfl) (okS HS 23 rfl rfl) (v := .ref 40) (congrArg va_rf (rS HS 23 36 rfl)) rfl ?_
      refine Wp.blk (by decide) ol_149 19 4 (pc' := (if v2 = (0 : Int32) then 41 else 45)) (L' := [.ref 23, .int v1, .int v2, .int v3, .int v4, .int v5, mk0]) (S' := [.int v1, .int (2 : Int32), .ref 40]) (h' := h) rfl ?_
      refine Wp.br (fun c5 => ?_) (fun c5 => ?_)
      · replace K := K.1 c5
        refine Wp.blk (by decide) ol_149 23 2 (pc' := 46) (L' := [.ref 23, .int v1, .int v2, .int v3, .int v4, .int v5, mk0]) (S' := [.int (1 : Int32), .int v1, .int (2 : Int32), .ref 40]) (h' := h) rfl ?_
        exact K
      · replace K := K.2 c5
        refine Wp.blk (by decide) ol_149 25 1 (pc' := 46) (L' := [.ref 23, .int v1, .int v2, .int v3, .int v4, .int v5, mk0]) (S' := [.int (2 : Int32), .int v1, .int (2 : Int32), .ref 40]) (h' := h) rfl ?_
        exact K
    · replace K := K.2 c4
      refine Wp.blk (by decide) ol_149 55 2 (pc' := 8) (L' := [.ref 23, .int v1, .int v2, .int v3, .int v4, .int (v5 + (1 : Int32)), mk0]) (S' := []) (h' := h) rfl ?_
      exact K
  · replace K := K.2 c1
    refine Wp.blk (by decide) ol_149 57 2 (pc' := (if v2 = (0 : Int32) then 105 else 109)) (L' := [.ref 23, .int v1, .int v2, .int v3, .int v4, .int v5, mk0]) (S' := []) (h' := h) rfl ?_
    refine Wp.br (fun c6 => ?_) (fun c6 => ?_)
    · replace K := K.1 c6
      refine Wp.blk (by decide) ol_149 59 2 (pc' := 111) (L' := [.ref 23, .int v1, .int v2, .int v3, .int v4, .int v5, mk0]) (S' := [.int v3]) (h' := h) rfl ?_
      obtain ⟨b7, K⟩ := K
      exact Wp.retB (op_ix (by decide) ol_149 62 rfl) rfl b7 K
    · replace K := K.2 c6
      refine Wp.blk (by decide) ol_149 61 1 (pc' := 111) (L' := [.ref 23, .int v1, .int v2, .int v3, .int v4, .int v5, mk0]) (S' := [.int v4]) (h' := h) rfl ?_
      obtain ⟨b8, K⟩ := K
      exact Wp.retB (op_ix (by decide) ol_149 62 rfl) rfl b8 K
/-- CutsOrFastModel.hasBy at 46 -/
theorem g149_46 (d : Nat) (v1 : Int32) (v2 : Int32) (v3 : Int32) (v4 : Int32) (v5 : Int32) (s0 : Int32) (s1 : Int32) (s2 : Int32) (s3 : Nat) (h : AH) (HS : Sh h)  (Q : Option Value → AH → Prop) (K : (ixR v5 11 ∧ (AK h s3).1 = 23 ∧ inR h s3 ((((((s2 * ((s1 + ((s0 * ((AI h 39 v5.toNatClampNeg)))))))) + ((1 : Int32)))) - v2)) = true ∧ ((v3 = (0 : Int32) → (((AI h s3 ((((((s2 * ((s1 + ((s0 * ((AI h 39 v5.toNatClampNeg)))))))) + ((1 : Int32)))) - v2)).toNatClampNeg) = (0 : Int32) → Wp d 149 77 [.ref 23, .int v1, .int v2, mk0, .int v4, .int v5, .int (AI h s3 ((((((s2 * ((s1 + ((s0 * ((AI h 39 v5.toNatClampNeg)))))))) + ((1 : Int32)))) - v2)).toNatClampNeg)] [.int (0 : Int32)] h Q) ∧ (¬ (AI h s3 ((((((s2 * ((s1 + ((s0 * ((AI h 39 v5.toNatClampNeg)))))))) + ((1 : Int32)))) - v2)).toNatClampNeg) = (0 : Int32) → Wp d 149 77 [.ref 23, .int v1, .int v2, mk0, .int v4, .int v5, .int (AI h s3 ((((((s2 * ((s1 + ((s0 * ((AI h 39 v5.toNatClampNeg)))))))) + ((1 : Int32)))) - v2)).toNatClampNeg)] [.int (1 : Int32)] h Q))) ∧ (¬ v3 = (0 : Int32) → Wp d 149 77 [.ref 23, .int v1, .int v2, mk0, .int v4, .int v5, .int (AI h s3 ((((((s2 * ((s1 + ((s0 * ((AI h 39 v5.toNatClampNeg)))))))) + ((1 : Int32)))) - v2)).toNatClampNeg)] [.int (1 : Int32)] h Q)))) : Wp d 149 46 [.ref 23, .int v1, .int v2, .int v3, .int v4, .int v5, mk0] [.int s0, .int s1, .int s2, .ref s3] h Q := by
  refine Wp.blk (by decide) ol_149 26 1 (pc' := 47) (L' := [.ref 23, .int v1, .int v2, .int v3, .int v4, .int v5, mk0]) (S' := [.ref 23, .int s0, .int s1, .int s2, .ref s3]) (h' := h) rfl ?_
  refine Wp.getf (op_ix (by decide) ol_149 27 rfl) (okS HS 23 rfl rfl) (v := .ref 39) (congrArg va_rf (rS HS 23 34 rfl)) rfl ?_
  refine Wp.blk (by decide) ol_149 28 1 (pc' := 52) (L' := [.ref 23, .int v1, .int v2, .int v3, .int v4, .int v5, mk0]) (S' := [.int v5, .ref 39, .int s0, .int s1, .int s2, .ref s3]) (h' := h) rfl ?_
  obtain ⟨r1, K⟩ := K
  refine Wp.iald (op_ix (by decide) ol_149 29 rfl) (kS HS 39 rfl) (inS HS 39 rfl r1) rfl ?_
  refine Wp.blk (by decide) ol_149 30 7 (pc' := 60) (L' := [.ref 23, .int v1, .int v2, .int v3, .int v4, .int v5, mk0]) (S' := [.int (((((s2 * ((s1 + ((s0 * ((AI h 39 v5.toNatClampNeg)))))))) + ((1 : Int32)))) - v2), .ref s3]) (h' := h) rfl ?_
  obtain ⟨k2, K⟩ := K
  obtain ⟨r3, K⟩ := K
  refine Wp.bald (op_ix (by decide) ol_149 37 rfl) (Or.inr k2) r3 rfl ?_
  refine Wp.blk (by decide) ol_149 38 3 (pc' := (if v3 = (0 : Int32) then 67 else 72)) (L' := [.ref 23, .int v1, .int v2, .int v3, .int v4, .int v5, .int (AI h s3 ((((((s2 * ((s1 + ((s0 * ((AI h 39 v5.toNatClampNeg)))))))) + ((1 : Int32)))) - v2)).toNatClampNeg)]) (S' := []) (h' := h) rfl ?_
  refine Wp.br (fun c4 => ?_) (fun c4 => ?_)
  · replace K := K.1 c4
    refine Wp.blk (by decide) ol_149 41 2 (pc' := (if (AI h s3 ((((((s2 * ((s1 + ((s0 * ((AI h 39 v5.toNatClampNeg)))))))) + ((1 : Int32)))) - v2)).toNatClampNeg) = (0 : Int32) then 76 else 72)) (L' := [.ref 23, .int v1, .int v2, .int v3, .int v4, .int v5, .int (AI h s3 ((((((s2 * ((s1 + ((s0 * ((AI h 39 v5.toNatClampNeg)))))))) + ((1 : Int32)))) - v2)).toNatClampNeg)]) (S' := []) (h' := h) rfl ?_
    refine Wp.br (fun c5 => ?_) (fun c5 => ?_)
    · replace K := K.1 c5
      refine Wp.blk (by decide) ol_149 45 1 (pc' := 77) (L' := [.ref 23, .int v1, .int v2, .int v3, .int v4, .int v5, .int (AI h s3 ((((((s2 * ((s1 + ((s0 * ((AI h 39 v5.toNatClampNeg)))))))) + ((1 : Int32)))) - v2)).toNatClampNeg)]) (S' := [.int (0 : Int32)]) (h' := h) rfl ?_
      refine Wp.forget (L := [.ref 23, .int v1, .int v2, mk0, .int v4, .int v5, .int (AI h s3 ((((((s2 * ((s1 + ((s0 * ((AI h 39 v5.toNatClampNeg)))))))) + ((1 : Int32)))) - v2)).toNatClampNeg)]) (⟨Or.inr rfl, ⟨Or.inr rfl, ⟨Or.inr rfl, ⟨Or.inl rfl, ⟨Or.inr rfl, ⟨Or.inr rfl, ⟨Or.inr rfl, trivial⟩⟩⟩⟩⟩⟩⟩) ?_
      exact K
    · replace K := K.2 c5
      refine Wp.blk (by decide) ol_149 43 2 (pc' := 77) (L' := [.ref 23, .int v1, .int v2, .int v3, .int v4, .int v5, .int (AI h s3 ((((((s2 * ((s1 + ((s0 * ((AI h 39 v5.toNatClampNeg)))))))) + ((1 : Int32)))) - v2)).toNatClampNeg)]) (S' := [.int (1 : Int32)]) (h' := h) rfl ?_
      refine Wp.forget (L := [.ref 23, .int v1, .int v2, mk0, .int v4, .int v5, .int (AI h s3 ((((((s2 * ((s1 + ((s0 * ((AI h 39 v5.toNatClampNeg)))))))) + ((1 : Int32)))) - v2)).toNatClampNeg)]) (⟨Or.inr rfl, ⟨Or.inr rfl, ⟨Or.inr rfl, ⟨Or.inl rfl, ⟨Or.inr rfl, ⟨Or.inr rfl, ⟨Or.inr rfl, trivial⟩⟩⟩⟩⟩⟩⟩) ?_
      exact K
  · replace K := K.2 c4
    refine Wp.blk (by decide) ol_149 43 2 (pc' := 77) (L' := [.ref 23, .int v1, .int v2, .int v3, .int v4, .int v5, .int (AI h s3 ((((((s2 * ((s1 + ((s0 * ((AI h 39 v5.toNatClampNeg)))))))) + ((1 : Int32)))) - v2)).toNatClampNeg)]) (S' := [.int (1 : Int32)]) (h' := h) rfl ?_
    refine Wp.forget (L := [.ref 23, .int v1, .int v2, mk0, .int v4, .int v5, .int (AI h s3 ((((((s2 * ((s1 + ((s0 * ((AI h 39 v5.toNatClampNeg)))))))) + ((1 : Int32)))) - v2)).toNatClampNeg)]) (⟨Or.inr rfl, ⟨Or.inr rfl, ⟨Or.inr rfl, ⟨Or.inl rfl, ⟨Or.inr rfl, ⟨Or.inr rfl, ⟨Or.inr rfl, trivial⟩⟩⟩⟩⟩⟩⟩) ?_
    exact K
/-- CutsOrFastModel.hasBy at 77 -/
theorem g149_77 (d : Nat) (v1 : Int32) (v2 : Int32) (v4 : Int32) (v5 : Int32) (v6 : Int32) (s0 : Int32) (h : AH) (HS : Sh h)  (Q : Option Value → AH → Prop) (K : ((v4 = (0 : Int32) → Wp d 149 8 [.ref 23, .int v1, .int v2, .int s0, .int (0 : Int32), .int (v5 + (1 : Int32)), mk0] [] h Q) ∧ (¬ v4 = (0 : Int32) → ((v6 = (0 : Int32) → Wp d 149 8 [.ref 23, .int v1, .int v2, .int s0, .int (0 : Int32), .int (v5 + (1 : Int32)), mk0] [] h Q) ∧ (¬ v6 = (0 : Int32) → Wp d 149 8 [.ref 23, .int v1, .int v2, .int s0, .int (1 : Int32), .int (v5 + (1 : Int32)), mk0] [] h Q))))) : Wp d 149 77 [.ref 23, .int v1, .int v2, mk0, .int v4, .int v5, .int v6] [.int s0] h Q := by
  refine Wp.blk (by decide) ol_149 46 3 (pc' := (if v4 = (0 : Int32) then 92 else 83)) (L' := [.ref 23, .int v1, .int v2, .int s0, .int v4, .int v5, .int v6]) (S' := []) (h' := h) rfl ?_
  refine Wp.br (fun c1 => ?_) (fun c1 => ?_)
  · replace K := K.1 c1
    refine Wp.blk (by decide) ol_149 53 4 (pc' := 8) (L' := [.ref 23, .int v1, .int v2, .int s0, .int (0 : Int32), .int (v5 + (1 : Int32)), .int v6]) (S' := []) (h' := h) rfl ?_
    refine Wp.forget (L := [.ref 23, .int v1, .int v2, .int s0, .int (0 : Int32), .int (v5 + (1 : Int32)), mk0]) (⟨Or.inr rfl, ⟨Or.inr rfl, ⟨Or.inr rfl, ⟨Or.inr rfl, ⟨Or.inr rfl, ⟨Or.inr rfl, ⟨Or.inl rfl, trivial⟩⟩⟩⟩⟩⟩⟩) ?_
    exact K
  · replace K := K.2 c1
    refine Wp.blk (by decide) ol_149 49 2 (pc' := (if v6 = (0 : Int32) then 92 else 88)) (L' := [.ref 23, .int v1, .int v2, .int s0, .int v4, .int v5, .int v6]) (S' := []) (h' := h) rfl ?_
    refine Wp.br (fun c2 => ?_) (fun c2 => ?_)
    · replace K := K.1 c2
      refine Wp.blk (by decide) ol_149 53 4 (pc' := 8) (L' := [.ref 23, .int v1, .int v2, .int s0, .int (0 : Int32), .int (v5 + (1 : Int32)), .int v6]) (S' := []) (h' := h) rfl ?_
      refine Wp.forget (L := [.ref 23, .int v1, .int v2, .int s0, .int (0 : Int32), .int (v5 + (1 : Int32)), mk0]) (⟨Or.inr rfl, ⟨Or.inr rfl, ⟨Or.inr rfl, ⟨Or.inr rfl, ⟨Or.inr rfl, ⟨Or.inr rfl, ⟨Or.inl rfl, trivial⟩⟩⟩⟩⟩⟩⟩) ?_
      exact K
    · replace K := K.2 c2
      refine Wp.blk (by decide) ol_149 51 2 (pc' := 93) (L' := [.ref 23, .int v1, .int v2, .int s0, .int v4, .int v5, .int v6]) (S' := [.int (1 : Int32)]) (h' := h) rfl ?_
      refine Wp.blk (by decide) ol_149 54 3 (pc' := 8) (L' := [.ref 23, .int v1, .int v2, .int s0, .int (1 : Int32), .int (v5 + (1 : Int32)), .int v6]) (S' := []) (h' := h) rfl ?_
      refine Wp.forget (L := [.ref 23, .int v1, .int v2, .int s0, .int (1 : Int32), .int (v5 + (1 : Int32)), mk0]) (⟨Or.inr rfl, ⟨Or.inr rfl, ⟨Or.inr rfl, ⟨Or.inr rfl, ⟨Or.inr rfl, ⟨Or.inr rfl, ⟨Or.inl rfl, trivial⟩⟩⟩⟩⟩⟩⟩) ?_
      exact K
/-- CutsOrFastModel.laySolved at 0 (I)V -/
theorem g150_0 (d : Nat) (v1 : Int32) (h : AH) (HS : Sh h)  (Q : Option Value → AH → Prop) (K : (Cl d 146 [.ref 23, .int v1] h (fun r h1 => r = none ∧ Sh h1 ∧ (ixR ((AI h1 23 32)) 11 ∧ Wp (d + 1) 150 17 [.ref 23, mk0, .int (((AI h1 39 ((AI h1 23 32)).toNatClampNeg)) - ((1 : Int32))), mk0, mk0, mk0] [] h1 Q)))) : Wp (d + 1) 150 0 [.ref 23, .int v1, mk0, mk0, mk0, mk0] [] h Q := by
  refine Wp.blk (by decide) ol_150 0 2 (pc' := 2) (L' := [.ref 23, .int v1, mk0, mk0, mk0, mk0]) (S' := [.int v1, .ref 23]) (h' := h) rfl ?_
  refine Wp.callV (op_ix (by decide) ol_150 2 rfl) (act_virt (c2 := 1) rfl (lk1 (kS HS 23 rfl)) rfl) rfl (K.mono ?_)
  rintro _ h1 ⟨rfl, hs2, K⟩
  refine ⟨rfl, ?_⟩
  refine Wp.blk (by decide) ol_150 3 1 (pc' := 6) (L' := [.ref 23, .int v1, mk0, mk0, mk0, mk0]) (S' := [.ref 23]) (h' := h1) rfl ?_
  refine Wp.getf (op_ix (by decide) ol_150 4 rfl) (okS hs2 23 rfl rfl) (v := .ref 39) (congrArg va_rf (rS hs2 23 34 rfl)) rfl ?_
  refine Wp.blk (by decide) ol_150 5 1 (pc' := 10) (L' := [.ref 23, .int v1, mk0, mk0, mk0, mk0]) (S' := [.ref 23, .ref 39]) (h' := h1) rfl ?_
  refine Wp.getf (op_ix (by decide) ol_150 6 rfl) (okS hs2 23 rfl rfl) (v := .int (AI h1 23 32)) rfl rfl ?_
  obtain ⟨r3, K⟩ := K
  refine Wp.iald (op_ix (by decide) ol_150 7 rfl) (kS hs2 39 rfl) (inS hs2 39 rfl r3) rfl ?_
  refine Wp.blk (by decide) ol_150 8 3 (pc' := 17) (L' := [.ref 23, .int v1, .int (((AI h1 39 ((AI h1 23 32)).toNatClampNeg)) - ((1 : Int32))), mk0, mk0, mk0]) (S' := []) (h' := h1) rfl ?_
  refine Wp.forget (L := [.ref 23, mk0, .int (((AI h1 39 ((AI h1 23 32)).toNatClampNeg)) - ((1 : Int32))), mk0, mk0, mk0]) (⟨Or.inr rfl, ⟨Or.inl rfl, ⟨Or.inr rfl, ⟨Or.inr rfl, ⟨Or.inr rfl, ⟨Or.inr rfl, trivial⟩⟩⟩⟩⟩⟩) ?_
  exact K
/-- CutsOrFastModel.laySolved at 17 -/
theorem g150_17 (d : Nat) (v2 : Int32) (h : AH) (HS : Sh h)  (Q : Option Value → AH → Prop) (K : ((v2 < (0 : Int32) → Q none h) ∧ (¬ v2 < (0 : Int32) → (Cl d 147 [.ref 23, .int v2] h (fun r h2 => r = none ∧ Sh h2 ∧ (ixR ((AI h2 23 37)) 1024 ∧ ixR ((AI h2 23 38)) 1024 ∧ (((AI h2 37 ((AI h2 23 38)).toNatClampNeg) = (0 : Int32) → Wp (d + 1) 150 58 [.ref 23, mk0, .int v2, .int (AI h2 37 ((AI h2 23 37)).toNatClampNeg), .int (1 : Int32), .int (0 : Int32)] [] h2 Q) ∧ (¬ (AI h2 37 ((AI h2 23 38)).toNatClampNeg) = (0 : Int32) → Wp (d + 1) 150 58 [.ref 23, mk0, .int v2, .int (AI h2 37 ((AI h2 23 37)).toNatClampNeg), .int (0 : Int32), .int (0 : Int32)] [] h2 Q)))))))) : Wp (d + 1) 150 17 [.ref 23, mk0, .int v2, mk0, mk0, mk0] [] h Q := by
  refine Wp.blk (by decide) ol_150 11 2 (pc' := (if v2 < (0 : Int32) then 111 else 21)) (L' := [.ref 23, mk0, .int v2, mk0, mk0, mk0]) (S' := []) (h' := h) rfl ?_
  refine Wp.br (fun c1 => ?_) (fun c1 => ?_)
  · replace K := K.1 c1
    exact Wp.ret (op_ix (by decide) ol_150 61 rfl) rfl K
  · replace K := K.2 c1
    refine Wp.blk (by decide) ol_150 13 2 (pc' := 23) (L' := [.ref 23, mk0, .int v2, mk0, mk0, mk0]) (S' := [.int v2, .ref 23]) (h' := h) rfl ?_
    refine Wp.callV (op_ix (by decide) ol_150 15 rfl) (act_virt (c2 := 1) rfl (lk1 (kS HS 23 rfl)) rfl) rfl (K.mono ?_)
    rintro _ h2 ⟨rfl, hs3, K⟩
    refine ⟨rfl, ?_⟩
    refine Wp.blk (by decide) ol_150 16 1 (pc' := 27) (L' := [.ref 23, mk0, .int v2, mk0, mk0, mk0]) (S' := [.ref 23]) (h' := h2) rfl ?_
    refine Wp.getf (op_ix (by decide) ol_150 17 rfl) (okS hs3 23 rfl rfl) (v := .ref 37) (congrArg va_rf (rS hs3 23 31 rfl)) rfl ?_
    refine Wp.blk (by decide) ol_150 18 1 (pc' := 31) (L' := [.ref 23, mk0, .int v2, mk0, mk0, mk0]) (S' := [.ref 23, .ref 37]) (h' := h2) rfl ?_
    refine Wp.getf (op_ix (by decide) ol_150 19 rfl) (okS hs3 23 rfl rfl) (v := .int (AI h2 23 37)) rfl rfl ?_
    obtain ⟨r4, K⟩ := K
    refine Wp.bald (op_ix (by decide) ol_150 20 rfl) (Or.inr (kS hs3 37 rfl)) (inS hs3 37 rfl r4) rfl ?_
    refine Wp.blk (by decide) ol_150 21 2 (pc' := 37) (L' := [.ref 23, mk0, .int v2, .int (AI h2 37 ((AI h2 23 37)).toNatClampNeg), mk0, mk0]) (S' := [.ref 23]) (h' := h2) rfl ?_
    refine Wp.getf (op_ix (by decide) ol_150 23 rfl) (okS hs3 23 rfl rfl) (v := .ref 37) (congrArg va_rf (rS hs3 23 31 rfl)) rfl ?_
    refine Wp.blk (by decide) ol_150 24 1 (pc' := 41) (L' := [.ref 23, mk0, .int v2, .int (AI h2 37 ((AI h2 23 37)).toNatClampNeg), mk0, mk0]) (S' := [.ref 23, .ref 37]) (h' := h2) rfl ?_
    refine Wp.getf (op_ix (by decide) ol_150 25 rfl) (okS hs3 23 rfl rfl) (v := .int (AI h2 23 38)) rfl rfl ?_
    obtain ⟨r5, K⟩ := K
    refine Wp.bald (op_ix (by decide) ol_150 26 rfl) (Or.inr (kS hs3 37 rfl)) (inS hs3 37 rfl r5) rfl ?_
    refine Wp.blk (by decide) ol_150 27 1 (pc' := (if (AI h2 37 ((AI h2 23 38)).toNatClampNeg) = (0 : Int32) then 48 else 52)) (L' := [.ref 23, mk0, .int v2, .int (AI h2 37 ((AI h2 23 37)).toNatClampNeg), mk0, mk0]) (S' := []) (h' := h2) rfl ?_
    refine Wp.br (fun c6 => ?_) (fun c6 => ?_)
    · replace K := K.1 c6
      refine Wp.blk (by decide) ol_150 28 2 (pc' := 53) (L' := [.ref 23, mk0, .int v2, .int (AI h2 37 ((AI h2 23 37)).toNatClampNeg), mk0, mk0]) (S' := [.int (1 : Int32)]) (h' := h2) rfl ?_
      refine Wp.blk (by decide) ol_150 31 3 (pc' := 58) (L' := [.ref 23, mk0, .int v2, .int (AI h2 37 ((AI h2 23 37)).toNatClampNeg), .int (1 : Int32), .int (0 : Int32)]) (S' := []) (h' := h2) rfl ?_
      exact K
    · replace K := K.2 c6
      refine Wp.blk (by decide) ol_150 30 4 (pc' := 58) (L' := [.ref 23, mk0, .int v2, .int (AI h2 37 ((AI h2 23 37)).toNatClampNeg), .int (0 : Int32), .int (0 : Int32)]) (S' := []) (h' := h2) rfl ?_
      exact K
/-- CutsOrFastModel.laySolved at 58 -/
theorem g150_58 (d : Nat) (v2 : Int32) (v3 : Int32) (v4 : Int32) (v5 : Int32) (h : AH) (HS : Sh h)  (Q : Option Value → AH → Prop) (K : ((v5 < (2 : Int32) → ((v3 = (0 : Int32) → ((v4 = (0 : Int32) → (Cl d 149 [.ref 23, .int v2, .int v5] h (fun r h4 => ∃ x6 : Int32, r = some (.int x6) ∧ Sh h4 ∧ ((x6 = (0 : Int32) → (ixR ((((((2 : Int32)) * v2)) + v5)) 118098 ∧ Wp (d + 1) 150 58 [.ref 23, mk0, .int v2, .int v3, .int v4, .int (v5 + (1 : Int32))] [] (stI h4 40 ((((((2 : Int32)) * v2)) + v5)).toNatClampNeg (vp_nar .boolean ((0 : Int32)))) Q)) ∧ (¬ x6 = (0 : Int32) → (ixR ((((((2 : Int32)) * v2)) + v5)) 118098 ∧ Wp (d + 1) 150 58 [.ref 23, mk0, .int v2, .int v3, .int v4, .int (v5 + (1 : Int32))] [] (stI h4 40 ((((((2 : Int32)) * v2)) + v5)).toNatClampNeg (vp_nar .boolean ((1 : Int32)))) Q)))))) ∧ (¬ v4 = (0 : Int32) → (ixR ((((((2 : Int32)) * v2)) + v5)) 118098 ∧ Wp (d + 1) 150 58 [.ref 23, mk0, .int v2, .int v3, .int v4, .int (v5 + (1 : Int32))] [] (stI h 40 ((((((2 : Int32)) * v2)) + v5)).toNatClampNeg (vp_nar .boolean ((0 : Int32)))) Q)))) ∧ (¬ v3 = (0 : Int32) → (ixR ((((((2 : Int32)) * v2)) + v5)) 118098 ∧ Wp (d + 1) 150 58 [.ref 23, mk0, .int v2, .int v3, .int v4, .int (v5 + (1 : Int32))] [] (stI h 40 ((((((2 : Int32)) * v2)) + v5)).toNatClampNeg (vp_nar .boolean ((1 : Int32)))) Q)))) ∧ (¬ v5 < (2 : Int32) → Wp (d + 1) 150 17 [.ref 23, mk0, .int (v2 + (-1 : Int32)), mk0, mk0, mk0] [] h Q))) : Wp (d + 1) 150 58 [.ref 23, mk0, .int v2, .int v3, .int v4, .int v5] [] h Q := by
  refine Wp.blk (by decide) ol_150 34 3 (pc' := (if v5 < (2 : Int32) then 64 else 105)) (L' := [.ref 23, mk0, .int v2, .int v3, .int v4, .int v5]) (S' := []) (h' := h) rfl ?_
  refine Wp.br (fun c1 => ?_) (fun c1 => ?_)
  · replace K := K.1 c1
    refine Wp.blk (by decide) ol_150 37 1 (pc' := 65) (L' := [.ref 23, mk0, .int v2, .int v3, .int v4, .int v5]) (S' := [.ref 23]) (h' := h) rfl ?_
    refine Wp.getf (op_ix (by decide) ol_150 38 rfl) (okS HS 23 rfl rfl) (v := .ref 40) (congrArg va_rf (rS HS 23 36 rfl)) rfl ?_
    refine Wp.blk (by decide) ol_150 39 7 (pc' := (if v3 = (0 : Int32) then 78 else 93)) (L' := [.ref 23, mk0, .int v2, .int v3, .int v4, .int v5]) (S' := [.int (((((2 : Int32)) * v2)) + v5), .ref 40]) (h' := h) rfl ?_
    refine Wp.br (fun c2 => ?_) (fun c2 => ?_)
    · replace K := K.1 c2
      refine Wp.blk (by decide) ol_150 46 2 (pc' := (if v4 = (0 : Int32) then 83 else 97)) (L' := [.ref 23, mk0, .int v2, .int v3, .int v4, .int v5]) (S' := [.int (((((2 : Int32)) * v2)) + v5), .ref 40]) (h' := h) rfl ?_
      refine Wp.br (fun c3 => ?_) (fun c3 => ?_)
      · replace K := K.1 c3
        refine Wp.blk (by decide) ol_150 48 3 (pc' := 87) (L' := [.ref 23, mk0, .int v2, .int v3, .int v4, .int v5]) (S' := [.int v5, .int v2, .ref 23, .int (((((2 : Int32)) * v2)) + v5), .ref 40]) (h' := h) rfl ?_
        refine Wp.callI (op_ix (by decide) ol_150 51 rfl) (act_virt (c2 := 2) rfl (lk1 (kS HS 23 rfl)) rfl) rfl (K.mono ?_)
        rintro _ h4 ⟨x6, rfl, hs5, K⟩
        refine ⟨x6, rfl, ?_⟩
        refine Wp.blk (by decide) ol_150 52 1 (pc' := (if x6 = (0 : Int32) then 97 else 93)) (L' := [.ref 23, mk0, .int v2, .int v3, .int v4, .int v5]) (S' := [.int (((((2 : Int32)) * v2)) + v5), .ref 40]) (h' := h4) rfl ?_
        refine Wp.br (fun c7 => ?_) (fun c7 => ?_)
        · replace K := K.1 c7
          refine Wp.blk (by decide) ol_150 55 1 (pc' := 98) (L' := [.ref 23, mk0, .int v2, .int v3, .int v4, .int v5]) (S' := [.int (0 : Int32), .int (((((2 : Int32)) * v2)) + v5), .ref 40]) (h' := h4) rfl ?_
          obtain ⟨r8, K⟩ := K
          refine Wp.zast (op_ix (by decide) ol_150 56 rfl) (by decide) (kS hs5 40 rfl) (inS hs5 40 rfl r8) rfl ?_
          refine Wp.blk (by decide) ol_150 57 2 (pc' := 58) (L' := [.ref 23, mk0, .int v2, .int v3, .int v4, .int (v5 + (1 : Int32))]) (S' := []) (h' := (stI h4 40 ((((((2 : Int32)) * v2)) + v5)).toNatClampNeg (vp_nar .boolean ((0 : Int32))))) rfl ?_
          exact K
        · replace K := K.2 c7
          refine Wp.blk (by decide) ol_150 53 2 (pc' := 98) (L' := [.ref 23, mk0, .int v2, .int v3, .int v4, .int v5]) (S' := [.int (1 : Int32), .int (((((2 : Int32)) * v2)) + v5), .ref 40]) (h' := h4) rfl ?_
          obtain ⟨r9, K⟩ := K
          refine Wp.zast (op_ix (by decide) ol_150 56 rfl) (by decide) (kS hs5 40 rfl) (inS hs5 40 rfl r9) rfl ?_
          refine Wp.blk (by decide) ol_150 57 2 (pc' := 58) (L' := [.ref 23, mk0, .int v2, .int v3, .int v4, .int (v5 + (1 : Int32))]) (S' := []) (h' := (stI h4 40 ((((((2 : Int32)) * v2)) + v5)).toNatClampNeg (vp_nar .boolean ((1 : Int32))))) rfl ?_
          exact K
      · replace K := K.2 c3
        refine Wp.blk (by decide) ol_150 55 1 (pc' := 98) (L' := [.ref 23, mk0, .int v2, .int v3, .int v4, .int v5]) (S' := [.int (0 : Int32), .int (((((2 : Int32)) * v2)) + v5), .ref 40]) (h' := h) rfl ?_
        obtain ⟨r10, K⟩ := K
        refine Wp.zast (op_ix (by decide) ol_150 56 rfl) (by decide) (kS HS 40 rfl) (inS HS 40 rfl r10) rfl ?_
        refine Wp.blk (by decide) ol_150 57 2 (pc' := 58) (L' := [.ref 23, mk0, .int v2, .int v3, .int v4, .int (v5 + (1 : Int32))]) (S' := []) (h' := (stI h 40 ((((((2 : Int32)) * v2)) + v5)).toNatClampNeg (vp_nar .boolean ((0 : Int32))))) rfl ?_
        exact K
    · replace K := K.2 c2
      refine Wp.blk (by decide) ol_150 53 2 (pc' := 98) (L' := [.ref 23, mk0, .int v2, .int v3, .int v4, .int v5]) (S' := [.int (1 : Int32), .int (((((2 : Int32)) * v2)) + v5), .ref 40]) (h' := h) rfl ?_
      obtain ⟨r11, K⟩ := K
      refine Wp.zast (op_ix (by decide) ol_150 56 rfl) (by decide) (kS HS 40 rfl) (inS HS 40 rfl r11) rfl ?_
      refine Wp.blk (by decide) ol_150 57 2 (pc' := 58) (L' := [.ref 23, mk0, .int v2, .int v3, .int v4, .int (v5 + (1 : Int32))]) (S' := []) (h' := (stI h 40 ((((((2 : Int32)) * v2)) + v5)).toNatClampNeg (vp_nar .boolean ((1 : Int32))))) rfl ?_
      exact K
  · replace K := K.2 c1
    refine Wp.blk (by decide) ol_150 59 2 (pc' := 17) (L' := [.ref 23, mk0, .int (v2 + (-1 : Int32)), .int v3, .int v4, .int v5]) (S' := []) (h' := h) rfl ?_
    refine Wp.forget (L := [.ref 23, mk0, .int (v2 + (-1 : Int32)), mk0, mk0, mk0]) (⟨Or.inr rfl, ⟨Or.inr rfl, ⟨Or.inr rfl, ⟨Or.inl rfl, ⟨Or.inl rfl, ⟨Or.inl rfl, trivial⟩⟩⟩⟩⟩⟩) ?_
    exact K
/-- CutsOrFastModel.isSide at 0 (I)Z -/
theorem g151_0 (d : Nat) (v0 : Int32) (h : AH) (HS : Sh h)  (Q : Option Value → AH → Prop) (K : ((v0 < (0 : Int32) → Q (some (.int (0 : Int32))) h) ∧ (¬ v0 < (0 : Int32) → (((1 : Int32) < v0 → Q (some (.int (0 : Int32))) h) ∧ (¬ (1 : Int32) < v0 → Q (some (.int (1 : Int32))) h))))) : Wp (d + 1) 151 0 [.int v0] [] h Q := by
  refine Wp.blk (by decide) ol_151 0 3 (pc' := 3) (L' := [.int v0]) (S' := [.int (1 : Int32), .int (0 : Int32), .int v0]) (h' := h) rfl ?_
  refine Wp.callI (op_ix (by decide) ol_151 3 rfl) rfl rfl (Cl.enter (L := [.int v0, .int (0 : Int32), .int (1 : Int32)]) rfl ?_)
  refine Wp.blk (by decide) ol_129 0 3 (pc' := (if v0 < (0 : Int32) then 14 else 5)) (L' := [.int v0, .int (0 : Int32), .int (1 : Int32)]) (S' := []) (h' := h) rfl ?_
  refine Wp.br (fun c1 => ?_) (fun c1 => ?_)
  · replace K := K.1 c1
    refine Wp.blk (by decide) ol_129 8 1 (pc' := 15) (L' := [.int v0, .int (0 : Int32), .int (1 : Int32)]) (S' := [.int (0 : Int32)]) (h' := h) rfl ?_
    refine Wp.ret (op_ix (by decide) ol_129 9 rfl) rfl ⟨_, rfl, ?_⟩
    exact Wp.ret (op_ix (by decide) ol_151 4 rfl) rfl K
  · replace K := K.2 c1
    refine Wp.blk (by decide) ol_129 3 3 (pc' := (if (1 : Int32) < v0 then 14 else 10)) (L' := [.int v0, .int (0 : Int32), .int (1 : Int32)]) (S' := []) (h' := h) rfl ?_
    refine Wp.br (fun c2 => ?_) (fun c2 => ?_)
    · replace K := K.1 c2
      refine Wp.blk (by decide) ol_129 8 1 (pc' := 15) (L' := [.int v0, .int (0 : Int32), .int (1 : Int32)]) (S' := [.int (0 : Int32)]) (h' := h) rfl ?_
      refine Wp.ret (op_ix (by decide) ol_129 9 rfl) rfl ⟨_, rfl, ?_⟩
      exact Wp.ret (op_ix (by decide) ol_151 4 rfl) rfl K
    · replace K := K.2 c2
      refine Wp.blk (by decide) ol_129 6 2 (pc' := 15) (L' := [.int v0, .int (0 : Int32), .int (1 : Int32)]) (S' := [.int (1 : Int32)]) (h' := h) rfl ?_
      refine Wp.ret (op_ix (by decide) ol_129 9 rfl) rfl ⟨_, rfl, ?_⟩
      exact Wp.ret (op_ix (by decide) ol_151 4 rfl) rfl K
/-- CutsOrFastModel.whose at 0 (I)I -/
theorem g152_0 (d : Nat) (v1 : Int32) (h : AH) (HS : Sh h)  (Q : Option Value → AH → Prop) (K : ((v1 < (0 : Int32) → Q (some (.int (-101 : Int32))) h) ∧ (¬ v1 < (0 : Int32) → (((1 : Int32) < v1 → Q (some (.int (-101 : Int32))) h) ∧ (¬ (1 : Int32) < v1 → (((AI h 23 0) = (0 : Int32) → Q (some (.int (-103 : Int32))) h) ∧ (¬ (AI h 23 0) = (0 : Int32) → (Cl (d + 1) 150 [.ref 23, .int (AI h 23 0)] h (fun r h4 => r = none ∧ Sh h4 ∧ (ixR v1 118098 ∧ (((AI h4 40 v1.toNatClampNeg) = (0 : Int32) → Q (some (.int (1 : Int32))) h4) ∧ (¬ (AI h4 40 v1.toNatClampNeg) = (0 : Int32) → Q (some (.int (0 : Int32))) h4)))))))))))) : Wp (d + 2) 152 0 [.ref 23, .int v1] [] h Q := by
  refine Wp.blk (by decide) ol_152 0 1 (pc' := 1) (L' := [.ref 23, .int v1]) (S' := [.int v1]) (h' := h) rfl ?_
  refine Wp.callI (op_ix (by decide) ol_152 1 rfl) rfl rfl (Cl.enter (L := [.int v1]) rfl ?_)
  refine Wp.blk (by decide) ol_151 0 3 (pc' := 3) (L' := [.int v1]) (S' := [.int (1 : Int32), .int (0 : Int32), .int v1]) (h' := h) rfl ?_
  refine Wp.callI (op_ix (by decide) ol_151 3 rfl) rfl rfl (Cl.enter (L := [.int v1, .int (0 : Int32), .int (1 : Int32)]) rfl ?_)
  refine Wp.blk (by decide) ol_129 0 3 (pc' := (if v1 < (0 : Int32) then 14 else 5)) (L' := [.int v1, .int (0 : Int32), .int (1 : Int32)]) (S' := []) (h' := h) rfl ?_
  refine Wp.br (fun c1 => ?_) (fun c1 => ?_)
  · replace K := K.1 c1
    refine Wp.blk (by decide) ol_129 8 1 (pc' := 15) (L' := [.int v1, .int (0 : Int32), .int (1 : Int32)]) (S' := [.int (0 : Int32)]) (h' := h) rfl ?_
    refine Wp.ret (op_ix (by decide) ol_129 9 rfl) rfl ⟨_, rfl, ?_⟩
    refine Wp.ret (op_ix (by decide) ol_151 4 rfl) rfl ⟨_, rfl, ?_⟩
    refine Wp.blk (by decide) ol_152 2 1 (pc' := (if (0 : Int32) = (0 : Int32) then 7 else 10)) (L' := [.ref 23, .int v1]) (S' := []) (h' := h) rfl ?_
    refine Wp.br (fun _ => ?_) (fun hc => absurd (by decide) hc)
    refine Wp.blk (by decide) ol_152 3 1 (pc' := 9) (L' := [.ref 23, .int v1]) (S' := [.int (-101 : Int32)]) (h' := h) rfl ?_
    exact Wp.ret (op_ix (by decide) ol_152 4 rfl) rfl K
  · replace K := K.2 c1
    refine Wp.blk (by decide) ol_129 3 3 (pc' := (if (1 : Int32) < v1 then 14 else 10)) (L' := [.int v1, .int (0 : Int32), .int (1 : Int32)]) (S' := []) (h' := h) rfl ?_
    refine Wp.br (fun c2 => ?_) (fun c2 => ?_)
    · replace K := K.1 c2
      refine Wp.blk (by decide) ol_129 8 1 (pc' := 15) (L' := [.int v1, .int (0 : Int32), .int (1 : Int32)]) (S' := [.int (0 : Int32)]) (h' := h) rfl ?_
      refine Wp.ret (op_ix (by decide) ol_129 9 rfl) rfl ⟨_, rfl, ?_⟩
      refine Wp.ret (op_ix (by decide) ol_151 4 rfl) rfl ⟨_, rfl, ?_⟩
      refine Wp.blk (by decide) ol_152 2 1 (pc' := (if (0 : Int32) = (0 : Int32) then 7 else 10)) (L' := [.ref 23, .int v1]) (S' := []) (h' := h) rfl ?_
      refine Wp.br (fun _ => ?_) (fun hc => absurd (by decide) hc)
      refine Wp.blk (by decide) ol_152 3 1 (pc' := 9) (L' := [.ref 23, .int v1]) (S' := [.int (-101 : Int32)]) (h' := h) rfl ?_
      exact Wp.ret (op_ix (by decide) ol_152 4 rfl) rfl K
    · replace K := K.2 c2
      refine Wp.blk (by decide) ol_129 6 2 (pc' := 15) (L' := [.int v1, .int (0 : Int32), .int (1 : Int32)]) (S' := [.int (1 : Int32)]) (h' := h) rfl ?_
      refine Wp.ret (op_ix (by decide) ol_129 9 rfl) rfl ⟨_, rfl, ?_⟩
      refine Wp.ret (op_ix (by decide) ol_151 4 rfl) rfl ⟨_, rfl, ?_⟩
      refine Wp.blk (by decide) ol_152 2 1 (pc' := (if (1 : Int32) = (0 : Int32) then 7 else 10)) (L' := [.ref 23, .int v1]) (S' := []) (h' := h) rfl ?_
      refine Wp.br (fun hc => absurd hc (by decide)) (fun _ => ?_)
      refine Wp.blk (by decide) ol_152 5 1 (pc' := 11) (L' := [.ref 23, .int v1]) (S' := [.ref 23]) (h' := h) rfl ?_
      refine Wp.getf (op_ix (by decide) ol_152 6 rfl) (okS HS 23 rfl rfl) (v := .int (AI h 23 0)) rfl rfl ?_
      refine Wp.blk (by decide) ol_152 7 1 (pc' := (if (AI h 23 0) = (0 : Int32) then 17 else 20)) (L' := [.ref 23, .int v1]) (S' := []) (h' := h) rfl ?_
      refine Wp.br (fun c3 => ?_) (fun c3 => ?_)
      · replace K := K.1 c3
        refine Wp.blk (by decide) ol_152 8 1 (pc' := 19) (L' := [.ref 23, .int v1]) (S' := [.int (-103 : Int32)]) (h' := h) rfl ?_
        exact Wp.ret (op_ix (by decide) ol_152 9 rfl) rfl K
      · replace K := K.2 c3
        refine Wp.blk (by decide) ol_152 10 2 (pc' := 22) (L' := [.ref 23, .int v1]) (S' := [.ref 23, .ref 23]) (h' := h) rfl ?_
        refine Wp.getf (op_ix (by decide) ol_152 12 rfl) (okS HS 23 rfl rfl) (v := .int (AI h 23 0)) rfl rfl ?_
        refine Wp.callV (op_ix (by decide) ol_152 13 rfl) (act_virt (c2 := 1) rfl (lk1 (kS HS 23 rfl)) rfl) rfl (K.mono ?_)
        rintro _ h4 ⟨rfl, hs5, K⟩
        refine ⟨rfl, ?_⟩
        refine Wp.blk (by decide) ol_152 14 1 (pc' := 29) (L' := [.ref 23, .int v1]) (S' := [.ref 23]) (h' := h4) rfl ?_
        refine Wp.getf (op_ix (by decide) ol_152 15 rfl) (okS hs5 23 rfl rfl) (v := .ref 40) (congrArg va_rf (rS hs5 23 36 rfl)) rfl ?_
        refine Wp.blk (by decide) ol_152 16 1 (pc' := 33) (L' := [.ref 23, .int v1]) (S' := [.int v1, .ref 40]) (h' := h4) rfl ?_
        obtain ⟨r6, K⟩ := K
        refine Wp.bald (op_ix (by decide) ol_152 17 rfl) (Or.inr (kS hs5 40 rfl)) (inS hs5 40 rfl r6) rfl ?_
        refine Wp.blk (by decide) ol_152 18 1 (pc' := (if (AI h4 40 v1.toNatClampNeg) = (0 : Int32) then 41 else 37)) (L' := [.ref 23, .int v1]) (S' := []) (h' := h4) rfl ?_
        refine Wp.br (fun c7 => ?_) (fun c7 => ?_)
        · replace K := K.1 c7
          refine Wp.blk (by decide) ol_152 21 1 (pc' := 42) (L' := [.ref 23, .int v1]) (S' := [.int (1 : Int32)]) (h' := h4) rfl ?_
          exact Wp.ret (op_ix (by decide) ol_152 22 rfl) rfl K
        · replace K := K.2 c7
          refine Wp.blk (by decide) ol_152 19 2 (pc' := 42) (L' := [.ref 23, .int v1]) (S' := [.int (0 : Int32)]) (h' := h4) rfl ?_
          exact Wp.ret (op_ix (by decide) ol_152 22 rfl) rfl K
/-- CutsOrFastModel.byFrom at 0 (II)I -/
theorem g153_0 (d : Nat) (v1 : Int32) (v2 : Int32) (h : AH) (HS : Sh h)  (Q : Option Value → AH → Prop) (K : Wp d 153 2 [.ref 23, .int v1, .int v2, .int (0 : Int32), mk0] [] h Q) : Wp d 153 0 [.ref 23, .int v1, .int v2, mk0, mk0] [] h Q := by
  refine Wp.blk (by decide) ol_153 0 2 (pc' := 2) (L' := [.ref 23, .int v1, .int v2, .int (0 : Int32), mk0]) (S' := []) (h' := h) rfl ?_
  exact K
/-- CutsOrFastModel.byFrom at 2 -/
theorem g153_2 (d : Nat) (v1 : Int32) (v2 : Int32) (v3 : Int32) (h : AH) (HS : Sh h)  (Q : Option Value → AH → Prop) (K : ((v3 < (AI h 23 32) → (ixR v3 11 ∧ ((¬ (AI h 39 v3.toNatClampNeg) = 0) ∧ ((((v1 / (AI h 39 v3.toNatClampNeg)) - (v1 / (AI h 39 v3.toNatClampNeg)) / (3 : Int32) * (3 : Int32)) = (0 : Int32) → ((v2 = (0 : Int32) → Wp (d + 1) 153 38 [.ref 23, .int v1, .int v2, .int v3, mk0] [.int (1 : Int32), .int v1, .int (2 : Int32), .ref 40] h Q) ∧ (¬ v2 = (0 : Int32) → Wp (d + 1) 153 38 [.ref 23, .int v1, .int v2, .int v3, mk0] [.int (2 : Int32), .int v1, .int (2 : Int32), .ref 40] h Q))) ∧ (¬ ((v1 / (AI h 39 v3.toNatClampNeg)) - (v1 / (AI h 39 v3.toNatClampNeg)) / (3 : Int32) * (3 : Int32)) = (0 : Int32) → Wp (d + 1) 153 2 [.ref 23, .int v1, .int v2, .int (v3 + (1 : Int32)), mk0] [] h Q))))) ∧ (¬ v3 < (AI h 23 32) → Q (some (.int (-1 : Int32))) h))) : Wp (d + 1) 153 2 [.ref 23, .int v1, .int v2, .int v3, mk0] [] h Q := by
  refine Wp.blk (by decide) ol_153 2 2 (pc' := 4) (L' := [.ref 23, .int v1, .int v2, .int v3, mk0]) (S' := [.ref 23, .int v3]) (h' := h) rfl ?_
  refine Wp.getf (op_ix (by decide) ol_153 4 rfl) (okS HS 23 rfl rfl) (v := .int (AI h 23 32)) rfl rfl ?_
  refine Wp.blk (by decide) ol_153 5 1 (pc' := (if v3 < (AI h 23 32) then 10 else 81)) (L' := [.ref 23, .int v1, .int v2, .int v3, mk0]) (S' := []) (h' := h) rfl ?_
  refine Wp.br (fun c1 => ?_) (fun c1 => ?_)
  · replace K := K.1 c1
    refine Wp.blk (by decide) ol_153 6 2 (pc' := 12) (L' := [.ref 23, .int v1, .int v2, .int v3, mk0]) (S' := [.ref 23, .int v1]) (h' := h) rfl ?_
    refine Wp.getf (op_ix (by decide) ol_153 8 rfl) (okS HS 23 rfl rfl) (v := .ref 39) (congrArg va_rf (rS HS 23 34 rfl)) rfl ?_
    refine Wp.blk (by decide) ol_153 9 1 (pc' := 16) (L' := [.ref 23, .int v1, .int v2, .int v3, mk0]) (S' := [.int v3, .ref 39, .int v1]) (h' := h) rfl ?_
    obtain ⟨r2, K⟩ := K
    refine Wp.iald (op_ix (by decide) ol_153 10 rfl) (kS HS 39 rfl) (inS HS 39 rfl r2) rfl ?_
    refine Wp.callI (op_ix (by decide) ol_153 11 rfl) rfl rfl (Cl.enter (L := [.int v1, .int (AI h 39 v3.toNatClampNeg)]) rfl ?_)
    refine Wp.blk (by decide) ol_148 0 2 (pc' := 2) (L' := [.int v1, .int (AI h 39 v3.toNatClampNeg)]) (S' := [.int (AI h 39 v3.toNatClampNeg), .int v1]) (h' := h) rfl ?_
    obtain ⟨z3, K⟩ := K
    refine Wp.div (op_ix (by decide) ol_148 2 rfl) z3 rfl ?_
    refine Wp.blk (by decide) ol_148 3 2 (pc' := 5) (L' := [.int v1, .int (AI h 39 v3.toNatClampNeg)]) (S' := [.int ((v1 / (AI h 39 v3.toNatClampNeg)) - (v1 / (AI h 39 v3.toNatClampNeg)) / (3 : Int32) * (3 : Int32))]) (h' := h) rfl ?_
    refine Wp.ret (op_ix (by decide) ol_148 5 rfl) rfl ⟨_, rfl, ?_⟩
    refine Wp.blk (by decide) ol_153 12 1 (pc' := (if ((v1 / (AI h 39 v3.toNatClampNeg)) - (v1 / (AI h 39 v3.toNatClampNeg)) / (3 : Int32) * (3 : Int32)) = (0 : Int32) then 23 else 75)) (L' := [.ref 23, .int v1, .int v2, .int v3, mk0]) (S' := []) (h' := h) rfl ?_
    refine Wp.br (fun c4 => ?_) (fun c4 => ?_)
    · replace K := K.1 c4
      refine Wp.blk (by decide) ol_153 13 1 (pc' := 24) (L' := [.ref 23, .int v1, .int v2, .int v3, mk0]) (S' := [.ref 23]) (h' := h) rfl ?_
      refine Wp.getf (op_ix (by decide) ol_153 14 rfl) (okS HS 23 rfl rfl) (v := .ref 40) (congrArg va_rf (rS HS 23 36 rfl)) rfl ?_
      refine Wp.blk (by decide) ol_153 15 4 (pc' := (if v2 = (0 : Int32) then 33 else 37)) (L' := [.ref 23, .int v1, .int v2, .int v3, mk0]) (S' := [.int v1, .int (2 : Int32), .ref 40]) (h' := h) rfl ?_
      refine Wp.br (fun c5 => ?_) (fun c5 => ?_)
      · replace K := K.1 c5
        refine Wp.blk (by decide) ol_153 19 2 (pc' := 38) (L' := [.ref 23, .int v1, .int v2, .int v3, mk0]) (S' := [.int (1 : Int32), .int v1, .int (2 : Int32), .ref 40]) (h' := h) rfl ?_
        exact K
      · replace K := K.2 c5
        refine Wp.blk (by decide) ol_153 21 1 (pc' := 38) (L' := [.ref 23, .int v1, .int v2, .int v3, mk0]) (S' := [.int (2 : Int32), .int v1, .int (2 : Int32), .ref 40]) (h' := h) rfl ?_
        exact K
    · replace K := K.2 c4
      refine Wp.blk (by decide) ol_153 47 2 (pc' := 2) (L' := [.ref 23, .int v1, .int v2, .int (v3 + (1 : Int32)), mk0]) (S' := []) (h' := h) rfl ?_
      exact K
  · replace K := K.2 c1
    refine Wp.blk (by decide) ol_153 49 1 (pc' := 82) (L' := [.ref 23, .int v1, .int v2, .int v3, mk0]) (S' := [.int (-1 : Int32)]) (h' := h) rfl ?_
    exact Wp.ret (op_ix (by decide) ol_153 50 rfl) rfl K
/-- CutsOrFastModel.byFrom at 38 -/
theorem g153_38 (d : Nat) (v1 : Int32) (v2 : Int32) (v3 : Int32) (s0 : Int32) (s1 : Int32) (s2 : Int32) (s3 : Nat) (h : AH) (HS : Sh h)  (Q : Option Value → AH → Prop) (K : (ixR v3 11 ∧ (AK h s3).1 = 23 ∧ inR h s3 ((((((s2 * ((s1 + ((s0 * ((AI h 39 v3.toNatClampNeg)))))))) + ((1 : Int32)))) - v2)) = true ∧ ((v2 = (0 : Int32) → (((AI h s3 ((((((s2 * ((s1 + ((s0 * ((AI h 39 v3.toNatClampNeg)))))))) + ((1 : Int32)))) - v2)).toNatClampNeg) = (1 : Int32) → (ixR v3 10 ∧ Q (some (.int (AI h 38 v3.toNatClampNeg))) h)) ∧ (¬ (AI h s3 ((((((s2 * ((s1 + ((s0 * ((AI h 39 v3.toNatClampNeg)))))))) + ((1 : Int32)))) - v2)).toNatClampNeg) = (1 : Int32) → Wp d 153 2 [.ref 23, .int v1, .int v2, .int (v3 + (1 : Int32)), mk0] [] h Q))) ∧ (¬ v2 = (0 : Int32) → (((AI h s3 ((((((s2 * ((s1 + ((s0 * ((AI h 39 v3.toNatClampNeg)))))))) + ((1 : Int32)))) - v2)).toNatClampNeg) = (0 : Int32) → (ixR v3 10 ∧ Q (some (.int (AI h 38 v3.toNatClampNeg))) h)) ∧ (¬ (AI h s3 ((((((s2 * ((s1 + ((s0 * ((AI h 39 v3.toNatClampNeg)))))))) + ((1 : Int32)))) - v2)).toNatClampNeg) = (0 : Int32) → Wp d 153 2 [.ref 23, .int v1, .int v2, .int (v3 + (1 : Int32)), mk0] [] h Q)))))) : Wp d 153 38 [.ref 23, .int v1, .int v2, .int v3, mk0] [.int s0, .int s1, .int s2, .ref s3] h Q := by
  refine Wp.blk (by decide) ol_153 22 1 (pc' := 39) (L' := [.ref 23, .int v1, .int v2, .int v3, mk0]) (S' := [.ref 23, .int s0, .int s1, .int s2, .ref s3]) (h' := h) rfl ?_
  refine Wp.getf (op_ix (by decide) ol_153 23 rfl) (okS HS 23 rfl rfl) (v := .ref 39) (congrArg va_rf (rS HS 23 34 rfl)) rfl ?_
  refine Wp.blk (by decide) ol_153 24 1 (pc' := 43) (L' := [.ref 23, .int v1, .int v2, .int v3, mk0]) (S' := [.int v3, .ref 39, .int s0, .int s1, .int s2, .ref s3]) (h' := h) rfl ?_
  obtain ⟨r1, K⟩ := K
  refine Wp.iald (op_ix (by decide) ol_153 25 rfl) (kS HS 39 rfl) (inS HS 39 rfl r1) rfl ?_
  refine Wp.blk (by decide) ol_153 26 7 (pc' := 51) (L' := [.ref 23, .int v1, .int v2, .int v3, mk0]) (S' := [.int (((((s2 * ((s1 + ((s0 * ((AI h 39 v3.toNatClampNeg)))))))) + ((1 : Int32)))) - v2), .ref s3]) (h' := h) rfl ?_
  obtain ⟨k2, K⟩ := K
  obtain ⟨r3, K⟩ := K
  refine Wp.bald (op_ix (by decide) ol_153 33 rfl) (Or.inr k2) r3 rfl ?_
  refine Wp.blk (by decide) ol_153 34 4 (pc' := (if v2 = (0 : Int32) then 60 else 64)) (L' := [.ref 23, .int v1, .int v2, .int v3, .int (AI h s3 ((((((s2 * ((s1 + ((s0 * ((AI h 39 v3.toNatClampNeg)))))))) + ((1 : Int32)))) - v2)).toNatClampNeg)]) (S' := [.int (AI h s3 ((((((s2 * ((s1 + ((s0 * ((AI h 39 v3.toNatClampNeg)))))))) + ((1 : Int32)))) - v2)).toNatClampNeg)]) (h' := h) rfl ?_
  refine Wp.br (fun c4 => ?_) (fun c4 => ?_)
  · replace K := K.1 c4
    refine Wp.blk (by decide) ol_153 38 2 (pc' := 65) (L' := [.ref 23, .int v1, .int v2, .int v3, .int (AI h s3 ((((((s2 * ((s1 + ((s0 * ((AI h 39 v3.toNatClampNeg)))))))) + ((1 : Int32)))) - v2)).toNatClampNeg)]) (S' := [.int (1 : Int32), .int (AI h s3 ((((((s2 * ((s1 + ((s0 * ((AI h 39 v3.toNatClampNeg)))))))) + ((1 : Int32)))) - v2)).toNatClampNeg)]) (h' := h) rfl ?_
    refine Wp.blk (by decide) ol_153 41 1 (pc' := (if (AI h s3 ((((((s2 * ((s1 + ((s0 * ((AI h 39 v3.toNatClampNeg)))))))) + ((1 : Int32)))) - v2)).toNatClampNeg) = (1 : Int32) then 68 else 75)) (L' := [.ref 23, .int v1, .int v2, .int v3, .int (AI h s3 ((((((s2 * ((s1 + ((s0 * ((AI h 39 v3.toNatClampNeg)))))))) + ((1 : Int32)))) - v2)).toNatClampNeg)]) (S' := []) (h' := h) rfl ?_
    refine Wp.br (fun c5 => ?_) (fun c5 => ?_)
    · replace K := K.1 c5
      refine Wp.blk (by decide) ol_153 42 1 (pc' := 69) (L' := [.ref 23, .int v1, .int v2, .int v3, .int (AI h s3 ((((((s2 * ((s1 + ((s0 * ((AI h 39 v3.toNatClampNeg)))))))) + ((1 : Int32)))) - v2)).toNatClampNeg)]) (S' := [.ref 23]) (h' := h) rfl ?_
      refine Wp.getf (op_ix (by decide) ol_153 43 rfl) (okS HS 23 rfl rfl) (v := .ref 38) (congrArg va_rf (rS HS 23 33 rfl)) rfl ?_
      refine Wp.blk (by decide) ol_153 44 1 (pc' := 73) (L' := [.ref 23, .int v1, .int v2, .int v3, .int (AI h s3 ((((((s2 * ((s1 + ((s0 * ((AI h 39 v3.toNatClampNeg)))))))) + ((1 : Int32)))) - v2)).toNatClampNeg)]) (S' := [.int v3, .ref 38]) (h' := h) rfl ?_
      obtain ⟨r6, K⟩ := K
      refine Wp.iald (op_ix (by decide) ol_153 45 rfl) (kS HS 38 rfl) (inS HS 38 rfl r6) rfl ?_
      exact Wp.ret (op_ix (by decide) ol_153 46 rfl) rfl K
    · replace K := K.2 c5
      refine Wp.blk (by decide) ol_153 47 2 (pc' := 2) (L' := [.ref 23, .int v1, .int v2, .int (v3 + (1 : Int32)), .int (AI h s3 ((((((s2 * ((s1 + ((s0 * ((AI h 39 v3.toNatClampNeg)))))))) + ((1 : Int32)))) - v2)).toNatClampNeg)]) (S' := []) (h' := h) rfl ?_
      refine Wp.forget (L := [.ref 23, .int v1, .int v2, .int (v3 + (1 : Int32)), mk0]) (⟨Or.inr rfl, ⟨Or.inr rfl, ⟨Or.inr rfl, ⟨Or.inr rfl, ⟨Or.inl rfl, trivial⟩⟩⟩⟩⟩) ?_
      exact K
  · replace K := K.2 c4
    refine Wp.blk (by decide) ol_153 40 2 (pc' := (if (AI h s3 ((((((s2 * ((s1 + ((s0 * ((AI h 39 v3.toNatClampNeg)))))))) + ((1 : Int32)))) - v2)).toNatClampNeg) = (0 : Int32) then 68 else 75)) (L' := [.ref 23, .int v1, .int v2, .int v3, .int (AI h s3 ((((((s2 * ((s1 + ((s0 * ((AI h 39 v3.toNatClampNeg)))))))) + ((1 : Int32)))) - v2)).toNatClampNeg)]) (S' := []) (h' := h) rfl ?_
    refine Wp.br (fun c7 => ?_) (fun c7 => ?_)
    · replace K := K.1 c7
      refine Wp.blk (by decide) ol_153 42 1 (pc' := 69) (L' := [.ref 23, .int v1, .int v2, .int v3, .int (AI h s3 ((((((s2 * ((s1 + ((s0 * ((AI h 39 v3.toNatClampNeg)))))))) + ((1 : Int32)))) - v2)).toNatClampNeg)]) (S' := [.ref 23]) (h' := h) rfl ?_
      refine Wp.getf (op_ix (by decide) ol_153 43 rfl) (okS HS 23 rfl rfl) (v := .ref 38) (congrArg va_rf (rS HS 23 33 rfl)) rfl ?_
      refine Wp.blk (by decide) ol_153 44 1 (pc' := 73) (L' := [.ref 23, .int v1, .int v2, .int v3, .int (AI h s3 ((((((s2 * ((s1 + ((s0 * ((AI h 39 v3.toNatClampNeg)))))))) + ((1 : Int32)))) - v2)).toNatClampNeg)]) (S' := [.int v3, .ref 38]) (h' := h) rfl ?_
      obtain ⟨r8, K⟩ := K
      refine Wp.iald (op_ix (by decide) ol_153 45 rfl) (kS HS 38 rfl) (inS HS 38 rfl r8) rfl ?_
      exact Wp.ret (op_ix (by decide) ol_153 46 rfl) rfl K
    · replace K := K.2 c7
      refine Wp.blk (by decide) ol_153 47 2 (pc' := 2) (L' := [.ref 23, .int v1, .int v2, .int (v3 + (1 : Int32)), .int (AI h s3 ((((((s2 * ((s1 + ((s0 * ((AI h 39 v3.toNatClampNeg)))))))) + ((1 : Int32)))) - v2)).toNatClampNeg)]) (S' := []) (h' := h) rfl ?_
      refine Wp.forget (L := [.ref 23, .int v1, .int v2, .int (v3 + (1 : Int32)), mk0]) (⟨Or.inr rfl, ⟨Or.inr rfl, ⟨Or.inr rfl, ⟨Or.inr rfl, ⟨Or.inl rfl, trivial⟩⟩⟩⟩⟩) ?_
      exact K
/-- CutsOrFastModel.byNow at 0 (I)I -/
theorem g154_0 (d : Nat) (v1 : Int32) (h : AH) (HS : Sh h)  (Q : Option Value → AH → Prop) (K : (Cl d 144 [.ref 23] h (fun r h1 => ∃ x3 : Int32, r = some (.int x3) ∧ Sh h1 ∧ ((x3 = (0 : Int32) → (Cl d 150 [.ref 23, .int (AI h1 23 0)] h1 (fun r h5 => r = none ∧ Sh h5 ∧ (Cl d 153 [.ref 23, .int (0 : Int32), .int v1] h5 (fun r h7 => ∃ x9 : Int32, r = some (.int x9) ∧ Sh h7 ∧ Q (some (.int x9)) h7))))) ∧ (¬ x3 = (0 : Int32) → Q (some (.int (-1 : Int32))) h1))))) : Wp (d + 1) 154 0 [.ref 23, .int v1] [] h Q := by
  refine Wp.blk (by decide) ol_154 0 1 (pc' := 1) (L' := [.ref 23, .int v1]) (S' := [.ref 23]) (h' := h) rfl ?_
  refine Wp.callI (op_ix (by decide) ol_154 1 rfl) (act_virt (c2 := 0) rfl (lk1 (kS HS 23 rfl)) rfl) rfl (K.mono ?_)
  rintro _ h1 ⟨x3, rfl, hs2, K⟩
  refine ⟨x3, rfl, ?_⟩
  refine Wp.blk (by decide) ol_154 2 1 (pc' := (if x3 = (0 : Int32) then 9 else 7)) (L' := [.ref 23, .int v1]) (S' := []) (h' := h1) rfl ?_
  refine Wp.br (fun c4 => ?_) (fun c4 => ?_)
  · replace K := K.1 c4
    refine Wp.blk (by decide) ol_154 5 2 (pc' := 11) (L' := [.ref 23, .int v1]) (S' := [.ref 23, .ref 23]) (h' := h1) rfl ?_
    refine Wp.getf (op_ix (by decide) ol_154 7 rfl) (okS hs2 23 rfl rfl) (v := .int (AI h1 23 0)) rfl rfl ?_
    refine Wp.callV (op_ix (by decide) ol_154 8 rfl) (act_virt (c2 := 1) rfl (lk1 (kS hs2 23 rfl)) rfl) rfl (K.mono ?_)
    rintro _ h5 ⟨rfl, hs6, K⟩
    refine ⟨rfl, ?_⟩
    refine Wp.blk (by decide) ol_154 9 3 (pc' := 20) (L' := [.ref 23, .int v1]) (S' := [.int v1, .int (0 : Int32), .ref 23]) (h' := h5) rfl ?_
    refine Wp.callI (op_ix (by decide) ol_154 12 rfl) (act_virt (c2 := 2) rfl (lk1 (kS hs6 23 rfl)) rfl) rfl (K.mono ?_)
    rintro _ h7 ⟨x9, rfl, hs8, K⟩
    refine ⟨x9, rfl, ?_⟩
    exact Wp.ret (op_ix (by decide) ol_154 13 rfl) rfl K
  · replace K := K.2 c4
    refine Wp.blk (by decide) ol_154 3 1 (pc' := 8) (L' := [.ref 23, .int v1]) (S' := [.int (-1 : Int32)]) (h' := h1) rfl ?_
    exact Wp.ret (op_ix (by decide) ol_154 4 rfl) rfl K
/-- CutsOrFastModel.by at 0 (I)I -/
theorem g155_0 (d : Nat) (v1 : Int32) (h : AH) (HS : Sh h)  (Q : Option Value → AH → Prop) (K : ((v1 < (0 : Int32) → Q (some (.int (-101 : Int32))) h) ∧ (¬ v1 < (0 : Int32) → (((1 : Int32) < v1 → Q (some (.int (-101 : Int32))) h) ∧ (¬ (1 : Int32) < v1 → (((AI h 23 0) = (0 : Int32) → Q (some (.int (-103 : Int32))) h) ∧ (¬ (AI h 23 0) = (0 : Int32) → (Cl (d + 1) 154 [.ref 23, .int v1] h (fun r h4 => ∃ x6 : Int32, r = some (.int x6) ∧ Sh h4 ∧ Q (some (.int x6)) h4))))))))) : Wp (d + 2) 155 0 [.ref 23, .int v1] [] h Q := by
  refine Wp.blk (by decide) ol_155 0 1 (pc' := 1) (L' := [.ref 23, .int v1]) (S' := [.int v1]) (h' := h) rfl ?_
  refine Wp.callI (op_ix (by decide) ol_155 1 rfl) rfl rfl (Cl.enter (L := [.int v1]) rfl ?_)
  refine Wp.blk (by decide) ol_151 0 3 (pc' := 3) (L' := [.int v1]) (S' := [.int (1 : Int32), .int (0 : Int32), .int v1]) (h' := h) rfl ?_
  refine Wp.callI (op_ix (by decide) ol_151 3 rfl) rfl rfl (Cl.enter (L := [.int v1, .int (0 : Int32), .int (1 : Int32)]) rfl ?_)
  refine Wp.blk (by decide) ol_129 0 3 (pc' := (if v1 < (0 : Int32) then 14 else 5)) (L' := [.int v1, .int (0 : Int32), .int (1 : Int32)]) (S' := []) (h' := h) rfl ?_
  refine Wp.br (fun c1 => ?_) (fun c1 => ?_)
  · replace K := K.1 c1
    refine Wp.blk (by decide) ol_129 8 1 (pc' := 15) (L' := [.int v1, .int (0 : Int32), .int (1 : Int32)]) (S' := [.int (0 : Int32)]) (h' := h) rfl ?_
    refine Wp.ret (op_ix (by decide) ol_129 9 rfl) rfl ⟨_, rfl, ?_⟩
    refine Wp.ret (op_ix (by decide) ol_151 4 rfl) rfl ⟨_, rfl, ?_⟩
    refine Wp.blk (by decide) ol_155 2 1 (pc' := (if (0 : Int32) = (0 : Int32) then 7 else 10)) (L' := [.ref 23, .int v1]) (S' := []) (h' := h) rfl ?_
    refine Wp.br (fun _ => ?_) (fun hc => absurd (by decide) hc)
    refine Wp.blk (by decide) ol_155 3 1 (pc' := 9) (L' := [.ref 23, .int v1]) (S' := [.int (-101 : Int32)]) (h' := h) rfl ?_
    exact Wp.ret (op_ix (by decide) ol_155 4 rfl) rfl K
  · replace K := K.2 c1
    refine Wp.blk (by decide) ol_129 3 3 (pc' := (if (1 : Int32) < v1 then 14 else 10)) (L' := [.int v1, .int (0 : Int32), .int (1 : Int32)]) (S' := []) (h' := h) rfl ?_
    refine Wp.br (fun c2 => ?_) (fun c2 => ?_)
    · replace K := K.1 c2
      refine Wp.blk (by decide) ol_129 8 1 (pc' := 15) (L' := [.int v1, .int (0 : Int32), .int (1 : Int32)]) (S' := [.int (0 : Int32)]) (h' := h) rfl ?_
      refine Wp.ret (op_ix (by decide) ol_129 9 rfl) rfl ⟨_, rfl, ?_⟩
      refine Wp.ret (op_ix (by decide) ol_151 4 rfl) rfl ⟨_, rfl, ?_⟩
      refine Wp.blk (by decide) ol_155 2 1 (pc' := (if (0 : Int32) = (0 : Int32) then 7 else 10)) (L' := [.ref 23, .int v1]) (S' := []) (h' := h) rfl ?_
      refine Wp.br (fun _ => ?_) (fun hc => absurd (by decide) hc)
      refine Wp.blk (by decide) ol_155 3 1 (pc' := 9) (L' := [.ref 23, .int v1]) (S' := [.int (-101 : Int32)]) (h' := h) rfl ?_
      exact Wp.ret (op_ix (by decide) ol_155 4 rfl) rfl K
    · replace K := K.2 c2
      refine Wp.blk (by decide) ol_129 6 2 (pc' := 15) (L' := [.int v1, .int (0 : Int32), .int (1 : Int32)]) (S' := [.int (1 : Int32)]) (h' := h) rfl ?_
      refine Wp.ret (op_ix (by decide) ol_129 9 rfl) rfl ⟨_, rfl, ?_⟩
      refine Wp.ret (op_ix (by decide) ol_151 4 rfl) rfl ⟨_, rfl, ?_⟩
      refine Wp.blk (by decide) ol_155 2 1 (pc' := (if (1 : Int32) = (0 : Int32) then 7 else 10)) (L' := [.ref 23, .int v1]) (S' := []) (h' := h) rfl ?_
      refine Wp.br (fun hc => absurd hc (by decide)) (fun _ => ?_)
      refine Wp.blk (by decide) ol_155 5 1 (pc' := 11) (L' := [.ref 23, .int v1]) (S' := [.ref 23]) (h' := h) rfl ?_
      refine Wp.getf (op_ix (by decide) ol_155 6 rfl) (okS HS 23 rfl rfl) (v := .int (AI h 23 0)) rfl rfl ?_
      refine Wp.blk (by decide) ol_155 7 1 (pc' := (if (AI h 23 0) = (0 : Int32) then 17 else 22)) (L' := [.ref 23, .int v1]) (S' := []) (h' := h) rfl ?_
      refine Wp.br (fun c3 => ?_) (fun c3 => ?_)
      · replace K := K.1 c3
        refine Wp.blk (by decide) ol_155 8 2 (pc' := 27) (L' := [.ref 23, .int v1]) (S' := [.int (-103 : Int32)]) (h' := h) rfl ?_
        exact Wp.ret (op_ix (by decide) ol_155 13 rfl) rfl K
      · replace K := K.2 c3
        refine Wp.blk (by decide) ol_155 10 2 (pc' := 24) (L' := [.ref 23, .int v1]) (S' := [.int v1, .ref 23]) (h' := h) rfl ?_
        refine Wp.callI (op_ix (by decide) ol_155 12 rfl) (act_virt (c2 := 1) rfl (lk1 (kS HS 23 rfl)) rfl) rfl (K.mono ?_)
        rintro _ h4 ⟨x6, rfl, hs5, K⟩
        refine ⟨x6, rfl, ?_⟩
        exact Wp.ret (op_ix (by decide) ol_155 13 rfl) rfl K
/-- CutsOrFastModel.begin at 0 (I)I -/
theorem g156_0 (d : Nat) (v1 : Int32) (h : AH) (HS : Sh h)  (Q : Option Value → AH → Prop) (K : ((v1 < (0 : Int32) → Q (some (.int (-101 : Int32))) h) ∧ (¬ v1 < (0 : Int32) → (((1 : Int32) < v1 → Q (some (.int (-101 : Int32))) h) ∧ (¬ (1 : Int32) < v1 → (((AI h 23 0) = (0 : Int32) → Q (some (.int (-103 : Int32))) h) ∧ (¬ (AI h 23 0) = (0 : Int32) → (((0 : Int32) < (AI h 23 9) → Q (some (.int (-103 : Int32))) h) ∧ (¬ (0 : Int32) < (AI h 23 9) → Q (some (.int (AI h 23 8))) (stI h 23 8 v1)))))))))) : Wp (d + 2) 156 0 [.ref 23, .int v1, mk0] [] h Q := by
  refine Wp.blk (by decide) ol_156 0 1 (pc' := 1) (L' := [.ref 23, .int v1, mk0]) (S' := [.int v1]) (h' := h) rfl ?_
  refine Wp.callI (op_ix (by decide) ol_156 1 rfl) rfl rfl (Cl.enter (L := [.int v1]) rfl ?_)
  refine Wp.blk (by decide) ol_151 0 3 (pc' := 3) (L' := [.int v1]) (S' := [.int (1 : Int32), .int (0 : Int32), .int v1]) (h' := h) rfl ?_
  refine Wp.callI (op_ix (by decide) ol_151 3 rfl) rfl rfl (Cl.enter (L := [.int v1, .int (0 : Int32), .int (1 : Int32)]) rfl ?_)
  refine Wp.blk (by decide) ol_129 0 3 (pc' := (if v1 < (0 : Int32) then 14 else 5)) (L' := [.int v1, .int (0 : Int32), .int (1 : Int32)]) (S' := []) (h' := h) rfl ?_
  refine Wp.br (fun c1 => ?_) (fun c1 => ?_)
  · replace K := K.1 c1
    refine Wp.blk (by decide) ol_129 8 1 (pc' := 15) (L' := [.int v1, .int (0 : Int32), .int (1 : Int32)]) (S' := [.int (0 : Int32)]) (h' := h) rfl ?_
    refine Wp.ret (op_ix (by decide) ol_129 9 rfl) rfl ⟨_, rfl, ?_⟩
    refine Wp.ret (op_ix (by decide) ol_151 4 rfl) rfl ⟨_, rfl, ?_⟩
    refine Wp.blk (by decide) ol_156 2 1 (pc' := (if (0 : Int32) = (0 : Int32) then 7 else 10)) (L' := [.ref 23, .int v1, mk0]) (S' := []) (h' := h) rfl ?_
    refine Wp.br (fun _ => ?_) (fun hc => absurd (by decide) hc)
    refine Wp.blk (by decide) ol_156 3 1 (pc' := 9) (L' := [.ref 23, .int v1, mk0]) (S' := [.int (-101 : Int32)]) (h' := h) rfl ?_
    exact Wp.ret (op_ix (by decide) ol_156 4 rfl) rfl K
  · replace K := K.2 c1
    refine Wp.blk (by decide) ol_129 3 3 (pc' := (if (1 : Int32) < v1 then 14 else 10)) (L' := [.int v1, .int (0 : Int32), .int (1 : Int32)]) (S' := []) (h' := h) rfl ?_
    refine Wp.br (fun c2 => ?_) (fun c2 => ?_)
    · replace K := K.1 c2
      refine Wp.blk (by decide) ol_129 8 1 (pc' := 15) (L' := [.int v1, .int (0 : Int32), .int (1 : Int32)]) (S' := [.int (0 : Int32)]) (h' := h) rfl ?_
      refine Wp.ret (op_ix (by decide) ol_129 9 rfl) rfl ⟨_, rfl, ?_⟩
      refine Wp.ret (op_ix (by decide) ol_151 4 rfl) rfl ⟨_, rfl, ?_⟩
      refine Wp.blk (by decide) ol_156 2 1 (pc' := (if (0 : Int32) = (0 : Int32) then 7 else 10)) (L' := [.ref 23, .int v1, mk0]) (S' := []) (h' := h) rfl ?_
      refine Wp.br (fun _ => ?_) (fun hc => absurd (by decide) hc)
      refine Wp.blk (by decide) ol_156 3 1 (pc' := 9) (L' := [.ref 23, .int v1, mk0]) (S' := [.int (-101 : Int32)]) (h' := h) rfl ?_
      exact Wp.ret (op_ix (by decide) ol_156 4 rfl) rfl K
    · replace K := K.2 c2
      refine Wp.blk (by decide) ol_129 6 2 (pc' := 15) (L' := [.int v1, .int (0 : Int32), .int (1 : Int32)]) (S' := [.int (1 : Int32)]) (h' := h) rfl ?_
      refine Wp.ret (op_ix (by decide) ol_129 9 rfl) rfl ⟨_, rfl, ?_⟩
      refine Wp.ret (op_ix (by decide) ol_151 4 rfl) rfl ⟨_, rfl, ?_⟩
      refine Wp.blk (by decide) ol_156 2 1 (pc' := (if (1 : Int32) = (0 : Int32) then 7 else 10)) (L' := [.ref 23, .int v1, mk0]) (S' := []) (h' := h) rfl ?_
      refine Wp.br (fun hc => absurd hc (by decide)) (fun _ => ?_)
      refine Wp.blk (by decide) ol_156 5 1 (pc' := 11) (L' := [.ref 23, .int v1, mk0]) (S' := [.ref 23]) (h' := h) rfl ?_
      refine Wp.getf (op_ix (by decide) ol_156 6 rfl) (okS HS 23 rfl rfl) (v := .int (AI h 23 0)) rfl rfl ?_
      refine Wp.blk (by decide) ol_156 7 1 (pc' := (if (AI h 23 0) = (0 : Int32) then 24 else 17)) (L' := [.ref 23, .int v1, mk0]) (S' := []) (h' := h) rfl ?_
      refine Wp.br (fun c3 => ?_) (fun c3 => ?_)
      · replace K := K.1 c3
        refine Wp.blk (by decide) ol_156 11 1 (pc' := 26) (L' := [.ref 23, .int v1, mk0]) (S' := [.int (-103 : Int32)]) (h' := h) rfl ?_
        exact Wp.ret (op_ix (by decide) ol_156 12 rfl) rfl K
      · replace K := K.2 c3
        refine Wp.blk (by decide) ol_156 8 1 (pc' := 18) (L' := [.ref 23, .int v1, mk0]) (S' := [.ref 23]) (h' := h) rfl ?_
        refine Wp.getf (op_ix (by decide) ol_156 9 rfl) (okS HS 23 rfl rfl) (v := .int (AI h 23 9)) rfl rfl ?_
        refine Wp.blk (by decide) ol_156 10 1 (pc' := (if (0 : Int32) < (AI h 23 9) then 24 else 27)) (L' := [.ref 23, .int v1, mk0]) (S' := []) (h' := h) rfl ?_
        refine Wp.br (fun c4 => ?_) (fun c4 => ?_)
        · replace K := K.1 c4
          refine Wp.blk (by decide) ol_156 11 1 (pc' := 26) (L' := [.ref 23, .int v1, mk0]) (S' := [.int (-103 : Int32)]) (h' := h) rfl ?_
          exact Wp.ret (op_ix (by decide) ol_156 12 rfl) rfl K
        · replace K := K.2 c4
          refine Wp.blk (by decide) ol_156 13 1 (pc' := 28) (L' := [.ref 23, .int v1, mk0]) (S' := [.ref 23]) (h' := h) rfl ?_
          refine Wp.getf (op_ix (by decide) ol_156 14 rfl) (okS HS 23 rfl rfl) (v := .int (AI h 23 8)) rfl rfl ?_
          refine Wp.blk (by decide) ol_156 15 3 (pc' := 34) (L' := [.ref 23, .int v1, .int (AI h 23 8)]) (S' := [.int v1, .ref 23]) (h' := h) rfl ?_
          refine Wp.putf (op_ix (by decide) ol_156 18 rfl) (by decide) (okS HS 23 rfl rfl) (h' := (stI h 23 8 v1)) rfl rfl ?_
          refine Wp.blk (by decide) ol_156 19 1 (pc' := 38) (L' := [.ref 23, .int v1, .int (AI h 23 8)]) (S' := [.int (AI h 23 8)]) (h' := (stI h 23 8 v1)) rfl ?_
          exact Wp.ret (op_ix (by decide) ol_156 20 rfl) rfl K
/-- CutsOrFastModel.take at 0 (I)I -/
theorem g157_0 (d : Nat) (v1 : Int32) (h : AH) (HS : Sh h)  (Q : Option Value → AH → Prop) (K : ((v1 < (0 : Int32) → Q (some (.int (-101 : Int32))) h) ∧ (¬ v1 < (0 : Int32) → (((((AI h 23 0)) - ((1 : Int32))) < v1 → Q (some (.int (-101 : Int32))) h) ∧ (¬ (((AI h 23 0)) - ((1 : Int32))) < v1 → (Cl (d + 1) 144 [.ref 23] h (fun r h3 => ∃ x5 : Int32, r = some (.int x5) ∧ Sh h3 ∧ ((x5 = (0 : Int32) → (ixR v1 10 ∧ (((AI h3 26 v1.toNatClampNeg) = (0 : Int32) → (((AI h3 23 8) = (0 : Int32) → Wp (d + 2) 157 47 [.ref 23, .int v1] [.int (1 : Int32), .int v1, .ref 26] h3 Q) ∧ (¬ (AI h3 23 8) = (0 : Int32) → Wp (d + 2) 157 47 [.ref 23, .int v1] [.int (2 : Int32), .int v1, .ref 26] h3 Q))) ∧ (¬ (AI h3 26 v1.toNatClampNeg) = (0 : Int32) → Q (some (.int (-103 : Int32))) h3)))) ∧ (¬ x5 = (0 : Int32) → Q (some (.int (-103 : Int32))) h3))))))))) : Wp (d + 2) 157 0 [.ref 23, .int v1] [] h Q := by
  refine Wp.blk (by decide) ol_157 0 2 (pc' := 2) (L' := [.ref 23, .int v1]) (S' := [.int v1, .ref 23]) (h' := h) rfl ?_
  refine Wp.callI (op_ix (by decide) ol_157 2 rfl) (act_virt (c2 := 1) rfl (lk1 (kS HS 23 rfl)) rfl) rfl (Cl.enter (L := [.ref 23, .int v1]) rfl ?_)
  refine Wp.blk (by decide) ol_138 0 3 (pc' := 3) (L' := [.ref 23, .int v1]) (S' := [.ref 23, .int (0 : Int32), .int v1]) (h' := h) rfl ?_
  refine Wp.getf (op_ix (by decide) ol_138 3 rfl) (okS HS 23 rfl rfl) (v := .int (AI h 23 0)) rfl rfl ?_
  refine Wp.blk (by decide) ol_138 4 2 (pc' := 8) (L' := [.ref 23, .int v1]) (S' := [.int (((AI h 23 0)) - ((1 : Int32))), .int (0 : Int32), .int v1]) (h' := h) rfl ?_
  refine Wp.callI (op_ix (by decide) ol_138 6 rfl) rfl rfl (Cl.enter (L := [.int v1, .int (0 : Int32), .int (((AI h 23 0)) - ((1 : Int32)))]) rfl ?_)
  refine Wp.blk (by decide) ol_129 0 3 (pc' := (if v1 < (0 : Int32) then 14 else 5)) (L' := [.int v1, .int (0 : Int32), .int (((AI h 23 0)) - ((1 : Int32)))]) (S' := []) (h' := h) rfl ?_
  refine Wp.br (fun c1 => ?_) (fun c1 => ?_)
  · replace K := K.1 c1
    refine Wp.blk (by decide) ol_129 8 1 (pc' := 15) (L' := [.int v1, .int (0 : Int32), .int (((AI h 23 0)) - ((1 : Int32)))]) (S' := [.int (0 : Int32)]) (h' := h) rfl ?_
    refine Wp.ret (op_ix (by decide) ol_129 9 rfl) rfl ⟨_, rfl, ?_⟩
    refine Wp.ret (op_ix (by decide) ol_138 7 rfl) rfl ⟨_, rfl, ?_⟩
    refine Wp.blk (by decide) ol_157 3 1 (pc' := (if (0 : Int32) = (0 : Int32) then 8 else 11)) (L' := [.ref 23, .int v1]) (S' := []) (h' := h) rfl ?_
    refine Wp.br (fun _ => ?_) (fun hc => absurd (by decide) hc)
    refine Wp.blk (by decide) ol_157 4 1 (pc' := 10) (L' := [.ref 23, .int v1]) (S' := [.int (-101 : Int32)]) (h' := h) rfl ?_
    exact Wp.ret (op_ix (by decide) ol_157 5 rfl) rfl K
  · replace K := K.2 c1
    refine Wp.blk (by decide) ol_129 3 3 (pc' := (if (((AI h 23 0)) - ((1 : Int32))) < v1 then 14 else 10)) (L' := [.int v1, .int (0 : Int32), .int (((AI h 23 0)) - ((1 : Int32)))]) (S' := []) (h' := h) rfl ?_
    refine Wp.br (fun c2 => ?_) (fun c2 => ?_)
    · replace K := K.1 c2
      refine Wp.blk (by decide) ol_129 8 1 (pc' := 15) (L' := [.int v1, .int (0 : Int32), .int (((AI h 23 0)) - ((1 : Int32)))]) (S' := [.int (0 : Int32)]) (h' := h) rfl ?_
      refine Wp.ret (op_ix (by decide) ol_129 9 rfl) rfl ⟨_, rfl, ?_⟩
      refine Wp.ret (op_ix (by decide) ol_138 7 rfl) rfl ⟨_, rfl, ?_⟩
      refine Wp.blk (by decide) ol_157 3 1 (pc' := (if (0 : Int32) = (0 : Int32) then 8 else 11)) (L' := [.ref 23, .int v1]) (S' := []) (h' := h) rfl ?_
      refine Wp.br (fun _ => ?_) (fun hc => absurd (by decide) hc)
      refine Wp.blk (by decide) ol_157 4 1 (pc' := 10) (L' := [.ref 23, .int v1]) (S' := [.int (-101 : Int32)]) (h' := h) rfl ?_
      exact Wp.ret (op_ix (by decide) ol_157 5 rfl) rfl K
    · replace K := K.2 c2
      refine Wp.blk (by decide) ol_129 6 2 (pc' := 15) (L' := [.int v1, .int (0 : Int32), .int (((AI h 23 0)) - ((1 : Int32)))]) (S' := [.int (1 : Int32)]) (h' := h) rfl ?_
      refine Wp.ret (op_ix (by decide) ol_129 9 rfl) rfl ⟨_, rfl, ?_⟩
      refine Wp.ret (op_ix (by decide) ol_138 7 rfl) rfl ⟨_, rfl, ?_⟩
      refine Wp.blk (by decide) ol_157 3 1 (pc' := (if (1 : Int32) = (0 : Int32) then 8 else 11)) (L' := [.ref 23, .int v1]) (S' := []) (h' := h) rfl ?_
      refine Wp.br (fun hc => absurd hc (by decide)) (fun _ => ?_)
      refine Wp.blk (by decide) ol_157 6 1 (pc' := 12) (L' := [.ref 23, .int v1]) (S' := [.ref 23]) (h' := h) rfl ?_
      refine Wp.callI (op_ix (by decide) ol_157 7 rfl) (act_virt (c2 := 0) rfl (lk1 (kS HS 23 rfl)) rfl) rfl (K.mono ?_)
      rintro _ h3 ⟨x5, rfl, hs4, K⟩
      refine ⟨x5, rfl, ?_⟩
      refine Wp.blk (by decide) ol_157 8 1 (pc' := (if x5 = (0 : Int32) then 18 else 27)) (L' := [.ref 23, .int v1]) (S' := []) (h' := h3) rfl ?_
      refine Wp.br (fun c6 => ?_) (fun c6 => ?_)
      · replace K := K.1 c6
        refine Wp.blk (by decide) ol_157 9 1 (pc' := 19) (L' := [.ref 23, .int v1]) (S' := [.ref 23]) (h' := h3) rfl ?_
        refine Wp.getf (op_ix (by decide) ol_157 10 rfl) (okS hs4 23 rfl rfl) (v := .ref 26) (congrArg va_rf (rS hs4 23 6 rfl)) rfl ?_
        refine Wp.blk (by decide) ol_157 11 1 (pc' := 23) (L' := [.ref 23, .int v1]) (S' := [.int v1, .ref 26]) (h' := h3) rfl ?_
        obtain ⟨r7, K⟩ := K
        refine Wp.iald (op_ix (by decide) ol_157 12 rfl) (kS hs4 26 rfl) (inS hs4 26 rfl r7) rfl ?_
        refine Wp.blk (by decide) ol_157 13 1 (pc' := (if (AI h3 26 v1.toNatClampNeg) = (0 : Int32) then 30 else 27)) (L' := [.ref 23, .int v1]) (S' := []) (h' := h3) rfl ?_
        refine Wp.br (fun c8 => ?_) (fun c8 => ?_)
        · replace K := K.1 c8
          refine Wp.blk (by decide) ol_157 16 1 (pc' := 31) (L' := [.ref 23, .int v1]) (S' := [.ref 23]) (h' := h3) rfl ?_
          refine Wp.getf (op_ix (by decide) ol_157 17 rfl) (okS hs4 23 rfl rfl) (v := .ref 26) (congrArg va_rf (rS hs4 23 6 rfl)) rfl ?_
          refine Wp.blk (by decide) ol_157 18 2 (pc' := 36) (L' := [.ref 23, .int v1]) (S' := [.ref 23, .int v1, .ref 26]) (h' := h3) rfl ?_
          refine Wp.getf (op_ix (by decide) ol_157 20 rfl) (okS hs4 23 rfl rfl) (v := .int (AI h3 23 8)) rfl rfl ?_
          refine Wp.blk (by decide) ol_157 21 1 (pc' := (if (AI h3 23 8) = (0 : Int32) then 42 else 46)) (L' := [.ref 23, .int v1]) (S' := [.int v1, .ref 26]) (h' := h3) rfl ?_
          refine Wp.br (fun c9 => ?_) (fun c9 => ?_)
          · replace K := K.1 c9
            refine Wp.blk (by decide) ol_157 22 2 (pc' := 47) (L' := [.ref 23, .int v1]) (S' := [.int (1 : Int32), .int v1, .ref 26]) (h' := h3) rfl ?_
            exact K
          · replace K := K.2 c9
            refine Wp.blk (by decide) ol_157 24 1 (pc' := 47) (L' := [.ref 23, .int v1]) (S' := [.int (2 : Int32), .int v1, .ref 26]) (h' := h3) rfl ?_
            exact K
        · replace K := K.2 c8
          refine Wp.blk (by decide) ol_157 14 1 (pc' := 29) (L' := [.ref 23, .int v1]) (S' := [.int (-103 : Int32)]) (h' := h3) rfl ?_
          exact Wp.ret (op_ix (by decide) ol_157 15 rfl) rfl K
      · replace K := K.2 c6
        refine Wp.blk (by decide) ol_157 14 1 (pc' := 29) (L' := [.ref 23, .int v1]) (S' := [.int (-103 : Int32)]) (h' := h3) rfl ?_
        exact Wp.ret (op_ix (by decide) ol_157 15 rfl) rfl K
/-- CutsOrFastModel.take at 47 -/
theorem g157_47 (d : Nat) (v1 : Int32) (s0 : Int32) (s1 : Int32) (s2 : Nat) (h : AH) (HS : Sh h)  (Q : Option Value → AH → Prop) (K : ((AK h s2).1 = 20 ∧ inR h s2 s1 = true ∧ 2 ≤ s2 ∧ ixR ((AI ((stI h s2 s1.toNatClampNeg s0)) 23 9)) 9 ∧ Q (some (.int (AI ((stI ((stI ((stI ((stI h s2 s1.toNatClampNeg s0)) 28 ((AI ((stI h s2 s1.toNatClampNeg s0)) 23 9)).toNatClampNeg v1)) 23 9 ((((AI ((stI ((stI h s2 s1.toNatClampNeg s0)) 28 ((AI ((stI h s2 s1.toNatClampNeg s0)) 23 9)).toNatClampNeg v1)) 23 9)) + ((1 : Int32)))))) 23 8 ((((1 : Int32)) - ((AI ((stI ((stI ((stI h s2 s1.toNatClampNeg s0)) 28 ((AI ((stI h s2 s1.toNatClampNeg s0)) 23 9)).toNatClampNeg v1)) 23 9 ((((AI ((stI ((stI h s2 s1.toNatClampNeg s0)) 28 ((AI ((stI h s2 s1.toNatClampNeg s0)) 23 9)).toNatClampNeg v1)) 23 9)) + ((1 : Int32)))))) 23 8)))))) 23 9))) (stI ((stI ((stI ((stI h s2 s1.toNatClampNeg s0)) 28 ((AI ((stI h s2 s1.toNatClampNeg s0)) 23 9)).toNatClampNeg v1)) 23 9 ((((AI ((stI ((stI h s2 s1.toNatClampNeg s0)) 28 ((AI ((stI h s2 s1.toNatClampNeg s0)) 23 9)).toNatClampNeg v1)) 23 9)) + ((1 : Int32)))))) 23 8 ((((1 : Int32)) - ((AI ((stI ((stI ((stI h s2 s1.toNatClampNeg s0)) 28 ((AI ((stI h s2 s1.toNatClampNeg s0)) 23 9)).toNatClampNeg v1)) 23 9 ((((AI ((stI ((stI h s2 s1.toNatClampNeg s0)) 28 ((AI ((stI h s2 s1.toNatClampNeg s0)) 23 9)).toNatClampNeg v1)) 23 9)) + ((1 : Int32)))))) 23 8))))))) : Wp d 157 47 [.ref 23, .int v1] [.int s0, .int s1, .ref s2] h Q := by
  obtain ⟨k1, K⟩ := K
  obtain ⟨r2, K⟩ := K
  obtain ⟨b3, K⟩ := K
  refine Wp.iast (op_ix (by decide) ol_157 25 rfl) b3 k1 r2 rfl ?_
  refine Wp.blk (by decide) ol_157 26 1 (pc' := 49) (L' := [.ref 23, .int v1]) (S' := [.ref 23]) (h' := (stI h s2 s1.toNatClampNeg s0)) rfl ?_
  refine Wp.getf (op_ix (by decide) ol_157 27 rfl) (okS HS 23 rfl rfl) (v := .ref 28) (congrArg va_rf (rS HS 23 10 rfl)) rfl ?_
  refine Wp.blk (by decide) ol_157 28 1 (pc' := 53) (L' := [.ref 23, .int v1]) (S' := [.ref 23, .ref 28]) (h' := (stI h s2 s1.toNatClampNeg s0)) rfl ?_
  refine Wp.getf (op_ix (by decide) ol_157 29 rfl) (okS HS 23 rfl rfl) (v := .int (AI ((stI h s2 s1.toNatClampNeg s0)) 23 9)) rfl rfl ?_
  refine Wp.blk (by decide) ol_157 30 1 (pc' := 57) (L' := [.ref 23, .int v1]) (S' := [.int v1, .int (AI ((stI h s2 s1.toNatClampNeg s0)) 23 9), .ref 28]) (h' := (stI h s2 s1.toNatClampNeg s0)) rfl ?_
  obtain ⟨r4, K⟩ := K
  refine Wp.iast (op_ix (by decide) ol_157 31 rfl) (by decide) (kS HS 28 rfl) (inS HS 28 rfl r4) rfl ?_
  refine Wp.blk (by decide) ol_157 32 2 (pc' := 60) (L' := [.ref 23, .int v1]) (S' := [.ref 23, .ref 23]) (h' := (stI ((stI h s2 s1.toNatClampNeg s0)) 28 ((AI ((stI h s2 s1.toNatClampNeg s0)) 23 9)).toNatClampNeg v1)) rfl ?_
  refine Wp.getf (op_ix (by decide) ol_157 34 rfl) (okS HS 23 rfl rfl) (v := .int (AI ((stI ((stI h s2 s1.toNatClampNeg s0)) 28 ((AI ((stI h s2 s1.toNatClampNeg s0)) 23 9)).toNatClampNeg v1)) 23 9)) rfl rfl ?_
  refine Wp.blk (by decide) ol_157 35 2 (pc' := 65) (L' := [.ref 23, .int v1]) (S' := [.int (((AI ((stI ((stI h s2 s1.toNatClampNeg s0)) 28 ((AI ((stI h s2 s1.toNatClampNeg s0)) 23 9)).toNatClampNeg v1)) 23 9)) + ((1 : Int32))), .ref 23]) (h' := (stI ((stI h s2 s1.toNatClampNeg s0)) 28 ((AI ((stI h s2 s1.toNatClampNeg s0)) 23 9)).toNatClampNeg v1)) rfl ?_
  refine Wp.putf (op_ix (by decide) ol_157 37 rfl) (by decide) (okS HS 23 rfl rfl) (h' := (stI ((stI ((stI h s2 s1.toNatClampNeg s0)) 28 ((AI ((stI h s2 s1.toNatClampNeg s0)) 23 9)).toNatClampNeg v1)) 23 9 ((((AI ((stI ((stI h s2 s1.toNatClampNeg s0)) 28 ((AI ((stI h s2 s1.toNatClampNeg s0)) 23 9)).toNatClampNeg v1)) 23 9)) + ((1 : Int32)))))) rfl rfl ?_
  refine Wp.blk (by decide) ol_157 38 3 (pc' := 71) (L' := [.ref 23, .int v1]) (S' := [.ref 23, .int (1 : Int32), .ref 23]) (h' := (stI ((stI ((stI h s2 s1.toNatClampNeg s0)) 28 ((AI ((stI h s2 s1.toNatClampNeg s0)) 23 9)).toNatClampNeg v1)) 23 9 ((((AI ((stI ((stI h s2 s1.toNatClampNeg s0)) 28 ((AI ((stI h s2 s1.toNatClampNeg s0)) 23 9)).toNatClampNeg v1)) 23 9)) + ((1 : Int32)))))) rfl ?_
  refine Wp.getf (op_ix (by decide) ol_157 41 rfl) (okS HS 23 rfl rfl) (v := .int (AI ((stI ((stI ((stI h s2 s1.toNatClampNeg s0)) 28 ((AI ((stI h s2 s1.toNatClampNeg s0)) 23 9)).toNatClampNeg v1)) 23 9 ((((AI ((stI ((stI h s2 s1.toNatClampNeg s0)) 28 ((AI ((stI h s2 s1.toNatClampNeg s0)) 23 9)).toNatClampNeg v1)) 23 9)) + ((1 : Int32)))))) 23 8)) rfl rfl ?_
  refine Wp.blk (by decide) ol_157 42 1 (pc' := 75) (L' := [.ref 23, .int v1]) (S' := [.int (((1 : Int32)) - ((AI ((stI ((stI ((stI h s2 s1.toNatClampNeg s0)) 28 ((AI ((stI h s2 s1.toNatClampNeg s0)) 23 9)).toNatClampNeg v1)) 23 9 ((((AI ((stI ((stI h s2 s1.toNatClampNeg s0)) 28 ((AI ((stI h s2 s1.toNatClampNeg s0)) 23 9)).toNatClampNeg v1)) 23 9)) + ((1 : Int32)))))) 23 8))), .ref 23]) (h' := (stI ((stI ((stI h s2 s1.toNatClampNeg s0)) 28 ((AI ((stI h s2 s1.toNatClampNeg s0)) 23 9)).toNatClampNeg v1)) 23 9 ((((AI ((stI ((stI h s2 s1.toNatClampNeg s0)) 28 ((AI ((stI h s2 s1.toNatClampNeg s0)) 23 9)).toNatClampNeg v1)) 23 9)) + ((1 : Int32)))))) rfl ?_
  refine Wp.putf (op_ix (by decide) ol_157 43 rfl) (by decide) (okS HS 23 rfl rfl) (h' := (stI ((stI ((stI ((stI h s2 s1.toNatClampNeg s0)) 28 ((AI ((stI h s2 s1.toNatClampNeg s0)) 23 9)).toNatClampNeg v1)) 23 9 ((((AI ((stI ((stI h s2 s1.toNatClampNeg s0)) 28 ((AI ((stI h s2 s1.toNatClampNeg s0)) 23 9)).toNatClampNeg v1)) 23 9)) + ((1 : Int32)))))) 23 8 ((((1 : Int32)) - ((AI ((stI ((stI ((stI h s2 s1.toNatClampNeg s0)) 28 ((AI ((stI h s2 s1.toNatClampNeg s0)) 23 9)).toNatClampNeg v1)) 23 9 ((((AI ((stI ((stI h s2 s1.toNatClampNeg s0)) 28 ((AI ((stI h s2 s1.toNatClampNeg s0)) 23 9)).toNatClampNeg v1)) 23 9)) + ((1 : Int32)))))) 23 8)))))) rfl rfl ?_
  refine Wp.blk (by decide) ol_157 44 1 (pc' := 79) (L' := [.ref 23, .int v1]) (S' := [.ref 23]) (h' := (stI ((stI ((stI ((stI h s2 s1.toNatClampNeg s0)) 28 ((AI ((stI h s2 s1.toNatClampNeg s0)) 23 9)).toNatClampNeg v1)) 23 9 ((((AI ((stI ((stI h s2 s1.toNatClampNeg s0)) 28 ((AI ((stI h s2 s1.toNatClampNeg s0)) 23 9)).toNatClampNeg v1)) 23 9)) + ((1 : Int32)))))) 23 8 ((((1 : Int32)) - ((AI ((stI ((stI ((stI h s2 s1.toNatClampNeg s0)) 28 ((AI ((stI h s2 s1.toNatClampNeg s0)) 23 9)).toNatClampNeg v1)) 23 9 ((((AI ((stI ((stI h s2 s1.toNatClampNeg s0)) 28 ((AI ((stI h s2 s1.toNatClampNeg s0)) 23 9)).toNatClampNeg v1)) 23 9)) + ((1 : Int32)))))) 23 8)))))) rfl ?_
  refine Wp.getf (op_ix (by decide) ol_157 45 rfl) (okS HS 23 rfl rfl) (v := .int (AI ((stI ((stI ((stI ((stI h s2 s1.toNatClampNeg s0)) 28 ((AI ((stI h s2 s1.toNatClampNeg s0)) 23 9)).toNatClampNeg v1)) 23 9 ((((AI ((stI ((stI h s2 s1.toNatClampNeg s0)) 28 ((AI ((stI h s2 s1.toNatClampNeg s0)) 23 9)).toNatClampNeg v1)) 23 9)) + ((1 : Int32)))))) 23 8 ((((1 : Int32)) - ((AI ((stI ((stI ((stI h s2 s1.toNatClampNeg s0)) 28 ((AI ((stI h s2 s1.toNatClampNeg s0)) 23 9)).toNatClampNeg v1)) 23 9 ((((AI ((stI ((stI h s2 s1.toNatClampNeg s0)) 28 ((AI ((stI h s2 s1.toNatClampNeg s0)) 23 9)).toNatClampNeg v1)) 23 9)) + ((1 : Int32)))))) 23 8)))))) 23 9)) rfl rfl ?_
  exact Wp.ret (op_ix (by decide) ol_157 46 rfl) rfl K
/-- CutsOrFastModel.back at 0 ()I -/
theorem g158_0 (d : Nat)  (h : AH) (HS : Sh h)  (Q : Option Value → AH → Prop) (K : (((AI h 23 0) = (0 : Int32) → Q (some (.int (-103 : Int32))) h) ∧ (¬ (AI h 23 0) = (0 : Int32) → (((AI h 23 9) = (0 : Int32) → Q (some (.int (-103 : Int32))) h) ∧ (¬ (AI h 23 9) = (0 : Int32) → (ixR ((AI ((stI h 23 9 ((((AI h 23 9)) - ((1 : Int32)))))) 23 9)) 9 ∧ ixR ((AI ((stI h 23 9 ((((AI h 23 9)) - ((1 : Int32)))))) 28 ((AI ((stI h 23 9 ((((AI h 23 9)) - ((1 : Int32)))))) 23 9)).toNatClampNeg)) 10 ∧ Q (some (.int (AI ((stI ((stI ((stI h 23 9 ((((AI h 23 9)) - ((1 : Int32)))))) 26 ((AI ((stI h 23 9 ((((AI h 23 9)) - ((1 : Int32)))))) 28 ((AI ((stI h 23 9 ((((AI h 23 9)) - ((1 : Int32)))))) 23 9)).toNatClampNeg)).toNatClampNeg ((0 : Int32)))) 23 8 ((((1 : Int32)) - ((AI ((stI ((stI h 23 9 ((((AI h 23 9)) - ((1 : Int32)))))) 26 ((AI ((stI h 23 9 ((((AI h 23 9)) - ((1 : Int32)))))) 28 ((AI ((stI h 23 9 ((((AI h 23 9)) - ((1 : Int32)))))) 23 9)).toNatClampNeg)).toNatClampNeg ((0 : Int32)))) 23 8)))))) 23 9))) (stI ((stI ((stI h 23 9 ((((AI h 23 9)) - ((1 : Int32)))))) 26 ((AI ((stI h 23 9 ((((AI h 23 9)) - ((1 : Int32)))))) 28 ((AI ((stI h 23 9 ((((AI h 23 9)) - ((1 : Int32)))))) 23 9)).toNatClampNeg)).toNatClampNeg ((0 : Int32)))) 23 8 ((((1 : Int32)) - ((AI ((stI ((stI h 23 9 ((((AI h 23 9)) - ((1 : Int32)))))) 26 ((AI ((stI h 23 9 ((((AI h 23 9)) - ((1 : Int32)))))) 28 ((AI ((stI h 23 9 ((((AI h 23 9)) - ((1 : Int32)))))) 23 9)).toNatClampNeg)).toNatClampNeg ((0 : Int32)))) 23 8))))))))))) : Wp d 158 0 [.ref 23] [] h Q := by
  refine Wp.blk (by decide) ol_158 0 1 (pc' := 1) (L' := [.ref 23]) (S' := [.ref 23]) (h' := h) rfl ?_
  refine Wp.getf (op_ix (by decide) ol_158 1 rfl) (okS HS 23 rfl rfl) (v := .int (AI h 23 0)) rfl rfl ?_
  refine Wp.blk (by decide) ol_158 2 1 (pc' := (if (AI h 23 0) = (0 : Int32) then 14 else 7)) (L' := [.ref 23]) (S' := []) (h' := h) rfl ?_
  refine Wp.br (fun c1 => ?_) (fun c1 => ?_)
  · replace K := K.1 c1
    refine Wp.blk (by decide) ol_158 6 1 (pc' := 16) (L' := [.ref 23]) (S' := [.int (-103 : Int32)]) (h' := h) rfl ?_
    exact Wp.ret (op_ix (by decide) ol_158 7 rfl) rfl K
  · replace K := K.2 c1
    refine Wp.blk (by decide) ol_158 3 1 (pc' := 8) (L' := [.ref 23]) (S' := [.ref 23]) (h' := h) rfl ?_
    refine Wp.getf (op_ix (by decide) ol_158 4 rfl) (okS HS 23 rfl rfl) (v := .int (AI h 23 9)) rfl rfl ?_
    refine Wp.blk (by decide) ol_158 5 1 (pc' := (if (AI h 23 9) = (0 : Int32) then 14 else 17)) (L' := [.ref 23]) (S' := []) (h' := h) rfl ?_
    refine Wp.br (fun c2 => ?_) (fun c2 => ?_)
    · replace K := K.1 c2
      refine Wp.blk (by decide) ol_158 6 1 (pc' := 16) (L' := [.ref 23]) (S' := [.int (-103 : Int32)]) (h' := h) rfl ?_
      exact Wp.ret (op_ix (by decide) ol_158 7 rfl) rfl K
    · replace K := K.2 c2
      refine Wp.blk (by decide) ol_158 8 2 (pc' := 19) (L' := [.ref 23]) (S' := [.ref 23, .ref 23]) (h' := h) rfl ?_
      refine Wp.getf (op_ix (by decide) ol_158 10 rfl) (okS HS 23 rfl rfl) (v := .int (AI h 23 9)) rfl rfl ?_
      refine Wp.blk (by decide) ol_158 11 2 (pc' := 24) (L' := [.ref 23]) (S' := [.int (((AI h 23 9)) - ((1 : Int32))), .ref 23]) (h' := h) rfl ?_
      refine Wp.putf (op_ix (by decide) ol_158 13 rfl) (by decide) (okS HS 23 rfl rfl) (h' := (stI h 23 9 ((((AI h 23 9)) - ((1 : Int32)))))) rfl rfl ?_
      refine Wp.blk (by decide) ol_158 14 1 (pc' := 28) (L' := [.ref 23]) (S' := [.ref 23]) (h' := (stI h 23 9 ((((AI h 23 9)) - ((1 : Int32)))))) rfl ?_
      refine Wp.getf (op_ix (by decide) ol_158 15 rfl) (okS HS 23 rfl rfl) (v := .ref 26) (congrArg va_rf (rS HS 23 6 rfl)) rfl ?_
      refine Wp.blk (by decide) ol_158 16 1 (pc' := 32) (L' := [.ref 23]) (S' := [.ref 23, .ref 26]) (h' := (stI h 23 9 ((((AI h 23 9)) - ((1 : Int32)))))) rfl ?_
      refine Wp.getf (op_ix (by decide) ol_158 17 rfl) (okS HS 23 rfl rfl) (v := .ref 28) (congrArg va_rf (rS HS 23 10 rfl)) rfl ?_
      refine Wp.blk (by decide) ol_158 18 1 (pc' := 36) (L' := [.ref 23]) (S' := [.ref 23, .ref 28, .ref 26]) (h' := (stI h 23 9 ((((AI h 23 9)) - ((1 : Int32)))))) rfl ?_
      refine Wp.getf (op_ix (by decide) ol_158 19 rfl) (okS HS 23 rfl rfl) (v := .int (AI ((stI h 23 9 ((((AI h 23 9)) - ((1 : Int32)))))) 23 9)) rfl rfl ?_
      obtain ⟨r3, K⟩ := K
      refine Wp.iald (op_ix (by decide) ol_158 20 rfl) (kS HS 28 rfl) (inS HS 28 rfl r3) rfl ?_
      refine Wp.blk (by decide) ol_158 21 1 (pc' := 41) (L' := [.ref 23]) (S' := [.int (0 : Int32), .int (AI ((stI h 23 9 ((((AI h 23 9)) - ((1 : Int32)))))) 28 ((AI ((stI h 23 9 ((((AI h 23 9)) - ((1 : Int32)))))) 23 9)).toNatClampNeg), .ref 26]) (h' := (stI h 23 9 ((((AI h 23 9)) - ((1 : Int32)))))) rfl ?_
      obtain ⟨r4, K⟩ := K
      refine Wp.iast (op_ix (by decide) ol_158 22 rfl) (by decide) (kS HS 26 rfl) (inS HS 26 rfl r4) rfl ?_
      refine Wp.blk (by decide) ol_158 23 3 (pc' := 45) (L' := [.ref 23]) (S' := [.ref 23, .int (1 : Int32), .ref 23]) (h' := (stI ((stI h 23 9 ((((AI h 23 9)) - ((1 : Int32)))))) 26 ((AI ((stI h 23 9 ((((AI h 23 9)) - ((1 : Int32)))))) 28 ((AI ((stI h 23 9 ((((AI h 23 9)) - ((1 : Int32)))))) 23 9)).toNatClampNeg)).toNatClampNeg ((0 : Int32)))) rfl ?_
      refine Wp.getf (op_ix (by decide) ol_158 26 rfl) (okS HS 23 rfl rfl) (v := .int (AI ((stI ((stI h 23 9 ((((AI h 23 9)) - ((1 : Int32)))))) 26 ((AI ((stI h 23 9 ((((AI h 23 9)) - ((1 : Int32)))))) 28 ((AI ((stI h 23 9 ((((AI h 23 9)) - ((1 : Int32)))))) 23 9)).toNatClampNeg)).toNatClampNeg ((0 : Int32)))) 23 8)) rfl rfl ?_
      refine Wp.blk (by decide) ol_158 27 1 (pc' := 49) (L' := [.ref 23]) (S' := [.int (((1 : Int32)) - ((AI ((stI ((stI h 23 9 ((((AI h 23 9)) - ((1 : Int32)))))) 26 ((AI ((stI h 23 9 ((((AI h 23 9)) - ((1 : Int32)))))) 28 ((AI ((stI h 23 9 ((((AI h 23 9)) - ((1 : Int32)))))) 23 9)).toNatClampNeg)).toNatClampNeg ((0 : Int32)))) 23 8))), .ref 23]) (h' := (stI ((stI h 23 9 ((((AI h 23 9)) - ((1 : Int32)))))) 26 ((AI ((stI h 23 9 ((((AI h 23 9)) - ((1 : Int32)))))) 28 ((AI ((stI h 23 9 ((((AI h 23 9)) - ((1 : Int32)))))) 23 9)).toNatClampNeg)).toNatClampNeg ((0 : Int32)))) rfl ?_
      refine Wp.putf (op_ix (by decide) ol_158 28 rfl) (by decide) (okS HS 23 rfl rfl) (h' := (stI ((stI ((stI h 23 9 ((((AI h 23 9)) - ((1 : Int32)))))) 26 ((AI ((stI h 23 9 ((((AI h 23 9)) - ((1 : Int32)))))) 28 ((AI ((stI h 23 9 ((((AI h 23 9)) - ((1 : Int32)))))) 23 9)).toNatClampNeg)).toNatClampNeg ((0 : Int32)))) 23 8 ((((1 : Int32)) - ((AI ((stI ((stI h 23 9 ((((AI h 23 9)) - ((1 : Int32)))))) 26 ((AI ((stI h 23 9 ((((AI h 23 9)) - ((1 : Int32)))))) 28 ((AI ((stI h 23 9 ((((AI h 23 9)) - ((1 : Int32)))))) 23 9)).toNatClampNeg)).toNatClampNeg ((0 : Int32)))) 23 8)))))) rfl rfl ?_
      refine Wp.blk (by decide) ol_158 29 1 (pc' := 53) (L' := [.ref 23]) (S' := [.ref 23]) (h' := (stI ((stI ((stI h 23 9 ((((AI h 23 9)) - ((1 : Int32)))))) 26 ((AI ((stI h 23 9 ((((AI h 23 9)) - ((1 : Int32)))))) 28 ((AI ((stI h 23 9 ((((AI h 23 9)) - ((1 : Int32)))))) 23 9)).toNatClampNeg)).toNatClampNeg ((0 : Int32)))) 23 8 ((((1 : Int32)) - ((AI ((stI ((stI h 23 9 ((((AI h 23 9)) - ((1 : Int32)))))) 26 ((AI ((stI h 23 9 ((((AI h 23 9)) - ((1 : Int32)))))) 28 ((AI ((stI h 23 9 ((((AI h 23 9)) - ((1 : Int32)))))) 23 9)).toNatClampNeg)).toNatClampNeg ((0 : Int32)))) 23 8)))))) rfl ?_
      refine Wp.getf (op_ix (by decide) ol_158 30 rfl) (okS HS 23 rfl rfl) (v := .int (AI ((stI ((stI ((stI h 23 9 ((((AI h 23 9)) - ((1 : Int32)))))) 26 ((AI ((stI h 23 9 ((((AI h 23 9)) - ((1 : Int32)))))) 28 ((AI ((stI h 23 9 ((((AI h 23 9)) - ((1 : Int32)))))) 23 9)).toNatClampNeg)).toNatClampNeg ((0 : Int32)))) 23 8 ((((1 : Int32)) - ((AI ((stI ((stI h 23 9 ((((AI h 23 9)) - ((1 : Int32)))))) 26 ((AI ((stI h 23 9 ((((AI h 23 9)) - ((1 : Int32)))))) 28 ((AI ((stI h 23 9 ((((AI h 23 9)) - ((1 : Int32)))))) 23 9)).toNatClampNeg)).toNatClampNeg ((0 : Int32)))) 23 8)))))) 23 9)) rfl rfl ?_
      exact Wp.ret (op_ix (by decide) ol_158 31 rfl) rfl K
/-- CutsOrFastModel.answer at 0 (I)I -/
theorem g159_0 (d : Nat) (v1 : Int32) (h : AH) (HS : Sh h)  (Q : Option Value → AH → Prop) (K : ((v1 < (0 : Int32) → Q (some (.int (-101 : Int32))) h) ∧ (¬ v1 < (0 : Int32) → (((((AI h 23 0)) - ((1 : Int32))) < v1 → Q (some (.int (-101 : Int32))) h) ∧ (¬ (((AI h 23 0)) - ((1 : Int32))) < v1 → (Cl (d + 1) 144 [.ref 23] h (fun r h3 => ∃ x5 : Int32, r = some (.int x5) ∧ Sh h3 ∧ ((x5 = (0 : Int32) → (ixR v1 10 ∧ (((AI h3 26 v1.toNatClampNeg) = (0 : Int32) → (Cl (d + 1) 154 [.ref 23, .int (0 : Int32)] ((stI h3 26 v1.toNatClampNeg ((2 : Int32)))) (fun r h9 => ∃ x11 : Int32, r = some (.int x11) ∧ Sh h9 ∧ (ixR v1 10 ∧ Q (some (.int x11)) (stI h9 26 v1.toNatClampNeg ((0 : Int32))))))) ∧ (¬ (AI h3 26 v1.toNatClampNeg) = (0 : Int32) → Q (some (.int (-103 : Int32))) h3)))) ∧ (¬ x5 = (0 : Int32) → Q (some (.int (-103 : Int32))) h3))))))))) : Wp (d + 2) 159 0 [.ref 23, .int v1, mk0] [] h Q := by
  refine Wp.blk (by decide) ol_159 0 2 (pc' := 2) (L' := [.ref 23, .int v1, mk0]) (S' := [.int v1, .ref 23]) (h' := h) rfl ?_
  refine Wp.callI (op_ix (by decide) ol_159 2 rfl) (act_virt (c2 := 1) rfl (lk1 (kS HS 23 rfl)) rfl) rfl (Cl.enter (L := [.ref 23, .int v1]) rfl ?_)
  refine Wp.blk (by decide) ol_138 0 3 (pc' := 3) (L' := [.ref 23, .int v1]) (S' := [.ref 23, .int (0 : Int32), .int v1]) (h' := h) rfl ?_
  refine Wp.getf (op_ix (by decide) ol_138 3 rfl) (okS HS 23 rfl rfl) (v := .int (AI h 23 0)) rfl rfl ?_
  refine Wp.blk (by decide) ol_138 4 2 (pc' := 8) (L' := [.ref 23, .int v1]) (S' := [.int (((AI h 23 0)) - ((1 : Int32))), .int (0 : Int32), .int v1]) (h' := h) rfl ?_
  refine Wp.callI (op_ix (by decide) ol_138 6 rfl) rfl rfl (Cl.enter (L := [.int v1, .int (0 : Int32), .int (((AI h 23 0)) - ((1 : Int32)))]) rfl ?_)
  refine Wp.blk (by decide) ol_129 0 3 (pc' := (if v1 < (0 : Int32) then 14 else 5)) (L' := [.int v1, .int (0 : Int32), .int (((AI h 23 0)) - ((1 : Int32)))]) (S' := []) (h' := h) rfl ?_
  refine Wp.br (fun c1 => ?_) (fun c1 => ?_)
  · replace K := K.1 c1
    refine Wp.blk (by decide) ol_129 8 1 (pc' := 15) (L' := [.int v1, .int (0 : Int32), .int (((AI h 23 0)) - ((1 : Int32)))]) (S' := [.int (0 : Int32)]) (h' := h) rfl ?_
    refine Wp.ret (op_ix (by decide) ol_129 9 rfl) rfl ⟨_, rfl, ?_⟩
    refine Wp.ret (op_ix (by decide) ol_138 7 rfl) rfl ⟨_, rfl, ?_⟩
    refine Wp.blk (by decide) ol_159 3 1 (pc' := (if (0 : Int32) = (0 : Int32) then 8 else 11)) (L' := [.ref 23, .int v1, mk0]) (S' := []) (h' := h) rfl ?_
    refine Wp.br (fun _ => ?_) (fun hc => absurd (by decide) hc)
    refine Wp.blk (by decide) ol_159 4 1 (pc' := 10) (L' := [.ref 23, .int v1, mk0]) (S' := [.int (-101 : Int32)]) (h' := h) rfl ?_
    exact Wp.ret (op_ix (by decide) ol_159 5 rfl) rfl K
  · replace K := K.2 c1
    refine Wp.blk (by decide) ol_129 3 3 (pc' := (if (((AI h 23 0)) - ((1 : Int32))) < v1 then 14 else 10)) (L' := [.int v1, .int (0 : Int32), .int (((AI h 23 0)) - ((1 : Int32)))]) (S' := []) (h' := h) rfl ?_
    refine Wp.br (fun c2 => ?_) (fun c2 => ?_)
    · replace K := K.1 c2
      refine Wp.blk (by decide) ol_129 8 1 (pc' := 15) (L' := [.int v1, .int (0 : Int32), .int (((AI h 23 0)) - ((1 : Int32)))]) (S' := [.int (0 : Int32)]) (h' := h) rfl ?_
      refine Wp.ret (op_ix (by decide) ol_129 9 rfl) rfl ⟨_, rfl, ?_⟩
      refine Wp.ret (op_ix (by decide) ol_138 7 rfl) rfl ⟨_, rfl, ?_⟩
      refine Wp.blk (by decide) ol_159 3 1 (pc' := (if (0 : Int32) = (0 : Int32) then 8 else 11)) (L' := [.ref 23, .int v1, mk0]) (S' := []) (h' := h) rfl ?_
      refine Wp.br (fun _ => ?_) (fun hc => absurd (by decide) hc)
      refine Wp.blk (by decide) ol_159 4 1 (pc' := 10) (L' := [.ref 23, .int v1, mk0]) (S' := [.int (-101 : Int32)]) (h' := h) rfl ?_
      exact Wp.ret (op_ix (by decide) ol_159 5 rfl) rfl K
    · replace K := K.2 c2
      refine Wp.blk (by decide) ol_129 6 2 (pc' := 15) (L' := [.int v1, .int (0 : Int32), .int (((AI h 23 0)) - ((1 : Int32)))]) (S' := [.int (1 : Int32)]) (h' := h) rfl ?_
      refine Wp.ret (op_ix (by decide) ol_129 9 rfl) rfl ⟨_, rfl, ?_⟩
      refine Wp.ret (op_ix (by decide) ol_138 7 rfl) rfl ⟨_, rfl, ?_⟩
      refine Wp.blk (by decide) ol_159 3 1 (pc' := (if (1 : Int32) = (0 : Int32) then 8 else 11)) (L' := [.ref 23, .int v1, mk0]) (S' := []) (h' := h) rfl ?_
      refine Wp.br (fun hc => absurd hc (by decide)) (fun _ => ?_)
      refine Wp.blk (by decide) ol_159 6 1 (pc' := 12) (L' := [.ref 23, .int v1, mk0]) (S' := [.ref 23]) (h' := h) rfl ?_
      refine Wp.callI (op_ix (by decide) ol_159 7 rfl) (act_virt (c2 := 0) rfl (lk1 (kS HS 23 rfl)) rfl) rfl (K.mono ?_)
      rintro _ h3 ⟨x5, rfl, hs4, K⟩
      refine ⟨x5, rfl, ?_⟩
      refine Wp.blk (by decide) ol_159 8 1 (pc' := (if x5 = (0 : Int32) then 18 else 27)) (L' := [.ref 23, .int v1, mk0]) (S' := []) (h' := h3) rfl ?_
      refine Wp.br (fun c6 => ?_) (fun c6 => ?_)
      · replace K := K.1 c6
        refine Wp.blk (by decide) ol_159 9 1 (pc' := 19) (L' := [.ref 23, .int v1, mk0]) (S' := [.ref 23]) (h' := h3) rfl ?_
        refine Wp.getf (op_ix (by decide) ol_159 10 rfl) (okS hs4 23 rfl rfl) (v := .ref 26) (congrArg va_rf (rS hs4 23 6 rfl)) rfl ?_
        refine Wp.blk (by decide) ol_159 11 1 (pc' := 23) (L' := [.ref 23, .int v1, mk0]) (S' := [.int v1, .ref 26]) (h' := h3) rfl ?_
        obtain ⟨r7, K⟩ := K
        refine Wp.iald (op_ix (by decide) ol_159 12 rfl) (kS hs4 26 rfl) (inS hs4 26 rfl r7) rfl ?_
        refine Wp.blk (by decide) ol_159 13 1 (pc' := (if (AI h3 26 v1.toNatClampNeg) = (0 : Int32) then 30 else 27)) (L' := [.ref 23, .int v1, mk0]) (S' := []) (h' := h3) rfl ?_
        refine Wp.br (fun c8 => ?_) (fun c8 => ?_)
        · replace K := K.1 c8
          refine Wp.blk (by decide) ol_159 16 1 (pc' := 31) (L' := [.ref 23, .int v1, mk0]) (S' := [.ref 23]) (h' := h3) rfl ?_
          refine Wp.getf (op_ix (by decide) ol_159 17 rfl) (okS hs4 23 rfl rfl) (v := .ref 26) (congrArg va_rf (rS hs4 23 6 rfl)) rfl ?_
          refine Wp.blk (by decide) ol_159 18 2 (pc' := 36) (L' := [.ref 23, .int v1, mk0]) (S' := [.int (2 : Int32), .int v1, .ref 26]) (h' := h3) rfl ?_
          refine Wp.iast (op_ix (by decide) ol_159 20 rfl) (by decide) (kS hs4 26 rfl) (inS hs4 26 rfl r7) rfl ?_
          refine Wp.blk (by decide) ol_159 21 2 (pc' := 39) (L' := [.ref 23, .int v1, mk0]) (S' := [.int (0 : Int32), .ref 23]) (h' := (stI h3 26 v1.toNatClampNeg ((2 : Int32)))) rfl ?_
          refine Wp.callI (op_ix (by decide) ol_159 23 rfl) (act_virt (c2 := 1) rfl (lk1 (kS hs4 23 rfl)) rfl) rfl (K.mono ?_)
          rintro _ h9 ⟨x11, rfl, hs10, K⟩
          refine ⟨x11, rfl, ?_⟩
          refine Wp.blk (by decide) ol_159 24 2 (pc' := 44) (L' := [.ref 23, .int v1, .int x11]) (S' := [.ref 23]) (h' := h9) rfl ?_
          refine Wp.getf (op_ix (by decide) ol_159 26 rfl) (okS hs10 23 rfl rfl) (v := .ref 26) (congrArg va_rf (rS hs10 23 6 rfl)) rfl ?_
          refine Wp.blk (by decide) ol_159 27 2 (pc' := 49) (L' := [.ref 23, .int v1, .int x11]) (S' := [.int (0 : Int32), .int v1, .ref 26]) (h' := h9) rfl ?_
          obtain ⟨r12, K⟩ := K
          refine Wp.iast (op_ix (by decide) ol_159 29 rfl) (by decide) (kS hs10 26 rfl) (inS hs10 26 rfl r12) rfl ?_
          refine Wp.blk (by decide) ol_159 30 1 (pc' := 51) (L' := [.ref 23, .int v1, .int x11]) (S' := [.int x11]) (h' := (stI h9 26 v1.toNatClampNeg ((0 : Int32)))) rfl ?_
          exact Wp.ret (op_ix (by decide) ol_159 31 rfl) rfl K
        · replace K := K.2 c8
          refine Wp.blk (by decide) ol_159 14 1 (pc' := 29) (L' := [.ref 23, .int v1, mk0]) (S' := [.int (-103 : Int32)]) (h' := h3) rfl ?_
          exact Wp.ret (op_ix (by decide) ol_159 15 rfl) rfl K
      · replace K := K.2 c6
        refine Wp.blk (by decide) ol_159 14 1 (pc' := 29) (L' := [.ref 23, .int v1, mk0]) (S' := [.int (-103 : Int32)]) (h' := h3) rfl ?_
        exact Wp.ret (op_ix (by decide) ol_159 15 rfl) rfl K
/-- CutsOrFastModel.lostNow at 0 ()I -/
theorem g160_0 (d : Nat)  (h : AH) (HS : Sh h)  (Q : Option Value → AH → Prop) (K : Wp d 160 7 [.ref 23, .int (AI h 23 9), .int (0 : Int32), mk0, mk0, mk0, mk0, mk0, mk0, mk0] [] h Q) : Wp d 160 0 [.ref 23, mk0, mk0, mk0, mk0, mk0, mk0, mk0, mk0, mk0] [] h Q := by
  refine Wp.blk (by decide) ol_160 0 1 (pc' := 1) (L' := [.ref 23, mk0, mk0, mk0, mk0, mk0, mk0, mk0, mk0, mk0]) (S' := [.ref 23]) (h' := h) rfl ?_
  refine Wp.getf (op_ix (by decide) ol_160 1 rfl) (okS HS 23 rfl rfl) (v := .int (AI h 23 9)) rfl rfl ?_
  refine Wp.blk (by decide) ol_160 2 3 (pc' := 7) (L' := [.ref 23, .int (AI h 23 9), .int (0 : Int32), mk0, mk0, mk0, mk0, mk0, mk0, mk0]) (S' := []) (h' := h) rfl ?_
  exact K
/-- CutsOrFastModel.lostNow at 7 -/
theorem g160_7 (d : Nat) (v1 : Int32) (v2 : Int32) (h : AH) (HS : Sh h)  (Q : Option Value → AH → Prop) (K : ((v2 < v1 → (ixR v2 9 ∧ ixR ((AI h 28 v2.toNatClampNeg)) 10 ∧ Wp (d + 1) 160 7 [.ref 23, .int v1, .int (v2 + (1 : Int32)), mk0, mk0, mk0, mk0, mk0, mk0, mk0] [] (stI h 26 ((AI h 28 v2.toNatClampNeg)).toNatClampNeg ((0 : Int32))) Q)) ∧ (¬ v2 < v1 → (Cl d 150 [.ref 23, .int (AI h 23 0)] h (fun r h4 => r = none ∧ Sh h4 ∧ Wp (d + 1) 160 55 [.ref 23, .int v1, .int ((((AI h4 23 8)) + v1) - (((AI h4 23 8)) + v1) / (2 : Int32) * (2 : Int32)), .int (0 : Int32), .int (-1 : Int32), .int (0 : Int32), mk0, mk0, mk0, mk0] [] h4 Q))))) : Wp (d + 1) 160 7 [.ref 23, .int v1, .int v2, mk0, mk0, mk0, mk0, mk0, mk0, mk0] [] h Q := by
  refine Wp.blk (by decide) ol_160 5 3 (pc' := (if v2 < v1 then 12 else 30)) (L' := [.ref 23, .int v1, .int v2, mk0, mk0, mk0, mk0, mk0, mk0, mk0]) (S' := []) (h' := h) rfl ?_
  refine Wp.br (fun c1 => ?_) (fun c1 => ?_)
  · replace K := K.1 c1
    refine Wp.blk (by decide) ol_160 8 1 (pc' := 13) (L' := [.ref 23, .int v1, .int v2, mk0, mk0, mk0, mk0, mk0, mk0, mk0]) (S' := [.ref 23]) (h' := h) rfl ?_
    refine Wp.getf (op_ix (by decide) ol_160 9 rfl) (okS HS 23 rfl rfl) (v := .ref 26) (congrArg va_rf (rS HS 23 6 rfl)) rfl ?_
    refine Wp.blk (by decide) ol_160 10 1 (pc' := 17) (L' := [.ref 23, .int v1, .int v2, mk0, mk0, mk0, mk0, mk0, mk0, mk0]) (S' := [.ref 23, .ref 26]) (h' := h) rfl ?_
    refine Wp.getf (op_ix (by decide) ol_160 11 rfl) (okS HS 23 rfl rfl) (v := .ref 28) (congrArg va_rf (rS HS 23 10 rfl)) rfl ?_
    refine Wp.blk (by decide) ol_160 12 1 (pc' := 21) (L' := [.ref 23, .int v1, .int v2, mk0, mk0, mk0, mk0, mk0, mk0, mk0]) (S' := [.int v2, .ref 28, .ref 26]) (h' := h) rfl ?_
    obtain ⟨r2, K⟩ := K
    refine Wp.iald (op_ix (by decide) ol_160 13 rfl) (kS HS 28 rfl) (inS HS 28 rfl r2) rfl ?_
    refine Wp.blk (by decide) ol_160 14 1 (pc' := 23) (L' := [.ref 23, .int v1, .int v2, mk0, mk0, mk0, mk0, mk0, mk0, mk0]) (S' := [.int (0 : Int32), .int (AI h 28 v2.toNatClampNeg), .ref 26]) (h' := h) rfl ?_
    obtain ⟨r3, K⟩ := K
    refine Wp.iast (op_ix (by decide) ol_160 15 rfl) (by decide) (kS HS 26 rfl) (inS HS 26 rfl r3) rfl ?_
    refine Wp.blk (by decide) ol_160 16 2 (pc' := 7) (L' := [.ref 23, .int v1, .int (v2 + (1 : Int32)), mk0, mk0, mk0, mk0, mk0, mk0, mk0]) (S' := []) (h' := (stI h 26 ((AI h 28 v2.toNatClampNeg)).toNatClampNeg ((0 : Int32)))) rfl ?_
    exact K
  · replace K := K.2 c1
    refine Wp.blk (by decide) ol_160 18 2 (pc' := 32) (L' := [.ref 23, .int v1, .int v2, mk0, mk0, mk0, mk0, mk0, mk0, mk0]) (S' := [.ref 23, .ref 23]) (h' := h) rfl ?_
    refine Wp.getf (op_ix (by decide) ol_160 20 rfl) (okS HS 23 rfl rfl) (v := .int (AI h 23 0)) rfl rfl ?_
    refine Wp.callV (op_ix (by decide) ol_160 21 rfl) (act_virt (c2 := 1) rfl (lk1 (kS HS 23 rfl)) rfl) rfl (K.mono ?_)
    rintro _ h4 ⟨rfl, hs5, K⟩
    refine ⟨rfl, ?_⟩
    refine Wp.blk (by decide) ol_160 22 1 (pc' := 39) (L' := [.ref 23, .int v1, .int v2, mk0, mk0, mk0, mk0, mk0, mk0, mk0]) (S' := [.ref 23]) (h' := h4) rfl ?_
    refine Wp.getf (op_ix (by decide) ol_160 23 rfl) (okS hs5 23 rfl rfl) (v := .int (AI h4 23 8)) rfl rfl ?_
    refine Wp.blk (by decide) ol_160 24 11 (pc' := 55) (L' := [.ref 23, .int v1, .int ((((AI h4 23 8)) + v1) - (((AI h4 23 8)) + v1) / (2 : Int32) * (2 : Int32)), .int (0 : Int32), .int (-1 : Int32), .int (0 : Int32), mk0, mk0, mk0, mk0]) (S' := []) (h' := h4) rfl ?_
    exact K
/-- CutsOrFastModel.lostNow at 55 -/
theorem g160_55 (d : Nat) (v1 : Int32) (v2 : Int32) (v3 : Int32) (v4 : Int32) (v5 : Int32) (h : AH) (HS : Sh h)  (Q : Option Value → AH → Prop) (K : ((v5 < v1 → ((((v2 + v5) - (v2 + v5) / (2 : Int32) * (2 : Int32)) = (0 : Int32) → Wp d 160 80 [.ref 23, .int v1, .int v2, .int v3, .int v4, .int v5, .int ((v2 + v5) - (v2 + v5) / (2 : Int32) * (2 : Int32)), mk0, mk0, mk0] [.int (1 : Int32), .int v3] h Q) ∧ (¬ ((v2 + v5) - (v2 + v5) / (2 : Int32) * (2 : Int32)) = (0 : Int32) → Wp d 160 80 [.ref 23, .int v1, .int v2, .int v3, .int v4, .int v5, .int ((v2 + v5) - (v2 + v5) / (2 : Int32) * (2 : Int32)), mk0, mk0, mk0] [.int (2 : Int32), .int v3] h Q))) ∧ (¬ v5 < v1 → Wp d 160 202 [.ref 23, .int v1, .int v2, mk0, .int v4, .int (0 : Int32), mk0, mk0, mk0, mk0] [] h Q))) : Wp d 160 55 [.ref 23, .int v1, .int v2, .int v3, .int v4, .int v5, mk0, mk0, mk0, mk0] [] h Q := by
  refine Wp.blk (by decide) ol_160 35 3 (pc' := (if v5 < v1 then 61 else 199)) (L' := [.ref 23, .int v1, .int v2, .int v3, .int v4, .int v5, mk0, mk0, mk0, mk0]) (S' := []) (h' := h) rfl ?_
  refine Wp.br (fun c1 => ?_) (fun c1 => ?_)
  · replace K := K.1 c1
    refine Wp.blk (by decide) ol_160 38 9 (pc' := (if ((v2 + v5) - (v2 + v5) / (2 : Int32) * (2 : Int32)) = (0 : Int32) then 75 else 79)) (L' := [.ref 23, .int v1, .int v2, .int v3, .int v4, .int v5, .int ((v2 + v5) - (v2 + v5) / (2 : Int32) * (2 : Int32)), mk0, mk0, mk0]) (S' := [.int v3]) (h' := h) rfl ?_
    refine Wp.br (fun c2 => ?_) (fun c2 => ?_)
    · replace K := K.1 c2
      refine Wp.blk (by decide) ol_160 47 2 (pc' := 80) (L' := [.ref 23, .int v1, .int v2, .int v3, .int v4, .int v5, .int ((v2 + v5) - (v2 + v5) / (2 : Int32) * (2 : Int32)), mk0, mk0, mk0]) (S' := [.int (1 : Int32), .int v3]) (h' := h) rfl ?_
      exact K
    · replace K := K.2 c2
      refine Wp.blk (by decide) ol_160 49 1 (pc' := 80) (L' := [.ref 23, .int v1, .int v2, .int v3, .int v4, .int v5, .int ((v2 + v5) - (v2 + v5) / (2 : Int32) * (2 : Int32)), mk0, mk0, mk0]) (S' := [.int (2 : Int32), .int v3]) (h' := h) rfl ?_
      exact K
  · replace K := K.2 c1
    refine Wp.blk (by decide) ol_160 115 2 (pc' := 202) (L' := [.ref 23, .int v1, .int v2, .int v3, .int v4, .int (0 : Int32), mk0, mk0, mk0, mk0]) (S' := []) (h' := h) rfl ?_
    refine Wp.forget (L := [.ref 23, .int v1, .int v2, mk0, .int v4, .int (0 : Int32), mk0, mk0, mk0, mk0]) (⟨Or.inr rfl, ⟨Or.inr rfl, ⟨Or.inr rfl, ⟨Or.inl rfl, ⟨Or.inr rfl, ⟨Or.inr rfl, ⟨Or.inr rfl, ⟨Or.inr rfl, ⟨Or.inr rfl, ⟨Or.inr rfl, trivial⟩⟩⟩⟩⟩⟩⟩⟩⟩⟩) ?_
    exact K
/-- CutsOrFastModel.lostNow at 80 -/
theorem g160_80 (d : Nat) (v1 : Int32) (v2 : Int32) (v3 : Int32) (v4 : Int32) (v5 : Int32) (v6 : Int32) (s0 : Int32) (s1 : Int32) (h : AH) (HS : Sh h)  (Q : Option Value → AH → Prop) (K : (ixR v5 9 ∧ (Cl d 161 [.ref 23, .int (AI h 28 v5.toNatClampNeg)] h (fun r h2 => ∃ x4 : Int32, r = some (.int x4) ∧ Sh h2 ∧ (ixR x4 11 ∧ ixR ((((((2 : Int32)) * v3)) + v6)) 118098 ∧ ((v6 = (0 : Int32) → (((AI h2 40 ((((((2 : Int32)) * v3)) + v6)).toNatClampNeg) = (1 : Int32) → Wp (d + 1) 160 129 [.ref 23, .int v1, .int v2, mk0, .int v4, .int v5, .int v6, .int (s1 + ((s0 * ((AI h2 39 x4.toNatClampNeg))))), mk0, mk0] [.int (1 : Int32)] h2 Q) ∧ (¬ (AI h2 40 ((((((2 : Int32)) * v3)) + v6)).toNatClampNeg) = (1 : Int32) → Wp (d + 1) 160 129 [.ref 23, .int v1, .int v2, mk0, .int v4, .int v5, .int v6, .int (s1 + ((s0 * ((AI h2 39 x4.toNatClampNeg))))), mk0, mk0] [.int (0 : Int32)] h2 Q))) ∧ (¬ v6 = (0 : Int32) → (((AI h2 40 ((((((2 : Int32)) * v3)) + v6)).toNatClampNeg) = (0 : Int32) → Wp (d + 1) 160 129 [.ref 23, .int v1, .int v2, mk0, .int v4, .int v5, .int v6, .int (s1 + ((s0 * ((AI h2 39 x4.toNatClampNeg))))), mk0, mk0] [.int (1 : Int32)] h2 Q) ∧ (¬ (AI h2 40 ((((((2 : Int32)) * v3)) + v6)).toNatClampNeg) = (0 : Int32) → Wp (d + 1) 160 129 [.ref 23, .int v1, .int v2, mk0, .int v4, .int v5, .int v6, .int (s1 + ((s0 * ((AI h2 39 x4.toNatClampNeg))))), mk0, mk0] [.int (0 : Int32)] h2 Q))))))))) : Wp (d + 1) 160 80 [.ref 23, .int v1, .int v2, .int v3, .int v4, .int v5, .int v6, mk0, mk0, mk0] [.int s0, .int s1] h Q := by
  refine Wp.blk (by decide) ol_160 50 1 (pc' := 81) (L' := [.ref 23, .int v1, .int v2, .int v3, .int v4, .int v5, .int v6, mk0, mk0, mk0]) (S' := [.ref 23, .int s0, .int s1]) (h' := h) rfl ?_
  refine Wp.getf (op_ix (by decide) ol_160 51 rfl) (okS HS 23 rfl rfl) (v := .ref 39) (congrArg va_rf (rS HS 23 34 rfl)) rfl ?_
  refine Wp.blk (by decide) ol_160 52 2 (pc' := 86) (L' := [.ref 23, .int v1, .int v2, .int v3, .int v4, .int v5, .int v6, mk0, mk0, mk0]) (S' := [.ref 23, .ref 23, .ref 39, .int s0, .int s1]) (h' := h) rfl ?_
  refine Wp.getf (op_ix (by decide) ol_160 54 rfl) (okS HS 23 rfl rfl) (v := .ref 28) (congrArg va_rf (rS HS 23 10 rfl)) rfl ?_
  refine Wp.blk (by decide) ol_160 55 1 (pc' := 91) (L' := [.ref 23, .int v1, .int v2, .int v3, .int v4, .int v5, .int v6, mk0, mk0, mk0]) (S' := [.int v5, .ref 28, .ref 23, .ref 39, .int s0, .int s1]) (h' := h) rfl ?_
  obtain ⟨r1, K⟩ := K
  refine Wp.iald (op_ix (by decide) ol_160 56 rfl) (kS HS 28 rfl) (inS HS 28 rfl r1) rfl ?_
  refine Wp.callI (op_ix (by decide) ol_160 57 rfl) (act_virt (c2 := 1) rfl (lk1 (kS HS 23 rfl)) rfl) rfl (K.mono ?_)
  rintro _ h2 ⟨x4, rfl, hs3, K⟩
  refine ⟨x4, rfl, ?_⟩
  obtain ⟨r5, K⟩ := K
  refine Wp.iald (op_ix (by decide) ol_160 58 rfl) (kS hs3 39 rfl) (inS hs3 39 rfl r5) rfl ?_
  refine Wp.blk (by decide) ol_160 59 4 (pc' := 101) (L' := [.ref 23, .int v1, .int v2, .int v3, .int v4, .int v5, .int v6, .int (s1 + ((s0 * ((AI h2 39 x4.toNatClampNeg))))), mk0, mk0]) (S' := [.ref 23]) (h' := h2) rfl ?_
  refine Wp.getf (op_ix (by decide) ol_160 63 rfl) (okS hs3 23 rfl rfl) (v := .ref 40) (congrArg va_rf (rS hs3 23 36 rfl)) rfl ?_
  refine Wp.blk (by decide) ol_160 64 5 (pc' := 110) (L' := [.ref 23, .int v1, .int v2, .int v3, .int v4, .int v5, .int v6, .int (s1 + ((s0 * ((AI h2 39 x4.toNatClampNeg))))), mk0, mk0]) (S' := [.int (((((2 : Int32)) * v3)) + v6), .ref 40]) (h' := h2) rfl ?_
  obtain ⟨r6, K⟩ := K
  refine Wp.bald (op_ix (by decide) ol_160 69 rfl) (Or.inr (kS hs3 40 rfl)) (inS hs3 40 rfl r6) rfl ?_
  refine Wp.blk (by decide) ol_160 70 2 (pc' := (if v6 = (0 : Int32) then 116 else 120)) (L' := [.ref 23, .int v1, .int v2, .int v3, .int v4, .int v5, .int v6, .int (s1 + ((s0 * ((AI h2 39 x4.toNatClampNeg))))), mk0, mk0]) (S' := [.int (AI h2 40 ((((((2 : Int32)) * v3)) + v6)).toNatClampNeg)]) (h' := h2) rfl ?_
  refine Wp.br (fun c7 => ?_) (fun c7 => ?_)
  · replace K := K.1 c7
    refine Wp.blk (by decide) ol_160 72 2 (pc' := 121) (L' := [.ref 23, .int v1, .int v2, .int v3, .int v4, .int v5, .int v6, .int (s1 + ((s0 * ((AI h2 39 x4.toNatClampNeg))))), mk0, mk0]) (S' := [.int (1 : Int32), .int (AI h2 40 ((((((2 : Int32)) * v3)) + v6)).toNatClampNeg)]) (h' := h2) rfl ?_
    refine Wp.blk (by decide) ol_160 75 1 (pc' := (if (AI h2 40 ((((((2 : Int32)) * v3)) + v6)).toNatClampNeg) = (1 : Int32) then 124 else 128)) (L' := [.ref 23, .int v1, .int v2, .int v3, .int v4, .int v5, .int v6, .int (s1 + ((s0 * ((AI h2 39 x4.toNatClampNeg))))), mk0, mk0]) (S' := []) (h' := h2) rfl ?_
    refine Wp.br (fun c8 => ?_) (fun c8 => ?_)
    · replace K := K.1 c8
      refine Wp.blk (by decide) ol_160 76 2 (pc' := 129) (L' := [.ref 23, .int v1, .int v2, .int v3, .int v4, .int v5, .int v6, .int (s1 + ((s0 * ((AI h2 39 x4.toNatClampNeg))))), mk0, mk0]) (S' := [.int (1 : Int32)]) (h' := h2) rfl ?_
      refine Wp.forget (L := [.ref 23, .int v1, .int v2, mk0, .int v4, .int v5, .int v6, .int (s1 + ((s0 * ((AI h2 39 x4.toNatClampNeg))))), mk0, mk0]) (⟨Or.inr rfl, ⟨Or.inr rfl, ⟨Or.inr rfl, ⟨Or.inl rfl, ⟨Or.inr rfl, ⟨Or.inr rfl, ⟨Or.inr rfl, ⟨Or.inr rfl, ⟨Or.inr rfl, ⟨Or.inr rfl, trivial⟩⟩⟩⟩⟩⟩⟩⟩⟩⟩) ?_
      exact K
    · replace K := K.2 c8
      refine Wp.blk (by decide) ol_160 78 1 (pc' := 129) (L' := [.ref 23, .int v1, .int v2, .int v3, .int v4, .int v5, .int v6, .int (s1 + ((s0 * ((AI h2 39 x4.toNatClampNeg))))), mk0, mk0]) (S' := [.int (0 : Int32)]) (h' := h2) rfl ?_
      refine Wp.forget (L := [.ref 23, .int v1, .int v2, mk0, .int v4, .int v5, .int v6, .int (s1 + ((s0 * ((AI h2 39 x4.toNatClampNeg))))), mk0, mk0]) (⟨Or.inr rfl, ⟨Or.inr rfl, ⟨Or.inr rfl, ⟨Or.inl rfl, ⟨Or.inr rfl, ⟨Or.inr rfl, ⟨Or.inr rfl, ⟨Or.inr rfl, ⟨Or.inr rfl, ⟨Or.inr rfl, trivial⟩⟩⟩⟩⟩⟩⟩⟩⟩⟩) ?_
      exact K
  · replace K := K.2 c7
    refine Wp.blk (by decide) ol_160 74 2 (pc' := (if (AI h2 40 ((((((2 : Int32)) * v3)) + v6)).toNatClampNeg) = (0 : Int32) then 124 else 128)) (L' := [.ref 23, .int v1, .int v2, .int v3, .int v4, .int v5, .int v6, .int (s1 + ((s0 * ((AI h2 39 x4.toNatClampNeg))))), mk0, mk0]) (S' := []) (h' := h2) rfl ?_
    refine Wp.br (fun c9 => ?_) (fun c9 => ?_)
    · replace K := K.1 c9
      refine Wp.blk (by decide) ol_160 76 2 (pc' := 129) (L' := [.ref 23, .int v1, .int v2, .int v3, .int v4, .int v5, .int v6, .int (s1 + ((s0 * ((AI h2 39 x4.toNatClampNeg))))), mk0, mk0]) (S' := [.int (1 : Int32)]) (h' := h2) rfl ?_
      refine Wp.forget (L := [.ref 23, .int v1, .int v2, mk0, .int v4, .int v5, .int v6, .int (s1 + ((s0 * ((AI h2 39 x4.toNatClampNeg))))), mk0, mk0]) (⟨Or.inr rfl, ⟨Or.inr rfl, ⟨Or.inr rfl, ⟨Or.inl rfl, ⟨Or.inr rfl, ⟨Or.inr rfl, ⟨Or.inr rfl, ⟨Or.inr rfl, ⟨Or.inr rfl, ⟨Or.inr rfl, trivial⟩⟩⟩⟩⟩⟩⟩⟩⟩⟩) ?_
      exact K
    · replace K := K.2 c9
      refine Wp.blk (by decide) ol_160 78 1 (pc' := 129) (L' := [.ref 23, .int v1, .int v2, .int v3, .int v4, .int v5, .int v6, .int (s1 + ((s0 * ((AI h2 39 x4.toNatClampNeg))))), mk0, mk0]) (S' := [.int (0 : Int32)]) (h' := h2) rfl ?_
      refine Wp.forget (L := [.ref 23, .int v1, .int v2, mk0, .int v4, .int v5, .int v6, .int (s1 + ((s0 * ((AI h2 39 x4.toNatClampNeg))))), mk0, mk0]) (⟨Or.inr rfl, ⟨Or.inr rfl, ⟨Or.inr rfl, ⟨Or.inl rfl, ⟨Or.inr rfl, ⟨Or.inr rfl, ⟨Or.inr rfl, ⟨Or.inr rfl, ⟨Or.inr rfl, ⟨Or.inr rfl, trivial⟩⟩⟩⟩⟩⟩⟩⟩⟩⟩) ?_
      exact K
/-- CutsOrFastModel.lostNow at 129 -/
theorem g160_129 (d : Nat) (v1 : Int32) (v2 : Int32) (v4 : Int32) (v5 : Int32) (v6 : Int32) (v7 : Int32) (s0 : Int32) (h : AH) (HS : Sh h)  (Q : Option Value → AH → Prop) (K : (ixR ((((((((2 : Int32)) * v7)) + ((1 : Int32)))) - v6)) 118098 ∧ ((v6 = (0 : Int32) → (((AI h 40 ((((((((2 : Int32)) * v7)) + ((1 : Int32)))) - v6)).toNatClampNeg) = (1 : Int32) → Wp d 160 163 [.ref 23, .int v1, .int v2, mk0, .int v4, .int v5, mk0, .int v7, .int s0, mk0] [.int (1 : Int32)] h Q) ∧ (¬ (AI h 40 ((((((((2 : Int32)) * v7)) + ((1 : Int32)))) - v6)).toNatClampNeg) = (1 : Int32) → Wp d 160 163 [.ref 23, .int v1, .int v2, mk0, .int v4, .int v5, mk0, .int v7, .int s0, mk0] [.int (0 : Int32)] h Q))) ∧ (¬ v6 = (0 : Int32) → (((AI h 40 ((((((((2 : Int32)) * v7)) + ((1 : Int32)))) - v6)).toNatClampNeg) = (0 : Int32) → Wp d 160 163 [.ref 23, .int v1, .int v2, mk0, .int v4, .int v5, mk0, .int v7, .int s0, mk0] [.int (1 : Int32)] h Q) ∧ (¬ (AI h 40 ((((((((2 : Int32)) * v7)) + ((1 : Int32)))) - v6)).toNatClampNeg) = (0 : Int32) → Wp d 160 163 [.ref 23, .int v1, .int v2, mk0, .int v4, .int v5, mk0, .int v7, .int s0, mk0] [.int (0 : Int32)] h Q)))))) : Wp d 160 129 [.ref 23, .int v1, .int v2, mk0, .int v4, .int v5, .int v6, .int v7, mk0, mk0] [.int s0] h Q := by
  refine Wp.blk (by decide) ol_160 79 2 (pc' := 132) (L' := [.ref 23, .int v1, .int v2, mk0, .int v4, .int v5, .int v6, .int v7, .int s0, mk0]) (S' := [.ref 23]) (h' := h) rfl ?_
  refine Wp.getf (op_ix (by decide) ol_160 81 rfl) (okS HS 23 rfl rfl) (v := .ref 40) (congrArg va_rf (rS HS 23 36 rfl)) rfl ?_
  refine Wp.blk (by decide) ol_160 82 7 (pc' := 144) (L' := [.ref 23, .int v1, .int v2, mk0, .int v4, .int v5, .int v6, .int v7, .int s0, mk0]) (S' := [.int (((((((2 : Int32)) * v7)) + ((1 : Int32)))) - v6), .ref 40]) (h' := h) rfl ?_
  obtain ⟨r1, K⟩ := K
  refine Wp.bald (op_ix (by decide) ol_160 89 rfl) (Or.inr (kS HS 40 rfl)) (inS HS 40 rfl r1) rfl ?_
  refine Wp.blk (by decide) ol_160 90 2 (pc' := (if v6 = (0 : Int32) then 150 else 154)) (L' := [.ref 23, .int v1, .int v2, mk0, .int v4, .int v5, .int v6, .int v7, .int s0, mk0]) (S' := [.int (AI h 40 ((((((((2 : Int32)) * v7)) + ((1 : Int32)))) - v6)).toNatClampNeg)]) (h' := h) rfl ?_
  refine Wp.br (fun c2 => ?_) (fun c2 => ?_)
  · replace K := K.1 c2
    refine Wp.blk (by decide) ol_160 92 2 (pc' := 155) (L' := [.ref 23, .int v1, .int v2, mk0, .int v4, .int v5, .int v6, .int v7, .int s0, mk0]) (S' := [.int (1 : Int32), .int (AI h 40 ((((((((2 : Int32)) * v7)) + ((1 : Int32)))) - v6)).toNatClampNeg)]) (h' := h) rfl ?_
    refine Wp.blk (by decide) ol_160 95 1 (pc' := (if (AI h 40 ((((((((2 : Int32)) * v7)) + ((1 : Int32)))) - v6)).toNatClampNeg) = (1 : Int32) then 158 else 162)) (L' := [.ref 23, .int v1, .int v2, mk0, .int v4, .int v5, .int v6, .int v7, .int s0, mk0]) (S' := []) (h' := h) rfl ?_
    refine Wp.br (fun c3 => ?_) (fun c3 => ?_)
    · replace K := K.1 c3
      refine Wp.blk (by decide) ol_160 96 2 (pc' := 163) (L' := [.ref 23, .int v1, .int v2, mk0, .int v4, .int v5, .int v6, .int v7, .int s0, mk0]) (S' := [.int (1 : Int32)]) (h' := h) rfl ?_
      refine Wp.forget (L := [.ref 23, .int v1, .int v2, mk0, .int v4, .int v5, mk0, .int v7, .int s0, mk0]) (⟨Or.inr rfl, ⟨Or.inr rfl, ⟨Or.inr rfl, ⟨Or.inr rfl, ⟨Or.inr rfl, ⟨Or.inr rfl, ⟨Or.inl rfl, ⟨Or.inr rfl, ⟨Or.inr rfl, ⟨Or.inr rfl, trivial⟩⟩⟩⟩⟩⟩⟩⟩⟩⟩) ?_
      exact K
    · replace K := K.2 c3
      refine Wp.blk (by decide) ol_160 98 1 (pc' := 163) (L' := [.ref 23, .int v1, .int v2, mk0, .int v4, .int v5, .int v6, .int v7, .int s0, mk0]) (S' := [.int (0 : Int32)]) (h' := h) rfl ?_
      refine Wp.forget (L := [.ref 23, .int v1, .int v2, mk0, .int v4, .int v5, mk0, .int v7, .int s0, mk0]) (⟨Or.inr rfl, ⟨Or.inr rfl, ⟨Or.inr rfl, ⟨Or.inr rfl, ⟨Or.inr rfl, ⟨Or.inr rfl, ⟨Or.inl rfl, ⟨Or.inr rfl, ⟨Or.inr rfl, ⟨Or.inr rfl, trivial⟩⟩⟩⟩⟩⟩⟩⟩⟩⟩) ?_
      exact K
  · replace K := K.2 c2
    refine Wp.blk (by decide) ol_160 94 2 (pc' := (if (AI h 40 ((((((((2 : Int32)) * v7)) + ((1 : Int32)))) - v6)).toNatClampNeg) = (0 : Int32) then 158 else 162)) (L' := [.ref 23, .int v1, .int v2, mk0, .int v4, .int v5, .int v6, .int v7, .int s0, mk0]) (S' := []) (h' := h) rfl ?_
    refine Wp.br (fun c4 => ?_) (fun c4 => ?_)
    · replace K := K.1 c4
      refine Wp.blk (by decide) ol_160 96 2 (pc' := 163) (L' := [.ref 23, .int v1, .int v2, mk0, .int v4, .int v5, .int v6, .int v7, .int s0, mk0]) (S' := [.int (1 : Int32)]) (h' := h) rfl ?_
      refine Wp.forget (L := [.ref 23, .int v1, .int v2, mk0, .int v4, .int v5, mk0, .int v7, .int s0, mk0]) (⟨Or.inr rfl, ⟨Or.inr rfl, ⟨Or.inr rfl, ⟨Or.inr rfl, ⟨Or.inr rfl, ⟨Or.inr rfl, ⟨Or.inl rfl, ⟨Or.inr rfl, ⟨Or.inr rfl, ⟨Or.inr rfl, trivial⟩⟩⟩⟩⟩⟩⟩⟩⟩⟩) ?_
      exact K
    · replace K := K.2 c4
      refine Wp.blk (by decide) ol_160 98 1 (pc' := 163) (L' := [.ref 23, .int v1, .int v2, mk0, .int v4, .int v5, .int v6, .int v7, .int s0, mk0]) (S' := [.int (0 : Int32)]) (h' := h) rfl ?_
      refine Wp.forget (L := [.ref 23, .int v1, .int v2, mk0, .int v4, .int v5, mk0, .int v7, .int s0, mk0]) (⟨Or.inr rfl, ⟨Or.inr rfl, ⟨Or.inr rfl, ⟨Or.inr rfl, ⟨Or.inr rfl, ⟨Or.inr rfl, ⟨Or.inl rfl, ⟨Or.inr rfl, ⟨Or.inr rfl, ⟨Or.inr rfl, trivial⟩⟩⟩⟩⟩⟩⟩⟩⟩⟩) ?_
      exact K
/-- CutsOrFastModel.lostNow at 163 -/
theorem g160_163 (d : Nat) (v1 : Int32) (v2 : Int32) (v4 : Int32) (v5 : Int32) (v7 : Int32) (v8 : Int32) (s0 : Int32) (h : AH) (HS : Sh h)  (Q : Option Value → AH → Prop) (K : ((v4 = (-1 : Int32) → ((v8 = (0 : Int32) → Wp d 160 55 [.ref 23, .int v1, .int v2, .int v7, .int v4, .int (v5 + (1 : Int32)), mk0, mk0, mk0, mk0] [] h Q) ∧ (¬ v8 = (0 : Int32) → ((s0 = (0 : Int32) → Wp d 160 55 [.ref 23, .int v1, .int v2, .int v7, .int v5, .int (v5 + (1 : Int32)), mk0, mk0, mk0, mk0] [] h Q) ∧ (¬ s0 = (0 : Int32) → Wp d 160 55 [.ref 23, .int v1, .int v2, .int v7, .int v4, .int (v5 + (1 : Int32)), mk0, mk0, mk0, mk0] [] h Q))))) ∧ (¬ v4 = (-1 : Int32) → Wp d 160 55 [.ref 23, .int v1, .int v2, .int v7, .int v4, .int (v5 + (1 : Int32)), mk0, mk0, mk0, mk0] [] h Q))) : Wp d 160 163 [.ref 23, .int v1, .int v2, mk0, .int v4, .int v5, mk0, .int v7, .int v8, mk0] [.int s0] h Q := by
  refine Wp.blk (by decide) ol_160 99 4 (pc' := (if v4 = (-1 : Int32) then 171 else 186)) (L' := [.ref 23, .int v1, .int v2, mk0, .int v4, .int v5, mk0, .int v7, .int v8, .int s0]) (S' := []) (h' := h) rfl ?_
  refine Wp.br (fun c1 => ?_) (fun c1 => ?_)
  · replace K := K.1 c1
    refine Wp.blk (by decide) ol_160 103 2 (pc' := (if v8 = (0 : Int32) then 186 else 176)) (L' := [.ref 23, .int v1, .int v2, mk0, .int v4, .int v5, mk0, .int v7, .int v8, .int s0]) (S' := []) (h' := h) rfl ?_
    refine Wp.br (fun c2 => ?_) (fun c2 => ?_)
    · replace K := K.1 c2
      refine Wp.blk (by decide) ol_160 109 6 (pc' := 55) (L' := [.ref 23, .int v1, .int v2, .int v7, .int v4, .int (v5 + (1 : Int32)), mk0, .int v7, .int v8, .int s0]) (S' := []) (h' := h) rfl ?_
      refine Wp.forget (L := [.ref 23, .int v1, .int v2, .int v7, .int v4, .int (v5 + (1 : Int32)), mk0, mk0, mk0, mk0]) (⟨Or.inr rfl, ⟨Or.inr rfl, ⟨Or.inr rfl, ⟨Or.inr rfl, ⟨Or.inr rfl, ⟨Or.inr rfl, ⟨Or.inr rfl, ⟨Or.inl rfl, ⟨Or.inl rfl, ⟨Or.inl rfl, trivial⟩⟩⟩⟩⟩⟩⟩⟩⟩⟩) ?_
      exact K
    · replace K := K.2 c2
      refine Wp.blk (by decide) ol_160 105 2 (pc' := (if s0 = (0 : Int32) then 181 else 186)) (L' := [.ref 23, .int v1, .int v2, mk0, .int v4, .int v5, mk0, .int v7, .int v8, .int s0]) (S' := []) (h' := h) rfl ?_
      refine Wp.br (fun c3 => ?_) (fun c3 => ?_)
      · replace K := K.1 c3
        refine Wp.blk (by decide) ol_160 107 2 (pc' := 188) (L' := [.ref 23, .int v1, .int v2, mk0, .int v4, .int v5, mk0, .int v7, .int v8, .int s0]) (S' := [.int v5]) (h' := h) rfl ?_
        refine Wp.blk (by decide) ol_160 110 5 (pc' := 55) (L' := [.ref 23, .int v1, .int v2, .int v7, .int v5, .int (v5 + (1 : Int32)), mk0, .int v7, .int v8, .int s0]) (S' := []) (h' := h) rfl ?_
        refine Wp.forget (L := [.ref 23, .int v1, .int v2, .int v7, .int v5, .int (v5 + (1 : Int32)), mk0, mk0, mk0, mk0]) (⟨Or.inr rfl, ⟨Or.inr rfl, ⟨Or.inr rfl, ⟨Or.inr rfl, ⟨Or.inr rfl, ⟨Or.inr rfl, ⟨Or.inr rfl, ⟨Or.inl rfl, ⟨Or.inl rfl, ⟨Or.inl rfl, trivial⟩⟩⟩⟩⟩⟩⟩⟩⟩⟩) ?_
        exact K
      · replace K := K.2 c3
        refine Wp.blk (by decide) ol_160 109 6 (pc' := 55) (L' := [.ref 23, .int v1, .int v2, .int v7, .int v4, .int (v5 + (1 : Int32)), mk0, .int v7, .int v8, .int s0]) (S' := []) (h' := h) rfl ?_
        refine Wp.forget (L := [.ref 23, .int v1, .int v2, .int v7, .int v4, .int (v5 + (1 : Int32)), mk0, mk0, mk0, mk0]) (⟨Or.inr rfl, ⟨Or.inr rfl, ⟨Or.inr rfl, ⟨Or.inr rfl, ⟨Or.inr rfl, ⟨Or.inr rfl, ⟨Or.inr rfl, ⟨Or.inl rfl, ⟨Or.inl rfl, ⟨Or.inl rfl, trivial⟩⟩⟩⟩⟩⟩⟩⟩⟩⟩) ?_
        exact K
  · replace K := K.2 c1
    refine Wp.blk (by decide) ol_160 109 6 (pc' := 55) (L' := [.ref 23, .int v1, .int v2, .int v7, .int v4, .int (v5 + (1 : Int32)), mk0, .int v7, .int v8, .int s0]) (S' := []) (h' := h) rfl ?_
    refine Wp.forget (L := [.ref 23, .int v1, .int v2, .int v7, .int v4, .int (v5 + (1 : Int32)), mk0, mk0, mk0, mk0]) (⟨Or.inr rfl, ⟨Or.inr rfl, ⟨Or.inr rfl, ⟨Or.inr rfl, ⟨Or.inr rfl, ⟨Or.inr rfl, ⟨Or.inr rfl, ⟨Or.inl rfl, ⟨Or.inl rfl, ⟨Or.inl rfl, trivial⟩⟩⟩⟩⟩⟩⟩⟩⟩⟩) ?_
    exact K
/-- CutsOrFastModel.lostNow at 202 -/
theorem g160_202 (d : Nat) (v1 : Int32) (v2 : Int32) (v4 : Int32) (v5 : Int32) (h : AH) (HS : Sh h)  (Q : Option Value → AH → Prop) (K : ((v5 < v1 → (ixR v5 9 ∧ ((((v2 + v5) - (v2 + v5) / (2 : Int32) * (2 : Int32)) = (0 : Int32) → (ixR ((AI h 28 v5.toNatClampNeg)) 10 ∧ Wp d 160 202 [.ref 23, .int v1, .int v2, mk0, .int v4, .int (v5 + (1 : Int32)), mk0, mk0, mk0, mk0] [] (stI h 26 ((AI h 28 v5.toNatClampNeg)).toNatClampNeg ((1 : Int32))) Q)) ∧ (¬ ((v2 + v5) - (v2 + v5) / (2 : Int32) * (2 : Int32)) = (0 : Int32) → (ixR ((AI h 28 v5.toNatClampNeg)) 10 ∧ Wp d 160 202 [.ref 23, .int v1, .int v2, mk0, .int v4, .int (v5 + (1 : Int32)), mk0, mk0, mk0, mk0] [] (stI h 26 ((AI h 28 v5.toNatClampNeg)).toNatClampNeg ((2 : Int32))) Q))))) ∧ (¬ v5 < v1 → Q (some (.int v4)) h))) : Wp d 160 202 [.ref 23, .int v1, .int v2, mk0, .int v4, .int v5, mk0, mk0, mk0, mk0] [] h Q := by
  refine Wp.blk (by decide) ol_160 117 3 (pc' := (if v5 < v1 then 208 else 240)) (L' := [.ref 23, .int v1, .int v2, mk0, .int v4, .int v5, mk0, mk0, mk0, mk0]) (S' := []) (h' := h) rfl ?_
  refine Wp.br (fun c1 => ?_) (fun c1 => ?_)
  · replace K := K.1 c1
    refine Wp.blk (by decide) ol_160 120 1 (pc' := 209) (L' := [.ref 23, .int v1, .int v2, mk0, .int v4, .int v5, mk0, mk0, mk0, mk0]) (S' := [.ref 23]) (h' := h) rfl ?_
    refine Wp.getf (op_ix (by decide) ol_160 121 rfl) (okS HS 23 rfl rfl) (v := .ref 26) (congrArg va_rf (rS HS 23 6 rfl)) rfl ?_
    refine Wp.blk (by decide) ol_160 122 1 (pc' := 213) (L' := [.ref 23, .int v1, .int v2, mk0, .int v4, .int v5, mk0, mk0, mk0, mk0]) (S' := [.ref 23, .ref 26]) (h' := h) rfl ?_
    refine Wp.getf (op_ix (by decide) ol_160 123 rfl) (okS HS 23 rfl rfl) (v := .ref 28) (congrArg va_rf (rS HS 23 10 rfl)) rfl ?_
    refine Wp.blk (by decide) ol_160 124 1 (pc' := 218) (L' := [.ref 23, .int v1, .int v2, mk0, .int v4, .int v5, mk0, mk0, mk0, mk0]) (S' := [.int v5, .ref 28, .ref 26]) (h' := h) rfl ?_
    obtain ⟨r2, K⟩ := K
    refine Wp.iald (op_ix (by decide) ol_160 125 rfl) (kS HS 28 rfl) (inS HS 28 rfl r2) rfl ?_
    refine Wp.blk (by decide) ol_160 126 6 (pc' := (if ((v2 + v5) - (v2 + v5) / (2 : Int32) * (2 : Int32)) = (0 : Int32) then 228 else 232)) (L' := [.ref 23, .int v1, .int v2, mk0, .int v4, .int v5, mk0, mk0, mk0, mk0]) (S' := [.int (AI h 28 v5.toNatClampNeg), .ref 26]) (h' := h) rfl ?_
    refine Wp.br (fun c3 => ?_) (fun c3 => ?_)
    · replace K := K.1 c3
      refine Wp.blk (by decide) ol_160 132 2 (pc' := 233) (L' := [.ref 23, .int v1, .int v2, mk0, .int v4, .int v5, mk0, mk0, mk0, mk0]) (S' := [.int (1 : Int32), .int (AI h 28 v5.toNatClampNeg), .ref 26]) (h' := h) rfl ?_
      obtain ⟨r4, K⟩ := K
      refine Wp.iast (op_ix (by decide) ol_160 135 rfl) (by decide) (kS HS 26 rfl) (inS HS 26 rfl r4) rfl ?_
      refine Wp.blk (by decide) ol_160 136 2 (pc' := 202) (L' := [.ref 23, .int v1, .int v2, mk0, .int v4, .int (v5 + (1 : Int32)), mk0, mk0, mk0, mk0]) (S' := []) (h' := (stI h 26 ((AI h 28 v5.toNatClampNeg)).toNatClampNeg ((1 : Int32)))) rfl ?_
      exact K
    · replace K := K.2 c3
      refine Wp.blk (by decide) ol_160 134 1 (pc' := 233) (L' := [.ref 23, .int v1, .int v2, mk0, .int v4, .int v5, mk0, mk0, mk0, mk0]) (S' := [.int (2 : Int32), .int (AI h 28 v5.toNatClampNeg), .ref 26]) (h' := h) rfl ?_
      obtain ⟨r5, K⟩ := K
      refine Wp.iast (op_ix (by decide) ol_160 135 rfl) (by decide) (kS HS 26 rfl) (inS HS 26 rfl r5) rfl ?_
      refine Wp.blk (by decide) ol_160 136 2 (pc' := 202) (L' := [.ref 23, .int v1, .int v2, mk0, .int v4, .int (v5 + (1 : Int32)), mk0, mk0, mk0, mk0]) (S' := []) (h' := (stI h 26 ((AI h 28 v5.toNatClampNeg)).toNatClampNeg ((2 : Int32)))) rfl ?_
      exact K
  · replace K := K.2 c1
    refine Wp.blk (by decide) ol_160 138 1 (pc' := 242) (L' := [.ref 23, .int v1, .int v2, mk0, .int v4, .int v5, mk0, mk0, mk0, mk0]) (S' := [.int v4]) (h' := h) rfl ?_
    exact Wp.ret (op_ix (by decide) ol_160 139 rfl) rfl K
/-- CutsOrFastModel.placeOf at 0 (I)I -/
theorem g161_0 (d : Nat) (v1 : Int32) (h : AH) (HS : Sh h)  (Q : Option Value → AH → Prop) (K : Wp d 161 2 [.ref 23, .int v1, .int (0 : Int32)] [] h Q) : Wp d 161 0 [.ref 23, .int v1, mk0] [] h Q := by
  refine Wp.blk (by decide) ol_161 0 2 (pc' := 2) (L' := [.ref 23, .int v1, .int (0 : Int32)]) (S' := []) (h' := h) rfl ?_
  exact K
/-- CutsOrFastModel.placeOf at 2 -/
theorem g161_2 (d : Nat) (v1 : Int32) (v2 : Int32) (h : AH) (HS : Sh h)  (Q : Option Value → AH → Prop) (K : (ixR v2 10 ∧ (((AI h 38 v2.toNatClampNeg) = v1 → Q (some (.int v2)) h) ∧ (¬ (AI h 38 v2.toNatClampNeg) = v1 → Wp d 161 2 [.ref 23, .int v1, .int (v2 + (1 : Int32))] [] h Q)))) : Wp d 161 2 [.ref 23, .int v1, .int v2] [] h Q := by
  refine Wp.blk (by decide) ol_161 2 1 (pc' := 3) (L' := [.ref 23, .int v1, .int v2]) (S' := [.ref 23]) (h' := h) rfl ?_
  refine Wp.getf (op_ix (by decide) ol_161 3 rfl) (okS HS 23 rfl rfl) (v := .ref 38) (congrArg va_rf (rS HS 23 33 rfl)) rfl ?_
  refine Wp.blk (by decide) ol_161 4 1 (pc' := 7) (L' := [.ref 23, .int v1, .int v2]) (S' := [.int v2, .ref 38]) (h' := h) rfl ?_
  obtain ⟨r1, K⟩ := K
  refine Wp.iald (op_ix (by decide) ol_161 5 rfl) (kS HS 38 rfl) (inS HS 38 rfl r1) rfl ?_
  refine Wp.blk (by decide) ol_161 6 2 (pc' := (if (AI h 38 v2.toNatClampNeg) = v1 then 18 else 12)) (L' := [.ref 23, .int v1, .int v2]) (S' := []) (h' := h) rfl ?_
  refine Wp.br (fun c2 => ?_) (fun c2 => ?_)
  · replace K := K.1 c2
    refine Wp.blk (by decide) ol_161 10 1 (pc' := 19) (L' := [.ref 23, .int v1, .int v2]) (S' := [.int v2]) (h' := h) rfl ?_
    exact Wp.ret (op_ix (by decide) ol_161 11 rfl) rfl K
  · replace K := K.2 c2
    refine Wp.blk (by decide) ol_161 8 2 (pc' := 2) (L' := [.ref 23, .int v1, .int (v2 + (1 : Int32))]) (S' := []) (h' := h) rfl ?_
    exact K
/-- CutsOrFastModel.lost at 0 ()I -/
theorem g162_0 (d : Nat)  (h : AH) (HS : Sh h)  (Q : Option Value → AH → Prop) (K : (((AI h 23 0) = (0 : Int32) → Q (some (.int (-103 : Int32))) h) ∧ (¬ (AI h 23 0) = (0 : Int32) → (Cl d 160 [.ref 23] h (fun r h2 => ∃ x4 : Int32, r = some (.int x4) ∧ Sh h2 ∧ Q (some (.int x4)) h2))))) : Wp (d + 1) 162 0 [.ref 23] [] h Q := by
  refine Wp.blk (by decide) ol_162 0 1 (pc' := 1) (L' := [.ref 23]) (S' := [.ref 23]) (h' := h) rfl ?_
  refine Wp.getf (op_ix (by decide) ol_162 1 rfl) (okS HS 23 rfl rfl) (v := .int (AI h 23 0)) rfl rfl ?_
  refine Wp.blk (by decide) ol_162 2 1 (pc' := (if (AI h 23 0) = (0 : Int32) then 7 else 12)) (L' := [.ref 23]) (S' := []) (h' := h) rfl ?_
  refine Wp.br (fun c1 => ?_) (fun c1 => ?_)
  · replace K := K.1 c1
    refine Wp.blk (by decide) ol_162 3 2 (pc' := 16) (L' := [.ref 23]) (S' := [.int (-103 : Int32)]) (h' := h) rfl ?_
    exact Wp.ret (op_ix (by decide) ol_162 7 rfl) rfl K
  · replace K := K.2 c1
    refine Wp.blk (by decide) ol_162 5 1 (pc' := 13) (L' := [.ref 23]) (S' := [.ref 23]) (h' := h) rfl ?_
    refine Wp.callI (op_ix (by decide) ol_162 6 rfl) (act_virt (c2 := 0) rfl (lk1 (kS HS 23 rfl)) rfl) rfl (K.mono ?_)
    rintro _ h2 ⟨x4, rfl, hs3, K⟩
    refine ⟨x4, rfl, ?_⟩
    exact Wp.ret (op_ix (by decide) ol_162 7 rfl) rfl K
/-- CutsOrFastModel.waysNow at 0 ()I -/
theorem g163_0 (d : Nat)  (h : AH) (HS : Sh h)  (Q : Option Value → AH → Prop) (K : Wp d 163 16 [.ref 23, .int (((((1 : Int32)) <<< (((AI h 23 2)) &&& 31))) ||| ((((1 : Int32)) <<< (((AI h 23 3)) &&& 31)))), .int (0 : Int32), mk0, mk0, mk0] [] h Q) : Wp d 163 0 [.ref 23, mk0, mk0, mk0, mk0, mk0] [] h Q := by
  refine Wp.blk (by decide) ol_163 0 2 (pc' := 2) (L' := [.ref 23, mk0, mk0, mk0, mk0, mk0]) (S' := [.ref 23, .int (1 : Int32)]) (h' := h) rfl ?_
  refine Wp.getf (op_ix (by decide) ol_163 2 rfl) (okS HS 23 rfl rfl) (v := .int (AI h 23 2)) rfl rfl ?_
  refine Wp.blk (by decide) ol_163 3 3 (pc' := 8) (L' := [.ref 23, mk0, mk0, mk0, mk0, mk0]) (S' := [.ref 23, .int (1 : Int32), .int (((1 : Int32)) <<< (((AI h 23 2)) &&& 31))]) (h' := h) rfl ?_
  refine Wp.getf (op_ix (by decide) ol_163 6 rfl) (okS HS 23 rfl rfl) (v := .int (AI h 23 3)) rfl rfl ?_
  refine Wp.blk (by decide) ol_163 7 5 (pc' := 16) (L' := [.ref 23, .int (((((1 : Int32)) <<< (((AI h 23 2)) &&& 31))) ||| ((((1 : Int32)) <<< (((AI h 23 3)) &&& 31)))), .int (0 : Int32), mk0, mk0, mk0]) (S' := []) (h' := h) rfl ?_
  exact K
/-- CutsOrFastModel.waysNow at 16 -/
theorem g163_16 (d : Nat) (v1 : Int32) (v2 : Int32) (h : AH) (HS : Sh h)  (Q : Option Value → AH → Prop) (K : ((v2 < (AI h 23 0) → (ixR v2 10 ∧ ixR v2 10 ∧ Wp (d + 1) 163 16 [.ref 23, .int (v1 ||| ((((((1 : Int32)) <<< (((AI h 24 v2.toNatClampNeg)) &&& 31))) ||| ((((1 : Int32)) <<< (((AI h 25 v2.toNatClampNeg)) &&& 31)))))), .int (v2 + (1 : Int32)), mk0, mk0, mk0] [] h Q)) ∧ (¬ v2 < (AI h 23 0) → (Cl d 143 [.ref 23, .int (0 : Int32)] h (fun r h4 => ∃ x6 : Int32, r = some (.int x6) ∧ Sh h4 ∧ (Cl d 143 [.ref 23, .int (1 : Int32)] h4 (fun r h7 => ∃ x9 : Int32, r = some (.int x9) ∧ Sh h7 ∧ Wp (d + 1) 163 64 [.ref 23, .int v1, .int (x6 ||| x9), .int (0 : Int32), mk0, mk0] [] h7 Q))))))) : Wp (d + 1) 163 16 [.ref 23, .int v1, .int v2, mk0, mk0, mk0] [] h Q := by
  refine Wp.blk (by decide) ol_163 12 2 (pc' := 18) (L' := [.ref 23, .int v1, .int v2, mk0, mk0, mk0]) (S' := [.ref 23, .int v2]) (h' := h) rfl ?_
  refine Wp.getf (op_ix (by decide) ol_163 14 rfl) (okS HS 23 rfl rfl) (v := .int (AI h 23 0)) rfl rfl ?_
  refine Wp.blk (by decide) ol_163 15 1 (pc' := (if v2 < (AI h 23 0) then 24 else 50)) (L' := [.ref 23, .int v1, .int v2, mk0, mk0, mk0]) (S' := []) (h' := h) rfl ?_
  refine Wp.br (fun c1 => ?_) (fun c1 => ?_)
  · replace K := K.1 c1
    refine Wp.blk (by decide) ol_163 16 3 (pc' := 27) (L' := [.ref 23, .int v1, .int v2, mk0, mk0, mk0]) (S' := [.ref 23, .int (1 : Int32), .int v1]) (h' := h) rfl ?_
    refine Wp.getf (op_ix (by decide) ol_163 19 rfl) (okS HS 23 rfl rfl) (v := .ref 24) (congrArg va_rf (rS HS 23 4 rfl)) rfl ?_
    refine Wp.blk (by decide) ol_163 20 1 (pc' := 31) (L' := [.ref 23, .int v1, .int v2, mk0, mk0, mk0]) (S' := [.int v2, .ref 24, .int (1 : Int32), .int v1]) (h' := h) rfl ?_
    obtain ⟨r2, K⟩ := K
    refine Wp.iald (op_ix (by decide) ol_163 21 rfl) (kS HS 24 rfl) (inS HS 24 rfl r2) rfl ?_
    refine Wp.blk (by decide) ol_163 22 3 (pc' := 35) (L' := [.ref 23, .int v1, .int v2, mk0, mk0, mk0]) (S' := [.ref 23, .int (1 : Int32), .int (((1 : Int32)) <<< (((AI h 24 v2.toNatClampNeg)) &&& 31)), .int v1]) (h' := h) rfl ?_
    refine Wp.getf (op_ix (by decide) ol_163 25 rfl) (okS HS 23 rfl rfl) (v := .ref 25) (congrArg va_rf (rS HS 23 5 rfl)) rfl ?_
    refine Wp.blk (by decide) ol_163 26 1 (pc' := 39) (L' := [.ref 23, .int v1, .int v2, mk0, mk0, mk0]) (S' := [.int v2, .ref 25, .int (1 : Int32), .int (((1 : Int32)) <<< (((AI h 24 v2.toNatClampNeg)) &&& 31)), .int v1]) (h' := h) rfl ?_
    obtain ⟨r3, K⟩ := K
    refine Wp.iald (op_ix (by decide) ol_163 27 rfl) (kS HS 25 rfl) (inS HS 25 rfl r3) rfl ?_
    refine Wp.blk (by decide) ol_163 28 6 (pc' := 16) (L' := [.ref 23, .int (v1 ||| ((((((1 : Int32)) <<< (((AI h 24 v2.toNatClampNeg)) &&& 31))) ||| ((((1 : Int32)) <<< (((AI h 25 v2.toNatClampNeg)) &&& 31)))))), .int (v2 + (1 : Int32)), mk0, mk0, mk0]) (S' := []) (h' := h) rfl ?_
    exact K
  · replace K := K.2 c1
    refine Wp.blk (by decide) ol_163 34 2 (pc' := 52) (L' := [.ref 23, .int v1, .int v2, mk0, mk0, mk0]) (S' := [.int (0 : Int32), .ref 23]) (h' := h) rfl ?_
    refine Wp.callI (op_ix (by decide) ol_163 36 rfl) (act_virt (c2 := 1) rfl (lk1 (kS HS 23 rfl)) rfl) rfl (K.mono ?_)
    rintro _ h4 ⟨x6, rfl, hs5, K⟩
    refine ⟨x6, rfl, ?_⟩
    refine Wp.blk (by decide) ol_163 37 2 (pc' := 57) (L' := [.ref 23, .int v1, .int v2, mk0, mk0, mk0]) (S' := [.int (1 : Int32), .ref 23, .int x6]) (h' := h4) rfl ?_
    refine Wp.callI (op_ix (by decide) ol_163 39 rfl) (act_virt (c2 := 1) rfl (lk1 (kS hs5 23 rfl)) rfl) rfl (K.mono ?_)
    rintro _ h7 ⟨x9, rfl, hs8, K⟩
    refine ⟨x9, rfl, ?_⟩
    refine Wp.blk (by decide) ol_163 40 4 (pc' := 64) (L' := [.ref 23, .int v1, .int (x6 ||| x9), .int (0 : Int32), mk0, mk0]) (S' := []) (h' := h7) rfl ?_
    exact K
/-- CutsOrFastModel.waysNow at 64 -/
theorem g163_64 (d : Nat) (v1 : Int32) (v2 : Int32) (v3 : Int32) (h : AH) (HS : Sh h)  (Q : Option Value → AH → Prop) (K : ((v3 < (((1 : Int32)) <<< (((AI h 23 0)) &&& 31)) → (((v3 &&& ((v2 ^^^ ((-1 : Int32))))) = (0 : Int32) → Wp d 163 87 [.ref 23, .int v1, .int v2, .int v3, mk0, mk0] [.int (1 : Int32)] h Q) ∧ (¬ (v3 &&& ((v2 ^^^ ((-1 : Int32))))) = (0 : Int32) → Wp d 163 87 [.ref 23, .int v1, .int v2, .int v3, mk0, mk0] [.int (0 : Int32)] h Q))) ∧ (¬ v3 < (((1 : Int32)) <<< (((AI h 23 0)) &&& 31)) → Q (some (.int (-1 : Int32))) h))) : Wp d 163 64 [.ref 23, .int v1, .int v2, .int v3, mk0, mk0] [] h Q := by
  refine Wp.blk (by decide) ol_163 44 3 (pc' := 67) (L' := [.ref 23, .int v1, .int v2, .int v3, mk0, mk0]) (S' := [.ref 23, .int (1 : Int32), .int v3]) (h' := h) rfl ?_
  refine Wp.getf (op_ix (by decide) ol_163 47 rfl) (okS HS 23 rfl rfl) (v := .int (AI h 23 0)) rfl rfl ?_
  refine Wp.blk (by decide) ol_163 48 2 (pc' := (if v3 < (((1 : Int32)) <<< (((AI h 23 0)) &&& 31)) then 74 else 154)) (L' := [.ref 23, .int v1, .int v2, .int v3, mk0, mk0]) (S' := []) (h' := h) rfl ?_
  refine Wp.br (fun c1 => ?_) (fun c1 => ?_)
  · replace K := K.1 c1
    refine Wp.blk (by decide) ol_163 50 6 (pc' := (if (v3 &&& ((v2 ^^^ ((-1 : Int32))))) = (0 : Int32) then 82 else 86)) (L' := [.ref 23, .int v1, .int v2, .int v3, mk0, mk0]) (S' := []) (h' := h) rfl ?_
    refine Wp.br (fun c2 => ?_) (fun c2 => ?_)
    · replace K := K.1 c2
      refine Wp.blk (by decide) ol_163 56 2 (pc' := 87) (L' := [.ref 23, .int v1, .int v2, .int v3, mk0, mk0]) (S' := [.int (1 : Int32)]) (h' := h) rfl ?_
      exact K
    · replace K := K.2 c2
      refine Wp.blk (by decide) ol_163 58 1 (pc' := 87) (L' := [.ref 23, .int v1, .int v2, .int v3, mk0, mk0]) (S' := [.int (0 : Int32)]) (h' := h) rfl ?_
      exact K
  · replace K := K.2 c1
    refine Wp.blk (by decide) ol_163 98 1 (pc' := 155) (L' := [.ref 23, .int v1, .int v2, .int v3, mk0, mk0]) (S' := [.int (-1 : Int32)]) (h' := h) rfl ?_
    exact Wp.ret (op_ix (by decide) ol_163 99 rfl) rfl K
/-- CutsOrFastModel.waysNow at 87 -/
theorem g163_87 (d : Nat) (v1 : Int32) (v2 : Int32) (v3 : Int32) (s0 : Int32) (h : AH) (HS : Sh h)  (Q : Option Value → AH → Prop) (K : (Cl d 143 [.ref 23, .int (1 : Int32)] h (fun r h1 => ∃ x3 : Int32, r = some (.int x3) ∧ Sh h1 ∧ ((s0 = (0 : Int32) → Wp (d + 1) 163 64 [.ref 23, .int v1, .int v2, .int (v3 + (1 : Int32)), mk0, mk0] [] h1 Q) ∧ (¬ s0 = (0 : Int32) → (Cl d 141 [.ref 23, .int (AI h1 23 2), .int v3, .int (AI h1 23 0)] h1 (fun r h5 => ∃ x7 : Int32, r = some (.int x7) ∧ Sh h5 ∧ (((x7 &&& v1) = v1 → (Cl d 141 [.ref 23, .int (AI h5 23 2), .int (((v2 &&& ((v3 ^^^ ((-1 : Int32)))))) ||| x3), .int (AI h5 23 0)] h5 (fun r h9 => ∃ x11 : Int32, r = some (.int x11) ∧ Sh h9 ∧ (((x11 &&& v1) = v1 → Q (some (.int v3)) h9) ∧ (¬ (x11 &&& v1) = v1 → Wp (d + 1) 163 64 [.ref 23, .int v1, .int v2, .int (v3 + (1 : Int32)), mk0, mk0] [] h9 Q))))) ∧ (¬ (x7 &&& v1) = v1 → Wp (d + 1) 163 64 [.ref 23, .int v1, .int v2, .int (v3 + (1 : Int32)), mk0, mk0] [] h5 Q))))))))) : Wp (d + 1) 163 87 [.ref 23, .int v1, .int v2, .int v3, mk0, mk0] [.int s0] h Q := by
  refine Wp.blk (by decide) ol_163 59 8 (pc' := 96) (L' := [.ref 23, .int v1, .int v2, .int v3, .int s0, mk0]) (S' := [.int (1 : Int32), .ref 23, .int (v2 &&& ((v3 ^^^ ((-1 : Int32)))))]) (h' := h) rfl ?_
  refine Wp.callI (op_ix (by decide) ol_163 67 rfl) (act_virt (c2 := 1) rfl (lk1 (kS HS 23 rfl)) rfl) rfl (K.mono ?_)
  rintro _ h1 ⟨x3, rfl, hs2, K⟩
  refine ⟨x3, rfl, ?_⟩
  refine Wp.blk (by decide) ol_163 68 4 (pc' := (if s0 = (0 : Int32) then 148 else 107)) (L' := [.ref 23, .int v1, .int v2, .int v3, .int s0, .int (((v2 &&& ((v3 ^^^ ((-1 : Int32)))))) ||| x3)]) (S' := []) (h' := h1) rfl ?_
  refine Wp.br (fun c4 => ?_) (fun c4 => ?_)
  · replace K := K.1 c4
    refine Wp.blk (by decide) ol_163 96 2 (pc' := 64) (L' := [.ref 23, .int v1, .int v2, .int (v3 + (1 : Int32)), .int s0, .int (((v2 &&& ((v3 ^^^ ((-1 : Int32)))))) ||| x3)]) (S' := []) (h' := h1) rfl ?_
    refine Wp.forget (L := [.ref 23, .int v1, .int v2, .int (v3 + (1 : Int32)), mk0, mk0]) (⟨Or.inr rfl, ⟨Or.inr rfl, ⟨Or.inr rfl, ⟨Or.inr rfl, ⟨Or.inl rfl, ⟨Or.inl rfl, trivial⟩⟩⟩⟩⟩⟩) ?_
    exact K
  · replace K := K.2 c4
    refine Wp.blk (by decide) ol_163 72 2 (pc' := 109) (L' := [.ref 23, .int v1, .int v2, .int v3, .int s0, .int (((v2 &&& ((v3 ^^^ ((-1 : Int32)))))) ||| x3)]) (S' := [.ref 23, .ref 23]) (h' := h1) rfl ?_
    refine Wp.getf (op_ix (by decide) ol_163 74 rfl) (okS hs2 23 rfl rfl) (v := .int (AI h1 23 2)) rfl rfl ?_
    refine Wp.blk (by decide) ol_163 75 2 (pc' := 114) (L' := [.ref 23, .int v1, .int v2, .int v3, .int s0, .int (((v2 &&& ((v3 ^^^ ((-1 : Int32)))))) ||| x3)]) (S' := [.ref 23, .int v3, .int (AI h1 23 2), .ref 23]) (h' := h1) rfl ?_
    refine Wp.getf (op_ix (by decide) ol_163 77 rfl) (okS hs2 23 rfl rfl) (v := .int (AI h1 23 0)) rfl rfl ?_
    refine Wp.callI (op_ix (by decide) ol_163 78 rfl) (act_virt (c2 := 3) rfl (lk1 (kS hs2 23 rfl)) rfl) rfl (K.mono ?_)
    rintro _ h5 ⟨x7, rfl, hs6, K⟩
    refine ⟨x7, rfl, ?_⟩
    refine Wp.blk (by decide) ol_163 79 4 (pc' := (if (x7 &&& v1) = v1 then 126 else 148)) (L' := [.ref 23, .int v1, .int v2, .int v3, .int s0, .int (((v2 &&& ((v3 ^^^ ((-1 : Int32)))))) ||| x3)]) (S' := []) (h' := h5) rfl ?_
    refine Wp.br (fun c8 => ?_) (fun c8 => ?_)
    · replace K := K.1 c8
      refine Wp.blk (by decide) ol_163 83 2 (pc' := 128) (L' := [.ref 23, .int v1, .int v2, .int v3, .int s0, .int (((v2 &&& ((v3 ^^^ ((-1 : Int32)))))) ||| x3)]) (S' := [.ref 23, .ref 23]) (h' := h5) rfl ?_
      refine Wp.getf (op_ix (by decide) ol_163 85 rfl) (okS hs6 23 rfl rfl) (v := .int (AI h5 23 2)) rfl rfl ?_
      refine Wp.blk (by decide) ol_163 86 2 (pc' := 134) (L' := [.ref 23, .int v1, .int v2, .int v3, .int s0, .int (((v2 &&& ((v3 ^^^ ((-1 : Int32)))))) ||| x3)]) (S' := [.ref 23, .int (((v2 &&& ((v3 ^^^ ((-1 : Int32)))))) ||| x3), .int (AI h5 23 2), .ref 23]) (h' := h5) rfl ?_
      refine Wp.getf (op_ix (by decide) ol_163 88 rfl) (okS hs6 23 rfl rfl) (v := .int (AI h5 23 0)) rfl rfl ?_
      refine Wp.callI (op_ix (by decide) ol_163 89 rfl) (act_virt (c2 := 3) rfl (lk1 (kS hs6 23 rfl)) rfl) rfl (K.mono ?_)
      rintro _ h9 ⟨x11, rfl, hs10, K⟩
      refine ⟨x11, rfl, ?_⟩
      refine Wp.blk (by decide) ol_163 90 4 (pc' := (if (x11 &&& v1) = v1 then 146 else 148)) (L' := [.ref 23, .int v1, .int v2, .int v3, .int s0, .int (((v2 &&& ((v3 ^^^ ((-1 : Int32)))))) ||| x3)]) (S' := []) (h' := h9) rfl ?_
      refine Wp.br (fun c12 => ?_) (fun c12 => ?_)
      · replace K := K.1 c12
        refine Wp.blk (by decide) ol_163 94 1 (pc' := 147) (L' := [.ref 23, .int v1, .int v2, .int v3, .int s0, .int (((v2 &&& ((v3 ^^^ ((-1 : Int32)))))) ||| x3)]) (S' := [.int v3]) (h' := h9) rfl ?_
        exact Wp.ret (op_ix (by decide) ol_163 95 rfl) rfl K
      · replace K := K.2 c12
        refine Wp.blk (by decide) ol_163 96 2 (pc' := 64) (L' := [.ref 23, .int v1, .int v2, .int (v3 + (1 : Int32)), .int s0, .int (((v2 &&& ((v3 ^^^ ((-1 : Int32)))))) ||| x3)]) (S' := []) (h' := h9) rfl ?_
        refine Wp.forget (L := [.ref 23, .int v1, .int v2, .int (v3 + (1 : Int32)), mk0, mk0]) (⟨Or.inr rfl, ⟨Or.inr rfl, ⟨Or.inr rfl, ⟨Or.inr rfl, ⟨Or.inl rfl, ⟨Or.inl rfl, trivial⟩⟩⟩⟩⟩⟩) ?_
        exact K
    · replace K := K.2 c8
      refine Wp.blk (by decide) ol_163 96 2 (pc' := 64) (L' := [.ref 23, .int v1, .int v2, .int (v3 + (1 : Int32)), .int s0, .int (((v2 &&& ((v3 ^^^ ((-1 : Int32)))))) ||| x3)]) (S' := []) (h' := h5) rfl ?_
      refine Wp.forget (L := [.ref 23, .int v1, .int v2, .int (v3 + (1 : Int32)), mk0, mk0]) (⟨Or.inr rfl, ⟨Or.inr rfl, ⟨Or.inr rfl, ⟨Or.inr rfl, ⟨Or.inl rfl, ⟨Or.inl rfl, trivial⟩⟩⟩⟩⟩⟩) ?_
      exact K
/-- CutsOrFastModel.ways at 0 ()I -/
theorem g164_0 (d : Nat)  (h : AH) (HS : Sh h)  (Q : Option Value → AH → Prop) (K : (((AI h 23 0) = (0 : Int32) → Q (some (.int (-103 : Int32))) h) ∧ (¬ (AI h 23 0) = (0 : Int32) → (Cl d 163 [.ref 23] h (fun r h2 => ∃ x4 : Int32, r = some (.int x4) ∧ Sh h2 ∧ Q (some (.int x4)) h2))))) : Wp (d + 1) 164 0 [.ref 23] [] h Q := by
  refine Wp.blk (by decide) ol_164 0 1 (pc' := 1) (L' := [.ref 23]) (S' := [.ref 23]) (h' := h) rfl ?_
  refine Wp.getf (op_ix (by decide) ol_164 1 rfl) (okS HS 23 rfl rfl) (v := .int (AI h 23 0)) rfl rfl ?_
  refine Wp.blk (by decide) ol_164 2 1 (pc' := (if (AI h 23 0) = (0 : Int32) then 7 else 12)) (L' := [.ref 23]) (S' := []) (h' := h) rfl ?_
  refine Wp.br (fun c1 => ?_) (fun c1 => ?_)
  · replace K := K.1 c1
    refine Wp.blk (by decide) ol_164 3 2 (pc' := 16) (L' := [.ref 23]) (S' := [.int (-103 : Int32)]) (h' := h) rfl ?_
    exact Wp.ret (op_ix (by decide) ol_164 7 rfl) rfl K
  · replace K := K.2 c1
    refine Wp.blk (by decide) ol_164 5 1 (pc' := 13) (L' := [.ref 23]) (S' := [.ref 23]) (h' := h) rfl ?_
    refine Wp.callI (op_ix (by decide) ol_164 6 rfl) (act_virt (c2 := 0) rfl (lk1 (kS HS 23 rfl)) rfl) rfl (K.mono ?_)
    rintro _ h2 ⟨x4, rfl, hs3, K⟩
    refine ⟨x4, rfl, ?_⟩
    exact Wp.ret (op_ix (by decide) ol_164 7 rfl) rfl K
