/-- CutsOrFast.<init> at 0 ()V -/
theorem g88_0 (d : Nat) (v0 : Nat) (h : AH)  (Q : Option Value → AH → Prop) (K : (∀ n1, n1 = (NX h) → ∀ h2, h2 = (newO h 6 3) → (Cl d 38 [.ref n1] h2 (fun r h5 => r = none ∧ (okC 11 (AK h5 v0).1 = true ∧ 2 ≤ v0 ∧ (∀ n9, n9 = (NX ((stR h5 v0 0 (some n1)))) → ∀ h10, h10 = (newO ((stR h5 v0 0 (some n1))) 5 8) → (Cl d 20 [.ref n9] h10 (fun r h13 => r = none ∧ (okC 11 (AK h13 v0).1 = true ∧ (∀ n16, n16 = (NX ((stR h13 v0 1 (some n9)))) → ∀ h17, h17 = (newO ((stR h13 v0 1 (some n9))) 10 6) → (okC 11 (AK h17 v0).1 = true ∧ ∃ i21 : Nat, AR h17 v0 1 = some i21 ∧ (Cl d 71 [.ref n16, .ref i21] h17 (fun r h23 => r = none ∧ (okC 11 (AK h23 v0).1 = true ∧ (∀ n26, n26 = (NX ((stR h23 v0 2 (some n16)))) → ∀ h27, h27 = (newO ((stR h23 v0 2 (some n16))) 10 6) → (okC 11 (AK h27 v0).1 = true ∧ ∃ i31 : Nat, AR h27 v0 1 = some i31 ∧ (Cl d 71 [.ref n26, .ref i31] h27 (fun r h33 => r = none ∧ (okC 11 (AK h33 v0).1 = true ∧ (∀ n36, n36 = (NX ((stR h33 v0 3 (some n26)))) → ∀ h37, h37 = (newO ((stR h33 v0 3 (some n26))) 10 6) → (okC 11 (AK h37 v0).1 = true ∧ ∃ i41 : Nat, AR h37 v0 1 = some i41 ∧ (Cl d 71 [.ref n36, .ref i41] h37 (fun r h43 => r = none ∧ (okC 11 (AK h43 v0).1 = true ∧ (∀ n46, n46 = (NX ((stR h43 v0 4 (some n36)))) → ∀ h47, h47 = (newO ((stR h43 v0 4 (some n36))) 8 5) → (okC 11 (AK h47 v0).1 = true ∧ ∃ i51 : Nat, AR h47 v0 1 = some i51 ∧ (Cl d 54 [.ref n46, .ref i51] h47 (fun r h53 => r = none ∧ (okC 11 (AK h53 v0).1 = true ∧ (∀ n56, n56 = (NX ((stR h53 v0 5 (some n46)))) → ∀ h57, h57 = (newO ((stR h53 v0 5 (some n46))) 9 2) → (okC 11 (AK h57 v0).1 = true ∧ ∃ i61 : Nat, AR h57 v0 1 = some i61 ∧ ∃ i63 : Nat, AR h57 v0 5 = some i63 ∧ (Cl d 65 [.ref n56, .ref i61, .ref i63] h57 (fun r h65 => r = none ∧ (okC 11 (AK h65 v0).1 = true ∧ (∀ n68, n68 = (NX ((stR h65 v0 6 (some n56)))) → ∀ h69, h69 = (newO ((stR h65 v0 6 (some n56))) 3 1) → (Cl d 9 [.ref n68] h69 (fun r h72 => r = none ∧ (okC 11 (AK h72 v0).1 = true ∧ (∀ n75, n75 = (NX ((stR h72 v0 7 (some n68)))) → ∀ h76, h76 = (newO ((stR h72 v0 7 (some n68))) 24 5) → (okC 11 (AK h76 v0).1 = true ∧ Q none (stR h76 v0 8 (some n75)))))))))))))))))))))))))))))))))))))))))) : Wp (d + 1) 88 0 [.ref v0] [] h Q := by
  refine Wp.blk (by decide) ol_88 0 3 (pc' := 5) (L' := [.ref v0]) (S' := [.ref v0]) (h' := h) rfl ?_
  refine Wp.blk (by decide) ol_88 3 1 (pc' := 8) (L' := [.ref v0]) (S' := [.ref (NX h), .ref v0]) (h' := (newO h 6 3)) rfl ?_
  obtain ⟨n1, e3⟩ : ∃ x, x = (NX h) := ⟨_, rfl⟩
  obtain ⟨h2, e4⟩ : ∃ x, x = (newO h 6 3) := ⟨_, rfl⟩
  rw [← e4, ← e3]
  replace K := K n1 e3 h2 e4
  refine Wp.blk (by decide) ol_88 4 1 (pc' := 9) (L' := [.ref v0]) (S' := [.ref n1, .ref n1, .ref v0]) (h' := h2) rfl ?_
  refine Wp.callV (op_ix (by decide) ol_88 5 rfl) rfl rfl (K.mono ?_)
  rintro _ h5 ⟨rfl, K⟩
  refine ⟨rfl, ?_⟩
  obtain ⟨k7, K⟩ := K
  obtain ⟨b8, K⟩ := K
  refine Wp.putf (op_ix (by decide) ol_88 6 rfl) b8 k7 (h' := (stR h5 v0 0 (some n1))) rfl rfl ?_
  refine Wp.blk (by decide) ol_88 7 1 (pc' := 16) (L' := [.ref v0]) (S' := [.ref v0]) (h' := (stR h5 v0 0 (some n1))) rfl ?_
  refine Wp.blk (by decide) ol_88 8 1 (pc' := 19) (L' := [.ref v0]) (S' := [.ref (NX ((stR h5 v0 0 (some n1)))), .ref v0]) (h' := (newO ((stR h5 v0 0 (some n1))) 5 8)) rfl ?_
  obtain ⟨n9, e11⟩ : ∃ x, x = (NX ((stR h5 v0 0 (some n1)))) := ⟨_, rfl⟩
  obtain ⟨h10, e12⟩ : ∃ x, x = (newO ((stR h5 v0 0 (some n1))) 5 8) := ⟨_, rfl⟩
  rw [← e12, ← e11]
  replace K := K n9 e11 h10 e12
  refine Wp.blk (by decide) ol_88 9 1 (pc' := 20) (L' := [.ref v0]) (S' := [.ref n9, .ref n9, .ref v0]) (h' := h10) rfl ?_
  refine Wp.callV (op_ix (by decide) ol_88 10 rfl) rfl rfl (K.mono ?_)
  rintro _ h13 ⟨rfl, K⟩
  refine ⟨rfl, ?_⟩
  obtain ⟨k15, K⟩ := K
  refine Wp.putf (op_ix (by decide) ol_88 11 rfl) b8 k15 (h' := (stR h13 v0 1 (some n9))) rfl rfl ?_
  refine Wp.blk (by decide) ol_88 12 1 (pc' := 27) (L' := [.ref v0]) (S' := [.ref v0]) (h' := (stR h13 v0 1 (some n9))) rfl ?_
  refine Wp.blk (by decide) ol_88 13 1 (pc' := 30) (L' := [.ref v0]) (S' := [.ref (NX ((stR h13 v0 1 (some n9)))), .ref v0]) (h' := (newO ((stR h13 v0 1 (some n9))) 10 6)) rfl ?_
  obtain ⟨n16, e18⟩ : ∃ x, x = (NX ((stR h13 v0 1 (some n9)))) := ⟨_, rfl⟩
  obtain ⟨h17, e19⟩ : ∃ x, x = (newO ((stR h13 v0 1 (some n9))) 10 6) := ⟨_, rfl⟩
  rw [← e19, ← e18]
  replace K := K n16 e18 h17 e19
  refine Wp.blk (by decide) ol_88 14 2 (pc' := 32) (L' := [.ref v0]) (S' := [.ref v0, .ref n16, .ref n16, .ref v0]) (h' := h17) rfl ?_
  obtain ⟨k20, K⟩ := K
  obtain ⟨i21, q22, K⟩ := K
  refine Wp.getf (op_ix (by decide) ol_88 16 rfl) k20 (v := .ref i21) (congrArg va_rf q22) rfl ?_
  refine Wp.callV (op_ix (by decide) ol_88 17 rfl) rfl rfl (K.mono ?_)
  rintro _ h23 ⟨rfl, K⟩
  refine ⟨rfl, ?_⟩
  obtain ⟨k25, K⟩ := K
  refine Wp.putf (op_ix (by decide) ol_88 18 rfl) b8 k25 (h' := (stR h23 v0 2 (some n16))) rfl rfl ?_
  refine Wp.blk (by decide) ol_88 19 1 (pc' := 42) (L' := [.ref v0]) (S' := [.ref v0]) (h' := (stR h23 v0 2 (some n16))) rfl ?_
  refine Wp.blk (by decide) ol_88 20 1 (pc' := 45) (L' := [.ref v0]) (S' := [.ref (NX ((stR h23 v0 2 (some n16)))), .ref v0]) (h' := (newO ((stR h23 v0 2 (some n16))) 10 6)) rfl ?_
  obtain ⟨n26, e28⟩ : ∃ x, x = (NX ((stR h23 v0 2 (some n16)))) := ⟨_, rfl⟩
  obtain ⟨h27, e29⟩ : ∃ x, x = (newO ((stR h23 v0 2 (some n16))) 10 6) := ⟨_, rfl⟩
  rw [← e29, ← e28]
  replace K := K n26 e28 h27 e29
  refine Wp.blk (by decide) ol_88 21 2 (pc' := 47) (L' := [.ref v0]) (S' := [.ref v0, .ref n26, .ref n26, .ref v0]) (h' := h27) rfl ?_
  obtain ⟨k30, K⟩ := K
  obtain ⟨i31, q32, K⟩ := K
  refine Wp.getf (op_ix (by decide) ol_88 23 rfl) k30 (v := .ref i31) (congrArg va_rf q32) rfl ?_
  refine Wp.callV (op_ix (by decide) ol_88 24 rfl) rfl rfl (K.mono ?_)
  rintro _ h33 ⟨rfl, K⟩
  refine ⟨rfl, ?_⟩
  obtain ⟨k35, K⟩ := K
  refine Wp.putf (op_ix (by decide) ol_88 25 rfl) b8 k35 (h' := (stR h33 v0 3 (some n26))) rfl rfl ?_
  refine Wp.blk (by decide) ol_88 26 1 (pc' := 57) (L' := [.ref v0]) (S' := [.ref v0]) (h' := (stR h33 v0 3 (some n26))) rfl ?_
  refine Wp.blk (by decide) ol_88 27 1 (pc' := 60) (L' := [.ref v0]) (S' := [.ref (NX ((stR h33 v0 3 (some n26)))), .ref v0]) (h' := (newO ((stR h33 v0 3 (some n26))) 10 6)) rfl ?_
  obtain ⟨n36, e38⟩ : ∃ x, x = (NX ((stR h33 v0 3 (some n26)))) := ⟨_, rfl⟩
  obtain ⟨h37, e39⟩ : ∃ x, x = (newO ((stR h33 v0 3 (some n26))) 10 6) := ⟨_, rfl⟩
  rw [← e39, ← e38]
  replace K := K n36 e38 h37 e39
  refine Wp.blk (by decide) ol_88 28 2 (pc' := 62) (L' := [.ref v0]) (S' := [.ref v0, .ref n36, .ref n36, .ref v0]) (h' := h37) rfl ?_
  obtain ⟨k40, K⟩ := K
  obtain ⟨i41, q42, K⟩ := K
  refine Wp.getf (op_ix (by decide) ol_88 30 rfl) k40 (v := .ref i41) (congrArg va_rf q42) rfl ?_
  refine Wp.callV (op_ix (by decide) ol_88 31 rfl) rfl rfl (K.mono ?_)
  rintro _ h43 ⟨rfl, K⟩
  refine ⟨rfl, ?_⟩
  obtain ⟨k45, K⟩ := K
  refine Wp.putf (op_ix (by decide) ol_88 32 rfl) b8 k45 (h' := (stR h43 v0 4 (some n36))) rfl rfl ?_
  refine Wp.blk (by decide) ol_88 33 1 (pc' := 72) (L' := [.ref v0]) (S' := [.ref v0]) (h' := (stR h43 v0 4 (some n36))) rfl ?_
  refine Wp.blk (by decide) ol_88 34 1 (pc' := 75) (L' := [.ref v0]) (S' := [.ref (NX ((stR h43 v0 4 (some n36)))), .ref v0]) (h' := (newO ((stR h43 v0 4 (some n36))) 8 5)) rfl ?_
  obtain ⟨n46, e48⟩ : ∃ x, x = (NX ((stR h43 v0 4 (some n36)))) := ⟨_, rfl⟩
  obtain ⟨h47, e49⟩ : ∃ x, x = (newO ((stR h43 v0 4 (some n36))) 8 5) := ⟨_, rfl⟩
  rw [← e49, ← e48]
  replace K := K n46 e48 h47 e49
  refine Wp.blk (by decide) ol_88 35 2 (pc' := 77) (L' := [.ref v0]) (S' := [.ref v0, .ref n46, .ref n46, .ref v0]) (h' := h47) rfl ?_
  obtain ⟨k50, K⟩ := K
  obtain ⟨i51, q52, K⟩ := K
  refine Wp.getf (op_ix (by decide) ol_88 37 rfl) k50 (v := .ref i51) (congrArg va_rf q52) rfl ?_
  refine Wp.callV (op_ix (by decide) ol_88 38 rfl) rfl rfl (K.mono ?_)
  rintro _ h53 ⟨rfl, K⟩
  refine ⟨rfl, ?_⟩
  obtain ⟨k55, K⟩ := K
  refine Wp.putf (op_ix (by decide) ol_88 39 rfl) b8 k55 (h' := (stR h53 v0 5 (some n46))) rfl rfl ?_
  refine Wp.blk (by decide) ol_88 40 1 (pc' := 87) (L' := [.ref v0]) (S' := [.ref v0]) (h' := (stR h53 v0 5 (some n46))) rfl ?_
  refine Wp.blk (by decide) ol_88 41 1 (pc' := 90) (L' := [.ref v0]) (S' := [.ref (NX ((stR h53 v0 5 (some n46)))), .ref v0]) (h' := (newO ((stR h53 v0 5 (some n46))) 9 2)) rfl ?_
  obtain ⟨n56, e58⟩ : ∃ x, x = (NX ((stR h53 v0 5 (some n46)))) := ⟨_, rfl⟩
  obtain ⟨h57, e59⟩ : ∃ x, x = (newO ((stR h53 v0 5 (some n46))) 9 2) := ⟨_, rfl⟩
  rw [← e59, ← e58]
  replace K := K n56 e58 h57 e59
  refine Wp.blk (by decide) ol_88 42 2 (pc' := 92) (L' := [.ref v0]) (S' := [.ref v0, .ref n56, .ref n56, .ref v0]) (h' := h57) rfl ?_
  obtain ⟨k60, K⟩ := K
  obtain ⟨i61, q62, K⟩ := K
  refine Wp.getf (op_ix (by decide) ol_88 44 rfl) k60 (v := .ref i61) (congrArg va_rf q62) rfl ?_
  refine Wp.blk (by decide) ol_88 45 1 (pc' := 96) (L' := [.ref v0]) (S' := [.ref v0, .ref i61, .ref n56, .ref n56, .ref v0]) (h' := h57) rfl ?_
  obtain ⟨i63, q64, K⟩ := K
  refine Wp.getf (op_ix (by decide) ol_88 46 rfl) k60 (v := .ref i63) (congrArg va_rf q64) rfl ?_
  refine Wp.callV (op_ix (by decide) ol_88 47 rfl) rfl rfl (K.mono ?_)
  rintro _ h65 ⟨rfl, K⟩
  refine ⟨rfl, ?_⟩
  obtain ⟨k67, K⟩ := K
  refine Wp.putf (op_ix (by decide) ol_88 48 rfl) b8 k67 (h' := (stR h65 v0 6 (some n56))) rfl rfl ?_
  refine Wp.blk (by decide) ol_88 49 1 (pc' := 106) (L' := [.ref v0]) (S' := [.ref v0]) (h' := (stR h65 v0 6 (some n56))) rfl ?_
  refine Wp.blk (by decide) ol_88 50 1 (pc' := 109) (L' := [.ref v0]) (S' := [.ref (NX ((stR h65 v0 6 (some n56)))), .ref v0]) (h' := (newO ((stR h65 v0 6 (some n56))) 3 1)) rfl ?_
  obtain ⟨n68, e70⟩ : ∃ x, x = (NX ((stR h65 v0 6 (some n56)))) := ⟨_, rfl⟩
  obtain ⟨h69, e71⟩ : ∃ x, x = (newO ((stR h65 v0 6 (some n56))) 3 1) := ⟨_, rfl⟩
  rw [← e71, ← e70]
  replace K := K n68 e70 h69 e71
  refine Wp.blk (by decide) ol_88 51 1 (pc' := 110) (L' := [.ref v0]) (S' := [.ref n68, .ref n68, .ref v0]) (h' := h69) rfl ?_
  refine Wp.callV (op_ix (by decide) ol_88 52 rfl) rfl rfl (K.mono ?_)
  rintro _ h72 ⟨rfl, K⟩
  refine ⟨rfl, ?_⟩
  obtain ⟨k74, K⟩ := K
  refine Wp.putf (op_ix (by decide) ol_88 53 rfl) b8 k74 (h' := (stR h72 v0 7 (some n68))) rfl rfl ?_
  refine Wp.blk (by decide) ol_88 54 2 (pc' := 118) (L' := [.ref v0]) (S' := [.int (5 : Int32), .ref v0]) (h' := (stR h72 v0 7 (some n68))) rfl ?_
  refine Wp.blk (by decide) ol_88 56 1 (pc' := 121) (L' := [.ref v0]) (S' := [.ref (NX ((stR h72 v0 7 (some n68)))), .ref v0]) (h' := (newO ((stR h72 v0 7 (some n68))) 24 5)) rfl ?_
  obtain ⟨n75, e77⟩ : ∃ x, x = (NX ((stR h72 v0 7 (some n68)))) := ⟨_, rfl⟩
  obtain ⟨h76, e78⟩ : ∃ x, x = (newO ((stR h72 v0 7 (some n68))) 24 5) := ⟨_, rfl⟩
  rw [← e78, ← e77]
  replace K := K n75 e77 h76 e78
  obtain ⟨k79, K⟩ := K
  refine Wp.putf (op_ix (by decide) ol_88 57 rfl) b8 k79 (h' := (stR h76 v0 8 (some n75))) rfl rfl ?_
  exact Wp.ret (op_ix (by decide) ol_88 58 rfl) rfl K
/-- CutsOrFast.letters at 0 (J)I -/
theorem g89_0 (d : Nat) (v1 : Int64) (h : AH) (HS : Sh h)  (Q : Option Value → AH → Prop) (K : (Cl d 42 [.ref 3, .long v1] h (fun r h1 => ∃ x3 : Int32, r = some (.int x3) ∧ Sh h1 ∧ Q (some (.int x3)) h1))) : Wp (d + 1) 89 0 [.ref 2, .long v1, mk0] [] h Q := by
  refine Wp.blk (by decide) ol_89 0 1 (pc' := 1) (L' := [.ref 2, .long v1, mk0]) (S' := [.ref 2]) (h' := h) rfl ?_
  refine Wp.getf (op_ix (by decide) ol_89 1 rfl) (okS HS 2 rfl rfl) (v := .ref 3) (congrArg va_rf (rS HS 2 0 rfl)) rfl ?_
  refine Wp.blk (by decide) ol_89 2 1 (pc' := 5) (L' := [.ref 2, .long v1, mk0]) (S' := [.long v1, .ref 3]) (h' := h) rfl ?_
  refine Wp.callI (op_ix (by decide) ol_89 3 rfl) (act_virt (c2 := 1) rfl (lk1 (kS HS 3 rfl)) rfl) rfl (K.mono ?_)
  rintro _ h1 ⟨x3, rfl, hs2, K⟩
  refine ⟨x3, rfl, ?_⟩
  exact Wp.ret (op_ix (by decide) ol_89 4 rfl) rfl K
/-- CutsOrFast.blank at 0 ()I -/
theorem g90_0 (d : Nat)  (h : AH) (HS : Sh h)  (Q : Option Value → AH → Prop) (K : Q (some (.int (AI h 3 1))) (stI h 3 1 ((0 : Int32)))) : Wp (d + 1) 90 0 [.ref 2, mk0] [] h Q := by
  refine Wp.blk (by decide) ol_90 0 1 (pc' := 1) (L' := [.ref 2, mk0]) (S' := [.ref 2]) (h' := h) rfl ?_
  refine Wp.getf (op_ix (by decide) ol_90 1 rfl) (okS HS 2 rfl rfl) (v := .ref 3) (congrArg va_rf (rS HS 2 0 rfl)) rfl ?_
  refine Wp.callI (op_ix (by decide) ol_90 2 rfl) (act_virt (c2 := 0) rfl (lk1 (kS HS 3 rfl)) rfl) rfl (Cl.enter (L := [.ref 3]) rfl ?_)
  refine Wp.blk (by decide) ol_39 0 1 (pc' := 1) (L' := [.ref 3]) (S' := [.ref 3]) (h' := h) rfl ?_
  refine Wp.getf (op_ix (by decide) ol_39 1 rfl) (okS HS 3 rfl rfl) (v := .int (AI h 3 1)) rfl rfl ?_
  refine Wp.ret (op_ix (by decide) ol_39 2 rfl) rfl ⟨_, rfl, ?_⟩
  refine Wp.blk (by decide) ol_90 3 2 (pc' := 9) (L' := [.ref 2, .int (AI h 3 1)]) (S' := [.ref 2]) (h' := h) rfl ?_
  refine Wp.getf (op_ix (by decide) ol_90 5 rfl) (okS HS 2 rfl rfl) (v := .ref 3) (congrArg va_rf (rS HS 2 0 rfl)) rfl ?_
  refine Wp.callV (op_ix (by decide) ol_90 6 rfl) (act_virt (c2 := 0) rfl (lk1 (kS HS 3 rfl)) rfl) rfl (Cl.enter (L := [.ref 3]) rfl ?_)
  refine Wp.blk (by decide) ol_40 0 2 (pc' := 2) (L' := [.ref 3]) (S' := [.int (0 : Int32), .ref 3]) (h' := h) rfl ?_
  refine Wp.putf (op_ix (by decide) ol_40 2 rfl) (by decide) (okS HS 3 rfl rfl) (h' := (stI h 3 1 ((0 : Int32)))) rfl rfl ?_
  refine Wp.ret (op_ix (by decide) ol_40 3 rfl) rfl ⟨rfl, ?_⟩
  refine Wp.blk (by decide) ol_90 7 1 (pc' := 16) (L' := [.ref 2, .int (AI h 3 1)]) (S' := [.int (AI h 3 1)]) (h' := (stI h 3 1 ((0 : Int32)))) rfl ?_
  exact Wp.ret (op_ix (by decide) ol_90 8 rfl) rfl K
/-- CutsOrFast.fault at 0 ()I -/
theorem g91_0 (d : Nat)  (h : AH) (HS : Sh h)  (Q : Option Value → AH → Prop) (K : (Cl d 45 [.ref 3] h (fun r h1 => ∃ x3 : Int32, r = some (.int x3) ∧ Sh h1 ∧ Q (some (.int x3)) h1))) : Wp (d + 1) 91 0 [.ref 2] [] h Q := by
  refine Wp.blk (by decide) ol_91 0 1 (pc' := 1) (L' := [.ref 2]) (S' := [.ref 2]) (h' := h) rfl ?_
  refine Wp.getf (op_ix (by decide) ol_91 1 rfl) (okS HS 2 rfl rfl) (v := .ref 3) (congrArg va_rf (rS HS 2 0 rfl)) rfl ?_
  refine Wp.callI (op_ix (by decide) ol_91 2 rfl) (act_virt (c2 := 0) rfl (lk1 (kS HS 3 rfl)) rfl) rfl (K.mono ?_)
  rintro _ h1 ⟨x3, rfl, hs2, K⟩
  refine ⟨x3, rfl, ?_⟩
  exact Wp.ret (op_ix (by decide) ol_91 3 rfl) rfl K
/-- CutsOrFast.net at 0 ()I -/
theorem g92_0 (d : Nat)  (h : AH) (HS : Sh h)  (Q : Option Value → AH → Prop) (K : (Cl d 45 [.ref 3] h (fun r h1 => ∃ x3 : Int32, r = some (.int x3) ∧ Sh h1 ∧ ((x3 = (AI h1 3 1) → (((AI h1 3 2) < (5 : Int32) → Q (some (.int (-103 : Int32))) h1) ∧ (¬ (AI h1 3 2) < (5 : Int32) → (Cl (d + 1) 50 [.ref 3, .ref 5, .ref 11] h1 (fun r h6 => r = none ∧ Sh h6 ∧ (Cl d 56 [.ref 19] ((stI h6 3 1 ((0 : Int32)))) (fun r h8 => r = none ∧ Sh h8 ∧ Q (some (.int (AI ((stI ((stI ((stI h8 17 4 ((-1 : Int32)))) 2 12 ((0 : Int32)))) 2 10 ((((AI ((stI ((stI h8 17 4 ((-1 : Int32)))) 2 12 ((0 : Int32)))) 2 10)) + ((1 : Int32)))))) 5 5))) (stI ((stI ((stI h8 17 4 ((-1 : Int32)))) 2 12 ((0 : Int32)))) 2 10 ((((AI ((stI ((stI h8 17 4 ((-1 : Int32)))) 2 12 ((0 : Int32)))) 2 10)) + ((1 : Int32)))))))))))) ∧ (¬ x3 = (AI h1 3 1) → Q (some (.int (-103 : Int32))) h1))))) : Wp (d + 2) 92 0 [.ref 2] [] h Q := by
  refine Wp.blk (by decide) ol_92 0 1 (pc' := 1) (L' := [.ref 2]) (S' := [.ref 2]) (h' := h) rfl ?_
  refine Wp.getf (op_ix (by decide) ol_92 1 rfl) (okS HS 2 rfl rfl) (v := .ref 3) (congrArg va_rf (rS HS 2 0 rfl)) rfl ?_
  refine Wp.callI (op_ix (by decide) ol_92 2 rfl) (act_virt (c2 := 0) rfl (lk1 (kS HS 3 rfl)) rfl) rfl (Cl.enter (L := [.ref 3]) rfl ?_)
  refine Wp.blk (by decide) ol_44 0 1 (pc' := 1) (L' := [.ref 3]) (S' := [.ref 3]) (h' := h) rfl ?_
  refine Wp.callI (op_ix (by decide) ol_44 1 rfl) (act_virt (c2 := 0) rfl (lk1 (kS HS 3 rfl)) rfl) rfl (K.mono ?_)
  rintro _ h1 ⟨x3, rfl, hs2, K⟩
  refine ⟨x3, rfl, ?_⟩
  refine Wp.blk (by decide) ol_44 2 1 (pc' := 5) (L' := [.ref 3]) (S' := [.ref 3, .int x3]) (h' := h1) rfl ?_
  refine Wp.getf (op_ix (by decide) ol_44 3 rfl) (okS hs2 3 rfl rfl) (v := .int (AI h1 3 1)) rfl rfl ?_
  refine Wp.blk (by decide) ol_44 4 1 (pc' := (if x3 = (AI h1 3 1) then 11 else 23)) (L' := [.ref 3]) (S' := []) (h' := h1) rfl ?_
  refine Wp.br (fun c4 => ?_) (fun c4 => ?_)
  · replace K := K.1 c4
    refine Wp.blk (by decide) ol_44 5 1 (pc' := 12) (L' := [.ref 3]) (S' := [.ref 3]) (h' := h1) rfl ?_
    refine Wp.getf (op_ix (by decide) ol_44 6 rfl) (okS hs2 3 rfl rfl) (v := .int (AI h1 3 2)) rfl rfl ?_
    refine Wp.blk (by decide) ol_44 7 2 (pc' := (if (AI h1 3 2) < (5 : Int32) then 23 else 19)) (L' := [.ref 3]) (S' := []) (h' := h1) rfl ?_
    refine Wp.br (fun c5 => ?_) (fun c5 => ?_)
    · replace K := K.1 c5
      refine Wp.blk (by decide) ol_44 11 1 (pc' := 24) (L' := [.ref 3]) (S' := [.int (0 : Int32)]) (h' := h1) rfl ?_
      refine Wp.ret (op_ix (by decide) ol_44 12 rfl) rfl ⟨_, rfl, ?_⟩
      refine Wp.blk (by decide) ol_92 3 1 (pc' := (if (0 : Int32) = (0 : Int32) then 10 else 13)) (L' := [.ref 2]) (S' := []) (h' := h1) rfl ?_
      refine Wp.br (fun _ => ?_) (fun hc => absurd (by decide) hc)
      refine Wp.blk (by decide) ol_92 4 1 (pc' := 12) (L' := [.ref 2]) (S' := [.int (-103 : Int32)]) (h' := h1) rfl ?_
      exact Wp.ret (op_ix (by decide) ol_92 5 rfl) rfl K
    · replace K := K.2 c5
      refine Wp.blk (by decide) ol_44 9 2 (pc' := 24) (L' := [.ref 3]) (S' := [.int (1 : Int32)]) (h' := h1) rfl ?_
      refine Wp.ret (op_ix (by decide) ol_44 12 rfl) rfl ⟨_, rfl, ?_⟩
      refine Wp.blk (by decide) ol_92 3 1 (pc' := (if (1 : Int32) = (0 : Int32) then 10 else 13)) (L' := [.ref 2]) (S' := []) (h' := h1) rfl ?_
      refine Wp.br (fun hc => absurd hc (by decide)) (fun _ => ?_)
      refine Wp.blk (by decide) ol_92 6 1 (pc' := 14) (L' := [.ref 2]) (S' := [.ref 2]) (h' := h1) rfl ?_
      refine Wp.getf (op_ix (by decide) ol_92 7 rfl) (okS hs2 2 rfl rfl) (v := .ref 3) (congrArg va_rf (rS hs2 2 0 rfl)) rfl ?_
      refine Wp.blk (by decide) ol_92 8 1 (pc' := 18) (L' := [.ref 2]) (S' := [.ref 2, .ref 3]) (h' := h1) rfl ?_
      refine Wp.getf (op_ix (by decide) ol_92 9 rfl) (okS hs2 2 rfl rfl) (v := .ref 5) (congrArg va_rf (rS hs2 2 1 rfl)) rfl ?_
      refine Wp.blk (by decide) ol_92 10 1 (pc' := 22) (L' := [.ref 2]) (S' := [.ref 2, .ref 5, .ref 3]) (h' := h1) rfl ?_
      refine Wp.getf (op_ix (by decide) ol_92 11 rfl) (okS hs2 2 rfl rfl) (v := .ref 11) (congrArg va_rf (rS hs2 2 2 rfl)) rfl ?_
      refine Wp.callV (op_ix (by decide) ol_92 12 rfl) (act_virt (c2 := 2) rfl (lk1 (kS hs2 3 rfl)) rfl) rfl (K.mono ?_)
      rintro _ h6 ⟨rfl, hs7, K⟩
      refine ⟨rfl, ?_⟩
      refine Wp.blk (by decide) ol_92 13 1 (pc' := 29) (L' := [.ref 2]) (S' := [.ref 2]) (h' := h6) rfl ?_
      refine Wp.getf (op_ix (by decide) ol_92 14 rfl) (okS hs7 2 rfl rfl) (v := .ref 3) (congrArg va_rf (rS hs7 2 0 rfl)) rfl ?_
      refine Wp.callV (op_ix (by decide) ol_92 15 rfl) (act_virt (c2 := 0) rfl (lk1 (kS hs7 3 rfl)) rfl) rfl (Cl.enter (L := [.ref 3]) rfl ?_)
      refine Wp.blk (by decide) ol_40 0 2 (pc' := 2) (L' := [.ref 3]) (S' := [.int (0 : Int32), .ref 3]) (h' := h6) rfl ?_
      refine Wp.putf (op_ix (by decide) ol_40 2 rfl) (by decide) (okS hs7 3 rfl rfl) (h' := (stI h6 3 1 ((0 : Int32)))) rfl rfl ?_
      refine Wp.ret (op_ix (by decide) ol_40 3 rfl) rfl ⟨rfl, ?_⟩
      refine Wp.blk (by decide) ol_92 16 1 (pc' := 36) (L' := [.ref 2]) (S' := [.ref 2]) (h' := (stI h6 3 1 ((0 : Int32)))) rfl ?_
      refine Wp.getf (op_ix (by decide) ol_92 17 rfl) (okS hs7 2 rfl rfl) (v := .ref 17) (congrArg va_rf (rS hs7 2 5 rfl)) rfl ?_
      refine Wp.callV (op_ix (by decide) ol_92 18 rfl) (act_virt (c2 := 0) rfl (lk1 (kS hs7 17 rfl)) rfl) rfl (Cl.enter (L := [.ref 17]) rfl ?_)
      refine Wp.blk (by decide) ol_55 0 1 (pc' := 1) (L' := [.ref 17]) (S' := [.ref 17]) (h' := (stI h6 3 1 ((0 : Int32)))) rfl ?_
      refine Wp.getf (op_ix (by decide) ol_55 1 rfl) (okS hs7 17 rfl rfl) (v := .ref 19) (congrArg va_rf (rS hs7 17 2 rfl)) rfl ?_
      refine Wp.callV (op_ix (by decide) ol_55 2 rfl) rfl rfl (K.mono ?_)
      rintro _ h8 ⟨rfl, hs9, K⟩
      refine ⟨rfl, ?_⟩
      refine Wp.blk (by decide) ol_55 3 2 (pc' := 9) (L' := [.ref 17]) (S' := [.int (-1 : Int32), .ref 17]) (h' := h8) rfl ?_
      refine Wp.putf (op_ix (by decide) ol_55 5 rfl) (by decide) (okS hs9 17 rfl rfl) (h' := (stI h8 17 4 ((-1 : Int32)))) rfl rfl ?_
      refine Wp.ret (op_ix (by decide) ol_55 6 rfl) rfl ⟨rfl, ?_⟩
      refine Wp.blk (by decide) ol_92 19 2 (pc' := 44) (L' := [.ref 2]) (S' := [.int (0 : Int32), .ref 2]) (h' := (stI h8 17 4 ((-1 : Int32)))) rfl ?_
      refine Wp.putf (op_ix (by decide) ol_92 21 rfl) (by decide) (okS hs9 2 rfl rfl) (h' := (stI ((stI h8 17 4 ((-1 : Int32)))) 2 12 ((0 : Int32)))) rfl rfl ?_
      refine Wp.blk (by decide) ol_92 22 2 (pc' := 49) (L' := [.ref 2]) (S' := [.ref 2, .ref 2]) (h' := (stI ((stI h8 17 4 ((-1 : Int32)))) 2 12 ((0 : Int32)))) rfl ?_
      refine Wp.getf (op_ix (by decide) ol_92 24 rfl) (okS hs9 2 rfl rfl) (v := .int (AI ((stI ((stI h8 17 4 ((-1 : Int32)))) 2 12 ((0 : Int32)))) 2 10)) rfl rfl ?_
      refine Wp.blk (by decide) ol_92 25 2 (pc' := 54) (L' := [.ref 2]) (S' := [.int (((AI ((stI ((stI h8 17 4 ((-1 : Int32)))) 2 12 ((0 : Int32)))) 2 10)) + ((1 : Int32))), .ref 2]) (h' := (stI ((stI h8 17 4 ((-1 : Int32)))) 2 12 ((0 : Int32)))) rfl ?_
      refine Wp.putf (op_ix (by decide) ol_92 27 rfl) (by decide) (okS hs9 2 rfl rfl) (h' := (stI ((stI ((stI h8 17 4 ((-1 : Int32)))) 2 12 ((0 : Int32)))) 2 10 ((((AI ((stI ((stI h8 17 4 ((-1 : Int32)))) 2 12 ((0 : Int32)))) 2 10)) + ((1 : Int32)))))) rfl rfl ?_
      refine Wp.blk (by decide) ol_92 28 1 (pc' := 58) (L' := [.ref 2]) (S' := [.ref 2]) (h' := (stI ((stI ((stI h8 17 4 ((-1 : Int32)))) 2 12 ((0 : Int32)))) 2 10 ((((AI ((stI ((stI h8 17 4 ((-1 : Int32)))) 2 12 ((0 : Int32)))) 2 10)) + ((1 : Int32)))))) rfl ?_
      refine Wp.getf (op_ix (by decide) ol_92 29 rfl) (okS hs9 2 rfl rfl) (v := .ref 5) (congrArg va_rf (rS hs9 2 1 rfl)) rfl ?_
      refine Wp.callI (op_ix (by decide) ol_92 30 rfl) (act_virt (c2 := 0) rfl (lk1 (kS hs9 5 rfl)) rfl) rfl (Cl.enter (L := [.ref 5]) rfl ?_)
      refine Wp.blk (by decide) ol_26 0 1 (pc' := 1) (L' := [.ref 5]) (S' := [.ref 5]) (h' := (stI ((stI ((stI h8 17 4 ((-1 : Int32)))) 2 12 ((0 : Int32)))) 2 10 ((((AI ((stI ((stI h8 17 4 ((-1 : Int32)))) 2 12 ((0 : Int32)))) 2 10)) + ((1 : Int32)))))) rfl ?_
      refine Wp.getf (op_ix (by decide) ol_26 1 rfl) (okS hs9 5 rfl rfl) (v := .int (AI ((stI ((stI ((stI h8 17 4 ((-1 : Int32)))) 2 12 ((0 : Int32)))) 2 10 ((((AI ((stI ((stI h8 17 4 ((-1 : Int32)))) 2 12 ((0 : Int32)))) 2 10)) + ((1 : Int32)))))) 5 5)) rfl rfl ?_
      refine Wp.ret (op_ix (by decide) ol_26 2 rfl) rfl ⟨_, rfl, ?_⟩
      exact Wp.ret (op_ix (by decide) ol_92 31 rfl) rfl K
  · replace K := K.2 c4
    refine Wp.blk (by decide) ol_44 11 1 (pc' := 24) (L' := [.ref 3]) (S' := [.int (0 : Int32)]) (h' := h1) rfl ?_
    refine Wp.ret (op_ix (by decide) ol_44 12 rfl) rfl ⟨_, rfl, ?_⟩
    refine Wp.blk (by decide) ol_92 3 1 (pc' := (if (0 : Int32) = (0 : Int32) then 10 else 13)) (L' := [.ref 2]) (S' := []) (h' := h1) rfl ?_
    refine Wp.br (fun _ => ?_) (fun hc => absurd (by decide) hc)
    refine Wp.blk (by decide) ol_92 4 1 (pc' := 12) (L' := [.ref 2]) (S' := [.int (-103 : Int32)]) (h' := h1) rfl ?_
    exact Wp.ret (op_ix (by decide) ol_92 5 rfl) rfl K
/-- CutsOrFast.lane at 0 (II)I -/
theorem g93_0 (d : Nat) (v1 : Int32) (v2 : Int32) (h : AH) (HS : Sh h)  (Q : Option Value → AH → Prop) (K : ((v1 < (0 : Int32) → Q (some (.int (-101 : Int32))) h) ∧ (¬ v1 < (0 : Int32) → ((v1 < (AI h 5 5) → ((v2 = Int32.ofNat 0 → Q (some (.int (atv h 6 v1))) h) ∧ (¬ v2 = Int32.ofNat 0 → ((v2 = Int32.ofNat 1 → Q (some (.int (atv h 7 v1))) h) ∧ (¬ v2 = Int32.ofNat 1 → ((v2 = Int32.ofNat 2 → (Cl (d + 1) 78 [.ref 11, .int v1] h (fun r h6 => ∃ x8 : Int32, r = some (.int x8) ∧ Sh h6 ∧ Q (some (.int x8)) h6))) ∧ (¬ v2 = Int32.ofNat 2 → ((v2 = Int32.ofNat 3 → Q (some (.int (atv h 8 v1))) h) ∧ (¬ v2 = Int32.ofNat 3 → Q (some (.int (-102 : Int32))) h))))))))) ∧ (¬ v1 < (AI h 5 5) → Q (some (.int (-101 : Int32))) h))))) : Wp (d + 2) 93 0 [.ref 2, .int v1, .int v2] [] h Q := by
  refine Wp.blk (by decide) ol_93 0 2 (pc' := 2) (L' := [.ref 2, .int v1, .int v2]) (S' := [.int v1, .ref 2]) (h' := h) rfl ?_
  refine Wp.callI (op_ix (by decide) ol_93 2 rfl) (act_virt (c2 := 1) rfl (lk1 (kS HS 2 rfl)) rfl) rfl (Cl.enter (L := [.ref 2, .int v1]) rfl ?_)
  refine Wp.blk (by decide) ol_116 0 2 (pc' := (if v1 < (0 : Int32) then 19 else 4)) (L' := [.ref 2, .int v1]) (S' := []) (h' := h) rfl ?_
  refine Wp.br (fun c1 => ?_) (fun c1 => ?_)
  · replace K := K.1 c1
    refine Wp.blk (by decide) ol_116 9 1 (pc' := 20) (L' := [.ref 2, .int v1]) (S' := [.int (0 : Int32)]) (h' := h) rfl ?_
    refine Wp.ret (op_ix (by decide) ol_116 10 rfl) rfl ⟨_, rfl, ?_⟩
    refine Wp.blk (by decide) ol_93 3 1 (pc' := (if (0 : Int32) = (0 : Int32) then 8 else 11)) (L' := [.ref 2, .int v1, .int v2]) (S' := []) (h' := h) rfl ?_
    refine Wp.br (fun _ => ?_) (fun hc => absurd (by decide) hc)
    refine Wp.blk (by decide) ol_93 4 1 (pc' := 10) (L' := [.ref 2, .int v1, .int v2]) (S' := [.int (-101 : Int32)]) (h' := h) rfl ?_
    exact Wp.ret (op_ix (by decide) ol_93 5 rfl) rfl K
  · replace K := K.2 c1
    refine Wp.blk (by decide) ol_116 2 2 (pc' := 6) (L' := [.ref 2, .int v1]) (S' := [.ref 2, .int v1]) (h' := h) rfl ?_
    refine Wp.getf (op_ix (by decide) ol_116 4 rfl) (okS HS 2 rfl rfl) (v := .ref 5) (congrArg va_rf (rS HS 2 1 rfl)) rfl ?_
    refine Wp.callI (op_ix (by decide) ol_116 5 rfl) (act_virt (c2 := 0) rfl (lk1 (kS HS 5 rfl)) rfl) rfl (Cl.enter (L := [.ref 5]) rfl ?_)
    refine Wp.blk (by decide) ol_26 0 1 (pc' := 1) (L' := [.ref 5]) (S' := [.ref 5]) (h' := h) rfl ?_
    refine Wp.getf (op_ix (by decide) ol_26 1 rfl) (okS HS 5 rfl rfl) (v := .int (AI h 5 5)) rfl rfl ?_
    refine Wp.ret (op_ix (by decide) ol_26 2 rfl) rfl ⟨_, rfl, ?_⟩
    refine Wp.blk (by decide) ol_116 6 1 (pc' := (if v1 < (AI h 5 5) then 15 else 19)) (L' := [.ref 2, .int v1]) (S' := []) (h' := h) rfl ?_
    refine Wp.br (fun c2 => ?_) (fun c2 => ?_)
    · replace K := K.1 c2
      refine Wp.blk (by decide) ol_116 7 2 (pc' := 20) (L' := [.ref 2, .int v1]) (S' := [.int (1 : Int32)]) (h' := h) rfl ?_
      refine Wp.ret (op_ix (by decide) ol_116 10 rfl) rfl ⟨_, rfl, ?_⟩
      refine Wp.blk (by decide) ol_93 3 1 (pc' := (if (1 : Int32) = (0 : Int32) then 8 else 11)) (L' := [.ref 2, .int v1, .int v2]) (S' := []) (h' := h) rfl ?_
      refine Wp.br (fun hc => absurd hc (by decide)) (fun _ => ?_)
      refine Wp.blk (by decide) ol_93 6 2 (pc' := (tsw v2 [(0, 44), (1, 53), (2, 62), (3, 71)] 80)) (L' := [.ref 2, .int v1, .int v2]) (S' := []) (h' := h) rfl ?_
      refine Wp.tsw (fun c3 => ?_) (fun c3 => ?_)
      · replace K := K.1 c3
        refine Wp.blk (by decide) ol_93 8 1 (pc' := 45) (L' := [.ref 2, .int v1, .int v2]) (S' := [.ref 2]) (h' := h) rfl ?_
        refine Wp.getf (op_ix (by decide) ol_93 9 rfl) (okS HS 2 rfl rfl) (v := .ref 5) (congrArg va_rf (rS HS 2 1 rfl)) rfl ?_
        refine Wp.blk (by decide) ol_93 10 1 (pc' := 49) (L' := [.ref 2, .int v1, .int v2]) (S' := [.int v1, .ref 5]) (h' := h) rfl ?_
        refine Wp.callI (op_ix (by decide) ol_93 11 rfl) (act_virt (c2 := 1) rfl (lk1 (kS HS 5 rfl)) rfl) rfl (Cl.enter (L := [.ref 5, .int v1]) rfl ?_)
        refine Wp.blk (by decide) ol_30 0 1 (pc' := 1) (L' := [.ref 5, .int v1]) (S' := [.ref 5]) (h' := h) rfl ?_
        refine Wp.getf (op_ix (by decide) ol_30 1 rfl) (okS HS 5 rfl rfl) (v := .ref 6) (congrArg va_rf (rS HS 5 0 rfl)) rfl ?_
        refine Wp.blk (by decide) ol_30 2 1 (pc' := 5) (L' := [.ref 5, .int v1]) (S' := [.int v1, .ref 6]) (h' := h) rfl ?_
        refine Wp.callI (op_ix (by decide) ol_30 3 rfl) rfl rfl (sp_at (kS HS 6 rfl) (nS HS 6 rfl) ?_)
        refine ⟨_, rfl, ?_⟩
        refine Wp.ret (op_ix (by decide) ol_30 4 rfl) rfl ⟨_, rfl, ?_⟩
        exact Wp.ret (op_ix (by decide) ol_93 12 rfl) rfl K
      replace K := K.2 c3
      refine Wp.tsw (fun c4 => ?_) (fun c4 => ?_)
      · replace K := K.1 c4
        refine Wp.blk (by decide) ol_93 13 1 (pc' := 54) (L' := [.ref 2, .int v1, .int v2]) (S' := [.ref 2]) (h' := h) rfl ?_
        refine Wp.getf (op_ix (by decide) ol_93 14 rfl) (okS HS 2 rfl rfl) (v := .ref 5) (congrArg va_rf (rS HS 2 1 rfl)) rfl ?_
        refine Wp.blk (by decide) ol_93 15 1 (pc' := 58) (L' := [.ref 2, .int v1, .int v2]) (S' := [.int v1, .ref 5]) (h' := h) rfl ?_
        refine Wp.callI (op_ix (by decide) ol_93 16 rfl) (act_virt (c2 := 1) rfl (lk1 (kS HS 5 rfl)) rfl) rfl (Cl.enter (L := [.ref 5, .int v1]) rfl ?_)
        refine Wp.blk (by decide) ol_31 0 1 (pc' := 1) (L' := [.ref 5, .int v1]) (S' := [.ref 5]) (h' := h) rfl ?_
        refine Wp.getf (op_ix (by decide) ol_31 1 rfl) (okS HS 5 rfl rfl) (v := .ref 7) (congrArg va_rf (rS HS 5 1 rfl)) rfl ?_
        refine Wp.blk (by decide) ol_31 2 1 (pc' := 5) (L' := [.ref 5, .int v1]) (S' := [.int v1, .ref 7]) (h' := h) rfl ?_
        refine Wp.callI (op_ix (by decide) ol_31 3 rfl) rfl rfl (sp_at (kS HS 7 rfl) (nS HS 7 rfl) ?_)
        refine ⟨_, rfl, ?_⟩
        refine Wp.ret (op_ix (by decide) ol_31 4 rfl) rfl ⟨_, rfl, ?_⟩
        exact Wp.ret (op_ix (by decide) ol_93 17 rfl) rfl K
      replace K := K.2 c4
      refine Wp.tsw (fun c5 => ?_) (fun c5 => ?_)
      · replace K := K.1 c5
        refine Wp.blk (by decide) ol_93 18 1 (pc' := 63) (L' := [.ref 2, .int v1, .int v2]) (S' := [.ref 2]) (h' := h) rfl ?_
        refine Wp.getf (op_ix (by decide) ol_93 19 rfl) (okS HS 2 rfl rfl) (v := .ref 11) (congrArg va_rf (rS HS 2 2 rfl)) rfl ?_
        refine Wp.blk (by decide) ol_93 20 1 (pc' := 67) (L' := [.ref 2, .int v1, .int v2]) (S' := [.int v1, .ref 11]) (h' := h) rfl ?_
        refine Wp.callI (op_ix (by decide) ol_93 21 rfl) (act_virt (c2 := 1) rfl (lk1 (kS HS 11 rfl)) rfl) rfl (K.mono ?_)
        rintro _ h6 ⟨x8, rfl, hs7, K⟩
        refine ⟨x8, rfl, ?_⟩
        exact Wp.ret (op_ix (by decide) ol_93 22 rfl) rfl K
      replace K := K.2 c5
      refine Wp.tsw (fun c9 => ?_) (fun c9 => ?_)
      · replace K := K.1 c9
        refine Wp.blk (by decide) ol_93 23 1 (pc' := 72) (L' := [.ref 2, .int v1, .int v2]) (S' := [.ref 2]) (h' := h) rfl ?_
        refine Wp.getf (op_ix (by decide) ol_93 24 rfl) (okS HS 2 rfl rfl) (v := .ref 5) (congrArg va_rf (rS HS 2 1 rfl)) rfl ?_
        refine Wp.blk (by decide) ol_93 25 1 (pc' := 76) (L' := [.ref 2, .int v1, .int v2]) (S' := [.int v1, .ref 5]) (h' := h) rfl ?_
        refine Wp.callI (op_ix (by decide) ol_93 26 rfl) (act_virt (c2 := 1) rfl (lk1 (kS HS 5 rfl)) rfl) rfl (Cl.enter (L := [.ref 5, .int v1]) rfl ?_)
        refine Wp.blk (by decide) ol_32 0 1 (pc' := 1) (L' := [.ref 5, .int v1]) (S' := [.ref 5]) (h' := h) rfl ?_
        refine Wp.getf (op_ix (by decide) ol_32 1 rfl) (okS HS 5 rfl rfl) (v := .ref 8) (congrArg va_rf (rS HS 5 2 rfl)) rfl ?_
        refine Wp.blk (by decide) ol_32 2 1 (pc' := 5) (L' := [.ref 5, .int v1]) (S' := [.int v1, .ref 8]) (h' := h) rfl ?_
        refine Wp.callI (op_ix (by decide) ol_32 3 rfl) rfl rfl (sp_at (kS HS 8 rfl) (nS HS 8 rfl) ?_)
        refine ⟨_, rfl, ?_⟩
        refine Wp.ret (op_ix (by decide) ol_32 4 rfl) rfl ⟨_, rfl, ?_⟩
        exact Wp.ret (op_ix (by decide) ol_93 27 rfl) rfl K
      replace K := K.2 c9
      unfold tsw
      refine Wp.blk (by decide) ol_93 28 1 (pc' := 82) (L' := [.ref 2, .int v1, .int v2]) (S' := [.int (-102 : Int32)]) (h' := h) rfl ?_
      exact Wp.ret (op_ix (by decide) ol_93 29 rfl) rfl K
    · replace K := K.2 c2
      refine Wp.blk (by decide) ol_116 9 1 (pc' := 20) (L' := [.ref 2, .int v1]) (S' := [.int (0 : Int32)]) (h' := h) rfl ?_
      refine Wp.ret (op_ix (by decide) ol_116 10 rfl) rfl ⟨_, rfl, ?_⟩
      refine Wp.blk (by decide) ol_93 3 1 (pc' := (if (0 : Int32) = (0 : Int32) then 8 else 11)) (L' := [.ref 2, .int v1, .int v2]) (S' := []) (h' := h) rfl ?_
      refine Wp.br (fun _ => ?_) (fun hc => absurd (by decide) hc)
      refine Wp.blk (by decide) ol_93 4 1 (pc' := 10) (L' := [.ref 2, .int v1, .int v2]) (S' := [.int (-101 : Int32)]) (h' := h) rfl ?_
      exact Wp.ret (op_ix (by decide) ol_93 5 rfl) rfl K
/-- CutsOrFast.status at 0 ()I -/
theorem g94_0 (d : Nat)  (h : AH) (HS : Sh h)  (Q : Option Value → AH → Prop) (K : (((0 : Int32) < (AI h 5 5) → (Cl d 37 [.ref 5, .int (AI h 11 3), .int (AI h 11 4)] h (fun r h2 => ∃ x4 : Int32, r = some (.int x4) ∧ Sh h2 ∧ Q (some (.int x4)) h2))) ∧ (¬ (0 : Int32) < (AI h 5 5) → Q (some (.int (-103 : Int32))) h))) : Wp (d + 2) 94 0 [.ref 2] [] h Q := by
  refine Wp.blk (by decide) ol_94 0 1 (pc' := 1) (L' := [.ref 2]) (S' := [.ref 2]) (h' := h) rfl ?_
  refine Wp.callI (op_ix (by decide) ol_94 1 rfl) (act_virt (c2 := 0) rfl (lk1 (kS HS 2 rfl)) rfl) rfl (Cl.enter (L := [.ref 2]) rfl ?_)
  refine Wp.blk (by decide) ol_115 0 1 (pc' := 1) (L' := [.ref 2]) (S' := [.ref 2]) (h' := h) rfl ?_
  refine Wp.getf (op_ix (by decide) ol_115 1 rfl) (okS HS 2 rfl rfl) (v := .ref 5) (congrArg va_rf (rS HS 2 1 rfl)) rfl ?_
  refine Wp.callI (op_ix (by decide) ol_115 2 rfl) (act_virt (c2 := 0) rfl (lk1 (kS HS 5 rfl)) rfl) rfl (Cl.enter (L := [.ref 5]) rfl ?_)
  refine Wp.blk (by decide) ol_26 0 1 (pc' := 1) (L' := [.ref 5]) (S' := [.ref 5]) (h' := h) rfl ?_
  refine Wp.getf (op_ix (by decide) ol_26 1 rfl) (okS HS 5 rfl rfl) (v := .int (AI h 5 5)) rfl rfl ?_
  refine Wp.ret (op_ix (by decide) ol_26 2 rfl) rfl ⟨_, rfl, ?_⟩
  refine Wp.blk (by decide) ol_115 3 1 (pc' := (if (0 : Int32) < (AI h 5 5) then 10 else 14)) (L' := [.ref 2]) (S' := []) (h' := h) rfl ?_
  refine Wp.br (fun c1 => ?_) (fun c1 => ?_)
  · replace K := K.1 c1
    refine Wp.blk (by decide) ol_115 4 2 (pc' := 15) (L' := [.ref 2]) (S' := [.int (1 : Int32)]) (h' := h) rfl ?_
    refine Wp.ret (op_ix (by decide) ol_115 7 rfl) rfl ⟨_, rfl, ?_⟩
    refine Wp.blk (by decide) ol_94 2 1 (pc' := (if (1 : Int32) = (0 : Int32) then 17 else 7)) (L' := [.ref 2]) (S' := []) (h' := h) rfl ?_
    refine Wp.br (fun hc => absurd hc (by decide)) (fun _ => ?_)
    refine Wp.blk (by decide) ol_94 3 1 (pc' := 8) (L' := [.ref 2]) (S' := [.ref 2]) (h' := h) rfl ?_
    refine Wp.getf (op_ix (by decide) ol_94 4 rfl) (okS HS 2 rfl rfl) (v := .ref 11) (congrArg va_rf (rS HS 2 2 rfl)) rfl ?_
    refine Wp.callI (op_ix (by decide) ol_94 5 rfl) (act_virt (c2 := 0) rfl (lk1 (kS HS 11 rfl)) rfl) rfl (Cl.enter (L := [.ref 11]) rfl ?_)
    refine Wp.blk (by decide) ol_77 0 1 (pc' := 1) (L' := [.ref 11]) (S' := [.ref 11]) (h' := h) rfl ?_
    refine Wp.getf (op_ix (by decide) ol_77 1 rfl) (okS HS 11 rfl rfl) (v := .ref 5) (congrArg va_rf (rS HS 11 0 rfl)) rfl ?_
    refine Wp.blk (by decide) ol_77 2 1 (pc' := 5) (L' := [.ref 11]) (S' := [.ref 11, .ref 5]) (h' := h) rfl ?_
    refine Wp.getf (op_ix (by decide) ol_77 3 rfl) (okS HS 11 rfl rfl) (v := .int (AI h 11 3)) rfl rfl ?_
    refine Wp.blk (by decide) ol_77 4 1 (pc' := 9) (L' := [.ref 11]) (S' := [.ref 11, .int (AI h 11 3), .ref 5]) (h' := h) rfl ?_
    refine Wp.getf (op_ix (by decide) ol_77 5 rfl) (okS HS 11 rfl rfl) (v := .int (AI h 11 4)) rfl rfl ?_
    refine Wp.callI (op_ix (by decide) ol_77 6 rfl) (act_virt (c2 := 2) rfl (lk1 (kS HS 5 rfl)) rfl) rfl (K.mono ?_)
    rintro _ h2 ⟨x4, rfl, hs3, K⟩
    refine ⟨x4, rfl, ?_⟩
    refine Wp.ret (op_ix (by decide) ol_77 7 rfl) rfl ⟨_, rfl, ?_⟩
    refine Wp.blk (by decide) ol_94 6 1 (pc' := 19) (L' := [.ref 2]) (S' := [.int x4]) (h' := h2) rfl ?_
    exact Wp.ret (op_ix (by decide) ol_94 8 rfl) rfl K
  · replace K := K.2 c1
    refine Wp.blk (by decide) ol_115 6 1 (pc' := 15) (L' := [.ref 2]) (S' := [.int (0 : Int32)]) (h' := h) rfl ?_
    refine Wp.ret (op_ix (by decide) ol_115 7 rfl) rfl ⟨_, rfl, ?_⟩
    refine Wp.blk (by decide) ol_94 2 1 (pc' := (if (0 : Int32) = (0 : Int32) then 17 else 7)) (L' := [.ref 2]) (S' := []) (h' := h) rfl ?_
    refine Wp.br (fun _ => ?_) (fun hc => absurd (by decide) hc)
    refine Wp.blk (by decide) ol_94 7 1 (pc' := 19) (L' := [.ref 2]) (S' := [.int (-103 : Int32)]) (h' := h) rfl ?_
    exact Wp.ret (op_ix (by decide) ol_94 8 rfl) rfl K
/-- CutsOrFast.begin at 0 (I)I -/
theorem g95_0 (d : Nat) (v1 : Int32) (h : AH) (HS : Sh h)  (Q : Option Value → AH → Prop) (K : ((v1 = (0 : Int32) → (((0 : Int32) < (AI h 5 5) → (((0 : Int32) < (AI h 11 2) → Q (some (.int (-103 : Int32))) h) ∧ (¬ (0 : Int32) < (AI h 11 2) → Q (some (.int (AI h 11 5))) (stI h 11 5 v1)))) ∧ (¬ (0 : Int32) < (AI h 5 5) → Q (some (.int (-103 : Int32))) h))) ∧ (¬ v1 = (0 : Int32) → ((v1 = (1 : Int32) → (((0 : Int32) < (AI h 5 5) → (((0 : Int32) < (AI h 11 2) → Q (some (.int (-103 : Int32))) h) ∧ (¬ (0 : Int32) < (AI h 11 2) → Q (some (.int (AI h 11 5))) (stI h 11 5 v1)))) ∧ (¬ (0 : Int32) < (AI h 5 5) → Q (some (.int (-103 : Int32))) h))) ∧ (¬ v1 = (1 : Int32) → Q (some (.int (-101 : Int32))) h))))) : Wp (d + 2) 95 0 [.ref 2, .int v1, mk0] [] h Q := by
  refine Wp.blk (by decide) ol_95 0 1 (pc' := 1) (L' := [.ref 2, .int v1, mk0]) (S' := [.int v1]) (h' := h) rfl ?_
  refine Wp.callI (op_ix (by decide) ol_95 1 rfl) rfl rfl (Cl.enter (L := [.int v1]) rfl ?_)
  refine Wp.blk (by decide) ol_117 0 2 (pc' := (if v1 = (0 : Int32) then 9 else 4)) (L' := [.int v1]) (S' := []) (h' := h) rfl ?_
  refine Wp.br (fun c1 => ?_) (fun c1 => ?_)
  · replace K := K.1 c1
    refine Wp.blk (by decide) ol_117 5 2 (pc' := 14) (L' := [.int v1]) (S' := [.int (1 : Int32)]) (h' := h) rfl ?_
    refine Wp.ret (op_ix (by decide) ol_117 8 rfl) rfl ⟨_, rfl, ?_⟩
    refine Wp.blk (by decide) ol_95 2 1 (pc' := (if (1 : Int32) = (0 : Int32) then 7 else 10)) (L' := [.ref 2, .int v1, mk0]) (S' := []) (h' := h) rfl ?_
    refine Wp.br (fun hc => absurd hc (by decide)) (fun _ => ?_)
    refine Wp.blk (by decide) ol_95 5 1 (pc' := 11) (L' := [.ref 2, .int v1, mk0]) (S' := [.ref 2]) (h' := h) rfl ?_
    refine Wp.callI (op_ix (by decide) ol_95 6 rfl) (act_virt (c2 := 0) rfl (lk1 (kS HS 2 rfl)) rfl) rfl (Cl.enter (L := [.ref 2]) rfl ?_)
    refine Wp.blk (by decide) ol_115 0 1 (pc' := 1) (L' := [.ref 2]) (S' := [.ref 2]) (h' := h) rfl ?_
    refine Wp.getf (op_ix (by decide) ol_115 1 rfl) (okS HS 2 rfl rfl) (v := .ref 5) (congrArg va_rf (rS HS 2 1 rfl)) rfl ?_
    refine Wp.callI (op_ix (by decide) ol_115 2 rfl) (act_virt (c2 := 0) rfl (lk1 (kS HS 5 rfl)) rfl) rfl (Cl.enter (L := [.ref 5]) rfl ?_)
    refine Wp.blk (by decide) ol_26 0 1 (pc' := 1) (L' := [.ref 5]) (S' := [.ref 5]) (h' := h) rfl ?_
    refine Wp.getf (op_ix (by decide) ol_26 1 rfl) (okS HS 5 rfl rfl) (v := .int (AI h 5 5)) rfl rfl ?_
    refine Wp.ret (op_ix (by decide) ol_26 2 rfl) rfl ⟨_, rfl, ?_⟩
    refine Wp.blk (by decide) ol_115 3 1 (pc' := (if (0 : Int32) < (AI h 5 5) then 10 else 14)) (L' := [.ref 2]) (S' := []) (h' := h) rfl ?_
    refine Wp.br (fun c2 => ?_) (fun c2 => ?_)
    · replace K := K.1 c2
      refine Wp.blk (by decide) ol_115 4 2 (pc' := 15) (L' := [.ref 2]) (S' := [.int (1 : Int32)]) (h' := h) rfl ?_
      refine Wp.ret (op_ix (by decide) ol_115 7 rfl) rfl ⟨_, rfl, ?_⟩
      refine Wp.blk (by decide) ol_95 7 1 (pc' := (if (1 : Int32) = (0 : Int32) then 27 else 17)) (L' := [.ref 2, .int v1, mk0]) (S' := []) (h' := h) rfl ?_
      refine Wp.br (fun hc => absurd hc (by decide)) (fun _ => ?_)
      refine Wp.blk (by decide) ol_95 8 1 (pc' := 18) (L' := [.ref 2, .int v1, mk0]) (S' := [.ref 2]) (h' := h) rfl ?_
      refine Wp.getf (op_ix (by decide) ol_95 9 rfl) (okS HS 2 rfl rfl) (v := .ref 11) (congrArg va_rf (rS HS 2 2 rfl)) rfl ?_
      refine Wp.callI (op_ix (by decide) ol_95 10 rfl) (act_virt (c2 := 0) rfl (lk1 (kS HS 11 rfl)) rfl) rfl (Cl.enter (L := [.ref 11]) rfl ?_)
      refine Wp.blk (by decide) ol_80 0 1 (pc' := 1) (L' := [.ref 11]) (S' := [.ref 11]) (h' := h) rfl ?_
      refine Wp.getf (op_ix (by decide) ol_80 1 rfl) (okS HS 11 rfl rfl) (v := .int (AI h 11 2)) rfl rfl ?_
      refine Wp.ret (op_ix (by decide) ol_80 2 rfl) rfl ⟨_, rfl, ?_⟩
      refine Wp.blk (by decide) ol_95 11 1 (pc' := (if (0 : Int32) < (AI h 11 2) then 27 else 30)) (L' := [.ref 2, .int v1, mk0]) (S' := []) (h' := h) rfl ?_
      refine Wp.br (fun c3 => ?_) (fun c3 => ?_)
      · replace K := K.1 c3
        refine Wp.blk (by decide) ol_95 12 1 (pc' := 29) (L' := [.ref 2, .int v1, mk0]) (S' := [.int (-103 : Int32)]) (h' := h) rfl ?_
        exact Wp.ret (op_ix (by decide) ol_95 13 rfl) rfl K
      · replace K := K.2 c3
        refine Wp.blk (by decide) ol_95 14 1 (pc' := 31) (L' := [.ref 2, .int v1, mk0]) (S' := [.ref 2]) (h' := h) rfl ?_
        refine Wp.getf (op_ix (by decide) ol_95 15 rfl) (okS HS 2 rfl rfl) (v := .ref 11) (congrArg va_rf (rS HS 2 2 rfl)) rfl ?_
        refine Wp.callI (op_ix (by decide) ol_95 16 rfl) (act_virt (c2 := 0) rfl (lk1 (kS HS 11 rfl)) rfl) rfl (Cl.enter (L := [.ref 11]) rfl ?_)
        refine Wp.blk (by decide) ol_82 0 1 (pc' := 1) (L' := [.ref 11]) (S' := [.ref 11]) (h' := h) rfl ?_
        refine Wp.getf (op_ix (by decide) ol_82 1 rfl) (okS HS 11 rfl rfl) (v := .int (AI h 11 5)) rfl rfl ?_
        refine Wp.ret (op_ix (by decide) ol_82 2 rfl) rfl ⟨_, rfl, ?_⟩
        refine Wp.blk (by decide) ol_95 17 2 (pc' := 39) (L' := [.ref 2, .int v1, .int (AI h 11 5)]) (S' := [.ref 2]) (h' := h) rfl ?_
        refine Wp.getf (op_ix (by decide) ol_95 19 rfl) (okS HS 2 rfl rfl) (v := .ref 11) (congrArg va_rf (rS HS 2 2 rfl)) rfl ?_
        refine Wp.blk (by decide) ol_95 20 1 (pc' := 43) (L' := [.ref 2, .int v1, .int (AI h 11 5)]) (S' := [.int v1, .ref 11]) (h' := h) rfl ?_
        refine Wp.callV (op_ix (by decide) ol_95 21 rfl) (act_virt (c2 := 1) rfl (lk1 (kS HS 11 rfl)) rfl) rfl (Cl.enter (L := [.ref 11, .int v1]) rfl ?_)
        refine Wp.blk (by decide) ol_83 0 2 (pc' := 2) (L' := [.ref 11, .int v1]) (S' := [.int v1, .ref 11]) (h' := h) rfl ?_
        refine Wp.putf (op_ix (by decide) ol_83 2 rfl) (by decide) (okS HS 11 rfl rfl) (h' := (stI h 11 5 v1)) rfl rfl ?_
        refine Wp.ret (op_ix (by decide) ol_83 3 rfl) rfl ⟨rfl, ?_⟩
        refine Wp.blk (by decide) ol_95 22 1 (pc' := 47) (L' := [.ref 2, .int v1, .int (AI h 11 5)]) (S' := [.int (AI h 11 5)]) (h' := (stI h 11 5 v1)) rfl ?_
        exact Wp.ret (op_ix (by decide) ol_95 23 rfl) rfl K
    · replace K := K.2 c2
      refine Wp.blk (by decide) ol_115 6 1 (pc' := 15) (L' := [.ref 2]) (S' := [.int (0 : Int32)]) (h' := h) rfl ?_
      refine Wp.ret (op_ix (by decide) ol_115 7 rfl) rfl ⟨_, rfl, ?_⟩
      refine Wp.blk (by decide) ol_95 7 1 (pc' := (if (0 : Int32) = (0 : Int32) then 27 else 17)) (L' := [.ref 2, .int v1, mk0]) (S' := []) (h' := h) rfl ?_
      refine Wp.br (fun _ => ?_) (fun hc => absurd (by decide) hc)
      refine Wp.blk (by decide) ol_95 12 1 (pc' := 29) (L' := [.ref 2, .int v1, mk0]) (S' := [.int (-103 : Int32)]) (h' := h) rfl ?_
      exact Wp.ret (op_ix (by decide) ol_95 13 rfl) rfl K
  · replace K := K.2 c1
    refine Wp.blk (by decide) ol_117 2 3 (pc' := (if v1 = (1 : Int32) then 9 else 13)) (L' := [.int v1]) (S' := []) (h' := h) rfl ?_
    refine Wp.br (fun c4 => ?_) (fun c4 => ?_)
    · replace K := K.1 c4
      refine Wp.blk (by decide) ol_117 5 2 (pc' := 14) (L' := [.int v1]) (S' := [.int (1 : Int32)]) (h' := h) rfl ?_
      refine Wp.ret (op_ix (by decide) ol_117 8 rfl) rfl ⟨_, rfl, ?_⟩
      refine Wp.blk (by decide) ol_95 2 1 (pc' := (if (1 : Int32) = (0 : Int32) then 7 else 10)) (L' := [.ref 2, .int v1, mk0]) (S' := []) (h' := h) rfl ?_
      refine Wp.br (fun hc => absurd hc (by decide)) (fun _ => ?_)
      refine Wp.blk (by decide) ol_95 5 1 (pc' := 11) (L' := [.ref 2, .int v1, mk0]) (S' := [.ref 2]) (h' := h) rfl ?_
      refine Wp.callI (op_ix (by decide) ol_95 6 rfl) (act_virt (c2 := 0) rfl (lk1 (kS HS 2 rfl)) rfl) rfl (Cl.enter (L := [.ref 2]) rfl ?_)
      refine Wp.blk (by decide) ol_115 0 1 (pc' := 1) (L' := [.ref 2]) (S' := [.ref 2]) (h' := h) rfl ?_
      refine Wp.getf (op_ix (by decide) ol_115 1 rfl) (okS HS 2 rfl rfl) (v := .ref 5) (congrArg va_rf (rS HS 2 1 rfl)) rfl ?_
      refine Wp.callI (op_ix (by decide) ol_115 2 rfl) (act_virt (c2 := 0) rfl (lk1 (kS HS 5 rfl)) rfl) rfl (Cl.enter (L := [.ref 5]) rfl ?_)
      refine Wp.blk (by decide) ol_26 0 1 (pc' := 1) (L' := [.ref 5]) (S' := [.ref 5]) (h' := h) rfl ?_
      refine Wp.getf (op_ix (by decide) ol_26 1 rfl) (okS HS 5 rfl rfl) (v := .int (AI h 5 5)) rfl rfl ?_
      refine Wp.ret (op_ix (by decide) ol_26 2 rfl) rfl ⟨_, rfl, ?_⟩
      refine Wp.blk (by decide) ol_115 3 1 (pc' := (if (0 : Int32) < (AI h 5 5) then 10 else 14)) (L' := [.ref 2]) (S' := []) (h' := h) rfl ?_
      refine Wp.br (fun c5 => ?_) (fun c5 => ?_)
      · replace K := K.1 c5
        refine Wp.blk (by decide) ol_115 4 2 (pc' := 15) (L' := [.ref 2]) (S' := [.int (1 : Int32)]) (h' := h) rfl ?_
        refine Wp.ret (op_ix (by decide) ol_115 7 rfl) rfl ⟨_, rfl, ?_⟩
        refine Wp.blk (by decide) ol_95 7 1 (pc' := (if (1 : Int32) = (0 : Int32) then 27 else 17)) (L' := [.ref 2, .int v1, mk0]) (S' := []) (h' := h) rfl ?_
        refine Wp.br (fun hc => absurd hc (by decide)) (fun _ => ?_)
        refine Wp.blk (by decide) ol_95 8 1 (pc' := 18) (L' := [.ref 2, .int v1, mk0]) (S' := [.ref 2]) (h' := h) rfl ?_
        refine Wp.getf (op_ix (by decide) ol_95 9 rfl) (okS HS 2 rfl rfl) (v := .ref 11) (congrArg va_rf (rS HS 2 2 rfl)) rfl ?_
        refine Wp.callI (op_ix (by decide) ol_95 10 rfl) (act_virt (c2 := 0) rfl (lk1 (kS HS 11 rfl)) rfl) rfl (Cl.enter (L := [.ref 11]) rfl ?_)
        refine Wp.blk (by decide) ol_80 0 1 (pc' := 1) (L' := [.ref 11]) (S' := [.ref 11]) (h' := h) rfl ?_
        refine Wp.getf (op_ix (by decide) ol_80 1 rfl) (okS HS 11 rfl rfl) (v := .int (AI h 11 2)) rfl rfl ?_
        refine Wp.ret (op_ix (by decide) ol_80 2 rfl) rfl ⟨_, rfl, ?_⟩
        refine Wp.blk (by decide) ol_95 11 1 (pc' := (if (0 : Int32) < (AI h 11 2) then 27 else 30)) (L' := [.ref 2, .int v1, mk0]) (S' := []) (h' := h) rfl ?_
        refine Wp.br (fun c6 => ?_) (fun c6 => ?_)
        · replace K := K.1 c6
          refine Wp.blk (by decide) ol_95 12 1 (pc' := 29) (L' := [.ref 2, .int v1, mk0]) (S' := [.int (-103 : Int32)]) (h' := h) rfl ?_
          exact Wp.ret (op_ix (by decide) ol_95 13 rfl) rfl K
        · replace K := K.2 c6
          refine Wp.blk (by decide) ol_95 14 1 (pc' := 31) (L' := [.ref 2, .int v1, mk0]) (S' := [.ref 2]) (h' := h) rfl ?_
          refine Wp.getf (op_ix (by decide) ol_95 15 rfl) (okS HS 2 rfl rfl) (v := .ref 11) (congrArg va_rf (rS HS 2 2 rfl)) rfl ?_
          refine Wp.callI (op_ix (by decide) ol_95 16 rfl) (act_virt (c2 := 0) rfl (lk1 (kS HS 11 rfl)) rfl) rfl (Cl.enter (L := [.ref 11]) rfl ?_)
          refine Wp.blk (by decide) ol_82 0 1 (pc' := 1) (L' := [.ref 11]) (S' := [.ref 11]) (h' := h) rfl ?_
          refine Wp.getf (op_ix (by decide) ol_82 1 rfl) (okS HS 11 rfl rfl) (v := .int (AI h 11 5)) rfl rfl ?_
          refine Wp.ret (op_ix (by decide) ol_82 2 rfl) rfl ⟨_, rfl, ?_⟩
          refine Wp.blk (by decide) ol_95 17 2 (pc' := 39) (L' := [.ref 2, .int v1, .int (AI h 11 5)]) (S' := [.ref 2]) (h' := h) rfl ?_
          refine Wp.getf (op_ix (by decide) ol_95 19 rfl) (okS HS 2 rfl rfl) (v := .ref 11) (congrArg va_rf (rS HS 2 2 rfl)) rfl ?_
          refine Wp.blk (by decide) ol_95 20 1 (pc' := 43) (L' := [.ref 2, .int v1, .int (AI h 11 5)]) (S' := [.int v1, .ref 11]) (h' := h) rfl ?_
          refine Wp.callV (op_ix (by decide) ol_95 21 rfl) (act_virt (c2 := 1) rfl (lk1 (kS HS 11 rfl)) rfl) rfl (Cl.enter (L := [.ref 11, .int v1]) rfl ?_)
          refine Wp.blk (by decide) ol_83 0 2 (pc' := 2) (L' := [.ref 11, .int v1]) (S' := [.int v1, .ref 11]) (h' := h) rfl ?_
          refine Wp.putf (op_ix (by decide) ol_83 2 rfl) (by decide) (okS HS 11 rfl rfl) (h' := (stI h 11 5 v1)) rfl rfl ?_
          refine Wp.ret (op_ix (by decide) ol_83 3 rfl) rfl ⟨rfl, ?_⟩
          refine Wp.blk (by decide) ol_95 22 1 (pc' := 47) (L' := [.ref 2, .int v1, .int (AI h 11 5)]) (S' := [.int (AI h 11 5)]) (h' := (stI h 11 5 v1)) rfl ?_
          exact Wp.ret (op_ix (by decide) ol_95 23 rfl) rfl K
      · replace K := K.2 c5
        refine Wp.blk (by decide) ol_115 6 1 (pc' := 15) (L' := [.ref 2]) (S' := [.int (0 : Int32)]) (h' := h) rfl ?_
        refine Wp.ret (op_ix (by decide) ol_115 7 rfl) rfl ⟨_, rfl, ?_⟩
        refine Wp.blk (by decide) ol_95 7 1 (pc' := (if (0 : Int32) = (0 : Int32) then 27 else 17)) (L' := [.ref 2, .int v1, mk0]) (S' := []) (h' := h) rfl ?_
        refine Wp.br (fun _ => ?_) (fun hc => absurd (by decide) hc)
        refine Wp.blk (by decide) ol_95 12 1 (pc' := 29) (L' := [.ref 2, .int v1, mk0]) (S' := [.int (-103 : Int32)]) (h' := h) rfl ?_
        exact Wp.ret (op_ix (by decide) ol_95 13 rfl) rfl K
    · replace K := K.2 c4
      refine Wp.blk (by decide) ol_117 7 1 (pc' := 14) (L' := [.int v1]) (S' := [.int (0 : Int32)]) (h' := h) rfl ?_
      refine Wp.ret (op_ix (by decide) ol_117 8 rfl) rfl ⟨_, rfl, ?_⟩
      refine Wp.blk (by decide) ol_95 2 1 (pc' := (if (0 : Int32) = (0 : Int32) then 7 else 10)) (L' := [.ref 2, .int v1, mk0]) (S' := []) (h' := h) rfl ?_
      refine Wp.br (fun _ => ?_) (fun hc => absurd (by decide) hc)
      refine Wp.blk (by decide) ol_95 3 1 (pc' := 9) (L' := [.ref 2, .int v1, mk0]) (S' := [.int (-101 : Int32)]) (h' := h) rfl ?_
      exact Wp.ret (op_ix (by decide) ol_95 4 rfl) rfl K
/-- CutsOrFast.take at 0 (I)I -/
theorem g96_0 (d : Nat) (v1 : Int32) (h : AH) (HS : Sh h)  (Q : Option Value → AH → Prop) (K : ((v1 < (0 : Int32) → Q (some (.int (-101 : Int32))) h) ∧ (¬ v1 < (0 : Int32) → ((v1 < (AI h 5 5) → (Cl d 37 [.ref 5, .int (AI h 11 3), .int (AI h 11 4)] h (fun r h3 => ∃ x5 : Int32, r = some (.int x5) ∧ Sh h3 ∧ ((x5 = (0 : Int32) → (Cl (d + 1) 78 [.ref 11, .int v1] h3 (fun r h7 => ∃ x9 : Int32, r = some (.int x9) ∧ Sh h7 ∧ ((x9 = (0 : Int32) → (Cl (d + 2) 74 [.ref 11, .int v1] h7 (fun r h11 => r = none ∧ Sh h11 ∧ Q (some (.int (AI h11 11 2))) h11))) ∧ (¬ x9 = (0 : Int32) → Q (some (.int (-103 : Int32))) h7))))) ∧ (¬ x5 = (0 : Int32) → Q (some (.int (-103 : Int32))) h3))))) ∧ (¬ v1 < (AI h 5 5) → Q (some (.int (-101 : Int32))) h))))) : Wp (d + 3) 96 0 [.ref 2, .int v1] [] h Q := by
  refine Wp.blk (by decide) ol_96 0 2 (pc' := 2) (L' := [.ref 2, .int v1]) (S' := [.int v1, .ref 2]) (h' := h) rfl ?_
  refine Wp.callI (op_ix (by decide) ol_96 2 rfl) (act_virt (c2 := 1) rfl (lk1 (kS HS 2 rfl)) rfl) rfl (Cl.enter (L := [.ref 2, .int v1]) rfl ?_)
  refine Wp.blk (by decide) ol_116 0 2 (pc' := (if v1 < (0 : Int32) then 19 else 4)) (L' := [.ref 2, .int v1]) (S' := []) (h' := h) rfl ?_
  refine Wp.br (fun c1 => ?_) (fun c1 => ?_)
  · replace K := K.1 c1
    refine Wp.blk (by decide) ol_116 9 1 (pc' := 20) (L' := [.ref 2, .int v1]) (S' := [.int (0 : Int32)]) (h' := h) rfl ?_
    refine Wp.ret (op_ix (by decide) ol_116 10 rfl) rfl ⟨_, rfl, ?_⟩
    refine Wp.blk (by decide) ol_96 3 1 (pc' := (if (0 : Int32) = (0 : Int32) then 8 else 11)) (L' := [.ref 2, .int v1]) (S' := []) (h' := h) rfl ?_
    refine Wp.br (fun _ => ?_) (fun hc => absurd (by decide) hc)
    refine Wp.blk (by decide) ol_96 4 1 (pc' := 10) (L' := [.ref 2, .int v1]) (S' := [.int (-101 : Int32)]) (h' := h) rfl ?_
    exact Wp.ret (op_ix (by decide) ol_96 5 rfl) rfl K
  · replace K := K.2 c1
    refine Wp.blk (by decide) ol_116 2 2 (pc' := 6) (L' := [.ref 2, .int v1]) (S' := [.ref 2, .int v1]) (h' := h) rfl ?_
    refine Wp.getf (op_ix (by decide) ol_116 4 rfl) (okS HS 2 rfl rfl) (v := .ref 5) (congrArg va_rf (rS HS 2 1 rfl)) rfl ?_
    refine Wp.callI (op_ix (by decide) ol_116 5 rfl) (act_virt (c2 := 0) rfl (lk1 (kS HS 5 rfl)) rfl) rfl (Cl.enter (L := [.ref 5]) rfl ?_)
    refine Wp.blk (by decide) ol_26 0 1 (pc' := 1) (L' := [.ref 5]) (S' := [.ref 5]) (h' := h) rfl ?_
    refine Wp.getf (op_ix (by decide) ol_26 1 rfl) (okS HS 5 rfl rfl) (v := .int (AI h 5 5)) rfl rfl ?_
    refine Wp.ret (op_ix (by decide) ol_26 2 rfl) rfl ⟨_, rfl, ?_⟩
    refine Wp.blk (by decide) ol_116 6 1 (pc' := (if v1 < (AI h 5 5) then 15 else 19)) (L' := [.ref 2, .int v1]) (S' := []) (h' := h) rfl ?_
    refine Wp.br (fun c2 => ?_) (fun c2 => ?_)
    · replace K := K.1 c2
      refine Wp.blk (by decide) ol_116 7 2 (pc' := 20) (L' := [.ref 2, .int v1]) (S' := [.int (1 : Int32)]) (h' := h) rfl ?_
      refine Wp.ret (op_ix (by decide) ol_116 10 rfl) rfl ⟨_, rfl, ?_⟩
      refine Wp.blk (by decide) ol_96 3 1 (pc' := (if (1 : Int32) = (0 : Int32) then 8 else 11)) (L' := [.ref 2, .int v1]) (S' := []) (h' := h) rfl ?_
      refine Wp.br (fun hc => absurd hc (by decide)) (fun _ => ?_)
      refine Wp.blk (by decide) ol_96 6 2 (pc' := 13) (L' := [.ref 2, .int v1]) (S' := [.int v1, .ref 2]) (h' := h) rfl ?_
      refine Wp.callI (op_ix (by decide) ol_96 8 rfl) (act_virt (c2 := 1) rfl (lk1 (kS HS 2 rfl)) rfl) rfl (Cl.enter (L := [.ref 2, .int v1]) rfl ?_)
      refine Wp.blk (by decide) ol_119 0 1 (pc' := 1) (L' := [.ref 2, .int v1]) (S' := [.ref 2]) (h' := h) rfl ?_
      refine Wp.getf (op_ix (by decide) ol_119 1 rfl) (okS HS 2 rfl rfl) (v := .ref 11) (congrArg va_rf (rS HS 2 2 rfl)) rfl ?_
      refine Wp.callI (op_ix (by decide) ol_119 2 rfl) (act_virt (c2 := 0) rfl (lk1 (kS HS 11 rfl)) rfl) rfl (Cl.enter (L := [.ref 11]) rfl ?_)
      refine Wp.blk (by decide) ol_77 0 1 (pc' := 1) (L' := [.ref 11]) (S' := [.ref 11]) (h' := h) rfl ?_
      refine Wp.getf (op_ix (by decide) ol_77 1 rfl) (okS HS 11 rfl rfl) (v := .ref 5) (congrArg va_rf (rS HS 11 0 rfl)) rfl ?_
      refine Wp.blk (by decide) ol_77 2 1 (pc' := 5) (L' := [.ref 11]) (S' := [.ref 11, .ref 5]) (h' := h) rfl ?_
      refine Wp.getf (op_ix (by decide) ol_77 3 rfl) (okS HS 11 rfl rfl) (v := .int (AI h 11 3)) rfl rfl ?_
      refine Wp.blk (by decide) ol_77 4 1 (pc' := 9) (L' := [.ref 11]) (S' := [.ref 11, .int (AI h 11 3), .ref 5]) (h' := h) rfl ?_
      refine Wp.getf (op_ix (by decide) ol_77 5 rfl) (okS HS 11 rfl rfl) (v := .int (AI h 11 4)) rfl rfl ?_
      refine Wp.callI (op_ix (by decide) ol_77 6 rfl) (act_virt (c2 := 2) rfl (lk1 (kS HS 5 rfl)) rfl) rfl (K.mono ?_)
      rintro _ h3 ⟨x5, rfl, hs4, K⟩
      refine ⟨x5, rfl, ?_⟩
      refine Wp.ret (op_ix (by decide) ol_77 7 rfl) rfl ⟨_, rfl, ?_⟩
      refine Wp.blk (by decide) ol_119 3 1 (pc' := (if x5 = (0 : Int32) then 10 else 25)) (L' := [.ref 2, .int v1]) (S' := []) (h' := h3) rfl ?_
      refine Wp.br (fun c6 => ?_) (fun c6 => ?_)
      · replace K := K.1 c6
        refine Wp.blk (by decide) ol_119 4 1 (pc' := 11) (L' := [.ref 2, .int v1]) (S' := [.ref 2]) (h' := h3) rfl ?_
        refine Wp.getf (op_ix (by decide) ol_119 5 rfl) (okS hs4 2 rfl rfl) (v := .ref 11) (congrArg va_rf (rS hs4 2 2 rfl)) rfl ?_
        refine Wp.blk (by decide) ol_119 6 1 (pc' := 15) (L' := [.ref 2, .int v1]) (S' := [.int v1, .ref 11]) (h' := h3) rfl ?_
        refine Wp.callI (op_ix (by decide) ol_119 7 rfl) (act_virt (c2 := 1) rfl (lk1 (kS hs4 11 rfl)) rfl) rfl (K.mono ?_)
        rintro _ h7 ⟨x9, rfl, hs8, K⟩
        refine ⟨x9, rfl, ?_⟩
        refine Wp.blk (by decide) ol_119 8 1 (pc' := (if x9 = (0 : Int32) then 21 else 25)) (L' := [.ref 2, .int v1]) (S' := []) (h' := h7) rfl ?_
        refine Wp.br (fun c10 => ?_) (fun c10 => ?_)
        · replace K := K.1 c10
          refine Wp.blk (by decide) ol_119 9 2 (pc' := 26) (L' := [.ref 2, .int v1]) (S' := [.int (1 : Int32)]) (h' := h7) rfl ?_
          refine Wp.ret (op_ix (by decide) ol_119 12 rfl) rfl ⟨_, rfl, ?_⟩
          refine Wp.blk (by decide) ol_96 9 1 (pc' := (if (1 : Int32) = (0 : Int32) then 19 else 22)) (L' := [.ref 2, .int v1]) (S' := []) (h' := h7) rfl ?_
          refine Wp.br (fun hc => absurd hc (by decide)) (fun _ => ?_)
          refine Wp.blk (by decide) ol_96 12 1 (pc' := 23) (L' := [.ref 2, .int v1]) (S' := [.ref 2]) (h' := h7) rfl ?_
          refine Wp.getf (op_ix (by decide) ol_96 13 rfl) (okS hs8 2 rfl rfl) (v := .ref 11) (congrArg va_rf (rS hs8 2 2 rfl)) rfl ?_
          refine Wp.blk (by decide) ol_96 14 1 (pc' := 27) (L' := [.ref 2, .int v1]) (S' := [.int v1, .ref 11]) (h' := h7) rfl ?_
          refine Wp.callV (op_ix (by decide) ol_96 15 rfl) (act_virt (c2 := 1) rfl (lk1 (kS hs8 11 rfl)) rfl) rfl (K.mono ?_)
          rintro _ h11 ⟨rfl, hs12, K⟩
          refine ⟨rfl, ?_⟩
          refine Wp.blk (by decide) ol_96 16 1 (pc' := 31) (L' := [.ref 2, .int v1]) (S' := [.ref 2]) (h' := h11) rfl ?_
          refine Wp.getf (op_ix (by decide) ol_96 17 rfl) (okS hs12 2 rfl rfl) (v := .ref 11) (congrArg va_rf (rS hs12 2 2 rfl)) rfl ?_
          refine Wp.callI (op_ix (by decide) ol_96 18 rfl) (act_virt (c2 := 0) rfl (lk1 (kS hs12 11 rfl)) rfl) rfl (Cl.enter (L := [.ref 11]) rfl ?_)
          refine Wp.blk (by decide) ol_80 0 1 (pc' := 1) (L' := [.ref 11]) (S' := [.ref 11]) (h' := h11) rfl ?_
          refine Wp.getf (op_ix (by decide) ol_80 1 rfl) (okS hs12 11 rfl rfl) (v := .int (AI h11 11 2)) rfl rfl ?_
          refine Wp.ret (op_ix (by decide) ol_80 2 rfl) rfl ⟨_, rfl, ?_⟩
          exact Wp.ret (op_ix (by decide) ol_96 19 rfl) rfl K
        · replace K := K.2 c10
          refine Wp.blk (by decide) ol_119 11 1 (pc' := 26) (L' := [.ref 2, .int v1]) (S' := [.int (0 : Int32)]) (h' := h7) rfl ?_
          refine Wp.ret (op_ix (by decide) ol_119 12 rfl) rfl ⟨_, rfl, ?_⟩
          refine Wp.blk (by decide) ol_96 9 1 (pc' := (if (0 : Int32) = (0 : Int32) then 19 else 22)) (L' := [.ref 2, .int v1]) (S' := []) (h' := h7) rfl ?_
          refine Wp.br (fun _ => ?_) (fun hc => absurd (by decide) hc)
          refine Wp.blk (by decide) ol_96 10 1 (pc' := 21) (L' := [.ref 2, .int v1]) (S' := [.int (-103 : Int32)]) (h' := h7) rfl ?_
          exact Wp.ret (op_ix (by decide) ol_96 11 rfl) rfl K
      · replace K := K.2 c6
        refine Wp.blk (by decide) ol_119 11 1 (pc' := 26) (L' := [.ref 2, .int v1]) (S' := [.int (0 : Int32)]) (h' := h3) rfl ?_
        refine Wp.ret (op_ix (by decide) ol_119 12 rfl) rfl ⟨_, rfl, ?_⟩
        refine Wp.blk (by decide) ol_96 9 1 (pc' := (if (0 : Int32) = (0 : Int32) then 19 else 22)) (L' := [.ref 2, .int v1]) (S' := []) (h' := h3) rfl ?_
        refine Wp.br (fun _ => ?_) (fun hc => absurd (by decide) hc)
        refine Wp.blk (by decide) ol_96 10 1 (pc' := 21) (L' := [.ref 2, .int v1]) (S' := [.int (-103 : Int32)]) (h' := h3) rfl ?_
        exact Wp.ret (op_ix (by decide) ol_96 11 rfl) rfl K
    · replace K := K.2 c2
      refine Wp.blk (by decide) ol_116 9 1 (pc' := 20) (L' := [.ref 2, .int v1]) (S' := [.int (0 : Int32)]) (h' := h) rfl ?_
      refine Wp.ret (op_ix (by decide) ol_116 10 rfl) rfl ⟨_, rfl, ?_⟩
      refine Wp.blk (by decide) ol_96 3 1 (pc' := (if (0 : Int32) = (0 : Int32) then 8 else 11)) (L' := [.ref 2, .int v1]) (S' := []) (h' := h) rfl ?_
      refine Wp.br (fun _ => ?_) (fun hc => absurd (by decide) hc)
      refine Wp.blk (by decide) ol_96 4 1 (pc' := 10) (L' := [.ref 2, .int v1]) (S' := [.int (-101 : Int32)]) (h' := h) rfl ?_
      exact Wp.ret (op_ix (by decide) ol_96 5 rfl) rfl K
/-- CutsOrFast.back at 0 ()I -/
theorem g97_0 (d : Nat)  (h : AH) (HS : Sh h)  (Q : Option Value → AH → Prop) (K : (((0 : Int32) < (AI h 5 5) → (((AI h 11 2) = (0 : Int32) → Q (some (.int (-103 : Int32))) h) ∧ (¬ (AI h 11 2) = (0 : Int32) → (Cl (d + 1) 75 [.ref 11] h (fun r h3 => r = none ∧ Sh h3 ∧ Q (some (.int (AI h3 11 2))) h3))))) ∧ (¬ (0 : Int32) < (AI h 5 5) → Q (some (.int (-103 : Int32))) h))) : Wp (d + 2) 97 0 [.ref 2] [] h Q := by
  refine Wp.blk (by decide) ol_97 0 1 (pc' := 1) (L' := [.ref 2]) (S' := [.ref 2]) (h' := h) rfl ?_
  refine Wp.callI (op_ix (by decide) ol_97 1 rfl) (act_virt (c2 := 0) rfl (lk1 (kS HS 2 rfl)) rfl) rfl (Cl.enter (L := [.ref 2]) rfl ?_)
  refine Wp.blk (by decide) ol_115 0 1 (pc' := 1) (L' := [.ref 2]) (S' := [.ref 2]) (h' := h) rfl ?_
  refine Wp.getf (op_ix (by decide) ol_115 1 rfl) (okS HS 2 rfl rfl) (v := .ref 5) (congrArg va_rf (rS HS 2 1 rfl)) rfl ?_
  refine Wp.callI (op_ix (by decide) ol_115 2 rfl) (act_virt (c2 := 0) rfl (lk1 (kS HS 5 rfl)) rfl) rfl (Cl.enter (L := [.ref 5]) rfl ?_)
  refine Wp.blk (by decide) ol_26 0 1 (pc' := 1) (L' := [.ref 5]) (S' := [.ref 5]) (h' := h) rfl ?_
  refine Wp.getf (op_ix (by decide) ol_26 1 rfl) (okS HS 5 rfl rfl) (v := .int (AI h 5 5)) rfl rfl ?_
  refine Wp.ret (op_ix (by decide) ol_26 2 rfl) rfl ⟨_, rfl, ?_⟩
  refine Wp.blk (by decide) ol_115 3 1 (pc' := (if (0 : Int32) < (AI h 5 5) then 10 else 14)) (L' := [.ref 2]) (S' := []) (h' := h) rfl ?_
  refine Wp.br (fun c1 => ?_) (fun c1 => ?_)
  · replace K := K.1 c1
    refine Wp.blk (by decide) ol_115 4 2 (pc' := 15) (L' := [.ref 2]) (S' := [.int (1 : Int32)]) (h' := h) rfl ?_
    refine Wp.ret (op_ix (by decide) ol_115 7 rfl) rfl ⟨_, rfl, ?_⟩
    refine Wp.blk (by decide) ol_97 2 1 (pc' := (if (1 : Int32) = (0 : Int32) then 17 else 7)) (L' := [.ref 2]) (S' := []) (h' := h) rfl ?_
    refine Wp.br (fun hc => absurd hc (by decide)) (fun _ => ?_)
    refine Wp.blk (by decide) ol_97 3 1 (pc' := 8) (L' := [.ref 2]) (S' := [.ref 2]) (h' := h) rfl ?_
    refine Wp.getf (op_ix (by decide) ol_97 4 rfl) (okS HS 2 rfl rfl) (v := .ref 11) (congrArg va_rf (rS HS 2 2 rfl)) rfl ?_
    refine Wp.callI (op_ix (by decide) ol_97 5 rfl) (act_virt (c2 := 0) rfl (lk1 (kS HS 11 rfl)) rfl) rfl (Cl.enter (L := [.ref 11]) rfl ?_)
    refine Wp.blk (by decide) ol_80 0 1 (pc' := 1) (L' := [.ref 11]) (S' := [.ref 11]) (h' := h) rfl ?_
    refine Wp.getf (op_ix (by decide) ol_80 1 rfl) (okS HS 11 rfl rfl) (v := .int (AI h 11 2)) rfl rfl ?_
    refine Wp.ret (op_ix (by decide) ol_80 2 rfl) rfl ⟨_, rfl, ?_⟩
    refine Wp.blk (by decide) ol_97 6 1 (pc' := (if (AI h 11 2) = (0 : Int32) then 17 else 20)) (L' := [.ref 2]) (S' := []) (h' := h) rfl ?_
    refine Wp.br (fun c2 => ?_) (fun c2 => ?_)
    · replace K := K.1 c2
      refine Wp.blk (by decide) ol_97 7 1 (pc' := 19) (L' := [.ref 2]) (S' := [.int (-103 : Int32)]) (h' := h) rfl ?_
      exact Wp.ret (op_ix (by decide) ol_97 8 rfl) rfl K
    · replace K := K.2 c2
      refine Wp.blk (by decide) ol_97 9 1 (pc' := 21) (L' := [.ref 2]) (S' := [.ref 2]) (h' := h) rfl ?_
      refine Wp.getf (op_ix (by decide) ol_97 10 rfl) (okS HS 2 rfl rfl) (v := .ref 11) (congrArg va_rf (rS HS 2 2 rfl)) rfl ?_
      refine Wp.callV (op_ix (by decide) ol_97 11 rfl) (act_virt (c2 := 0) rfl (lk1 (kS HS 11 rfl)) rfl) rfl (K.mono ?_)
      rintro _ h3 ⟨rfl, hs4, K⟩
      refine ⟨rfl, ?_⟩
      refine Wp.blk (by decide) ol_97 12 1 (pc' := 28) (L' := [.ref 2]) (S' := [.ref 2]) (h' := h3) rfl ?_
      refine Wp.getf (op_ix (by decide) ol_97 13 rfl) (okS hs4 2 rfl rfl) (v := .ref 11) (congrArg va_rf (rS hs4 2 2 rfl)) rfl ?_
      refine Wp.callI (op_ix (by decide) ol_97 14 rfl) (act_virt (c2 := 0) rfl (lk1 (kS hs4 11 rfl)) rfl) rfl (Cl.enter (L := [.ref 11]) rfl ?_)
      refine Wp.blk (by decide) ol_80 0 1 (pc' := 1) (L' := [.ref 11]) (S' := [.ref 11]) (h' := h3) rfl ?_
      refine Wp.getf (op_ix (by decide) ol_80 1 rfl) (okS hs4 11 rfl rfl) (v := .int (AI h3 11 2)) rfl rfl ?_
      refine Wp.ret (op_ix (by decide) ol_80 2 rfl) rfl ⟨_, rfl, ?_⟩
      exact Wp.ret (op_ix (by decide) ol_97 15 rfl) rfl K
  · replace K := K.2 c1
    refine Wp.blk (by decide) ol_115 6 1 (pc' := 15) (L' := [.ref 2]) (S' := [.int (0 : Int32)]) (h' := h) rfl ?_
    refine Wp.ret (op_ix (by decide) ol_115 7 rfl) rfl ⟨_, rfl, ?_⟩
    refine Wp.blk (by decide) ol_97 2 1 (pc' := (if (0 : Int32) = (0 : Int32) then 17 else 7)) (L' := [.ref 2]) (S' := []) (h' := h) rfl ?_
    refine Wp.br (fun _ => ?_) (fun hc => absurd (by decide) hc)
    refine Wp.blk (by decide) ol_97 7 1 (pc' := 19) (L' := [.ref 2]) (S' := [.int (-103 : Int32)]) (h' := h) rfl ?_
    exact Wp.ret (op_ix (by decide) ol_97 8 rfl) rfl K
/-- CutsOrFast.whose at 0 (I)I -/
theorem g98_0 (d : Nat) (v1 : Int32) (h : AH) (HS : Sh h)  (Q : Option Value → AH → Prop) (K : ((v1 = (0 : Int32) → (((0 : Int32) < (AI h 5 5) → (Cl (d + 1) 58 [.ref 17, .int (AI h 11 3), .int (AI h 11 4), .int v1] h (fun r h3 => ∃ x5 : Int32, r = some (.int x5) ∧ Sh h3 ∧ Q (some (.int x5)) h3))) ∧ (¬ (0 : Int32) < (AI h 5 5) → Q (some (.int (-103 : Int32))) h))) ∧ (¬ v1 = (0 : Int32) → ((v1 = (1 : Int32) → (((0 : Int32) < (AI h 5 5) → (Cl (d + 1) 58 [.ref 17, .int (AI h 11 3), .int (AI h 11 4), .int v1] h (fun r h8 => ∃ x10 : Int32, r = some (.int x10) ∧ Sh h8 ∧ Q (some (.int x10)) h8))) ∧ (¬ (0 : Int32) < (AI h 5 5) → Q (some (.int (-103 : Int32))) h))) ∧ (¬ v1 = (1 : Int32) → Q (some (.int (-101 : Int32))) h))))) : Wp (d + 2) 98 0 [.ref 2, .int v1] [] h Q := by
  refine Wp.blk (by decide) ol_98 0 1 (pc' := 1) (L' := [.ref 2, .int v1]) (S' := [.int v1]) (h' := h) rfl ?_
  refine Wp.callI (op_ix (by decide) ol_98 1 rfl) rfl rfl (Cl.enter (L := [.int v1]) rfl ?_)
  refine Wp.blk (by decide) ol_117 0 2 (pc' := (if v1 = (0 : Int32) then 9 else 4)) (L' := [.int v1]) (S' := []) (h' := h) rfl ?_
  refine Wp.br (fun c1 => ?_) (fun c1 => ?_)
  · replace K := K.1 c1
    refine Wp.blk (by decide) ol_117 5 2 (pc' := 14) (L' := [.int v1]) (S' := [.int (1 : Int32)]) (h' := h) rfl ?_
    refine Wp.ret (op_ix (by decide) ol_117 8 rfl) rfl ⟨_, rfl, ?_⟩
    refine Wp.blk (by decide) ol_98 2 1 (pc' := (if (1 : Int32) = (0 : Int32) then 7 else 10)) (L' := [.ref 2, .int v1]) (S' := []) (h' := h) rfl ?_
    refine Wp.br (fun hc => absurd hc (by decide)) (fun _ => ?_)
    refine Wp.blk (by decide) ol_98 5 1 (pc' := 11) (L' := [.ref 2, .int v1]) (S' := [.ref 2]) (h' := h) rfl ?_
    refine Wp.callI (op_ix (by decide) ol_98 6 rfl) (act_virt (c2 := 0) rfl (lk1 (kS HS 2 rfl)) rfl) rfl (Cl.enter (L := [.ref 2]) rfl ?_)
    refine Wp.blk (by decide) ol_115 0 1 (pc' := 1) (L' := [.ref 2]) (S' := [.ref 2]) (h' := h) rfl ?_
    refine Wp.getf (op_ix (by decide) ol_115 1 rfl) (okS HS 2 rfl rfl) (v := .ref 5) (congrArg va_rf (rS HS 2 1 rfl)) rfl ?_
    refine Wp.callI (op_ix (by decide) ol_115 2 rfl) (act_virt (c2 := 0) rfl (lk1 (kS HS 5 rfl)) rfl) rfl (Cl.enter (L := [.ref 5]) rfl ?_)
    refine Wp.blk (by decide) ol_26 0 1 (pc' := 1) (L' := [.ref 5]) (S' := [.ref 5]) (h' := h) rfl ?_
    refine Wp.getf (op_ix (by decide) ol_26 1 rfl) (okS HS 5 rfl rfl) (v := .int (AI h 5 5)) rfl rfl ?_
    refine Wp.ret (op_ix (by decide) ol_26 2 rfl) rfl ⟨_, rfl, ?_⟩
    refine Wp.blk (by decide) ol_115 3 1 (pc' := (if (0 : Int32) < (AI h 5 5) then 10 else 14)) (L' := [.ref 2]) (S' := []) (h' := h) rfl ?_
    refine Wp.br (fun c2 => ?_) (fun c2 => ?_)
    · replace K := K.1 c2
      refine Wp.blk (by decide) ol_115 4 2 (pc' := 15) (L' := [.ref 2]) (S' := [.int (1 : Int32)]) (h' := h) rfl ?_
      refine Wp.ret (op_ix (by decide) ol_115 7 rfl) rfl ⟨_, rfl, ?_⟩
      refine Wp.blk (by decide) ol_98 7 1 (pc' := (if (1 : Int32) = (0 : Int32) then 42 else 17)) (L' := [.ref 2, .int v1]) (S' := []) (h' := h) rfl ?_
      refine Wp.br (fun hc => absurd hc (by decide)) (fun _ => ?_)
      refine Wp.blk (by decide) ol_98 8 1 (pc' := 18) (L' := [.ref 2, .int v1]) (S' := [.ref 2]) (h' := h) rfl ?_
      refine Wp.getf (op_ix (by decide) ol_98 9 rfl) (okS HS 2 rfl rfl) (v := .ref 17) (congrArg va_rf (rS HS 2 5 rfl)) rfl ?_
      refine Wp.blk (by decide) ol_98 10 1 (pc' := 22) (L' := [.ref 2, .int v1]) (S' := [.ref 2, .ref 17]) (h' := h) rfl ?_
      refine Wp.getf (op_ix (by decide) ol_98 11 rfl) (okS HS 2 rfl rfl) (v := .ref 11) (congrArg va_rf (rS HS 2 2 rfl)) rfl ?_
      refine Wp.callI (op_ix (by decide) ol_98 12 rfl) (act_virt (c2 := 0) rfl (lk1 (kS HS 11 rfl)) rfl) rfl (Cl.enter (L := [.ref 11]) rfl ?_)
      refine Wp.blk (by decide) ol_84 0 1 (pc' := 1) (L' := [.ref 11]) (S' := [.ref 11]) (h' := h) rfl ?_
      refine Wp.getf (op_ix (by decide) ol_84 1 rfl) (okS HS 11 rfl rfl) (v := .int (AI h 11 3)) rfl rfl ?_
      refine Wp.ret (op_ix (by decide) ol_84 2 rfl) rfl ⟨_, rfl, ?_⟩
      refine Wp.blk (by decide) ol_98 13 1 (pc' := 29) (L' := [.ref 2, .int v1]) (S' := [.ref 2, .int (AI h 11 3), .ref 17]) (h' := h) rfl ?_
      refine Wp.getf (op_ix (by decide) ol_98 14 rfl) (okS HS 2 rfl rfl) (v := .ref 11) (congrArg va_rf (rS HS 2 2 rfl)) rfl ?_
      refine Wp.callI (op_ix (by decide) ol_98 15 rfl) (act_virt (c2 := 0) rfl (lk1 (kS HS 11 rfl)) rfl) rfl (Cl.enter (L := [.ref 11]) rfl ?_)
      refine Wp.blk (by decide) ol_85 0 1 (pc' := 1) (L' := [.ref 11]) (S' := [.ref 11]) (h' := h) rfl ?_
      refine Wp.getf (op_ix (by decide) ol_85 1 rfl) (okS HS 11 rfl rfl) (v := .int (AI h 11 4)) rfl rfl ?_
      refine Wp.ret (op_ix (by decide) ol_85 2 rfl) rfl ⟨_, rfl, ?_⟩
      refine Wp.blk (by decide) ol_98 16 1 (pc' := 36) (L' := [.ref 2, .int v1]) (S' := [.int v1, .int (AI h 11 4), .int (AI h 11 3), .ref 17]) (h' := h) rfl ?_
      refine Wp.callI (op_ix (by decide) ol_98 17 rfl) (act_virt (c2 := 3) rfl (lk1 (kS HS 17 rfl)) rfl) rfl (K.mono ?_)
      rintro _ h3 ⟨x5, rfl, hs4, K⟩
      refine ⟨x5, rfl, ?_⟩
      refine Wp.blk (by decide) ol_98 18 1 (pc' := 44) (L' := [.ref 2, .int v1]) (S' := [.int x5]) (h' := h3) rfl ?_
      exact Wp.ret (op_ix (by decide) ol_98 20 rfl) rfl K
    · replace K := K.2 c2
      refine Wp.blk (by decide) ol_115 6 1 (pc' := 15) (L' := [.ref 2]) (S' := [.int (0 : Int32)]) (h' := h) rfl ?_
      refine Wp.ret (op_ix (by decide) ol_115 7 rfl) rfl ⟨_, rfl, ?_⟩
      refine Wp.blk (by decide) ol_98 7 1 (pc' := (if (0 : Int32) = (0 : Int32) then 42 else 17)) (L' := [.ref 2, .int v1]) (S' := []) (h' := h) rfl ?_
      refine Wp.br (fun _ => ?_) (fun hc => absurd (by decide) hc)
      refine Wp.blk (by decide) ol_98 19 1 (pc' := 44) (L' := [.ref 2, .int v1]) (S' := [.int (-103 : Int32)]) (h' := h) rfl ?_
      exact Wp.ret (op_ix (by decide) ol_98 20 rfl) rfl K
  · replace K := K.2 c1
    refine Wp.blk (by decide) ol_117 2 3 (pc' := (if v1 = (1 : Int32) then 9 else 13)) (L' := [.int v1]) (S' := []) (h' := h) rfl ?_
    refine Wp.br (fun c6 => ?_) (fun c6 => ?_)
    · replace K := K.1 c6
      refine Wp.blk (by decide) ol_117 5 2 (pc' := 14) (L' := [.int v1]) (S' := [.int (1 : Int32)]) (h' := h) rfl ?_
      refine Wp.ret (op_ix (by decide) ol_117 8 rfl) rfl ⟨_, rfl, ?_⟩
      refine Wp.blk (by decide) ol_98 2 1 (pc' := (if (1 : Int32) = (0 : Int32) then 7 else 10)) (L' := [.ref 2, .int v1]) (S' := []) (h' := h) rfl ?_
      refine Wp.br (fun hc => absurd hc (by decide)) (fun _ => ?_)
      refine Wp.blk (by decide) ol_98 5 1 (pc' := 11) (L' := [.ref 2, .int v1]) (S' := [.ref 2]) (h' := h) rfl ?_
      refine Wp.callI (op_ix (by decide) ol_98 6 rfl) (act_virt (c2 := 0) rfl (lk1 (kS HS 2 rfl)) rfl) rfl (Cl.enter (L := [.ref 2]) rfl ?_)
      refine Wp.blk (by decide) ol_115 0 1 (pc' := 1) (L' := [.ref 2]) (S' := [.ref 2]) (h' := h) rfl ?_
      refine Wp.getf (op_ix (by decide) ol_115 1 rfl) (okS HS 2 rfl rfl) (v := .ref 5) (congrArg va_rf (rS HS 2 1 rfl)) rfl ?_
      refine Wp.callI (op_ix (by decide) ol_115 2 rfl) (act_virt (c2 := 0) rfl (lk1 (kS HS 5 rfl)) rfl) rfl (Cl.enter (L := [.ref 5]) rfl ?_)
      refine Wp.blk (by decide) ol_26 0 1 (pc' := 1) (L' := [.ref 5]) (S' := [.ref 5]) (h' := h) rfl ?_
      refine Wp.getf (op_ix (by decide) ol_26 1 rfl) (okS HS 5 rfl rfl) (v := .int (AI h 5 5)) rfl rfl ?_
      refine Wp.ret (op_ix (by decide) ol_26 2 rfl) rfl ⟨_, rfl, ?_⟩
      refine Wp.blk (by decide) ol_115 3 1 (pc' := (if (0 : Int32) < (AI h 5 5) then 10 else 14)) (L' := [.ref 2]) (S' := []) (h' := h) rfl ?_
      refine Wp.br (fun c7 => ?_) (fun c7 => ?_)
      · replace K := K.1 c7
        refine Wp.blk (by decide) ol_115 4 2 (pc' := 15) (L' := [.ref 2]) (S' := [.int (1 : Int32)]) (h' := h) rfl ?_
        refine Wp.ret (op_ix (by decide) ol_115 7 rfl) rfl ⟨_, rfl, ?_⟩
        refine Wp.blk (by decide) ol_98 7 1 (pc' := (if (1 : Int32) = (0 : Int32) then 42 else 17)) (L' := [.ref 2, .int v1]) (S' := []) (h' := h) rfl ?_
        refine Wp.br (fun hc => absurd hc (by decide)) (fun _ => ?_)
        refine Wp.blk (by decide) ol_98 8 1 (pc' := 18) (L' := [.ref 2, .int v1]) (S' := [.ref 2]) (h' := h) rfl ?_
        refine Wp.getf (op_ix (by decide) ol_98 9 rfl) (okS HS 2 rfl rfl) (v := .ref 17) (congrArg va_rf (rS HS 2 5 rfl)) rfl ?_
        refine Wp.blk (by decide) ol_98 10 1 (pc' := 22) (L' := [.ref 2, .int v1]) (S' := [.ref 2, .ref 17]) (h' := h) rfl ?_
        refine Wp.getf (op_ix (by decide) ol_98 11 rfl) (okS HS 2 rfl rfl) (v := .ref 11) (congrArg va_rf (rS HS 2 2 rfl)) rfl ?_
        refine Wp.callI (op_ix (by decide) ol_98 12 rfl) (act_virt (c2 := 0) rfl (lk1 (kS HS 11 rfl)) rfl) rfl (Cl.enter (L := [.ref 11]) rfl ?_)
        refine Wp.blk (by decide) ol_84 0 1 (pc' := 1) (L' := [.ref 11]) (S' := [.ref 11]) (h' := h) rfl ?_
        refine Wp.getf (op_ix (by decide) ol_84 1 rfl) (okS HS 11 rfl rfl) (v := .int (AI h 11 3)) rfl rfl ?_
        refine Wp.ret (op_ix (by decide) ol_84 2 rfl) rfl ⟨_, rfl, ?_⟩
        refine Wp.blk (by decide) ol_98 13 1 (pc' := 29) (L' := [.ref 2, .int v1]) (S' := [.ref 2, .int (AI h 11 3), .ref 17]) (h' := h) rfl ?_
        refine Wp.getf (op_ix (by decide) ol_98 14 rfl) (okS HS 2 rfl rfl) (v := .ref 11) (congrArg va_rf (rS HS 2 2 rfl)) rfl ?_
        refine Wp.callI (op_ix (by decide) ol_98 15 rfl) (act_virt (c2 := 0) rfl (lk1 (kS HS 11 rfl)) rfl) rfl (Cl.enter (L := [.ref 11]) rfl ?_)
        refine Wp.blk (by decide) ol_85 0 1 (pc' := 1) (L' := [.ref 11]) (S' := [.ref 11]) (h' := h) rfl ?_
        refine Wp.getf (op_ix (by decide) ol_85 1 rfl) (okS HS 11 rfl rfl) (v := .int (AI h 11 4)) rfl rfl ?_
        refine Wp.ret (op_ix (by decide) ol_85 2 rfl) rfl ⟨_, rfl, ?_⟩
        refine Wp.blk (by decide) ol_98 16 1 (pc' := 36) (L' := [.ref 2, .int v1]) (S' := [.int v1, .int (AI h 11 4), .int (AI h 11 3), .ref 17]) (h' := h) rfl ?_
        refine Wp.callI (op_ix (by decide) ol_98 17 rfl) (act_virt (c2 := 3) rfl (lk1 (kS HS 17 rfl)) rfl) rfl (K.mono ?_)
        rintro _ h8 ⟨x10, rfl, hs9, K⟩
        refine ⟨x10, rfl, ?_⟩
        refine Wp.blk (by decide) ol_98 18 1 (pc' := 44) (L' := [.ref 2, .int v1]) (S' := [.int x10]) (h' := h8) rfl ?_
        exact Wp.ret (op_ix (by decide) ol_98 20 rfl) rfl K
      · replace K := K.2 c7
        refine Wp.blk (by decide) ol_115 6 1 (pc' := 15) (L' := [.ref 2]) (S' := [.int (0 : Int32)]) (h' := h) rfl ?_
        refine Wp.ret (op_ix (by decide) ol_115 7 rfl) rfl ⟨_, rfl, ?_⟩
        refine Wp.blk (by decide) ol_98 7 1 (pc' := (if (0 : Int32) = (0 : Int32) then 42 else 17)) (L' := [.ref 2, .int v1]) (S' := []) (h' := h) rfl ?_
        refine Wp.br (fun _ => ?_) (fun hc => absurd (by decide) hc)
        refine Wp.blk (by decide) ol_98 19 1 (pc' := 44) (L' := [.ref 2, .int v1]) (S' := [.int (-103 : Int32)]) (h' := h) rfl ?_
        exact Wp.ret (op_ix (by decide) ol_98 20 rfl) rfl K
    · replace K := K.2 c6
      refine Wp.blk (by decide) ol_117 7 1 (pc' := 14) (L' := [.int v1]) (S' := [.int (0 : Int32)]) (h' := h) rfl ?_
      refine Wp.ret (op_ix (by decide) ol_117 8 rfl) rfl ⟨_, rfl, ?_⟩
      refine Wp.blk (by decide) ol_98 2 1 (pc' := (if (0 : Int32) = (0 : Int32) then 7 else 10)) (L' := [.ref 2, .int v1]) (S' := []) (h' := h) rfl ?_
      refine Wp.br (fun _ => ?_) (fun hc => absurd (by decide) hc)
      refine Wp.blk (by decide) ol_98 3 1 (pc' := 9) (L' := [.ref 2, .int v1]) (S' := [.int (-101 : Int32)]) (h' := h) rfl ?_
      exact Wp.ret (op_ix (by decide) ol_98 4 rfl) rfl K
/-- CutsOrFast.by at 0 (I)I -/
theorem g99_0 (d : Nat) (v1 : Int32) (h : AH) (HS : Sh h)  (Q : Option Value → AH → Prop) (K : ((v1 = (0 : Int32) → (((0 : Int32) < (AI h 5 5) → (Cl (d + 1) 59 [.ref 17, .int (AI h 11 3), .int (AI h 11 4), .int v1] h (fun r h3 => ∃ x5 : Int32, r = some (.int x5) ∧ Sh h3 ∧ Q (some (.int x5)) h3))) ∧ (¬ (0 : Int32) < (AI h 5 5) → Q (some (.int (-103 : Int32))) h))) ∧ (¬ v1 = (0 : Int32) → ((v1 = (1 : Int32) → (((0 : Int32) < (AI h 5 5) → (Cl (d + 1) 59 [.ref 17, .int (AI h 11 3), .int (AI h 11 4), .int v1] h (fun r h8 => ∃ x10 : Int32, r = some (.int x10) ∧ Sh h8 ∧ Q (some (.int x10)) h8))) ∧ (¬ (0 : Int32) < (AI h 5 5) → Q (some (.int (-103 : Int32))) h))) ∧ (¬ v1 = (1 : Int32) → Q (some (.int (-101 : Int32))) h))))) : Wp (d + 2) 99 0 [.ref 2, .int v1] [] h Q := by
  refine Wp.blk (by decide) ol_99 0 1 (pc' := 1) (L' := [.ref 2, .int v1]) (S' := [.int v1]) (h' := h) rfl ?_
  refine Wp.callI (op_ix (by decide) ol_99 1 rfl) rfl rfl (Cl.enter (L := [.int v1]) rfl ?_)
  refine Wp.blk (by decide) ol_117 0 2 (pc' := (if v1 = (0 : Int32) then 9 else 4)) (L' := [.int v1]) (S' := []) (h' := h) rfl ?_
  refine Wp.br (fun c1 => ?_) (fun c1 => ?_)
  · replace K := K.1 c1
    refine Wp.blk (by decide) ol_117 5 2 (pc' := 14) (L' := [.int v1]) (S' := [.int (1 : Int32)]) (h' := h) rfl ?_
    refine Wp.ret (op_ix (by decide) ol_117 8 rfl) rfl ⟨_, rfl, ?_⟩
    refine Wp.blk (by decide) ol_99 2 1 (pc' := (if (1 : Int32) = (0 : Int32) then 7 else 10)) (L' := [.ref 2, .int v1]) (S' := []) (h' := h) rfl ?_
    refine Wp.br (fun hc => absurd hc (by decide)) (fun _ => ?_)
    refine Wp.blk (by decide) ol_99 5 1 (pc' := 11) (L' := [.ref 2, .int v1]) (S' := [.ref 2]) (h' := h) rfl ?_
    refine Wp.callI (op_ix (by decide) ol_99 6 rfl) (act_virt (c2 := 0) rfl (lk1 (kS HS 2 rfl)) rfl) rfl (Cl.enter (L := [.ref 2]) rfl ?_)
    refine Wp.blk (by decide) ol_115 0 1 (pc' := 1) (L' := [.ref 2]) (S' := [.ref 2]) (h' := h) rfl ?_
    refine Wp.getf (op_ix (by decide) ol_115 1 rfl) (okS HS 2 rfl rfl) (v := .ref 5) (congrArg va_rf (rS HS 2 1 rfl)) rfl ?_
    refine Wp.callI (op_ix (by decide) ol_115 2 rfl) (act_virt (c2 := 0) rfl (lk1 (kS HS 5 rfl)) rfl) rfl (Cl.enter (L := [.ref 5]) rfl ?_)
    refine Wp.blk (by decide) ol_26 0 1 (pc' := 1) (L' := [.ref 5]) (S' := [.ref 5]) (h' := h) rfl ?_
    refine Wp.getf (op_ix (by decide) ol_26 1 rfl) (okS HS 5 rfl rfl) (v := .int (AI h 5 5)) rfl rfl ?_
    refine Wp.ret (op_ix (by decide) ol_26 2 rfl) rfl ⟨_, rfl, ?_⟩
    refine Wp.blk (by decide) ol_115 3 1 (pc' := (if (0 : Int32) < (AI h 5 5) then 10 else 14)) (L' := [.ref 2]) (S' := []) (h' := h) rfl ?_
    refine Wp.br (fun c2 => ?_) (fun c2 => ?_)
    · replace K := K.1 c2
      refine Wp.blk (by decide) ol_115 4 2 (pc' := 15) (L' := [.ref 2]) (S' := [.int (1 : Int32)]) (h' := h) rfl ?_
      refine Wp.ret (op_ix (by decide) ol_115 7 rfl) rfl ⟨_, rfl, ?_⟩
      refine Wp.blk (by decide) ol_99 7 1 (pc' := (if (1 : Int32) = (0 : Int32) then 42 else 17)) (L' := [.ref 2, .int v1]) (S' := []) (h' := h) rfl ?_
      refine Wp.br (fun hc => absurd hc (by decide)) (fun _ => ?_)
      refine Wp.blk (by decide) ol_99 8 1 (pc' := 18) (L' := [.ref 2, .int v1]) (S' := [.ref 2]) (h' := h) rfl ?_
      refine Wp.getf (op_ix (by decide) ol_99 9 rfl) (okS HS 2 rfl rfl) (v := .ref 17) (congrArg va_rf (rS HS 2 5 rfl)) rfl ?_
      refine Wp.blk (by decide) ol_99 10 1 (pc' := 22) (L' := [.ref 2, .int v1]) (S' := [.ref 2, .ref 17]) (h' := h) rfl ?_
      refine Wp.getf (op_ix (by decide) ol_99 11 rfl) (okS HS 2 rfl rfl) (v := .ref 11) (congrArg va_rf (rS HS 2 2 rfl)) rfl ?_
      refine Wp.callI (op_ix (by decide) ol_99 12 rfl) (act_virt (c2 := 0) rfl (lk1 (kS HS 11 rfl)) rfl) rfl (Cl.enter (L := [.ref 11]) rfl ?_)
      refine Wp.blk (by decide) ol_84 0 1 (pc' := 1) (L' := [.ref 11]) (S' := [.ref 11]) (h' := h) rfl ?_
      refine Wp.getf (op_ix (by decide) ol_84 1 rfl) (okS HS 11 rfl rfl) (v := .int (AI h 11 3)) rfl rfl ?_
      refine Wp.ret (op_ix (by decide) ol_84 2 rfl) rfl ⟨_, rfl, ?_⟩
      refine Wp.blk (by decide) ol_99 13 1 (pc' := 29) (L' := [.ref 2, .int v1]) (S' := [.ref 2, .int (AI h 11 3), .ref 17]) (h' := h) rfl ?_
      refine Wp.getf (op_ix (by decide) ol_99 14 rfl) (okS HS 2 rfl rfl) (v := .ref 11) (congrArg va_rf (rS HS 2 2 rfl)) rfl ?_
      refine Wp.callI (op_ix (by decide) ol_99 15 rfl) (act_virt (c2 := 0) rfl (lk1 (kS HS 11 rfl)) rfl) rfl (Cl.enter (L := [.ref 11]) rfl ?_)
      refine Wp.blk (by decide) ol_85 0 1 (pc' := 1) (L' := [.ref 11]) (S' := [.ref 11]) (h' := h) rfl ?_
      refine Wp.getf (op_ix (by decide) ol_85 1 rfl) (okS HS 11 rfl rfl) (v := .int (AI h 11 4)) rfl rfl ?_
      refine Wp.ret (op_ix (by decide) ol_85 2 rfl) rfl ⟨_, rfl, ?_⟩
      refine Wp.blk (by decide) ol_99 16 1 (pc' := 36) (L' := [.ref 2, .int v1]) (S' := [.int v1, .int (AI h 11 4), .int (AI h 11 3), .ref 17]) (h' := h) rfl ?_
      refine Wp.callI (op_ix (by decide) ol_99 17 rfl) (act_virt (c2 := 3) rfl (lk1 (kS HS 17 rfl)) rfl) rfl (K.mono ?_)
      rintro _ h3 ⟨x5, rfl, hs4, K⟩
      refine ⟨x5, rfl, ?_⟩
      refine Wp.blk (by decide) ol_99 18 1 (pc' := 44) (L' := [.ref 2, .int v1]) (S' := [.int x5]) (h' := h3) rfl ?_
      exact Wp.ret (op_ix (by decide) ol_99 20 rfl) rfl K
    · replace K := K.2 c2
      refine Wp.blk (by decide) ol_115 6 1 (pc' := 15) (L' := [.ref 2]) (S' := [.int (0 : Int32)]) (h' := h) rfl ?_
      refine Wp.ret (op_ix (by decide) ol_115 7 rfl) rfl ⟨_, rfl, ?_⟩
      refine Wp.blk (by decide) ol_99 7 1 (pc' := (if (0 : Int32) = (0 : Int32) then 42 else 17)) (L' := [.ref 2, .int v1]) (S' := []) (h' := h) rfl ?_
      refine Wp.br (fun _ => ?_) (fun hc => absurd (by decide) hc)
      refine Wp.blk (by decide) ol_99 19 1 (pc' := 44) (L' := [.ref 2, .int v1]) (S' := [.int (-103 : Int32)]) (h' := h) rfl ?_
      exact Wp.ret (op_ix (by decide) ol_99 20 rfl) rfl K
  · replace K := K.2 c1
    refine Wp.blk (by decide) ol_117 2 3 (pc' := (if v1 = (1 : Int32) then 9 else 13)) (L' := [.int v1]) (S' := []) (h' := h) rfl ?_
    refine Wp.br (fun c6 => ?_) (fun c6 => ?_)
    · replace K := K.1 c6
      refine Wp.blk (by decide) ol_117 5 2 (pc' := 14) (L' := [.int v1]) (S' := [.int (1 : Int32)]) (h' := h) rfl ?_
      refine Wp.ret (op_ix (by decide) ol_117 8 rfl) rfl ⟨_, rfl, ?_⟩
      refine Wp.blk (by decide) ol_99 2 1 (pc' := (if (1 : Int32) = (0 : Int32) then 7 else 10)) (L' := [.ref 2, .int v1]) (S' := []) (h' := h) rfl ?_
      refine Wp.br (fun hc => absurd hc (by decide)) (fun _ => ?_)
      refine Wp.blk (by decide) ol_99 5 1 (pc' := 11) (L' := [.ref 2, .int v1]) (S' := [.ref 2]) (h' := h) rfl ?_
      refine Wp.callI (op_ix (by decide) ol_99 6 rfl) (act_virt (c2 := 0) rfl (lk1 (kS HS 2 rfl)) rfl) rfl (Cl.enter (L := [.ref 2]) rfl ?_)
      refine Wp.blk (by decide) ol_115 0 1 (pc' := 1) (L' := [.ref 2]) (S' := [.ref 2]) (h' := h) rfl ?_
      refine Wp.getf (op_ix (by decide) ol_115 1 rfl) (okS HS 2 rfl rfl) (v := .ref 5) (congrArg va_rf (rS HS 2 1 rfl)) rfl ?_
      refine Wp.callI (op_ix (by decide) ol_115 2 rfl) (act_virt (c2 := 0) rfl (lk1 (kS HS 5 rfl)) rfl) rfl (Cl.enter (L := [.ref 5]) rfl ?_)
      refine Wp.blk (by decide) ol_26 0 1 (pc' := 1) (L' := [.ref 5]) (S' := [.ref 5]) (h' := h) rfl ?_
      refine Wp.getf (op_ix (by decide) ol_26 1 rfl) (okS HS 5 rfl rfl) (v := .int (AI h 5 5)) rfl rfl ?_
      refine Wp.ret (op_ix (by decide) ol_26 2 rfl) rfl ⟨_, rfl, ?_⟩
      refine Wp.blk (by decide) ol_115 3 1 (pc' := (if (0 : Int32) < (AI h 5 5) then 10 else 14)) (L' := [.ref 2]) (S' := []) (h' := h) rfl ?_
      refine Wp.br (fun c7 => ?_) (fun c7 => ?_)
      · replace K := K.1 c7
        refine Wp.blk (by decide) ol_115 4 2 (pc' := 15) (L' := [.ref 2]) (S' := [.int (1 : Int32)]) (h' := h) rfl ?_
        refine Wp.ret (op_ix (by decide) ol_115 7 rfl) rfl ⟨_, rfl, ?_⟩
        refine Wp.blk (by decide) ol_99 7 1 (pc' := (if (1 : Int32) = (0 : Int32) then 42 else 17)) (L' := [.ref 2, .int v1]) (S' := []) (h' := h) rfl ?_
        refine Wp.br (fun hc => absurd hc (by decide)) (fun _ => ?_)
        refine Wp.blk (by decide) ol_99 8 1 (pc' := 18) (L' := [.ref 2, .int v1]) (S' := [.ref 2]) (h' := h) rfl ?_
        refine Wp.getf (op_ix (by decide) ol_99 9 rfl) (okS HS 2 rfl rfl) (v := .ref 17) (congrArg va_rf (rS HS 2 5 rfl)) rfl ?_
        refine Wp.blk (by decide) ol_99 10 1 (pc' := 22) (L' := [.ref 2, .int v1]) (S' := [.ref 2, .ref 17]) (h' := h) rfl ?_
        refine Wp.getf (op_ix (by decide) ol_99 11 rfl) (okS HS 2 rfl rfl) (v := .ref 11) (congrArg va_rf (rS HS 2 2 rfl)) rfl ?_
        refine Wp.callI (op_ix (by decide) ol_99 12 rfl) (act_virt (c2 := 0) rfl (lk1 (kS HS 11 rfl)) rfl) rfl (Cl.enter (L := [.ref 11]) rfl ?_)
        refine Wp.blk (by decide) ol_84 0 1 (pc' := 1) (L' := [.ref 11]) (S' := [.ref 11]) (h' := h) rfl ?_
        refine Wp.getf (op_ix (by decide) ol_84 1 rfl) (okS HS 11 rfl rfl) (v := .int (AI h 11 3)) rfl rfl ?_
        refine Wp.ret (op_ix (by decide) ol_84 2 rfl) rfl ⟨_, rfl, ?_⟩
        refine Wp.blk (by decide) ol_99 13 1 (pc' := 29) (L' := [.ref 2, .int v1]) (S' := [.ref 2, .int (AI h 11 3), .ref 17]) (h' := h) rfl ?_
        refine Wp.getf (op_ix (by decide) ol_99 14 rfl) (okS HS 2 rfl rfl) (v := .ref 11) (congrArg va_rf (rS HS 2 2 rfl)) rfl ?_
        refine Wp.callI (op_ix (by decide) ol_99 15 rfl) (act_virt (c2 := 0) rfl (lk1 (kS HS 11 rfl)) rfl) rfl (Cl.enter (L := [.ref 11]) rfl ?_)
        refine Wp.blk (by decide) ol_85 0 1 (pc' := 1) (L' := [.ref 11]) (S' := [.ref 11]) (h' := h) rfl ?_
        refine Wp.getf (op_ix (by decide) ol_85 1 rfl) (okS HS 11 rfl rfl) (v := .int (AI h 11 4)) rfl rfl ?_
        refine Wp.ret (op_ix (by decide) ol_85 2 rfl) rfl ⟨_, rfl, ?_⟩
        refine Wp.blk (by decide) ol_99 16 1 (pc' := 36) (L' := [.ref 2, .int v1]) (S' := [.int v1, .int (AI h 11 4), .int (AI h 11 3), .ref 17]) (h' := h) rfl ?_
        refine Wp.callI (op_ix (by decide) ol_99 17 rfl) (act_virt (c2 := 3) rfl (lk1 (kS HS 17 rfl)) rfl) rfl (K.mono ?_)
        rintro _ h8 ⟨x10, rfl, hs9, K⟩
        refine ⟨x10, rfl, ?_⟩
        refine Wp.blk (by decide) ol_99 18 1 (pc' := 44) (L' := [.ref 2, .int v1]) (S' := [.int x10]) (h' := h8) rfl ?_
        exact Wp.ret (op_ix (by decide) ol_99 20 rfl) rfl K
      · replace K := K.2 c7
        refine Wp.blk (by decide) ol_115 6 1 (pc' := 15) (L' := [.ref 2]) (S' := [.int (0 : Int32)]) (h' := h) rfl ?_
        refine Wp.ret (op_ix (by decide) ol_115 7 rfl) rfl ⟨_, rfl, ?_⟩
        refine Wp.blk (by decide) ol_99 7 1 (pc' := (if (0 : Int32) = (0 : Int32) then 42 else 17)) (L' := [.ref 2, .int v1]) (S' := []) (h' := h) rfl ?_
        refine Wp.br (fun _ => ?_) (fun hc => absurd (by decide) hc)
        refine Wp.blk (by decide) ol_99 19 1 (pc' := 44) (L' := [.ref 2, .int v1]) (S' := [.int (-103 : Int32)]) (h' := h) rfl ?_
        exact Wp.ret (op_ix (by decide) ol_99 20 rfl) rfl K
    · replace K := K.2 c6
      refine Wp.blk (by decide) ol_117 7 1 (pc' := 14) (L' := [.int v1]) (S' := [.int (0 : Int32)]) (h' := h) rfl ?_
      refine Wp.ret (op_ix (by decide) ol_117 8 rfl) rfl ⟨_, rfl, ?_⟩
      refine Wp.blk (by decide) ol_99 2 1 (pc' := (if (0 : Int32) = (0 : Int32) then 7 else 10)) (L' := [.ref 2, .int v1]) (S' := []) (h' := h) rfl ?_
      refine Wp.br (fun _ => ?_) (fun hc => absurd (by decide) hc)
      refine Wp.blk (by decide) ol_99 3 1 (pc' := 9) (L' := [.ref 2, .int v1]) (S' := [.int (-101 : Int32)]) (h' := h) rfl ?_
      exact Wp.ret (op_ix (by decide) ol_99 4 rfl) rfl K
/-- CutsOrFast.answer at 0 (I)I -/
theorem g100_0 (d : Nat) (v1 : Int32) (h : AH) (HS : Sh h)  (Q : Option Value → AH → Prop) (K : ((v1 < (0 : Int32) → Q (some (.int (-101 : Int32))) h) ∧ (¬ v1 < (0 : Int32) → ((v1 < (AI h 5 5) → (Cl d 37 [.ref 5, .int (AI h 11 3), .int (AI h 11 4)] h (fun r h3 => ∃ x5 : Int32, r = some (.int x5) ∧ Sh h3 ∧ ((x5 = (0 : Int32) → (Cl (d + 1) 78 [.ref 11, .int v1] h3 (fun r h7 => ∃ x9 : Int32, r = some (.int x9) ∧ Sh h7 ∧ ((x9 = (0 : Int32) → (Cl (d + 2) 59 [.ref 17, .int (AI h7 11 3), .int (((AI h7 11 4)) ||| ((((1 : Int32)) <<< (v1 &&& 31)))), .int (0 : Int32)] h7 (fun r h11 => ∃ x13 : Int32, r = some (.int x13) ∧ Sh h11 ∧ Q (some (.int x13)) h11))) ∧ (¬ x9 = (0 : Int32) → Q (some (.int (-103 : Int32))) h7))))) ∧ (¬ x5 = (0 : Int32) → Q (some (.int (-103 : Int32))) h3))))) ∧ (¬ v1 < (AI h 5 5) → Q (some (.int (-101 : Int32))) h))))) : Wp (d + 3) 100 0 [.ref 2, .int v1] [] h Q := by
  refine Wp.blk (by decide) ol_100 0 2 (pc' := 2) (L' := [.ref 2, .int v1]) (S' := [.int v1, .ref 2]) (h' := h) rfl ?_
  refine Wp.callI (op_ix (by decide) ol_100 2 rfl) (act_virt (c2 := 1) rfl (lk1 (kS HS 2 rfl)) rfl) rfl (Cl.enter (L := [.ref 2, .int v1]) rfl ?_)
  refine Wp.blk (by decide) ol_116 0 2 (pc' := (if v1 < (0 : Int32) then 19 else 4)) (L' := [.ref 2, .int v1]) (S' := []) (h' := h) rfl ?_
  refine Wp.br (fun c1 => ?_) (fun c1 => ?_)
  · replace K := K.1 c1
    refine Wp.blk (by decide) ol_116 9 1 (pc' := 20) (L' := [.ref 2, .int v1]) (S' := [.int (0 : Int32)]) (h' := h) rfl ?_
    refine Wp.ret (op_ix (by decide) ol_116 10 rfl) rfl ⟨_, rfl, ?_⟩
    refine Wp.blk (by decide) ol_100 3 1 (pc' := (if (0 : Int32) = (0 : Int32) then 8 else 11)) (L' := [.ref 2, .int v1]) (S' := []) (h' := h) rfl ?_
    refine Wp.br (fun _ => ?_) (fun hc => absurd (by decide) hc)
    refine Wp.blk (by decide) ol_100 4 1 (pc' := 10) (L' := [.ref 2, .int v1]) (S' := [.int (-101 : Int32)]) (h' := h) rfl ?_
    exact Wp.ret (op_ix (by decide) ol_100 5 rfl) rfl K
  · replace K := K.2 c1
    refine Wp.blk (by decide) ol_116 2 2 (pc' := 6) (L' := [.ref 2, .int v1]) (S' := [.ref 2, .int v1]) (h' := h) rfl ?_
    refine Wp.getf (op_ix (by decide) ol_116 4 rfl) (okS HS 2 rfl rfl) (v := .ref 5) (congrArg va_rf (rS HS 2 1 rfl)) rfl ?_
    refine Wp.callI (op_ix (by decide) ol_116 5 rfl) (act_virt (c2 := 0) rfl (lk1 (kS HS 5 rfl)) rfl) rfl (Cl.enter (L := [.ref 5]) rfl ?_)
    refine Wp.blk (by decide) ol_26 0 1 (pc' := 1) (L' := [.ref 5]) (S' := [.ref 5]) (h' := h) rfl ?_
    refine Wp.getf (op_ix (by decide) ol_26 1 rfl) (okS HS 5 rfl rfl) (v := .int (AI h 5 5)) rfl rfl ?_
    refine Wp.ret (op_ix (by decide) ol_26 2 rfl) rfl ⟨_, rfl, ?_⟩
    refine Wp.blk (by decide) ol_116 6 1 (pc' := (if v1 < (AI h 5 5) then 15 else 19)) (L' := [.ref 2, .int v1]) (S' := []) (h' := h) rfl ?_
    refine Wp.br (fun c2 => ?_) (fun c2 => ?_)
    · replace K := K.1 c2
      refine Wp.blk (by decide) ol_116 7 2 (pc' := 20) (L' := [.ref 2, .int v1]) (S' := [.int (1 : Int32)]) (h' := h) rfl ?_
      refine Wp.ret (op_ix (by decide) ol_116 10 rfl) rfl ⟨_, rfl, ?_⟩
      refine Wp.blk (by decide) ol_100 3 1 (pc' := (if (1 : Int32) = (0 : Int32) then 8 else 11)) (L' := [.ref 2, .int v1]) (S' := []) (h' := h) rfl ?_
      refine Wp.br (fun hc => absurd hc (by decide)) (fun _ => ?_)
      refine Wp.blk (by decide) ol_100 6 2 (pc' := 13) (L' := [.ref 2, .int v1]) (S' := [.int v1, .ref 2]) (h' := h) rfl ?_
      refine Wp.callI (op_ix (by decide) ol_100 8 rfl) (act_virt (c2 := 1) rfl (lk1 (kS HS 2 rfl)) rfl) rfl (Cl.enter (L := [.ref 2, .int v1]) rfl ?_)
      refine Wp.blk (by decide) ol_119 0 1 (pc' := 1) (L' := [.ref 2, .int v1]) (S' := [.ref 2]) (h' := h) rfl ?_
      refine Wp.getf (op_ix (by decide) ol_119 1 rfl) (okS HS 2 rfl rfl) (v := .ref 11) (congrArg va_rf (rS HS 2 2 rfl)) rfl ?_
      refine Wp.callI (op_ix (by decide) ol_119 2 rfl) (act_virt (c2 := 0) rfl (lk1 (kS HS 11 rfl)) rfl) rfl (Cl.enter (L := [.ref 11]) rfl ?_)
      refine Wp.blk (by decide) ol_77 0 1 (pc' := 1) (L' := [.ref 11]) (S' := [.ref 11]) (h' := h) rfl ?_
      refine Wp.getf (op_ix (by decide) ol_77 1 rfl) (okS HS 11 rfl rfl) (v := .ref 5) (congrArg va_rf (rS HS 11 0 rfl)) rfl ?_
      refine Wp.blk (by decide) ol_77 2 1 (pc' := 5) (L' := [.ref 11]) (S' := [.ref 11, .ref 5]) (h' := h) rfl ?_
      refine Wp.getf (op_ix (by decide) ol_77 3 rfl) (okS HS 11 rfl rfl) (v := .int (AI h 11 3)) rfl rfl ?_
      refine Wp.blk (by decide) ol_77 4 1 (pc' := 9) (L' := [.ref 11]) (S' := [.ref 11, .int (AI h 11 3), .ref 5]) (h' := h) rfl ?_
      refine Wp.getf (op_ix (by decide) ol_77 5 rfl) (okS HS 11 rfl rfl) (v := .int (AI h 11 4)) rfl rfl ?_
      refine Wp.callI (op_ix (by decide) ol_77 6 rfl) (act_virt (c2 := 2) rfl (lk1 (kS HS 5 rfl)) rfl) rfl (K.mono ?_)
      rintro _ h3 ⟨x5, rfl, hs4, K⟩
      refine ⟨x5, rfl, ?_⟩
      refine Wp.ret (op_ix (by decide) ol_77 7 rfl) rfl ⟨_, rfl, ?_⟩
      refine Wp.blk (by decide) ol_119 3 1 (pc' := (if x5 = (0 : Int32) then 10 else 25)) (L' := [.ref 2, .int v1]) (S' := []) (h' := h3) rfl ?_
      refine Wp.br (fun c6 => ?_) (fun c6 => ?_)
      · replace K := K.1 c6
        refine Wp.blk (by decide) ol_119 4 1 (pc' := 11) (L' := [.ref 2, .int v1]) (S' := [.ref 2]) (h' := h3) rfl ?_
        refine Wp.getf (op_ix (by decide) ol_119 5 rfl) (okS hs4 2 rfl rfl) (v := .ref 11) (congrArg va_rf (rS hs4 2 2 rfl)) rfl ?_
        refine Wp.blk (by decide) ol_119 6 1 (pc' := 15) (L' := [.ref 2, .int v1]) (S' := [.int v1, .ref 11]) (h' := h3) rfl ?_
        refine Wp.callI (op_ix (by decide) ol_119 7 rfl) (act_virt (c2 := 1) rfl (lk1 (kS hs4 11 rfl)) rfl) rfl (K.mono ?_)
        rintro _ h7 ⟨x9, rfl, hs8, K⟩
        refine ⟨x9, rfl, ?_⟩
        refine Wp.blk (by decide) ol_119 8 1 (pc' := (if x9 = (0 : Int32) then 21 else 25)) (L' := [.ref 2, .int v1]) (S' := []) (h' := h7) rfl ?_
        refine Wp.br (fun c10 => ?_) (fun c10 => ?_)
        · replace K := K.1 c10
          refine Wp.blk (by decide) ol_119 9 2 (pc' := 26) (L' := [.ref 2, .int v1]) (S' := [.int (1 : Int32)]) (h' := h7) rfl ?_
          refine Wp.ret (op_ix (by decide) ol_119 12 rfl) rfl ⟨_, rfl, ?_⟩
          refine Wp.blk (by decide) ol_100 9 1 (pc' := (if (1 : Int32) = (0 : Int32) then 19 else 22)) (L' := [.ref 2, .int v1]) (S' := []) (h' := h7) rfl ?_
          refine Wp.br (fun hc => absurd hc (by decide)) (fun _ => ?_)
          refine Wp.blk (by decide) ol_100 12 1 (pc' := 23) (L' := [.ref 2, .int v1]) (S' := [.ref 2]) (h' := h7) rfl ?_
          refine Wp.getf (op_ix (by decide) ol_100 13 rfl) (okS hs8 2 rfl rfl) (v := .ref 17) (congrArg va_rf (rS hs8 2 5 rfl)) rfl ?_
          refine Wp.blk (by decide) ol_100 14 1 (pc' := 27) (L' := [.ref 2, .int v1]) (S' := [.ref 2, .ref 17]) (h' := h7) rfl ?_
          refine Wp.getf (op_ix (by decide) ol_100 15 rfl) (okS hs8 2 rfl rfl) (v := .ref 11) (congrArg va_rf (rS hs8 2 2 rfl)) rfl ?_
          refine Wp.callI (op_ix (by decide) ol_100 16 rfl) (act_virt (c2 := 0) rfl (lk1 (kS hs8 11 rfl)) rfl) rfl (Cl.enter (L := [.ref 11]) rfl ?_)
          refine Wp.blk (by decide) ol_84 0 1 (pc' := 1) (L' := [.ref 11]) (S' := [.ref 11]) (h' := h7) rfl ?_
          refine Wp.getf (op_ix (by decide) ol_84 1 rfl) (okS hs8 11 rfl rfl) (v := .int (AI h7 11 3)) rfl rfl ?_
          refine Wp.ret (op_ix (by decide) ol_84 2 rfl) rfl ⟨_, rfl, ?_⟩
          refine Wp.blk (by decide) ol_100 17 1 (pc' := 34) (L' := [.ref 2, .int v1]) (S' := [.ref 2, .int (AI h7 11 3), .ref 17]) (h' := h7) rfl ?_
          refine Wp.getf (op_ix (by decide) ol_100 18 rfl) (okS hs8 2 rfl rfl) (v := .ref 11) (congrArg va_rf (rS hs8 2 2 rfl)) rfl ?_
          refine Wp.callI (op_ix (by decide) ol_100 19 rfl) (act_virt (c2 := 0) rfl (lk1 (kS hs8 11 rfl)) rfl) rfl (Cl.enter (L := [.ref 11]) rfl ?_)
          refine Wp.blk (by decide) ol_85 0 1 (pc' := 1) (L' := [.ref 11]) (S' := [.ref 11]) (h' := h7) rfl ?_
          refine Wp.getf (op_ix (by decide) ol_85 1 rfl) (okS hs8 11 rfl rfl) (v := .int (AI h7 11 4)) rfl rfl ?_
          refine Wp.ret (op_ix (by decide) ol_85 2 rfl) rfl ⟨_, rfl, ?_⟩
          refine Wp.blk (by decide) ol_100 20 5 (pc' := 45) (L' := [.ref 2, .int v1]) (S' := [.int (0 : Int32), .int (((AI h7 11 4)) ||| ((((1 : Int32)) <<< (v1 &&& 31)))), .int (AI h7 11 3), .ref 17]) (h' := h7) rfl ?_
          refine Wp.callI (op_ix (by decide) ol_100 25 rfl) (act_virt (c2 := 3) rfl (lk1 (kS hs8 17 rfl)) rfl) rfl (K.mono ?_)
          rintro _ h11 ⟨x13, rfl, hs12, K⟩
          refine ⟨x13, rfl, ?_⟩
          exact Wp.ret (op_ix (by decide) ol_100 26 rfl) rfl K
        · replace K := K.2 c10
          refine Wp.blk (by decide) ol_119 11 1 (pc' := 26) (L' := [.ref 2, .int v1]) (S' := [.int (0 : Int32)]) (h' := h7) rfl ?_
          refine Wp.ret (op_ix (by decide) ol_119 12 rfl) rfl ⟨_, rfl, ?_⟩
          refine Wp.blk (by decide) ol_100 9 1 (pc' := (if (0 : Int32) = (0 : Int32) then 19 else 22)) (L' := [.ref 2, .int v1]) (S' := []) (h' := h7) rfl ?_
          refine Wp.br (fun _ => ?_) (fun hc => absurd (by decide) hc)
          refine Wp.blk (by decide) ol_100 10 1 (pc' := 21) (L' := [.ref 2, .int v1]) (S' := [.int (-103 : Int32)]) (h' := h7) rfl ?_
          exact Wp.ret (op_ix (by decide) ol_100 11 rfl) rfl K
      · replace K := K.2 c6
        refine Wp.blk (by decide) ol_119 11 1 (pc' := 26) (L' := [.ref 2, .int v1]) (S' := [.int (0 : Int32)]) (h' := h3) rfl ?_
        refine Wp.ret (op_ix (by decide) ol_119 12 rfl) rfl ⟨_, rfl, ?_⟩
        refine Wp.blk (by decide) ol_100 9 1 (pc' := (if (0 : Int32) = (0 : Int32) then 19 else 22)) (L' := [.ref 2, .int v1]) (S' := []) (h' := h3) rfl ?_
        refine Wp.br (fun _ => ?_) (fun hc => absurd (by decide) hc)
        refine Wp.blk (by decide) ol_100 10 1 (pc' := 21) (L' := [.ref 2, .int v1]) (S' := [.int (-103 : Int32)]) (h' := h3) rfl ?_
        exact Wp.ret (op_ix (by decide) ol_100 11 rfl) rfl K
    · replace K := K.2 c2
      refine Wp.blk (by decide) ol_116 9 1 (pc' := 20) (L' := [.ref 2, .int v1]) (S' := [.int (0 : Int32)]) (h' := h) rfl ?_
      refine Wp.ret (op_ix (by decide) ol_116 10 rfl) rfl ⟨_, rfl, ?_⟩
      refine Wp.blk (by decide) ol_100 3 1 (pc' := (if (0 : Int32) = (0 : Int32) then 8 else 11)) (L' := [.ref 2, .int v1]) (S' := []) (h' := h) rfl ?_
      refine Wp.br (fun _ => ?_) (fun hc => absurd (by decide) hc)
      refine Wp.blk (by decide) ol_100 4 1 (pc' := 10) (L' := [.ref 2, .int v1]) (S' := [.int (-101 : Int32)]) (h' := h) rfl ?_
      exact Wp.ret (op_ix (by decide) ol_100 5 rfl) rfl K
/-- CutsOrFast.lost at 0 ()I -/
theorem g101_0 (d : Nat)  (h : AH) (HS : Sh h)  (Q : Option Value → AH → Prop) (K : (((0 : Int32) < (AI h 5 5) → (Cl (d + 1) 73 [.ref 15, .ref 11] h (fun r h2 => r = none ∧ Sh h2 ∧ (Cl (d + 1) 76 [.ref 15] h2 (fun r h4 => r = none ∧ Sh h4 ∧ Wp (d + 2) 101 30 [.ref 2, .int (0 : Int32), mk0, mk0] [] h4 Q))))) ∧ (¬ (0 : Int32) < (AI h 5 5) → Q (some (.int (-103 : Int32))) h))) : Wp (d + 2) 101 0 [.ref 2, mk0, mk0, mk0] [] h Q := by
  refine Wp.blk (by decide) ol_101 0 1 (pc' := 1) (L' := [.ref 2, mk0, mk0, mk0]) (S' := [.ref 2]) (h' := h) rfl ?_
  refine Wp.callI (op_ix (by decide) ol_101 1 rfl) (act_virt (c2 := 0) rfl (lk1 (kS HS 2 rfl)) rfl) rfl (Cl.enter (L := [.ref 2]) rfl ?_)
  refine Wp.blk (by decide) ol_115 0 1 (pc' := 1) (L' := [.ref 2]) (S' := [.ref 2]) (h' := h) rfl ?_
  refine Wp.getf (op_ix (by decide) ol_115 1 rfl) (okS HS 2 rfl rfl) (v := .ref 5) (congrArg va_rf (rS HS 2 1 rfl)) rfl ?_
  refine Wp.callI (op_ix (by decide) ol_115 2 rfl) (act_virt (c2 := 0) rfl (lk1 (kS HS 5 rfl)) rfl) rfl (Cl.enter (L := [.ref 5]) rfl ?_)
  refine Wp.blk (by decide) ol_26 0 1 (pc' := 1) (L' := [.ref 5]) (S' := [.ref 5]) (h' := h) rfl ?_
  refine Wp.getf (op_ix (by decide) ol_26 1 rfl) (okS HS 5 rfl rfl) (v := .int (AI h 5 5)) rfl rfl ?_
  refine Wp.ret (op_ix (by decide) ol_26 2 rfl) rfl ⟨_, rfl, ?_⟩
  refine Wp.blk (by decide) ol_115 3 1 (pc' := (if (0 : Int32) < (AI h 5 5) then 10 else 14)) (L' := [.ref 2]) (S' := []) (h' := h) rfl ?_
  refine Wp.br (fun c1 => ?_) (fun c1 => ?_)
  · replace K := K.1 c1
    refine Wp.blk (by decide) ol_115 4 2 (pc' := 15) (L' := [.ref 2]) (S' := [.int (1 : Int32)]) (h' := h) rfl ?_
    refine Wp.ret (op_ix (by decide) ol_115 7 rfl) rfl ⟨_, rfl, ?_⟩
    refine Wp.blk (by decide) ol_101 2 1 (pc' := (if (1 : Int32) = (0 : Int32) then 7 else 10)) (L' := [.ref 2, mk0, mk0, mk0]) (S' := []) (h' := h) rfl ?_
    refine Wp.br (fun hc => absurd hc (by decide)) (fun _ => ?_)
    refine Wp.blk (by decide) ol_101 5 1 (pc' := 11) (L' := [.ref 2, mk0, mk0, mk0]) (S' := [.ref 2]) (h' := h) rfl ?_
    refine Wp.getf (op_ix (by decide) ol_101 6 rfl) (okS HS 2 rfl rfl) (v := .ref 15) (congrArg va_rf (rS HS 2 4 rfl)) rfl ?_
    refine Wp.blk (by decide) ol_101 7 1 (pc' := 15) (L' := [.ref 2, mk0, mk0, mk0]) (S' := [.ref 2, .ref 15]) (h' := h) rfl ?_
    refine Wp.getf (op_ix (by decide) ol_101 8 rfl) (okS HS 2 rfl rfl) (v := .ref 11) (congrArg va_rf (rS HS 2 2 rfl)) rfl ?_
    refine Wp.callV (op_ix (by decide) ol_101 9 rfl) (act_virt (c2 := 1) rfl (lk1 (kS HS 15 rfl)) rfl) rfl (K.mono ?_)
    rintro _ h2 ⟨rfl, hs3, K⟩
    refine ⟨rfl, ?_⟩
    refine Wp.blk (by decide) ol_101 10 1 (pc' := 22) (L' := [.ref 2, mk0, mk0, mk0]) (S' := [.ref 2]) (h' := h2) rfl ?_
    refine Wp.getf (op_ix (by decide) ol_101 11 rfl) (okS hs3 2 rfl rfl) (v := .ref 15) (congrArg va_rf (rS hs3 2 4 rfl)) rfl ?_
    refine Wp.callV (op_ix (by decide) ol_101 12 rfl) (act_virt (c2 := 0) rfl (lk1 (kS hs3 15 rfl)) rfl) rfl (K.mono ?_)
    rintro _ h4 ⟨rfl, hs5, K⟩
    refine ⟨rfl, ?_⟩
    refine Wp.blk (by decide) ol_101 13 2 (pc' := 30) (L' := [.ref 2, .int (0 : Int32), mk0, mk0]) (S' := []) (h' := h4) rfl ?_
    exact K
  · replace K := K.2 c1
    refine Wp.blk (by decide) ol_115 6 1 (pc' := 15) (L' := [.ref 2]) (S' := [.int (0 : Int32)]) (h' := h) rfl ?_
    refine Wp.ret (op_ix (by decide) ol_115 7 rfl) rfl ⟨_, rfl, ?_⟩
    refine Wp.blk (by decide) ol_101 2 1 (pc' := (if (0 : Int32) = (0 : Int32) then 7 else 10)) (L' := [.ref 2, mk0, mk0, mk0]) (S' := []) (h' := h) rfl ?_
    refine Wp.br (fun _ => ?_) (fun hc => absurd (by decide) hc)
    refine Wp.blk (by decide) ol_101 3 1 (pc' := 9) (L' := [.ref 2, mk0, mk0, mk0]) (S' := [.int (-103 : Int32)]) (h' := h) rfl ?_
    exact Wp.ret (op_ix (by decide) ol_101 4 rfl) rfl K
/-- CutsOrFast.lost at 30 -/
theorem g101_30 (d : Nat) (v1 : Int32) (h : AH) (HS : Sh h)  (Q : Option Value → AH → Prop) (K : ((v1 < (AI h 11 2) → (Cl d 58 [.ref 17, .int (AI h 15 3), .int (AI h 15 4), .int (AI h 15 5)] h (fun r h2 => ∃ x4 : Int32, r = some (.int x4) ∧ Sh h2 ∧ ((x4 = (AI h 15 5) → Wp (d + 1) 101 80 [.ref 2, .int v1, .int (AI h 15 5), mk0] [.int (1 : Int32)] h2 Q) ∧ (¬ x4 = (AI h 15 5) → Wp (d + 1) 101 80 [.ref 2, .int v1, .int (AI h 15 5), mk0] [.int (0 : Int32)] h2 Q))))) ∧ (¬ v1 < (AI h 11 2) → Q (some (.int (-1 : Int32))) h))) : Wp (d + 1) 101 30 [.ref 2, .int v1, mk0, mk0] [] h Q := by
  refine Wp.blk (by decide) ol_101 15 2 (pc' := 32) (L' := [.ref 2, .int v1, mk0, mk0]) (S' := [.ref 2, .int v1]) (h' := h) rfl ?_
  refine Wp.getf (op_ix (by decide) ol_101 17 rfl) (okS HS 2 rfl rfl) (v := .ref 11) (congrArg va_rf (rS HS 2 2 rfl)) rfl ?_
  refine Wp.callI (op_ix (by decide) ol_101 18 rfl) (act_virt (c2 := 0) rfl (lk1 (kS HS 11 rfl)) rfl) rfl (Cl.enter (L := [.ref 11]) rfl ?_)
  refine Wp.blk (by decide) ol_80 0 1 (pc' := 1) (L' := [.ref 11]) (S' := [.ref 11]) (h' := h) rfl ?_
  refine Wp.getf (op_ix (by decide) ol_80 1 rfl) (okS HS 11 rfl rfl) (v := .int (AI h 11 2)) rfl rfl ?_
  refine Wp.ret (op_ix (by decide) ol_80 2 rfl) rfl ⟨_, rfl, ?_⟩
  refine Wp.blk (by decide) ol_101 19 1 (pc' := (if v1 < (AI h 11 2) then 41 else 140)) (L' := [.ref 2, .int v1, mk0, mk0]) (S' := []) (h' := h) rfl ?_
  refine Wp.br (fun c1 => ?_) (fun c1 => ?_)
  · replace K := K.1 c1
    refine Wp.blk (by decide) ol_101 20 1 (pc' := 42) (L' := [.ref 2, .int v1, mk0, mk0]) (S' := [.ref 2]) (h' := h) rfl ?_
    refine Wp.getf (op_ix (by decide) ol_101 21 rfl) (okS HS 2 rfl rfl) (v := .ref 15) (congrArg va_rf (rS HS 2 4 rfl)) rfl ?_
    refine Wp.callI (op_ix (by decide) ol_101 22 rfl) (act_virt (c2 := 0) rfl (lk1 (kS HS 15 rfl)) rfl) rfl (Cl.enter (L := [.ref 15]) rfl ?_)
    refine Wp.blk (by decide) ol_82 0 1 (pc' := 1) (L' := [.ref 15]) (S' := [.ref 15]) (h' := h) rfl ?_
    refine Wp.getf (op_ix (by decide) ol_82 1 rfl) (okS HS 15 rfl rfl) (v := .int (AI h 15 5)) rfl rfl ?_
    refine Wp.ret (op_ix (by decide) ol_82 2 rfl) rfl ⟨_, rfl, ?_⟩
    refine Wp.blk (by decide) ol_101 23 2 (pc' := 50) (L' := [.ref 2, .int v1, .int (AI h 15 5), mk0]) (S' := [.ref 2]) (h' := h) rfl ?_
    refine Wp.getf (op_ix (by decide) ol_101 25 rfl) (okS HS 2 rfl rfl) (v := .ref 17) (congrArg va_rf (rS HS 2 5 rfl)) rfl ?_
    refine Wp.blk (by decide) ol_101 26 1 (pc' := 54) (L' := [.ref 2, .int v1, .int (AI h 15 5), mk0]) (S' := [.ref 2, .ref 17]) (h' := h) rfl ?_
    refine Wp.getf (op_ix (by decide) ol_101 27 rfl) (okS HS 2 rfl rfl) (v := .ref 15) (congrArg va_rf (rS HS 2 4 rfl)) rfl ?_
    refine Wp.callI (op_ix (by decide) ol_101 28 rfl) (act_virt (c2 := 0) rfl (lk1 (kS HS 15 rfl)) rfl) rfl (Cl.enter (L := [.ref 15]) rfl ?_)
    refine Wp.blk (by decide) ol_84 0 1 (pc' := 1) (L' := [.ref 15]) (S' := [.ref 15]) (h' := h) rfl ?_
    refine Wp.getf (op_ix (by decide) ol_84 1 rfl) (okS HS 15 rfl rfl) (v := .int (AI h 15 3)) rfl rfl ?_
    refine Wp.ret (op_ix (by decide) ol_84 2 rfl) rfl ⟨_, rfl, ?_⟩
    refine Wp.blk (by decide) ol_101 29 1 (pc' := 61) (L' := [.ref 2, .int v1, .int (AI h 15 5), mk0]) (S' := [.ref 2, .int (AI h 15 3), .ref 17]) (h' := h) rfl ?_
    refine Wp.getf (op_ix (by decide) ol_101 30 rfl) (okS HS 2 rfl rfl) (v := .ref 15) (congrArg va_rf (rS HS 2 4 rfl)) rfl ?_
    refine Wp.callI (op_ix (by decide) ol_101 31 rfl) (act_virt (c2 := 0) rfl (lk1 (kS HS 15 rfl)) rfl) rfl (Cl.enter (L := [.ref 15]) rfl ?_)
    refine Wp.blk (by decide) ol_85 0 1 (pc' := 1) (L' := [.ref 15]) (S' := [.ref 15]) (h' := h) rfl ?_
    refine Wp.getf (op_ix (by decide) ol_85 1 rfl) (okS HS 15 rfl rfl) (v := .int (AI h 15 4)) rfl rfl ?_
    refine Wp.ret (op_ix (by decide) ol_85 2 rfl) rfl ⟨_, rfl, ?_⟩
    refine Wp.blk (by decide) ol_101 32 1 (pc' := 68) (L' := [.ref 2, .int v1, .int (AI h 15 5), mk0]) (S' := [.int (AI h 15 5), .int (AI h 15 4), .int (AI h 15 3), .ref 17]) (h' := h) rfl ?_
    refine Wp.callI (op_ix (by decide) ol_101 33 rfl) (act_virt (c2 := 3) rfl (lk1 (kS HS 17 rfl)) rfl) rfl (K.mono ?_)
    rintro _ h2 ⟨x4, rfl, hs3, K⟩
    refine ⟨x4, rfl, ?_⟩
    refine Wp.blk (by decide) ol_101 34 2 (pc' := (if x4 = (AI h 15 5) then 75 else 79)) (L' := [.ref 2, .int v1, .int (AI h 15 5), mk0]) (S' := []) (h' := h2) rfl ?_
    refine Wp.br (fun c5 => ?_) (fun c5 => ?_)
    · replace K := K.1 c5
      refine Wp.blk (by decide) ol_101 36 2 (pc' := 80) (L' := [.ref 2, .int v1, .int (AI h 15 5), mk0]) (S' := [.int (1 : Int32)]) (h' := h2) rfl ?_
      exact K
    · replace K := K.2 c5
      refine Wp.blk (by decide) ol_101 38 1 (pc' := 80) (L' := [.ref 2, .int v1, .int (AI h 15 5), mk0]) (S' := [.int (0 : Int32)]) (h' := h2) rfl ?_
      exact K
  · replace K := K.2 c1
    refine Wp.blk (by decide) ol_101 67 1 (pc' := 141) (L' := [.ref 2, .int v1, mk0, mk0]) (S' := [.int (-1 : Int32)]) (h' := h) rfl ?_
    exact Wp.ret (op_ix (by decide) ol_101 68 rfl) rfl K
/-- CutsOrFast.lost at 80 -/
theorem g101_80 (d : Nat) (v1 : Int32) (v2 : Int32) (s0 : Int32) (h : AH) (HS : Sh h)  (Q : Option Value → AH → Prop) (K : (Cl (d + 1) 74 [.ref 15, .int (atv h 12 v1)] h (fun r h1 => r = none ∧ Sh h1 ∧ ((s0 = (0 : Int32) → Wp (d + 2) 101 30 [.ref 2, .int (v1 + (1 : Int32)), mk0, mk0] [] h1 Q) ∧ (¬ s0 = (0 : Int32) → (Cl (d + 1) 58 [.ref 17, .int (AI h1 15 3), .int (AI h1 15 4), .int (AI h1 15 5)] h1 (fun r h4 => ∃ x6 : Int32, r = some (.int x6) ∧ Sh h4 ∧ ((x6 = v2 → Wp (d + 2) 101 30 [.ref 2, .int (v1 + (1 : Int32)), mk0, mk0] [] h4 Q) ∧ (¬ x6 = v2 → Q (some (.int v1)) h4))))))))) : Wp (d + 2) 101 80 [.ref 2, .int v1, .int v2, mk0] [.int s0] h Q := by
  refine Wp.blk (by decide) ol_101 39 2 (pc' := 82) (L' := [.ref 2, .int v1, .int v2, .int s0]) (S' := [.ref 2]) (h' := h) rfl ?_
  refine Wp.getf (op_ix (by decide) ol_101 41 rfl) (okS HS 2 rfl rfl) (v := .ref 15) (congrArg va_rf (rS HS 2 4 rfl)) rfl ?_
  refine Wp.blk (by decide) ol_101 42 1 (pc' := 86) (L' := [.ref 2, .int v1, .int v2, .int s0]) (S' := [.ref 2, .ref 15]) (h' := h) rfl ?_
  refine Wp.getf (op_ix (by decide) ol_101 43 rfl) (okS HS 2 rfl rfl) (v := .ref 11) (congrArg va_rf (rS HS 2 2 rfl)) rfl ?_
  refine Wp.blk (by decide) ol_101 44 1 (pc' := 90) (L' := [.ref 2, .int v1, .int v2, .int s0]) (S' := [.int v1, .ref 11, .ref 15]) (h' := h) rfl ?_
  refine Wp.callI (op_ix (by decide) ol_101 45 rfl) (act_virt (c2 := 1) rfl (lk1 (kS HS 11 rfl)) rfl) rfl (Cl.enter (L := [.ref 11, .int v1]) rfl ?_)
  refine Wp.blk (by decide) ol_81 0 1 (pc' := 1) (L' := [.ref 11, .int v1]) (S' := [.ref 11]) (h' := h) rfl ?_
  refine Wp.getf (op_ix (by decide) ol_81 1 rfl) (okS HS 11 rfl rfl) (v := .ref 12) (congrArg va_rf (rS HS 11 1 rfl)) rfl ?_
  refine Wp.blk (by decide) ol_81 2 1 (pc' := 5) (L' := [.ref 11, .int v1]) (S' := [.int v1, .ref 12]) (h' := h) rfl ?_
  refine Wp.callI (op_ix (by decide) ol_81 3 rfl) rfl rfl (sp_at (kS HS 12 rfl) (nS HS 12 rfl) ?_)
  refine ⟨_, rfl, ?_⟩
  refine Wp.ret (op_ix (by decide) ol_81 4 rfl) rfl ⟨_, rfl, ?_⟩
  refine Wp.callV (op_ix (by decide) ol_101 46 rfl) (act_virt (c2 := 1) rfl (lk1 (kS HS 15 rfl)) rfl) rfl (K.mono ?_)
  rintro _ h1 ⟨rfl, hs2, K⟩
  refine ⟨rfl, ?_⟩
  refine Wp.blk (by decide) ol_101 47 2 (pc' := (if s0 = (0 : Int32) then 134 else 100)) (L' := [.ref 2, .int v1, .int v2, .int s0]) (S' := []) (h' := h1) rfl ?_
  refine Wp.br (fun c3 => ?_) (fun c3 => ?_)
  · replace K := K.1 c3
    refine Wp.blk (by decide) ol_101 65 2 (pc' := 30) (L' := [.ref 2, .int (v1 + (1 : Int32)), .int v2, .int s0]) (S' := []) (h' := h1) rfl ?_
    refine Wp.forget (L := [.ref 2, .int (v1 + (1 : Int32)), mk0, mk0]) (⟨Or.inr rfl, ⟨Or.inr rfl, ⟨Or.inl rfl, ⟨Or.inl rfl, trivial⟩⟩⟩⟩) ?_
    exact K
  · replace K := K.2 c3
    refine Wp.blk (by decide) ol_101 49 1 (pc' := 101) (L' := [.ref 2, .int v1, .int v2, .int s0]) (S' := [.ref 2]) (h' := h1) rfl ?_
    refine Wp.getf (op_ix (by decide) ol_101 50 rfl) (okS hs2 2 rfl rfl) (v := .ref 17) (congrArg va_rf (rS hs2 2 5 rfl)) rfl ?_
    refine Wp.blk (by decide) ol_101 51 1 (pc' := 105) (L' := [.ref 2, .int v1, .int v2, .int s0]) (S' := [.ref 2, .ref 17]) (h' := h1) rfl ?_
    refine Wp.getf (op_ix (by decide) ol_101 52 rfl) (okS hs2 2 rfl rfl) (v := .ref 15) (congrArg va_rf (rS hs2 2 4 rfl)) rfl ?_
    refine Wp.callI (op_ix (by decide) ol_101 53 rfl) (act_virt (c2 := 0) rfl (lk1 (kS hs2 15 rfl)) rfl) rfl (Cl.enter (L := [.ref 15]) rfl ?_)
    refine Wp.blk (by decide) ol_84 0 1 (pc' := 1) (L' := [.ref 15]) (S' := [.ref 15]) (h' := h1) rfl ?_
    refine Wp.getf (op_ix (by decide) ol_84 1 rfl) (okS hs2 15 rfl rfl) (v := .int (AI h1 15 3)) rfl rfl ?_
    refine Wp.ret (op_ix (by decide) ol_84 2 rfl) rfl ⟨_, rfl, ?_⟩
    refine Wp.blk (by decide) ol_101 54 1 (pc' := 112) (L' := [.ref 2, .int v1, .int v2, .int s0]) (S' := [.ref 2, .int (AI h1 15 3), .ref 17]) (h' := h1) rfl ?_
    refine Wp.getf (op_ix (by decide) ol_101 55 rfl) (okS hs2 2 rfl rfl) (v := .ref 15) (congrArg va_rf (rS hs2 2 4 rfl)) rfl ?_
    refine Wp.callI (op_ix (by decide) ol_101 56 rfl) (act_virt (c2 := 0) rfl (lk1 (kS hs2 15 rfl)) rfl) rfl (Cl.enter (L := [.ref 15]) rfl ?_)
    refine Wp.blk (by decide) ol_85 0 1 (pc' := 1) (L' := [.ref 15]) (S' := [.ref 15]) (h' := h1) rfl ?_
    refine Wp.getf (op_ix (by decide) ol_85 1 rfl) (okS hs2 15 rfl rfl) (v := .int (AI h1 15 4)) rfl rfl ?_
    refine Wp.ret (op_ix (by decide) ol_85 2 rfl) rfl ⟨_, rfl, ?_⟩
    refine Wp.blk (by decide) ol_101 57 1 (pc' := 119) (L' := [.ref 2, .int v1, .int v2, .int s0]) (S' := [.ref 2, .int (AI h1 15 4), .int (AI h1 15 3), .ref 17]) (h' := h1) rfl ?_
    refine Wp.getf (op_ix (by decide) ol_101 58 rfl) (okS hs2 2 rfl rfl) (v := .ref 15) (congrArg va_rf (rS hs2 2 4 rfl)) rfl ?_
    refine Wp.callI (op_ix (by decide) ol_101 59 rfl) (act_virt (c2 := 0) rfl (lk1 (kS hs2 15 rfl)) rfl) rfl (Cl.enter (L := [.ref 15]) rfl ?_)
    refine Wp.blk (by decide) ol_82 0 1 (pc' := 1) (L' := [.ref 15]) (S' := [.ref 15]) (h' := h1) rfl ?_
    refine Wp.getf (op_ix (by decide) ol_82 1 rfl) (okS hs2 15 rfl rfl) (v := .int (AI h1 15 5)) rfl rfl ?_
    refine Wp.ret (op_ix (by decide) ol_82 2 rfl) rfl ⟨_, rfl, ?_⟩
    refine Wp.callI (op_ix (by decide) ol_101 60 rfl) (act_virt (c2 := 3) rfl (lk1 (kS hs2 17 rfl)) rfl) rfl (K.mono ?_)
    rintro _ h4 ⟨x6, rfl, hs5, K⟩
    refine ⟨x6, rfl, ?_⟩
    refine Wp.blk (by decide) ol_101 61 2 (pc' := (if x6 = v2 then 134 else 132)) (L' := [.ref 2, .int v1, .int v2, .int s0]) (S' := []) (h' := h4) rfl ?_
    refine Wp.br (fun c7 => ?_) (fun c7 => ?_)
    · replace K := K.1 c7
      refine Wp.blk (by decide) ol_101 65 2 (pc' := 30) (L' := [.ref 2, .int (v1 + (1 : Int32)), .int v2, .int s0]) (S' := []) (h' := h4) rfl ?_
      refine Wp.forget (L := [.ref 2, .int (v1 + (1 : Int32)), mk0, mk0]) (⟨Or.inr rfl, ⟨Or.inr rfl, ⟨Or.inl rfl, ⟨Or.inl rfl, trivial⟩⟩⟩⟩) ?_
      exact K
    · replace K := K.2 c7
      refine Wp.blk (by decide) ol_101 63 1 (pc' := 133) (L' := [.ref 2, .int v1, .int v2, .int s0]) (S' := [.int v1]) (h' := h4) rfl ?_
      exact Wp.ret (op_ix (by decide) ol_101 64 rfl) rfl K
/-- CutsOrFast.ways at 0 ()I -/
theorem g102_0 (d : Nat)  (h : AH) (HS : Sh h)  (Q : Option Value → AH → Prop) (K : (((0 : Int32) < (AI h 5 5) → (Cl (d + 1) 66 [.ref 20, .int (AI h 11 3), .int (AI h 11 4)] h (fun r h2 => ∃ x4 : Int32, r = some (.int x4) ∧ Sh h2 ∧ Q (some (.int x4)) h2))) ∧ (¬ (0 : Int32) < (AI h 5 5) → Q (some (.int (-103 : Int32))) h))) : Wp (d + 2) 102 0 [.ref 2] [] h Q := by
  refine Wp.blk (by decide) ol_102 0 1 (pc' := 1) (L' := [.ref 2]) (S' := [.ref 2]) (h' := h) rfl ?_
  refine Wp.callI (op_ix (by decide) ol_102 1 rfl) (act_virt (c2 := 0) rfl (lk1 (kS HS 2 rfl)) rfl) rfl (Cl.enter (L := [.ref 2]) rfl ?_)
  refine Wp.blk (by decide) ol_115 0 1 (pc' := 1) (L' := [.ref 2]) (S' := [.ref 2]) (h' := h) rfl ?_
  refine Wp.getf (op_ix (by decide) ol_115 1 rfl) (okS HS 2 rfl rfl) (v := .ref 5) (congrArg va_rf (rS HS 2 1 rfl)) rfl ?_
  refine Wp.callI (op_ix (by decide) ol_115 2 rfl) (act_virt (c2 := 0) rfl (lk1 (kS HS 5 rfl)) rfl) rfl (Cl.enter (L := [.ref 5]) rfl ?_)
  refine Wp.blk (by decide) ol_26 0 1 (pc' := 1) (L' := [.ref 5]) (S' := [.ref 5]) (h' := h) rfl ?_
  refine Wp.getf (op_ix (by decide) ol_26 1 rfl) (okS HS 5 rfl rfl) (v := .int (AI h 5 5)) rfl rfl ?_
  refine Wp.ret (op_ix (by decide) ol_26 2 rfl) rfl ⟨_, rfl, ?_⟩
  refine Wp.blk (by decide) ol_115 3 1 (pc' := (if (0 : Int32) < (AI h 5 5) then 10 else 14)) (L' := [.ref 2]) (S' := []) (h' := h) rfl ?_
  refine Wp.br (fun c1 => ?_) (fun c1 => ?_)
  · replace K := K.1 c1
    refine Wp.blk (by decide) ol_115 4 2 (pc' := 15) (L' := [.ref 2]) (S' := [.int (1 : Int32)]) (h' := h) rfl ?_
    refine Wp.ret (op_ix (by decide) ol_115 7 rfl) rfl ⟨_, rfl, ?_⟩
    refine Wp.blk (by decide) ol_102 2 1 (pc' := (if (1 : Int32) = (0 : Int32) then 31 else 7)) (L' := [.ref 2]) (S' := []) (h' := h) rfl ?_
    refine Wp.br (fun hc => absurd hc (by decide)) (fun _ => ?_)
    refine Wp.blk (by decide) ol_102 3 1 (pc' := 8) (L' := [.ref 2]) (S' := [.ref 2]) (h' := h) rfl ?_
    refine Wp.getf (op_ix (by decide) ol_102 4 rfl) (okS HS 2 rfl rfl) (v := .ref 20) (congrArg va_rf (rS HS 2 6 rfl)) rfl ?_
    refine Wp.blk (by decide) ol_102 5 1 (pc' := 12) (L' := [.ref 2]) (S' := [.ref 2, .ref 20]) (h' := h) rfl ?_
    refine Wp.getf (op_ix (by decide) ol_102 6 rfl) (okS HS 2 rfl rfl) (v := .ref 11) (congrArg va_rf (rS HS 2 2 rfl)) rfl ?_
    refine Wp.callI (op_ix (by decide) ol_102 7 rfl) (act_virt (c2 := 0) rfl (lk1 (kS HS 11 rfl)) rfl) rfl (Cl.enter (L := [.ref 11]) rfl ?_)
    refine Wp.blk (by decide) ol_84 0 1 (pc' := 1) (L' := [.ref 11]) (S' := [.ref 11]) (h' := h) rfl ?_
    refine Wp.getf (op_ix (by decide) ol_84 1 rfl) (okS HS 11 rfl rfl) (v := .int (AI h 11 3)) rfl rfl ?_
    refine Wp.ret (op_ix (by decide) ol_84 2 rfl) rfl ⟨_, rfl, ?_⟩
    refine Wp.blk (by decide) ol_102 8 1 (pc' := 19) (L' := [.ref 2]) (S' := [.ref 2, .int (AI h 11 3), .ref 20]) (h' := h) rfl ?_
    refine Wp.getf (op_ix (by decide) ol_102 9 rfl) (okS HS 2 rfl rfl) (v := .ref 11) (congrArg va_rf (rS HS 2 2 rfl)) rfl ?_
    refine Wp.callI (op_ix (by decide) ol_102 10 rfl) (act_virt (c2 := 0) rfl (lk1 (kS HS 11 rfl)) rfl) rfl (Cl.enter (L := [.ref 11]) rfl ?_)
    refine Wp.blk (by decide) ol_85 0 1 (pc' := 1) (L' := [.ref 11]) (S' := [.ref 11]) (h' := h) rfl ?_
    refine Wp.getf (op_ix (by decide) ol_85 1 rfl) (okS HS 11 rfl rfl) (v := .int (AI h 11 4)) rfl rfl ?_
    refine Wp.ret (op_ix (by decide) ol_85 2 rfl) rfl ⟨_, rfl, ?_⟩
    refine Wp.callI (op_ix (by decide) ol_102 11 rfl) (act_virt (c2 := 2) rfl (lk1 (kS HS 20 rfl)) rfl) rfl (K.mono ?_)
    rintro _ h2 ⟨x4, rfl, hs3, K⟩
    refine ⟨x4, rfl, ?_⟩
    refine Wp.blk (by decide) ol_102 12 1 (pc' := 33) (L' := [.ref 2]) (S' := [.int x4]) (h' := h2) rfl ?_
    exact Wp.ret (op_ix (by decide) ol_102 14 rfl) rfl K
  · replace K := K.2 c1
    refine Wp.blk (by decide) ol_115 6 1 (pc' := 15) (L' := [.ref 2]) (S' := [.int (0 : Int32)]) (h' := h) rfl ?_
    refine Wp.ret (op_ix (by decide) ol_115 7 rfl) rfl ⟨_, rfl, ?_⟩
    refine Wp.blk (by decide) ol_102 2 1 (pc' := (if (0 : Int32) = (0 : Int32) then 31 else 7)) (L' := [.ref 2]) (S' := []) (h' := h) rfl ?_
    refine Wp.br (fun _ => ?_) (fun hc => absurd (by decide) hc)
    refine Wp.blk (by decide) ol_102 13 1 (pc' := 33) (L' := [.ref 2]) (S' := [.int (-103 : Int32)]) (h' := h) rfl ?_
    exact Wp.ret (op_ix (by decide) ol_102 14 rfl) rfl K
/-- CutsOrFast.parting at 0 (I)I -/
theorem g103_0 (d : Nat) (v1 : Int32) (h : AH) (HS : Sh h)  (Q : Option Value → AH → Prop) (K : (((0 : Int32) < (AI h 5 5) → ((v1 < (0 : Int32) → Q (some (.int (-102 : Int32))) h) ∧ (¬ v1 < (0 : Int32) → (((1 : Int32) < v1 → Q (some (.int (-102 : Int32))) h) ∧ (¬ (1 : Int32) < v1 → (Cl (d + 1) 67 [.ref 20, .int (AI h 11 3), .int (AI h 11 4)] h (fun r h4 => ∃ x6 : Int32, r = some (.int x6) ∧ Sh h4 ∧ ((x6 = (-1 : Int32) → Q (some (.int x6)) h4) ∧ (¬ x6 = (-1 : Int32) → ((v1 = (1 : Int32) → Q (some (.int x6)) h4) ∧ (¬ v1 = (1 : Int32) → (Cl (d + 1) 199 [.int x6] h4 (fun r h9 => ∃ x11 : Int32, r = some (.int x11) ∧ Sh h9 ∧ Q (some (.int x11)) h9))))))))))))) ∧ (¬ (0 : Int32) < (AI h 5 5) → Q (some (.int (-103 : Int32))) h))) : Wp (d + 2) 103 0 [.ref 2, .int v1, mk0] [] h Q := by
  refine Wp.blk (by decide) ol_103 0 1 (pc' := 1) (L' := [.ref 2, .int v1, mk0]) (S' := [.ref 2]) (h' := h) rfl ?_
  refine Wp.callI (op_ix (by decide) ol_103 1 rfl) (act_virt (c2 := 0) rfl (lk1 (kS HS 2 rfl)) rfl) rfl (Cl.enter (L := [.ref 2]) rfl ?_)
  refine Wp.blk (by decide) ol_115 0 1 (pc' := 1) (L' := [.ref 2]) (S' := [.ref 2]) (h' := h) rfl ?_
  refine Wp.getf (op_ix (by decide) ol_115 1 rfl) (okS HS 2 rfl rfl) (v := .ref 5) (congrArg va_rf (rS HS 2 1 rfl)) rfl ?_
  refine Wp.callI (op_ix (by decide) ol_115 2 rfl) (act_virt (c2 := 0) rfl (lk1 (kS HS 5 rfl)) rfl) rfl (Cl.enter (L := [.ref 5]) rfl ?_)
  refine Wp.blk (by decide) ol_26 0 1 (pc' := 1) (L' := [.ref 5]) (S' := [.ref 5]) (h' := h) rfl ?_
  refine Wp.getf (op_ix (by decide) ol_26 1 rfl) (okS HS 5 rfl rfl) (v := .int (AI h 5 5)) rfl rfl ?_
  refine Wp.ret (op_ix (by decide) ol_26 2 rfl) rfl ⟨_, rfl, ?_⟩
  refine Wp.blk (by decide) ol_115 3 1 (pc' := (if (0 : Int32) < (AI h 5 5) then 10 else 14)) (L' := [.ref 2]) (S' := []) (h' := h) rfl ?_
  refine Wp.br (fun c1 => ?_) (fun c1 => ?_)
  · replace K := K.1 c1
    refine Wp.blk (by decide) ol_115 4 2 (pc' := 15) (L' := [.ref 2]) (S' := [.int (1 : Int32)]) (h' := h) rfl ?_
    refine Wp.ret (op_ix (by decide) ol_115 7 rfl) rfl ⟨_, rfl, ?_⟩
    refine Wp.blk (by decide) ol_103 2 1 (pc' := (if (1 : Int32) = (0 : Int32) then 7 else 10)) (L' := [.ref 2, .int v1, mk0]) (S' := []) (h' := h) rfl ?_
    refine Wp.br (fun hc => absurd hc (by decide)) (fun _ => ?_)
    refine Wp.blk (by decide) ol_103 5 2 (pc' := (if v1 < (0 : Int32) then 19 else 14)) (L' := [.ref 2, .int v1, mk0]) (S' := []) (h' := h) rfl ?_
    refine Wp.br (fun c2 => ?_) (fun c2 => ?_)
    · replace K := K.1 c2
      refine Wp.blk (by decide) ol_103 10 1 (pc' := 21) (L' := [.ref 2, .int v1, mk0]) (S' := [.int (-102 : Int32)]) (h' := h) rfl ?_
      exact Wp.ret (op_ix (by decide) ol_103 11 rfl) rfl K
    · replace K := K.2 c2
      refine Wp.blk (by decide) ol_103 7 3 (pc' := (if (1 : Int32) < v1 then 19 else 22)) (L' := [.ref 2, .int v1, mk0]) (S' := []) (h' := h) rfl ?_
      refine Wp.br (fun c3 => ?_) (fun c3 => ?_)
      · replace K := K.1 c3
        refine Wp.blk (by decide) ol_103 10 1 (pc' := 21) (L' := [.ref 2, .int v1, mk0]) (S' := [.int (-102 : Int32)]) (h' := h) rfl ?_
        exact Wp.ret (op_ix (by decide) ol_103 11 rfl) rfl K
      · replace K := K.2 c3
        refine Wp.blk (by decide) ol_103 12 1 (pc' := 23) (L' := [.ref 2, .int v1, mk0]) (S' := [.ref 2]) (h' := h) rfl ?_
        refine Wp.getf (op_ix (by decide) ol_103 13 rfl) (okS HS 2 rfl rfl) (v := .ref 20) (congrArg va_rf (rS HS 2 6 rfl)) rfl ?_
        refine Wp.blk (by decide) ol_103 14 1 (pc' := 27) (L' := [.ref 2, .int v1, mk0]) (S' := [.ref 2, .ref 20]) (h' := h) rfl ?_
        refine Wp.getf (op_ix (by decide) ol_103 15 rfl) (okS HS 2 rfl rfl) (v := .ref 11) (congrArg va_rf (rS HS 2 2 rfl)) rfl ?_
        refine Wp.callI (op_ix (by decide) ol_103 16 rfl) (act_virt (c2 := 0) rfl (lk1 (kS HS 11 rfl)) rfl) rfl (Cl.enter (L := [.ref 11]) rfl ?_)
        refine Wp.blk (by decide) ol_84 0 1 (pc' := 1) (L' := [.ref 11]) (S' := [.ref 11]) (h' := h) rfl ?_
        refine Wp.getf (op_ix (by decide) ol_84 1 rfl) (okS HS 11 rfl rfl) (v := .int (AI h 11 3)) rfl rfl ?_
        refine Wp.ret (op_ix (by decide) ol_84 2 rfl) rfl ⟨_, rfl, ?_⟩
        refine Wp.blk (by decide) ol_103 17 1 (pc' := 34) (L' := [.ref 2, .int v1, mk0]) (S' := [.ref 2, .int (AI h 11 3), .ref 20]) (h' := h) rfl ?_
        refine Wp.getf (op_ix (by decide) ol_103 18 rfl) (okS HS 2 rfl rfl) (v := .ref 11) (congrArg va_rf (rS HS 2 2 rfl)) rfl ?_
        refine Wp.callI (op_ix (by decide) ol_103 19 rfl) (act_virt (c2 := 0) rfl (lk1 (kS HS 11 rfl)) rfl) rfl (Cl.enter (L := [.ref 11]) rfl ?_)
        refine Wp.blk (by decide) ol_85 0 1 (pc' := 1) (L' := [.ref 11]) (S' := [.ref 11]) (h' := h) rfl ?_
        refine Wp.getf (op_ix (by decide) ol_85 1 rfl) (okS HS 11 rfl rfl) (v := .int (AI h 11 4)) rfl rfl ?_
        refine Wp.ret (op_ix (by decide) ol_85 2 rfl) rfl ⟨_, rfl, ?_⟩
        refine Wp.callI (op_ix (by decide) ol_103 20 rfl) (act_virt (c2 := 2) rfl (lk1 (kS HS 20 rfl)) rfl) rfl (K.mono ?_)
        rintro _ h4 ⟨x6, rfl, hs5, K⟩
        refine ⟨x6, rfl, ?_⟩
        refine Wp.blk (by decide) ol_103 21 4 (pc' := (if x6 = (-1 : Int32) then 54 else 49)) (L' := [.ref 2, .int v1, .int x6]) (S' := []) (h' := h4) rfl ?_
        refine Wp.br (fun c7 => ?_) (fun c7 => ?_)
        · replace K := K.1 c7
          refine Wp.blk (by decide) ol_103 28 2 (pc' := 62) (L' := [.ref 2, .int v1, .int x6]) (S' := [.int x6]) (h' := h4) rfl ?_
          exact Wp.ret (op_ix (by decide) ol_103 32 rfl) rfl K
        · replace K := K.2 c7
          refine Wp.blk (by decide) ol_103 25 3 (pc' := (if v1 = (1 : Int32) then 54 else 58)) (L' := [.ref 2, .int v1, .int x6]) (S' := []) (h' := h4) rfl ?_
          refine Wp.br (fun c8 => ?_) (fun c8 => ?_)
          · replace K := K.1 c8
            refine Wp.blk (by decide) ol_103 28 2 (pc' := 62) (L' := [.ref 2, .int v1, .int x6]) (S' := [.int x6]) (h' := h4) rfl ?_
            exact Wp.ret (op_ix (by decide) ol_103 32 rfl) rfl K
          · replace K := K.2 c8
            refine Wp.blk (by decide) ol_103 30 1 (pc' := 59) (L' := [.ref 2, .int v1, .int x6]) (S' := [.int x6]) (h' := h4) rfl ?_
            refine Wp.callI (op_ix (by decide) ol_103 31 rfl) rfl rfl (K.mono ?_)
            rintro _ h9 ⟨x11, rfl, hs10, K⟩
            refine ⟨x11, rfl, ?_⟩
            exact Wp.ret (op_ix (by decide) ol_103 32 rfl) rfl K
  · replace K := K.2 c1
    refine Wp.blk (by decide) ol_115 6 1 (pc' := 15) (L' := [.ref 2]) (S' := [.int (0 : Int32)]) (h' := h) rfl ?_
    refine Wp.ret (op_ix (by decide) ol_115 7 rfl) rfl ⟨_, rfl, ?_⟩
    refine Wp.blk (by decide) ol_103 2 1 (pc' := (if (0 : Int32) = (0 : Int32) then 7 else 10)) (L' := [.ref 2, .int v1, mk0]) (S' := []) (h' := h) rfl ?_
    refine Wp.br (fun _ => ?_) (fun hc => absurd (by decide) hc)
    refine Wp.blk (by decide) ol_103 3 1 (pc' := 9) (L' := [.ref 2, .int v1, mk0]) (S' := [.int (-103 : Int32)]) (h' := h) rfl ?_
    exact Wp.ret (op_ix (by decide) ol_103 4 rfl) rfl K
/-- CutsOrFast.mend at 0 (I)I -/
theorem g104_0 (d : Nat) (v1 : Int32) (h : AH) (HS : Sh h)  (Q : Option Value → AH → Prop) (K : (((0 : Int32) < (AI h 5 5) → (((AI h 2 11) < (20 : Int32) → ((v1 < (0 : Int32) → Q (some (.int (-102 : Int32))) h) ∧ (¬ v1 < (0 : Int32) → (((2 : Int32) < v1 → Q (some (.int (-102 : Int32))) h) ∧ (¬ (2 : Int32) < v1 → (Cl (d + 1) 69 [.ref 20, .int (AI ((stI h 2 11 ((((AI h 2 11)) + ((1 : Int32)))))) 11 3), .int (AI ((stI h 2 11 ((((AI h 2 11)) + ((1 : Int32)))))) 11 4)] ((stI h 2 11 ((((AI h 2 11)) + ((1 : Int32)))))) (fun r h5 => ∃ x7 : Int32, r = some (.int x7) ∧ Sh h5 ∧ ((v1 = (0 : Int32) → ((x7 = (-1 : Int32) → Q (some (.int (0 : Int32))) h5) ∧ (¬ x7 = (-1 : Int32) → ((x7 = (-2 : Int32) → Q (some (.int (2 : Int32))) h5) ∧ (¬ x7 = (-2 : Int32) → Q (some (.int (1 : Int32))) h5))))) ∧ (¬ v1 = (0 : Int32) → ((x7 < (0 : Int32) → Q (some (.int (-1 : Int32))) h5) ∧ (¬ x7 < (0 : Int32) → ((v1 = (1 : Int32) → Q (some (.int (x7 / (6 : Int32)))) h5) ∧ (¬ v1 = (1 : Int32) → Q (some (.int (x7 - x7 / (6 : Int32) * (6 : Int32)))) h5))))))))))))) ∧ (¬ (AI h 2 11) < (20 : Int32) → Q (some (.int (-103 : Int32))) h))) ∧ (¬ (0 : Int32) < (AI h 5 5) → Q (some (.int (-103 : Int32))) h))) : Wp (d + 2) 104 0 [.ref 2, .int v1, mk0] [] h Q := by
  refine Wp.blk (by decide) ol_104 0 1 (pc' := 1) (L' := [.ref 2, .int v1, mk0]) (S' := [.ref 2]) (h' := h) rfl ?_
  refine Wp.callI (op_ix (by decide) ol_104 1 rfl) (act_virt (c2 := 0) rfl (lk1 (kS HS 2 rfl)) rfl) rfl (Cl.enter (L := [.ref 2]) rfl ?_)
  refine Wp.blk (by decide) ol_115 0 1 (pc' := 1) (L' := [.ref 2]) (S' := [.ref 2]) (h' := h) rfl ?_
  refine Wp.getf (op_ix (by decide) ol_115 1 rfl) (okS HS 2 rfl rfl) (v := .ref 5) (congrArg va_rf (rS HS 2 1 rfl)) rfl ?_
  refine Wp.callI (op_ix (by decide) ol_115 2 rfl) (act_virt (c2 := 0) rfl (lk1 (kS HS 5 rfl)) rfl) rfl (Cl.enter (L := [.ref 5]) rfl ?_)
  refine Wp.blk (by decide) ol_26 0 1 (pc' := 1) (L' := [.ref 5]) (S' := [.ref 5]) (h' := h) rfl ?_
  refine Wp.getf (op_ix (by decide) ol_26 1 rfl) (okS HS 5 rfl rfl) (v := .int (AI h 5 5)) rfl rfl ?_
  refine Wp.ret (op_ix (by decide) ol_26 2 rfl) rfl ⟨_, rfl, ?_⟩
  refine Wp.blk (by decide) ol_115 3 1 (pc' := (if (0 : Int32) < (AI h 5 5) then 10 else 14)) (L' := [.ref 2]) (S' := []) (h' := h) rfl ?_
  refine Wp.br (fun c1 => ?_) (fun c1 => ?_)
  · replace K := K.1 c1
    refine Wp.blk (by decide) ol_115 4 2 (pc' := 15) (L' := [.ref 2]) (S' := [.int (1 : Int32)]) (h' := h) rfl ?_
    refine Wp.ret (op_ix (by decide) ol_115 7 rfl) rfl ⟨_, rfl, ?_⟩
    refine Wp.blk (by decide) ol_104 2 1 (pc' := (if (1 : Int32) = (0 : Int32) then 16 else 7)) (L' := [.ref 2, .int v1, mk0]) (S' := []) (h' := h) rfl ?_
    refine Wp.br (fun hc => absurd hc (by decide)) (fun _ => ?_)
    refine Wp.blk (by decide) ol_104 3 1 (pc' := 8) (L' := [.ref 2, .int v1, mk0]) (S' := [.ref 2]) (h' := h) rfl ?_
    refine Wp.getf (op_ix (by decide) ol_104 4 rfl) (okS HS 2 rfl rfl) (v := .int (AI h 2 11)) rfl rfl ?_
    refine Wp.blk (by decide) ol_104 5 2 (pc' := (if (AI h 2 11) < (20 : Int32) then 19 else 16)) (L' := [.ref 2, .int v1, mk0]) (S' := []) (h' := h) rfl ?_
    refine Wp.br (fun c2 => ?_) (fun c2 => ?_)
    · replace K := K.1 c2
      refine Wp.blk (by decide) ol_104 9 2 (pc' := (if v1 < (0 : Int32) then 28 else 23)) (L' := [.ref 2, .int v1, mk0]) (S' := []) (h' := h) rfl ?_
      refine Wp.br (fun c3 => ?_) (fun c3 => ?_)
      · replace K := K.1 c3
        refine Wp.blk (by decide) ol_104 14 1 (pc' := 30) (L' := [.ref 2, .int v1, mk0]) (S' := [.int (-102 : Int32)]) (h' := h) rfl ?_
        exact Wp.ret (op_ix (by decide) ol_104 15 rfl) rfl K
      · replace K := K.2 c3
        refine Wp.blk (by decide) ol_104 11 3 (pc' := (if (2 : Int32) < v1 then 28 else 31)) (L' := [.ref 2, .int v1, mk0]) (S' := []) (h' := h) rfl ?_
        refine Wp.br (fun c4 => ?_) (fun c4 => ?_)
        · replace K := K.1 c4
          refine Wp.blk (by decide) ol_104 14 1 (pc' := 30) (L' := [.ref 2, .int v1, mk0]) (S' := [.int (-102 : Int32)]) (h' := h) rfl ?_
          exact Wp.ret (op_ix (by decide) ol_104 15 rfl) rfl K
        · replace K := K.2 c4
          refine Wp.blk (by decide) ol_104 16 2 (pc' := 33) (L' := [.ref 2, .int v1, mk0]) (S' := [.ref 2, .ref 2]) (h' := h) rfl ?_
          refine Wp.getf (op_ix (by decide) ol_104 18 rfl) (okS HS 2 rfl rfl) (v := .int (AI h 2 11)) rfl rfl ?_
          refine Wp.blk (by decide) ol_104 19 2 (pc' := 38) (L' := [.ref 2, .int v1, mk0]) (S' := [.int (((AI h 2 11)) + ((1 : Int32))), .ref 2]) (h' := h) rfl ?_
          refine Wp.putf (op_ix (by decide) ol_104 21 rfl) (by decide) (okS HS 2 rfl rfl) (h' := (stI h 2 11 ((((AI h 2 11)) + ((1 : Int32)))))) rfl rfl ?_
          refine Wp.blk (by decide) ol_104 22 1 (pc' := 42) (L' := [.ref 2, .int v1, mk0]) (S' := [.ref 2]) (h' := (stI h 2 11 ((((AI h 2 11)) + ((1 : Int32)))))) rfl ?_
          refine Wp.getf (op_ix (by decide) ol_104 23 rfl) (okS HS 2 rfl rfl) (v := .ref 20) (congrArg va_rf (rS HS 2 6 rfl)) rfl ?_
          refine Wp.blk (by decide) ol_104 24 1 (pc' := 46) (L' := [.ref 2, .int v1, mk0]) (S' := [.ref 2, .ref 20]) (h' := (stI h 2 11 ((((AI h 2 11)) + ((1 : Int32)))))) rfl ?_
          refine Wp.getf (op_ix (by decide) ol_104 25 rfl) (okS HS 2 rfl rfl) (v := .ref 11) (congrArg va_rf (rS HS 2 2 rfl)) rfl ?_
          refine Wp.callI (op_ix (by decide) ol_104 26 rfl) (act_virt (c2 := 0) rfl (lk1 (kS HS 11 rfl)) rfl) rfl (Cl.enter (L := [.ref 11]) rfl ?_)
          refine Wp.blk (by decide) ol_84 0 1 (pc' := 1) (L' := [.ref 11]) (S' := [.ref 11]) (h' := (stI h 2 11 ((((AI h 2 11)) + ((1 : Int32)))))) rfl ?_
          refine Wp.getf (op_ix (by decide) ol_84 1 rfl) (okS HS 11 rfl rfl) (v := .int (AI ((stI h 2 11 ((((AI h 2 11)) + ((1 : Int32)))))) 11 3)) rfl rfl ?_
          refine Wp.ret (op_ix (by decide) ol_84 2 rfl) rfl ⟨_, rfl, ?_⟩
          refine Wp.blk (by decide) ol_104 27 1 (pc' := 53) (L' := [.ref 2, .int v1, mk0]) (S' := [.ref 2, .int (AI ((stI h 2 11 ((((AI h 2 11)) + ((1 : Int32)))))) 11 3), .ref 20]) (h' := (stI h 2 11 ((((AI h 2 11)) + ((1 : Int32)))))) rfl ?_
          refine Wp.getf (op_ix (by decide) ol_104 28 rfl) (okS HS 2 rfl rfl) (v := .ref 11) (congrArg va_rf (rS HS 2 2 rfl)) rfl ?_
          refine Wp.callI (op_ix (by decide) ol_104 29 rfl) (act_virt (c2 := 0) rfl (lk1 (kS HS 11 rfl)) rfl) rfl (Cl.enter (L := [.ref 11]) rfl ?_)
          refine Wp.blk (by decide) ol_85 0 1 (pc' := 1) (L' := [.ref 11]) (S' := [.ref 11]) (h' := (stI h 2 11 ((((AI h 2 11)) + ((1 : Int32)))))) rfl ?_
          refine Wp.getf (op_ix (by decide) ol_85 1 rfl) (okS HS 11 rfl rfl) (v := .int (AI ((stI h 2 11 ((((AI h 2 11)) + ((1 : Int32)))))) 11 4)) rfl rfl ?_
          refine Wp.ret (op_ix (by decide) ol_85 2 rfl) rfl ⟨_, rfl, ?_⟩
          refine Wp.callI (op_ix (by decide) ol_104 30 rfl) (act_virt (c2 := 2) rfl (lk1 (kS HS 20 rfl)) rfl) rfl (K.mono ?_)
          rintro _ h5 ⟨x7, rfl, hs6, K⟩
          refine ⟨x7, rfl, ?_⟩
          refine Wp.blk (by decide) ol_104 31 3 (pc' := (if v1 = (0 : Int32) then 67 else 88)) (L' := [.ref 2, .int v1, .int x7]) (S' := []) (h' := h5) rfl ?_
          refine Wp.br (fun c8 => ?_) (fun c8 => ?_)
          · replace K := K.1 c8
            refine Wp.blk (by decide) ol_104 34 3 (pc' := (if x7 = (-1 : Int32) then 72 else 76)) (L' := [.ref 2, .int v1, .int x7]) (S' := []) (h' := h5) rfl ?_
            refine Wp.br (fun c9 => ?_) (fun c9 => ?_)
            · replace K := K.1 c9
              refine Wp.blk (by decide) ol_104 37 2 (pc' := 87) (L' := [.ref 2, .int v1, .int x7]) (S' := [.int (0 : Int32)]) (h' := h5) rfl ?_
              exact Wp.ret (op_ix (by decide) ol_104 45 rfl) rfl K
            · replace K := K.2 c9
              refine Wp.blk (by decide) ol_104 39 3 (pc' := (if x7 = (-2 : Int32) then 82 else 86)) (L' := [.ref 2, .int v1, .int x7]) (S' := []) (h' := h5) rfl ?_
              refine Wp.br (fun c10 => ?_) (fun c10 => ?_)
              · replace K := K.1 c10
                refine Wp.blk (by decide) ol_104 42 2 (pc' := 87) (L' := [.ref 2, .int v1, .int x7]) (S' := [.int (2 : Int32)]) (h' := h5) rfl ?_
                exact Wp.ret (op_ix (by decide) ol_104 45 rfl) rfl K
              · replace K := K.2 c10
                refine Wp.blk (by decide) ol_104 44 1 (pc' := 87) (L' := [.ref 2, .int v1, .int x7]) (S' := [.int (1 : Int32)]) (h' := h5) rfl ?_
                exact Wp.ret (op_ix (by decide) ol_104 45 rfl) rfl K
          · replace K := K.2 c8
            refine Wp.blk (by decide) ol_104 46 2 (pc' := (if x7 < (0 : Int32) then 92 else 94)) (L' := [.ref 2, .int v1, .int x7]) (S' := []) (h' := h5) rfl ?_
            refine Wp.br (fun c11 => ?_) (fun c11 => ?_)
            · replace K := K.1 c11
              refine Wp.blk (by decide) ol_104 48 1 (pc' := 93) (L' := [.ref 2, .int v1, .int x7]) (S' := [.int (-1 : Int32)]) (h' := h5) rfl ?_
              exact Wp.ret (op_ix (by decide) ol_104 49 rfl) rfl K
            · replace K := K.2 c11
              refine Wp.blk (by decide) ol_104 50 3 (pc' := (if v1 = (1 : Int32) then 99 else 106)) (L' := [.ref 2, .int v1, .int x7]) (S' := []) (h' := h5) rfl ?_
              refine Wp.br (fun c12 => ?_) (fun c12 => ?_)
              · replace K := K.1 c12
                refine Wp.blk (by decide) ol_104 53 4 (pc' := 110) (L' := [.ref 2, .int v1, .int x7]) (S' := [.int (x7 / (6 : Int32))]) (h' := h5) rfl ?_
                exact Wp.ret (op_ix (by decide) ol_104 60 rfl) rfl K
              · replace K := K.2 c12
                refine Wp.blk (by decide) ol_104 57 3 (pc' := 110) (L' := [.ref 2, .int v1, .int x7]) (S' := [.int (x7 - x7 / (6 : Int32) * (6 : Int32))]) (h' := h5) rfl ?_
                exact Wp.ret (op_ix (by decide) ol_104 60 rfl) rfl K
    · replace K := K.2 c2
      refine Wp.blk (by decide) ol_104 7 1 (pc' := 18) (L' := [.ref 2, .int v1, mk0]) (S' := [.int (-103 : Int32)]) (h' := h) rfl ?_
      exact Wp.ret (op_ix (by decide) ol_104 8 rfl) rfl K
  · replace K := K.2 c1
    refine Wp.blk (by decide) ol_115 6 1 (pc' := 15) (L' := [.ref 2]) (S' := [.int (0 : Int32)]) (h' := h) rfl ?_
    refine Wp.ret (op_ix (by decide) ol_115 7 rfl) rfl ⟨_, rfl, ?_⟩
    refine Wp.blk (by decide) ol_104 2 1 (pc' := (if (0 : Int32) = (0 : Int32) then 16 else 7)) (L' := [.ref 2, .int v1, mk0]) (S' := []) (h' := h) rfl ?_
    refine Wp.br (fun _ => ?_) (fun hc => absurd (by decide) hc)
    refine Wp.blk (by decide) ol_104 7 1 (pc' := 18) (L' := [.ref 2, .int v1, mk0]) (S' := [.int (-103 : Int32)]) (h' := h) rfl ?_
    exact Wp.ret (op_ix (by decide) ol_104 8 rfl) rfl K
/-- CutsOrFast.bought at 0 (I)I -/
theorem g105_0 (d : Nat) (v1 : Int32) (h : AH) (HS : Sh h)  (Q : Option Value → AH → Prop) (K : (((0 : Int32) < (AI h 5 5) → ((v1 < (0 : Int32) → Q (some (.int (-102 : Int32))) h) ∧ (¬ v1 < (0 : Int32) → (((1 : Int32) < v1 → Q (some (.int (-102 : Int32))) h) ∧ (¬ (1 : Int32) < v1 → (Cl (d + 1) 68 [.ref 20, .int (AI h 11 3), .int (AI h 11 4)] h (fun r h4 => ∃ x6 : Int32, r = some (.int x6) ∧ Sh h4 ∧ ((x6 = (-1 : Int32) → Q (some (.int x6)) h4) ∧ (¬ x6 = (-1 : Int32) → ((v1 = (1 : Int32) → Q (some (.int x6)) h4) ∧ (¬ v1 = (1 : Int32) → (Cl (d + 1) 33 [.ref 5, .int x6] h4 (fun r h9 => ∃ x11 : Int32, r = some (.int x11) ∧ Sh h9 ∧ Q (some (.int x11)) h9))))))))))))) ∧ (¬ (0 : Int32) < (AI h 5 5) → Q (some (.int (-103 : Int32))) h))) : Wp (d + 2) 105 0 [.ref 2, .int v1, mk0] [] h Q := by
  refine Wp.blk (by decide) ol_105 0 1 (pc' := 1) (L' := [.ref 2, .int v1, mk0]) (S' := [.ref 2]) (h' := h) rfl ?_
  refine Wp.callI (op_ix (by decide) ol_105 1 rfl) (act_virt (c2 := 0) rfl (lk1 (kS HS 2 rfl)) rfl) rfl (Cl.enter (L := [.ref 2]) rfl ?_)
  refine Wp.blk (by decide) ol_115 0 1 (pc' := 1) (L' := [.ref 2]) (S' := [.ref 2]) (h' := h) rfl ?_
  refine Wp.getf (op_ix (by decide) ol_115 1 rfl) (okS HS 2 rfl rfl) (v := .ref 5) (congrArg va_rf (rS HS 2 1 rfl)) rfl ?_
  refine Wp.callI (op_ix (by decide) ol_115 2 rfl) (act_virt (c2 := 0) rfl (lk1 (kS HS 5 rfl)) rfl) rfl (Cl.enter (L := [.ref 5]) rfl ?_)
  refine Wp.blk (by decide) ol_26 0 1 (pc' := 1) (L' := [.ref 5]) (S' := [.ref 5]) (h' := h) rfl ?_
  refine Wp.getf (op_ix (by decide) ol_26 1 rfl) (okS HS 5 rfl rfl) (v := .int (AI h 5 5)) rfl rfl ?_
  refine Wp.ret (op_ix (by decide) ol_26 2 rfl) rfl ⟨_, rfl, ?_⟩
  refine Wp.blk (by decide) ol_115 3 1 (pc' := (if (0 : Int32) < (AI h 5 5) then 10 else 14)) (L' := [.ref 2]) (S' := []) (h' := h) rfl ?_
  refine Wp.br (fun c1 => ?_) (fun c1 => ?_)
  · replace K := K.1 c1
    refine Wp.blk (by decide) ol_115 4 2 (pc' := 15) (L' := [.ref 2]) (S' := [.int (1 : Int32)]) (h' := h) rfl ?_
    refine Wp.ret (op_ix (by decide) ol_115 7 rfl) rfl ⟨_, rfl, ?_⟩
    refine Wp.blk (by decide) ol_105 2 1 (pc' := (if (1 : Int32) = (0 : Int32) then 7 else 10)) (L' := [.ref 2, .int v1, mk0]) (S' := []) (h' := h) rfl ?_
    refine Wp.br (fun hc => absurd hc (by decide)) (fun _ => ?_)
    refine Wp.blk (by decide) ol_105 5 2 (pc' := (if v1 < (0 : Int32) then 19 else 14)) (L' := [.ref 2, .int v1, mk0]) (S' := []) (h' := h) rfl ?_
    refine Wp.br (fun c2 => ?_) (fun c2 => ?_)
    · replace K := K.1 c2
      refine Wp.blk (by decide) ol_105 10 1 (pc' := 21) (L' := [.ref 2, .int v1, mk0]) (S' := [.int (-102 : Int32)]) (h' := h) rfl ?_
      exact Wp.ret (op_ix (by decide) ol_105 11 rfl) rfl K
    · replace K := K.2 c2
      refine Wp.blk (by decide) ol_105 7 3 (pc' := (if (1 : Int32) < v1 then 19 else 22)) (L' := [.ref 2, .int v1, mk0]) (S' := []) (h' := h) rfl ?_
      refine Wp.br (fun c3 => ?_) (fun c3 => ?_)
      · replace K := K.1 c3
        refine Wp.blk (by decide) ol_105 10 1 (pc' := 21) (L' := [.ref 2, .int v1, mk0]) (S' := [.int (-102 : Int32)]) (h' := h) rfl ?_
        exact Wp.ret (op_ix (by decide) ol_105 11 rfl) rfl K
      · replace K := K.2 c3
        refine Wp.blk (by decide) ol_105 12 1 (pc' := 23) (L' := [.ref 2, .int v1, mk0]) (S' := [.ref 2]) (h' := h) rfl ?_
        refine Wp.getf (op_ix (by decide) ol_105 13 rfl) (okS HS 2 rfl rfl) (v := .ref 20) (congrArg va_rf (rS HS 2 6 rfl)) rfl ?_
        refine Wp.blk (by decide) ol_105 14 1 (pc' := 27) (L' := [.ref 2, .int v1, mk0]) (S' := [.ref 2, .ref 20]) (h' := h) rfl ?_
        refine Wp.getf (op_ix (by decide) ol_105 15 rfl) (okS HS 2 rfl rfl) (v := .ref 11) (congrArg va_rf (rS HS 2 2 rfl)) rfl ?_
        refine Wp.callI (op_ix (by decide) ol_105 16 rfl) (act_virt (c2 := 0) rfl (lk1 (kS HS 11 rfl)) rfl) rfl (Cl.enter (L := [.ref 11]) rfl ?_)
        refine Wp.blk (by decide) ol_84 0 1 (pc' := 1) (L' := [.ref 11]) (S' := [.ref 11]) (h' := h) rfl ?_
        refine Wp.getf (op_ix (by decide) ol_84 1 rfl) (okS HS 11 rfl rfl) (v := .int (AI h 11 3)) rfl rfl ?_
        refine Wp.ret (op_ix (by decide) ol_84 2 rfl) rfl ⟨_, rfl, ?_⟩
        refine Wp.blk (by decide) ol_105 17 1 (pc' := 34) (L' := [.ref 2, .int v1, mk0]) (S' := [.ref 2, .int (AI h 11 3), .ref 20]) (h' := h) rfl ?_
        refine Wp.getf (op_ix (by decide) ol_105 18 rfl) (okS HS 2 rfl rfl) (v := .ref 11) (congrArg va_rf (rS HS 2 2 rfl)) rfl ?_
        refine Wp.callI (op_ix (by decide) ol_105 19 rfl) (act_virt (c2 := 0) rfl (lk1 (kS HS 11 rfl)) rfl) rfl (Cl.enter (L := [.ref 11]) rfl ?_)
        refine Wp.blk (by decide) ol_85 0 1 (pc' := 1) (L' := [.ref 11]) (S' := [.ref 11]) (h' := h) rfl ?_
        refine Wp.getf (op_ix (by decide) ol_85 1 rfl) (okS HS 11 rfl rfl) (v := .int (AI h 11 4)) rfl rfl ?_
        refine Wp.ret (op_ix (by decide) ol_85 2 rfl) rfl ⟨_, rfl, ?_⟩
        refine Wp.callI (op_ix (by decide) ol_105 20 rfl) (act_virt (c2 := 2) rfl (lk1 (kS HS 20 rfl)) rfl) rfl (K.mono ?_)
        rintro _ h4 ⟨x6, rfl, hs5, K⟩
        refine ⟨x6, rfl, ?_⟩
        refine Wp.blk (by decide) ol_105 21 4 (pc' := (if x6 = (-1 : Int32) then 54 else 49)) (L' := [.ref 2, .int v1, .int x6]) (S' := []) (h' := h4) rfl ?_
        refine Wp.br (fun c7 => ?_) (fun c7 => ?_)
        · replace K := K.1 c7
          refine Wp.blk (by decide) ol_105 28 2 (pc' := 66) (L' := [.ref 2, .int v1, .int x6]) (S' := [.int x6]) (h' := h4) rfl ?_
          exact Wp.ret (op_ix (by decide) ol_105 34 rfl) rfl K
        · replace K := K.2 c7
          refine Wp.blk (by decide) ol_105 25 3 (pc' := (if v1 = (1 : Int32) then 54 else 58)) (L' := [.ref 2, .int v1, .int x6]) (S' := []) (h' := h4) rfl ?_
          refine Wp.br (fun c8 => ?_) (fun c8 => ?_)
          · replace K := K.1 c8
            refine Wp.blk (by decide) ol_105 28 2 (pc' := 66) (L' := [.ref 2, .int v1, .int x6]) (S' := [.int x6]) (h' := h4) rfl ?_
            exact Wp.ret (op_ix (by decide) ol_105 34 rfl) rfl K
          · replace K := K.2 c8
            refine Wp.blk (by decide) ol_105 30 1 (pc' := 59) (L' := [.ref 2, .int v1, .int x6]) (S' := [.ref 2]) (h' := h4) rfl ?_
            refine Wp.getf (op_ix (by decide) ol_105 31 rfl) (okS hs5 2 rfl rfl) (v := .ref 5) (congrArg va_rf (rS hs5 2 1 rfl)) rfl ?_
            refine Wp.blk (by decide) ol_105 32 1 (pc' := 63) (L' := [.ref 2, .int v1, .int x6]) (S' := [.int x6, .ref 5]) (h' := h4) rfl ?_
            refine Wp.callI (op_ix (by decide) ol_105 33 rfl) (act_virt (c2 := 1) rfl (lk1 (kS hs5 5 rfl)) rfl) rfl (K.mono ?_)
            rintro _ h9 ⟨x11, rfl, hs10, K⟩
            refine ⟨x11, rfl, ?_⟩
            exact Wp.ret (op_ix (by decide) ol_105 34 rfl) rfl K
  · replace K := K.2 c1
    refine Wp.blk (by decide) ol_115 6 1 (pc' := 15) (L' := [.ref 2]) (S' := [.int (0 : Int32)]) (h' := h) rfl ?_
    refine Wp.ret (op_ix (by decide) ol_115 7 rfl) rfl ⟨_, rfl, ?_⟩
    refine Wp.blk (by decide) ol_105 2 1 (pc' := (if (0 : Int32) = (0 : Int32) then 7 else 10)) (L' := [.ref 2, .int v1, mk0]) (S' := []) (h' := h) rfl ?_
    refine Wp.br (fun _ => ?_) (fun hc => absurd (by decide) hc)
    refine Wp.blk (by decide) ol_105 3 1 (pc' := 9) (L' := [.ref 2, .int v1, mk0]) (S' := [.int (-103 : Int32)]) (h' := h) rfl ?_
    exact Wp.ret (op_ix (by decide) ol_105 4 rfl) rfl K
/-- CutsOrFast.likely at 0 (II)I -/
theorem g106_0 (d : Nat) (v1 : Int32) (v2 : Int32) (h : AH) (HS : Sh h)  (Q : Option Value → AH → Prop) (K : (((0 : Int32) < (AI h 5 5) → ((v1 < (0 : Int32) → Q (some (.int (-102 : Int32))) h) ∧ (¬ v1 < (0 : Int32) → ((v1 < (3 : Int32) → ((v2 < (0 : Int32) → Q (some (.int (-102 : Int32))) h) ∧ (¬ v2 < (0 : Int32) → (((1 : Int32) < v2 → Q (some (.int (-102 : Int32))) h) ∧ (¬ (1 : Int32) < v2 → (Cl (d + 1) 60 [.ref 17, .int v1, .int (AI h 11 3), .int (AI h 11 4), .int (AI h 11 5)] h (fun r h6 => ∃ x8 : Int32, r = some (.int x8) ∧ Sh h6 ∧ (Cl (d + 1) 199 [.int (((((((((1 : Int32)) <<< (((AI h6 5 5)) &&& 31))) - ((1 : Int32)))) &&& ((((AI h6 11 3)) ^^^ ((-1 : Int32)))))) &&& ((((AI h6 11 4)) ^^^ ((-1 : Int32)))))] h6 (fun r h9 => ∃ x11 : Int32, r = some (.int x11) ∧ Sh h9 ∧ ((AK h9 1).1 = 20 ∧ (AK h9 1).2 < 2147483648 ∧ (Cl (d + 1) 125 [.int x8, .int (atv h9 1 x11)] h9 (fun r h14 => ∃ x16 : Int32, r = some (.int x16) ∧ Sh h14 ∧ ((v2 = (0 : Int32) → (((0 : Int32) < x16 → ((¬ x16 = 0) ∧ Q (some (.int (x8 / x16))) h14)) ∧ (¬ (0 : Int32) < x16 → Q (some (.int (x8 / (1 : Int32)))) h14))) ∧ (¬ v2 = (0 : Int32) → (((0 : Int32) < x16 → ((¬ x16 = 0) ∧ Q (some (.int ((atv h9 1 x11) / x16))) h14)) ∧ (¬ (0 : Int32) < x16 → Q (some (.int ((atv h9 1 x11) / (1 : Int32)))) h14)))))))))))))))) ∧ (¬ v1 < (3 : Int32) → Q (some (.int (-102 : Int32))) h))))) ∧ (¬ (0 : Int32) < (AI h 5 5) → Q (some (.int (-103 : Int32))) h))) : Wp (d + 2) 106 0 [.ref 2, .int v1, .int v2, mk0, mk0, mk0] [] h Q := by
  refine Wp.blk (by decide) ol_106 0 1 (pc' := 1) (L' := [.ref 2, .int v1, .int v2, mk0, mk0, mk0]) (S' := [.ref 2]) (h' := h) rfl ?_
  refine Wp.callI (op_ix (by decide) ol_106 1 rfl) (act_virt (c2 := 0) rfl (lk1 (kS HS 2 rfl)) rfl) rfl (Cl.enter (L := [.ref 2]) rfl ?_)
  refine Wp.blk (by decide) ol_115 0 1 (pc' := 1) (L' := [.ref 2]) (S' := [.ref 2]) (h' := h) rfl ?_
  refine Wp.getf (op_ix (by decide) ol_115 1 rfl) (okS HS 2 rfl rfl) (v := .ref 5) (congrArg va_rf (rS HS 2 1 rfl)) rfl ?_
  refine Wp.callI (op_ix (by decide) ol_115 2 rfl) (act_virt (c2 := 0) rfl (lk1 (kS HS 5 rfl)) rfl) rfl (Cl.enter (L := [.ref 5]) rfl ?_)
  refine Wp.blk (by decide) ol_26 0 1 (pc' := 1) (L' := [.ref 5]) (S' := [.ref 5]) (h' := h) rfl ?_
  refine Wp.getf (op_ix (by decide) ol_26 1 rfl) (okS HS 5 rfl rfl) (v := .int (AI h 5 5)) rfl rfl ?_
  refine Wp.ret (op_ix (by decide) ol_26 2 rfl) rfl ⟨_, rfl, ?_⟩
  refine Wp.blk (by decide) ol_115 3 1 (pc' := (if (0 : Int32) < (AI h 5 5) then 10 else 14)) (L' := [.ref 2]) (S' := []) (h' := h) rfl ?_
  refine Wp.br (fun c1 => ?_) (fun c1 => ?_)
  · replace K := K.1 c1
    refine Wp.blk (by decide) ol_115 4 2 (pc' := 15) (L' := [.ref 2]) (S' := [.int (1 : Int32)]) (h' := h) rfl ?_
    refine Wp.ret (op_ix (by decide) ol_115 7 rfl) rfl ⟨_, rfl, ?_⟩
    refine Wp.blk (by decide) ol_106 2 1 (pc' := (if (1 : Int32) = (0 : Int32) then 7 else 10)) (L' := [.ref 2, .int v1, .int v2, mk0, mk0, mk0]) (S' := []) (h' := h) rfl ?_
    refine Wp.br (fun hc => absurd hc (by decide)) (fun _ => ?_)
    refine Wp.blk (by decide) ol_106 5 2 (pc' := (if v1 < (0 : Int32) then 28 else 14)) (L' := [.ref 2, .int v1, .int v2, mk0, mk0, mk0]) (S' := []) (h' := h) rfl ?_
    refine Wp.br (fun c2 => ?_) (fun c2 => ?_)
    · replace K := K.1 c2
      refine Wp.blk (by decide) ol_106 15 1 (pc' := 30) (L' := [.ref 2, .int v1, .int v2, mk0, mk0, mk0]) (S' := [.int (-102 : Int32)]) (h' := h) rfl ?_
      exact Wp.ret (op_ix (by decide) ol_106 16 rfl) rfl K
    · replace K := K.2 c2
      refine Wp.blk (by decide) ol_106 7 3 (pc' := (if v1 < (3 : Int32) then 19 else 28)) (L' := [.ref 2, .int v1, .int v2, mk0, mk0, mk0]) (S' := []) (h' := h) rfl ?_
      refine Wp.br (fun c3 => ?_) (fun c3 => ?_)
      · replace K := K.1 c3
        refine Wp.blk (by decide) ol_106 10 2 (pc' := (if v2 < (0 : Int32) then 28 else 23)) (L' := [.ref 2, .int v1, .int v2, mk0, mk0, mk0]) (S' := []) (h' := h) rfl ?_
        refine Wp.br (fun c4 => ?_) (fun c4 => ?_)
        · replace K := K.1 c4
          refine Wp.blk (by decide) ol_106 15 1 (pc' := 30) (L' := [.ref 2, .int v1, .int v2, mk0, mk0, mk0]) (S' := [.int (-102 : Int32)]) (h' := h) rfl ?_
          exact Wp.ret (op_ix (by decide) ol_106 16 rfl) rfl K
        · replace K := K.2 c4
          refine Wp.blk (by decide) ol_106 12 3 (pc' := (if (1 : Int32) < v2 then 28 else 31)) (L' := [.ref 2, .int v1, .int v2, mk0, mk0, mk0]) (S' := []) (h' := h) rfl ?_
          refine Wp.br (fun c5 => ?_) (fun c5 => ?_)
          · replace K := K.1 c5
            refine Wp.blk (by decide) ol_106 15 1 (pc' := 30) (L' := [.ref 2, .int v1, .int v2, mk0, mk0, mk0]) (S' := [.int (-102 : Int32)]) (h' := h) rfl ?_
            exact Wp.ret (op_ix (by decide) ol_106 16 rfl) rfl K
          · replace K := K.2 c5
            refine Wp.blk (by decide) ol_106 17 1 (pc' := 32) (L' := [.ref 2, .int v1, .int v2, mk0, mk0, mk0]) (S' := [.ref 2]) (h' := h) rfl ?_
            refine Wp.getf (op_ix (by decide) ol_106 18 rfl) (okS HS 2 rfl rfl) (v := .ref 17) (congrArg va_rf (rS HS 2 5 rfl)) rfl ?_
            refine Wp.blk (by decide) ol_106 19 2 (pc' := 37) (L' := [.ref 2, .int v1, .int v2, mk0, mk0, mk0]) (S' := [.ref 2, .int v1, .ref 17]) (h' := h) rfl ?_
            refine Wp.getf (op_ix (by decide) ol_106 21 rfl) (okS HS 2 rfl rfl) (v := .ref 11) (congrArg va_rf (rS HS 2 2 rfl)) rfl ?_
            refine Wp.callI (op_ix (by decide) ol_106 22 rfl) (act_virt (c2 := 0) rfl (lk1 (kS HS 11 rfl)) rfl) rfl (Cl.enter (L := [.ref 11]) rfl ?_)
            refine Wp.blk (by decide) ol_84 0 1 (pc' := 1) (L' := [.ref 11]) (S' := [.ref 11]) (h' := h) rfl ?_
            refine Wp.getf (op_ix (by decide) ol_84 1 rfl) (okS HS 11 rfl rfl) (v := .int (AI h 11 3)) rfl rfl ?_
            refine Wp.ret (op_ix (by decide) ol_84 2 rfl) rfl ⟨_, rfl, ?_⟩
            refine Wp.blk (by decide) ol_106 23 1 (pc' := 44) (L' := [.ref 2, .int v1, .int v2, mk0, mk0, mk0]) (S' := [.ref 2, .int (AI h 11 3), .int v1, .ref 17]) (h' := h) rfl ?_
            refine Wp.getf (op_ix (by decide) ol_106 24 rfl) (okS HS 2 rfl rfl) (v := .ref 11) (congrArg va_rf (rS HS 2 2 rfl)) rfl ?_
            refine Wp.callI (op_ix (by decide) ol_106 25 rfl) (act_virt (c2 := 0) rfl (lk1 (kS HS 11 rfl)) rfl) rfl (Cl.enter (L := [.ref 11]) rfl ?_)
            refine Wp.blk (by decide) ol_85 0 1 (pc' := 1) (L' := [.ref 11]) (S' := [.ref 11]) (h' := h) rfl ?_
            refine Wp.getf (op_ix (by decide) ol_85 1 rfl) (okS HS 11 rfl rfl) (v := .int (AI h 11 4)) rfl rfl ?_
            refine Wp.ret (op_ix (by decide) ol_85 2 rfl) rfl ⟨_, rfl, ?_⟩
            refine Wp.blk (by decide) ol_106 26 1 (pc' := 51) (L' := [.ref 2, .int v1, .int v2, mk0, mk0, mk0]) (S' := [.ref 2, .int (AI h 11 4), .int (AI h 11 3), .int v1, .ref 17]) (h' := h) rfl ?_
            refine Wp.getf (op_ix (by decide) ol_106 27 rfl) (okS HS 2 rfl rfl) (v := .ref 11) (congrArg va_rf (rS HS 2 2 rfl)) rfl ?_
            refine Wp.callI (op_ix (by decide) ol_106 28 rfl) (act_virt (c2 := 0) rfl (lk1 (kS HS 11 rfl)) rfl) rfl (Cl.enter (L := [.ref 11]) rfl ?_)
            refine Wp.blk (by decide) ol_82 0 1 (pc' := 1) (L' := [.ref 11]) (S' := [.ref 11]) (h' := h) rfl ?_
            refine Wp.getf (op_ix (by decide) ol_82 1 rfl) (okS HS 11 rfl rfl) (v := .int (AI h 11 5)) rfl rfl ?_
            refine Wp.ret (op_ix (by decide) ol_82 2 rfl) rfl ⟨_, rfl, ?_⟩
            refine Wp.callI (op_ix (by decide) ol_106 29 rfl) (act_virt (c2 := 4) rfl (lk1 (kS HS 17 rfl)) rfl) rfl (K.mono ?_)
            rintro _ h6 ⟨x8, rfl, hs7, K⟩
            refine ⟨x8, rfl, ?_⟩
            refine Wp.blk (by decide) ol_106 30 2 (pc' := 62) (L' := [.ref 2, .int v1, .int v2, .int x8, mk0, mk0]) (S' := [.ref 2]) (h' := h6) rfl ?_
            refine Wp.getf (op_ix (by decide) ol_106 32 rfl) (okS hs7 2 rfl rfl) (v := .ref 11) (congrArg va_rf (rS hs7 2 2 rfl)) rfl ?_
            refine Wp.callI (op_ix (by decide) ol_106 33 rfl) (act_virt (c2 := 0) rfl (lk1 (kS hs7 11 rfl)) rfl) rfl (Cl.enter (L := [.ref 11]) rfl ?_)
            refine Wp.blk (by decide) ol_86 0 1 (pc' := 1) (L' := [.ref 11]) (S' := [.ref 11]) (h' := h6) rfl ?_
            refine Wp.getf (op_ix (by decide) ol_86 1 rfl) (okS hs7 11 rfl rfl) (v := .ref 5) (congrArg va_rf (rS hs7 11 0 rfl)) rfl ?_
            refine Wp.callI (op_ix (by decide) ol_86 2 rfl) (act_virt (c2 := 0) rfl (lk1 (kS hs7 5 rfl)) rfl) rfl (Cl.enter (L := [.ref 5]) rfl ?_)
            refine Wp.blk (by decide) ol_27 0 2 (pc' := 2) (L' := [.ref 5]) (S' := [.ref 5, .int (1 : Int32)]) (h' := h6) rfl ?_
            refine Wp.getf (op_ix (by decide) ol_27 2 rfl) (okS hs7 5 rfl rfl) (v := .int (AI h6 5 5)) rfl rfl ?_
            refine Wp.blk (by decide) ol_27 3 3 (pc' := 8) (L' := [.ref 5]) (S' := [.int (((((1 : Int32)) <<< (((AI h6 5 5)) &&& 31))) - ((1 : Int32)))]) (h' := h6) rfl ?_
            refine Wp.ret (op_ix (by decide) ol_27 6 rfl) rfl ⟨_, rfl, ?_⟩
            refine Wp.blk (by decide) ol_86 3 1 (pc' := 8) (L' := [.ref 11]) (S' := [.ref 11, .int (((((1 : Int32)) <<< (((AI h6 5 5)) &&& 31))) - ((1 : Int32)))]) (h' := h6) rfl ?_
            refine Wp.getf (op_ix (by decide) ol_86 4 rfl) (okS hs7 11 rfl rfl) (v := .int (AI h6 11 3)) rfl rfl ?_
            refine Wp.blk (by decide) ol_86 5 4 (pc' := 15) (L' := [.ref 11]) (S' := [.ref 11, .int (((((((1 : Int32)) <<< (((AI h6 5 5)) &&& 31))) - ((1 : Int32)))) &&& ((((AI h6 11 3)) ^^^ ((-1 : Int32)))))]) (h' := h6) rfl ?_
            refine Wp.getf (op_ix (by decide) ol_86 9 rfl) (okS hs7 11 rfl rfl) (v := .int (AI h6 11 4)) rfl rfl ?_
            refine Wp.blk (by decide) ol_86 10 3 (pc' := 21) (L' := [.ref 11]) (S' := [.int (((((((((1 : Int32)) <<< (((AI h6 5 5)) &&& 31))) - ((1 : Int32)))) &&& ((((AI h6 11 3)) ^^^ ((-1 : Int32)))))) &&& ((((AI h6 11 4)) ^^^ ((-1 : Int32)))))]) (h' := h6) rfl ?_
            refine Wp.ret (op_ix (by decide) ol_86 13 rfl) rfl ⟨_, rfl, ?_⟩
            refine Wp.callI (op_ix (by decide) ol_106 34 rfl) rfl rfl (K.mono ?_)
            rintro _ h9 ⟨x11, rfl, hs10, K⟩
            refine ⟨x11, rfl, ?_⟩
            obtain ⟨k12, K⟩ := K
            obtain ⟨l13, K⟩ := K
            refine Wp.callI (op_ix (by decide) ol_106 35 rfl) rfl rfl (sp_fac k12 l13 ?_)
            refine ⟨_, rfl, ?_⟩
            refine Wp.blk (by decide) ol_106 36 3 (pc' := 79) (L' := [.ref 2, .int v1, .int v2, .int x8, .int (atv h9 1 x11), mk0]) (S' := [.int (atv h9 1 x11), .int x8]) (h' := h9) rfl ?_
            refine Wp.callI (op_ix (by decide) ol_106 39 rfl) rfl rfl (K.mono ?_)
            rintro _ h14 ⟨x16, rfl, hs15, K⟩
            refine ⟨x16, rfl, ?_⟩
            refine Wp.blk (by decide) ol_106 40 3 (pc' := (if v2 = (0 : Int32) then 88 else 92)) (L' := [.ref 2, .int v1, .int v2, .int x8, .int (atv h9 1 x11), .int x16]) (S' := []) (h' := h14) rfl ?_
            refine Wp.br (fun c17 => ?_) (fun c17 => ?_)
            · replace K := K.1 c17
              refine Wp.blk (by decide) ol_106 43 2 (pc' := 94) (L' := [.ref 2, .int v1, .int v2, .int x8, .int (atv h9 1 x11), .int x16]) (S' := [.int x8]) (h' := h14) rfl ?_
              refine Wp.blk (by decide) ol_106 46 2 (pc' := (if (0 : Int32) < x16 then 99 else 104)) (L' := [.ref 2, .int v1, .int v2, .int x8, .int (atv h9 1 x11), .int x16]) (S' := [.int x8]) (h' := h14) rfl ?_
              refine Wp.br (fun c18 => ?_) (fun c18 => ?_)
              · replace K := K.1 c18
                refine Wp.blk (by decide) ol_106 48 2 (pc' := 105) (L' := [.ref 2, .int v1, .int v2, .int x8, .int (atv h9 1 x11), .int x16]) (S' := [.int x16, .int x8]) (h' := h14) rfl ?_
                obtain ⟨z19, K⟩ := K
                refine Wp.div (op_ix (by decide) ol_106 51 rfl) z19 rfl ?_
                exact Wp.ret (op_ix (by decide) ol_106 52 rfl) rfl K
              · replace K := K.2 c18
                refine Wp.blk (by decide) ol_106 50 2 (pc' := 106) (L' := [.ref 2, .int v1, .int v2, .int x8, .int (atv h9 1 x11), .int x16]) (S' := [.int (x8 / (1 : Int32))]) (h' := h14) rfl ?_
                exact Wp.ret (op_ix (by decide) ol_106 52 rfl) rfl K
            · replace K := K.2 c17
              refine Wp.blk (by decide) ol_106 45 3 (pc' := (if (0 : Int32) < x16 then 99 else 104)) (L' := [.ref 2, .int v1, .int v2, .int x8, .int (atv h9 1 x11), .int x16]) (S' := [.int (atv h9 1 x11)]) (h' := h14) rfl ?_
              refine Wp.br (fun c20 => ?_) (fun c20 => ?_)
              · replace K := K.1 c20
                refine Wp.blk (by decide) ol_106 48 2 (pc' := 105) (L' := [.ref 2, .int v1, .int v2, .int x8, .int (atv h9 1 x11), .int x16]) (S' := [.int x16, .int (atv h9 1 x11)]) (h' := h14) rfl ?_
                obtain ⟨z21, K⟩ := K
                refine Wp.div (op_ix (by decide) ol_106 51 rfl) z21 rfl ?_
                exact Wp.ret (op_ix (by decide) ol_106 52 rfl) rfl K
              · replace K := K.2 c20
                refine Wp.blk (by decide) ol_106 50 2 (pc' := 106) (L' := [.ref 2, .int v1, .int v2, .int x8, .int (atv h9 1 x11), .int x16]) (S' := [.int ((atv h9 1 x11) / (1 : Int32))]) (h' := h14) rfl ?_
                exact Wp.ret (op_ix (by decide) ol_106 52 rfl) rfl K
      · replace K := K.2 c3
        refine Wp.blk (by decide) ol_106 15 1 (pc' := 30) (L' := [.ref 2, .int v1, .int v2, mk0, mk0, mk0]) (S' := [.int (-102 : Int32)]) (h' := h) rfl ?_
        exact Wp.ret (op_ix (by decide) ol_106 16 rfl) rfl K
  · replace K := K.2 c1
    refine Wp.blk (by decide) ol_115 6 1 (pc' := 15) (L' := [.ref 2]) (S' := [.int (0 : Int32)]) (h' := h) rfl ?_
    refine Wp.ret (op_ix (by decide) ol_115 7 rfl) rfl ⟨_, rfl, ?_⟩
    refine Wp.blk (by decide) ol_106 2 1 (pc' := (if (0 : Int32) = (0 : Int32) then 7 else 10)) (L' := [.ref 2, .int v1, .int v2, mk0, mk0, mk0]) (S' := []) (h' := h) rfl ?_
    refine Wp.br (fun _ => ?_) (fun hc => absurd (by decide) hc)
    refine Wp.blk (by decide) ol_106 3 1 (pc' := 9) (L' := [.ref 2, .int v1, .int v2, mk0, mk0, mk0]) (S' := [.int (-103 : Int32)]) (h' := h) rfl ?_
    exact Wp.ret (op_ix (by decide) ol_106 4 rfl) rfl K
/-- CutsOrFast.player at 0 (I)I -/
theorem g107_0 (d : Nat) (v1 : Int32) (h : AH) (HS : Sh h)  (Q : Option Value → AH → Prop) (K : ((v1 < (0 : Int32) → Q (some (.int (-102 : Int32))) h) ∧ (¬ v1 < (0 : Int32) → ((v1 < (5 : Int32) → (((AI h 2 9) < (0 : Int32) → Q (some (.int (-104 : Int32))) h) ∧ (¬ (AI h 2 9) < (0 : Int32) → (((AK h 22).1 = 20 ∨ (AK h 22).1 = 21 ∨ (AK h 22).1 = 24) ∧ (((AI h 2 9) < (Int32.ofNat (AK h 22).2) → (Cl d 121 [.int v1] h (fun r h6 => ∃ i8 : Nat, r = some (.ref i8) ∧ Sh h6 ∧ (act 107 44 (1, .aastore, x0) [.ref 2, .int v1] [.ref i8, .int (AI h 2 9), .ref 22] h6 = some (.inl (45, [.ref 2, .int v1], [], (stR h6 22 ((AI h 2 9)).toNatClampNeg (some i8)))) ∧ Q (some (.int (((AI ((stI ((stR h6 22 ((AI h 2 9)).toNatClampNeg (some i8))) 2 9 ((((AI ((stR h6 22 ((AI h 2 9)).toNatClampNeg (some i8))) 2 9)) + ((1 : Int32)))))) 2 9)) - ((1 : Int32))))) (stI ((stR h6 22 ((AI h 2 9)).toNatClampNeg (some i8))) 2 9 ((((AI ((stR h6 22 ((AI h 2 9)).toNatClampNeg (some i8))) 2 9)) + ((1 : Int32))))))))) ∧ (¬ (AI h 2 9) < (Int32.ofNat (AK h 22).2) → Q (some (.int (-104 : Int32))) h)))))) ∧ (¬ v1 < (5 : Int32) → Q (some (.int (-102 : Int32))) h))))) : Wp (d + 1) 107 0 [.ref 2, .int v1] [] h Q := by
  refine Wp.blk (by decide) ol_107 0 1 (pc' := 1) (L' := [.ref 2, .int v1]) (S' := [.int v1]) (h' := h) rfl ?_
  refine Wp.callI (op_ix (by decide) ol_107 1 rfl) rfl rfl (Cl.enter (L := [.int v1]) rfl ?_)
  refine Wp.blk (by decide) ol_118 0 2 (pc' := (if v1 < (0 : Int32) then 13 else 4)) (L' := [.int v1]) (S' := []) (h' := h) rfl ?_
  refine Wp.br (fun c1 => ?_) (fun c1 => ?_)
  · replace K := K.1 c1
    refine Wp.blk (by decide) ol_118 7 1 (pc' := 14) (L' := [.int v1]) (S' := [.int (0 : Int32)]) (h' := h) rfl ?_
    refine Wp.ret (op_ix (by decide) ol_118 8 rfl) rfl ⟨_, rfl, ?_⟩
    refine Wp.blk (by decide) ol_107 2 1 (pc' := (if (0 : Int32) = (0 : Int32) then 7 else 10)) (L' := [.ref 2, .int v1]) (S' := []) (h' := h) rfl ?_
    refine Wp.br (fun _ => ?_) (fun hc => absurd (by decide) hc)
    refine Wp.blk (by decide) ol_107 3 1 (pc' := 9) (L' := [.ref 2, .int v1]) (S' := [.int (-102 : Int32)]) (h' := h) rfl ?_
    exact Wp.ret (op_ix (by decide) ol_107 4 rfl) rfl K
  · replace K := K.2 c1
    refine Wp.blk (by decide) ol_118 2 3 (pc' := (if v1 < (5 : Int32) then 9 else 13)) (L' := [.int v1]) (S' := []) (h' := h) rfl ?_
    refine Wp.br (fun c2 => ?_) (fun c2 => ?_)
    · replace K := K.1 c2
      refine Wp.blk (by decide) ol_118 5 2 (pc' := 14) (L' := [.int v1]) (S' := [.int (1 : Int32)]) (h' := h) rfl ?_
      refine Wp.ret (op_ix (by decide) ol_118 8 rfl) rfl ⟨_, rfl, ?_⟩
      refine Wp.blk (by decide) ol_107 2 1 (pc' := (if (1 : Int32) = (0 : Int32) then 7 else 10)) (L' := [.ref 2, .int v1]) (S' := []) (h' := h) rfl ?_
      refine Wp.br (fun hc => absurd hc (by decide)) (fun _ => ?_)
      refine Wp.blk (by decide) ol_107 5 1 (pc' := 11) (L' := [.ref 2, .int v1]) (S' := [.ref 2]) (h' := h) rfl ?_
      refine Wp.getf (op_ix (by decide) ol_107 6 rfl) (okS HS 2 rfl rfl) (v := .int (AI h 2 9)) rfl rfl ?_
      refine Wp.blk (by decide) ol_107 7 1 (pc' := (if (AI h 2 9) < (0 : Int32) then 29 else 17)) (L' := [.ref 2, .int v1]) (S' := []) (h' := h) rfl ?_
      refine Wp.br (fun c3 => ?_) (fun c3 => ?_)
      · replace K := K.1 c3
        refine Wp.blk (by decide) ol_107 14 1 (pc' := 31) (L' := [.ref 2, .int v1]) (S' := [.int (-104 : Int32)]) (h' := h) rfl ?_
        exact Wp.ret (op_ix (by decide) ol_107 15 rfl) rfl K
      · replace K := K.2 c3
        refine Wp.blk (by decide) ol_107 8 1 (pc' := 18) (L' := [.ref 2, .int v1]) (S' := [.ref 2]) (h' := h) rfl ?_
        refine Wp.getf (op_ix (by decide) ol_107 9 rfl) (okS HS 2 rfl rfl) (v := .int (AI h 2 9)) rfl rfl ?_
        refine Wp.blk (by decide) ol_107 10 1 (pc' := 22) (L' := [.ref 2, .int v1]) (S' := [.ref 2, .int (AI h 2 9)]) (h' := h) rfl ?_
        refine Wp.getf (op_ix (by decide) ol_107 11 rfl) (okS HS 2 rfl rfl) (v := .ref 22) (congrArg va_rf (rS HS 2 8 rfl)) rfl ?_
        obtain ⟨k4, K⟩ := K
        refine Wp.alen (op_ix (by decide) ol_107 12 rfl) k4 rfl ?_
        refine Wp.blk (by decide) ol_107 13 1 (pc' := (if (AI h 2 9) < (Int32.ofNat (AK h 22).2) then 32 else 29)) (L' := [.ref 2, .int v1]) (S' := []) (h' := h) rfl ?_
        refine Wp.br (fun c5 => ?_) (fun c5 => ?_)
        · replace K := K.1 c5
          refine Wp.blk (by decide) ol_107 16 1 (pc' := 33) (L' := [.ref 2, .int v1]) (S' := [.ref 2]) (h' := h) rfl ?_
          refine Wp.getf (op_ix (by decide) ol_107 17 rfl) (okS HS 2 rfl rfl) (v := .ref 22) (congrArg va_rf (rS HS 2 8 rfl)) rfl ?_
          refine Wp.blk (by decide) ol_107 18 1 (pc' := 37) (L' := [.ref 2, .int v1]) (S' := [.ref 2, .ref 22]) (h' := h) rfl ?_
          refine Wp.getf (op_ix (by decide) ol_107 19 rfl) (okS HS 2 rfl rfl) (v := .int (AI h 2 9)) rfl rfl ?_
          refine Wp.blk (by decide) ol_107 20 1 (pc' := 41) (L' := [.ref 2, .int v1]) (S' := [.int v1, .int (AI h 2 9), .ref 22]) (h' := h) rfl ?_
          refine Wp.callR (op_ix (by decide) ol_107 21 rfl) rfl rfl (K.mono ?_)
          rintro _ h6 ⟨i8, rfl, hs7, K⟩
          refine Or.inl ⟨i8, rfl, ?_⟩
          obtain ⟨a9, K⟩ := K
          refine Wp.step (op_ix (by decide) ol_107 22 rfl) a9 ?_
          refine Wp.blk (by decide) ol_107 23 2 (pc' := 47) (L' := [.ref 2, .int v1]) (S' := [.ref 2, .ref 2]) (h' := (stR h6 22 ((AI h 2 9)).toNatClampNeg (some i8))) rfl ?_
          refine Wp.getf (op_ix (by decide) ol_107 25 rfl) (okS hs7 2 rfl rfl) (v := .int (AI ((stR h6 22 ((AI h 2 9)).toNatClampNeg (some i8))) 2 9)) rfl rfl ?_
          refine Wp.blk (by decide) ol_107 26 2 (pc' := 52) (L' := [.ref 2, .int v1]) (S' := [.int (((AI ((stR h6 22 ((AI h 2 9)).toNatClampNeg (some i8))) 2 9)) + ((1 : Int32))), .ref 2]) (h' := (stR h6 22 ((AI h 2 9)).toNatClampNeg (some i8))) rfl ?_
          refine Wp.putf (op_ix (by decide) ol_107 28 rfl) (by decide) (okS hs7 2 rfl rfl) (h' := (stI ((stR h6 22 ((AI h 2 9)).toNatClampNeg (some i8))) 2 9 ((((AI ((stR h6 22 ((AI h 2 9)).toNatClampNeg (some i8))) 2 9)) + ((1 : Int32)))))) rfl rfl ?_
          refine Wp.blk (by decide) ol_107 29 1 (pc' := 56) (L' := [.ref 2, .int v1]) (S' := [.ref 2]) (h' := (stI ((stR h6 22 ((AI h 2 9)).toNatClampNeg (some i8))) 2 9 ((((AI ((stR h6 22 ((AI h 2 9)).toNatClampNeg (some i8))) 2 9)) + ((1 : Int32)))))) rfl ?_
          refine Wp.getf (op_ix (by decide) ol_107 30 rfl) (okS hs7 2 rfl rfl) (v := .int (AI ((stI ((stR h6 22 ((AI h 2 9)).toNatClampNeg (some i8))) 2 9 ((((AI ((stR h6 22 ((AI h 2 9)).toNatClampNeg (some i8))) 2 9)) + ((1 : Int32)))))) 2 9)) rfl rfl ?_
          refine Wp.blk (by decide) ol_107 31 2 (pc' := 61) (L' := [.ref 2, .int v1]) (S' := [.int (((AI ((stI ((stR h6 22 ((AI h 2 9)).toNatClampNeg (some i8))) 2 9 ((((AI ((stR h6 22 ((AI h 2 9)).toNatClampNeg (some i8))) 2 9)) + ((1 : Int32)))))) 2 9)) - ((1 : Int32)))]) (h' := (stI ((stR h6 22 ((AI h 2 9)).toNatClampNeg (some i8))) 2 9 ((((AI ((stR h6 22 ((AI h 2 9)).toNatClampNeg (some i8))) 2 9)) + ((1 : Int32)))))) rfl ?_
          exact Wp.ret (op_ix (by decide) ol_107 33 rfl) rfl K
        · replace K := K.2 c5
          refine Wp.blk (by decide) ol_107 14 1 (pc' := 31) (L' := [.ref 2, .int v1]) (S' := [.int (-104 : Int32)]) (h' := h) rfl ?_
          exact Wp.ret (op_ix (by decide) ol_107 15 rfl) rfl K
    · replace K := K.2 c2
      refine Wp.blk (by decide) ol_118 7 1 (pc' := 14) (L' := [.int v1]) (S' := [.int (0 : Int32)]) (h' := h) rfl ?_
      refine Wp.ret (op_ix (by decide) ol_118 8 rfl) rfl ⟨_, rfl, ?_⟩
      refine Wp.blk (by decide) ol_107 2 1 (pc' := (if (0 : Int32) = (0 : Int32) then 7 else 10)) (L' := [.ref 2, .int v1]) (S' := []) (h' := h) rfl ?_
      refine Wp.br (fun _ => ?_) (fun hc => absurd (by decide) hc)
      refine Wp.blk (by decide) ol_107 3 1 (pc' := 9) (L' := [.ref 2, .int v1]) (S' := [.int (-102 : Int32)]) (h' := h) rfl ?_
      exact Wp.ret (op_ix (by decide) ol_107 4 rfl) rfl K
/-- CutsOrFast.as at 0 (II)I -/
theorem g108_0 (d : Nat) (v1 : Int32) (v2 : Int32) (h : AH) (HS : Sh h)  (Q : Option Value → AH → Prop) (K : (Cl d 120 [.ref 2, .int v1] h (fun r h1 => (∃ i3 : Nat, r = some (.ref i3) ∧ Sh h1 ∧ ((v2 < (0 : Int32) → Q (some (.int (-102 : Int32))) h1) ∧ (¬ v2 < (0 : Int32) → ((v2 < (5 : Int32) → (Cl d 122 [.ref i3, .int v2] h1 (fun r h6 => ∃ x8 : Int32, r = some (.int x8) ∧ Sh h6 ∧ ((x8 = (0 : Int32) → Q (some (.int (-1 : Int32))) h6) ∧ (¬ x8 = (0 : Int32) → Q (some (.int v1)) h6))))) ∧ (¬ v2 < (5 : Int32) → Q (some (.int (-102 : Int32))) h1))))) ∨ (r = some .null ∧ Sh h1 ∧ Q (some (.int (-101 : Int32))) h1)))) : Wp (d + 1) 108 0 [.ref 2, .int v1, .int v2, mk0] [] h Q := by
  refine Wp.blk (by decide) ol_108 0 2 (pc' := 2) (L' := [.ref 2, .int v1, .int v2, mk0]) (S' := [.int v1, .ref 2]) (h' := h) rfl ?_
  refine Wp.callR (op_ix (by decide) ol_108 2 rfl) (act_virt (c2 := 1) rfl (lk1 (kS HS 2 rfl)) rfl) rfl (K.mono ?_)
  rintro _ h1 (⟨i3, rfl, hs2, K⟩ | ⟨rfl, hs2, K⟩)
  · refine Or.inl ⟨i3, rfl, ?_⟩
    refine Wp.blk (by decide) ol_108 3 3 (pc' := 13) (L' := [.ref 2, .int v1, .int v2, .ref i3]) (S' := []) (h' := h1) rfl ?_
    refine Wp.blk (by decide) ol_108 8 1 (pc' := 14) (L' := [.ref 2, .int v1, .int v2, .ref i3]) (S' := [.int v2]) (h' := h1) rfl ?_
    refine Wp.callI (op_ix (by decide) ol_108 9 rfl) rfl rfl (Cl.enter (L := [.int v2]) rfl ?_)
    refine Wp.blk (by decide) ol_118 0 2 (pc' := (if v2 < (0 : Int32) then 13 else 4)) (L' := [.int v2]) (S' := []) (h' := h1) rfl ?_
    refine Wp.br (fun c4 => ?_) (fun c4 => ?_)
    · replace K := K.1 c4
      refine Wp.blk (by decide) ol_118 7 1 (pc' := 14) (L' := [.int v2]) (S' := [.int (0 : Int32)]) (h' := h1) rfl ?_
      refine Wp.ret (op_ix (by decide) ol_118 8 rfl) rfl ⟨_, rfl, ?_⟩
      refine Wp.blk (by decide) ol_108 10 1 (pc' := (if (0 : Int32) = (0 : Int32) then 20 else 23)) (L' := [.ref 2, .int v1, .int v2, .ref i3]) (S' := []) (h' := h1) rfl ?_
      refine Wp.br (fun _ => ?_) (fun hc => absurd (by decide) hc)
      refine Wp.blk (by decide) ol_108 11 1 (pc' := 22) (L' := [.ref 2, .int v1, .int v2, .ref i3]) (S' := [.int (-102 : Int32)]) (h' := h1) rfl ?_
      exact Wp.ret (op_ix (by decide) ol_108 12 rfl) rfl K
    · replace K := K.2 c4
      refine Wp.blk (by decide) ol_118 2 3 (pc' := (if v2 < (5 : Int32) then 9 else 13)) (L' := [.int v2]) (S' := []) (h' := h1) rfl ?_
      refine Wp.br (fun c5 => ?_) (fun c5 => ?_)
      · replace K := K.1 c5
        refine Wp.blk (by decide) ol_118 5 2 (pc' := 14) (L' := [.int v2]) (S' := [.int (1 : Int32)]) (h' := h1) rfl ?_
        refine Wp.ret (op_ix (by decide) ol_118 8 rfl) rfl ⟨_, rfl, ?_⟩
        refine Wp.blk (by decide) ol_108 10 1 (pc' := (if (1 : Int32) = (0 : Int32) then 20 else 23)) (L' := [.ref 2, .int v1, .int v2, .ref i3]) (S' := []) (h' := h1) rfl ?_
        refine Wp.br (fun hc => absurd hc (by decide)) (fun _ => ?_)
        refine Wp.blk (by decide) ol_108 13 2 (pc' := 25) (L' := [.ref 2, .int v1, .int v2, .ref i3]) (S' := [.int v2, .ref i3]) (h' := h1) rfl ?_
        refine Wp.callI (op_ix (by decide) ol_108 15 rfl) rfl rfl (K.mono ?_)
        rintro _ h6 ⟨x8, rfl, hs7, K⟩
        refine ⟨x8, rfl, ?_⟩
        refine Wp.blk (by decide) ol_108 16 1 (pc' := (if x8 = (0 : Int32) then 35 else 31)) (L' := [.ref 2, .int v1, .int v2, .ref i3]) (S' := []) (h' := h6) rfl ?_
        refine Wp.br (fun c9 => ?_) (fun c9 => ?_)
        · replace K := K.1 c9
          refine Wp.blk (by decide) ol_108 19 1 (pc' := 36) (L' := [.ref 2, .int v1, .int v2, .ref i3]) (S' := [.int (-1 : Int32)]) (h' := h6) rfl ?_
          exact Wp.ret (op_ix (by decide) ol_108 20 rfl) rfl K
        · replace K := K.2 c9
          refine Wp.blk (by decide) ol_108 17 2 (pc' := 36) (L' := [.ref 2, .int v1, .int v2, .ref i3]) (S' := [.int v1]) (h' := h6) rfl ?_
          exact Wp.ret (op_ix (by decide) ol_108 20 rfl) rfl K
      · replace K := K.2 c5
        refine Wp.blk (by decide) ol_118 7 1 (pc' := 14) (L' := [.int v2]) (S' := [.int (0 : Int32)]) (h' := h1) rfl ?_
        refine Wp.ret (op_ix (by decide) ol_118 8 rfl) rfl ⟨_, rfl, ?_⟩
        refine Wp.blk (by decide) ol_108 10 1 (pc' := (if (0 : Int32) = (0 : Int32) then 20 else 23)) (L' := [.ref 2, .int v1, .int v2, .ref i3]) (S' := []) (h' := h1) rfl ?_
        refine Wp.br (fun _ => ?_) (fun hc => absurd (by decide) hc)
        refine Wp.blk (by decide) ol_108 11 1 (pc' := 22) (L' := [.ref 2, .int v1, .int v2, .ref i3]) (S' := [.int (-102 : Int32)]) (h' := h1) rfl ?_
        exact Wp.ret (op_ix (by decide) ol_108 12 rfl) rfl K
  · refine Or.inr ⟨rfl, ?_⟩
    refine Wp.blk (by decide) ol_108 3 3 (pc' := 10) (L' := [.ref 2, .int v1, .int v2, .null]) (S' := []) (h' := h1) rfl ?_
    refine Wp.blk (by decide) ol_108 6 1 (pc' := 12) (L' := [.ref 2, .int v1, .int v2, .null]) (S' := [.int (-101 : Int32)]) (h' := h1) rfl ?_
    exact Wp.ret (op_ix (by decide) ol_108 7 rfl) rfl K
/-- CutsOrFast.move at 0 (II)I -/
theorem g109_0 (d : Nat) (v1 : Int32) (v2 : Int32) (h : AH) (HS : Sh h)  (Q : Option Value → AH → Prop) (K : (Cl (d + 1) 120 [.ref 2, .int v1] h (fun r h1 => (∃ i3 : Nat, r = some (.ref i3) ∧ Sh h1 ∧ (((0 : Int32) < (AI h1 5 5) → (Cl d 37 [.ref 5, .int (AI h1 11 3), .int (AI h1 11 4)] h1 (fun r h5 => ∃ x7 : Int32, r = some (.int x7) ∧ Sh h5 ∧ ((x7 = (0 : Int32) → ((v2 < (0 : Int32) → Q (some (.int (-102 : Int32))) h5) ∧ (¬ v2 < (0 : Int32) → (∃ j10 : Nat, ([(7, 53), (0, 2), (1, 5), (2, 15), (4, 15)] : List (Nat × Nat)).lookup (AK h5 i3).1 = some j10 ∧ (exL [.ref i3, .ref 11, .ref 17, .ref 21]).length ≤ mMax j10 ∧ (Cl (d + 1) j10 [.ref i3, .ref 11, .ref 17, .ref 21] ((stL h5 21 0 v2.toInt64)) (fun r h13 => ∃ x15 : Int32, r = some (.int x15) ∧ Sh h13 ∧ Q (some (.int x15)) h13)))))) ∧ (¬ x7 = (0 : Int32) → Q (some (.int (-103 : Int32))) h5))))) ∧ (¬ (0 : Int32) < (AI h1 5 5) → Q (some (.int (-103 : Int32))) h1))) ∨ (r = some .null ∧ Sh h1 ∧ Q (some (.int (-101 : Int32))) h1)))) : Wp (d + 2) 109 0 [.ref 2, .int v1, .int v2, mk0] [] h Q := by
  refine Wp.blk (by decide) ol_109 0 2 (pc' := 2) (L' := [.ref 2, .int v1, .int v2, mk0]) (S' := [.int v1, .ref 2]) (h' := h) rfl ?_
  refine Wp.callR (op_ix (by decide) ol_109 2 rfl) (act_virt (c2 := 1) rfl (lk1 (kS HS 2 rfl)) rfl) rfl (K.mono ?_)
  rintro _ h1 (⟨i3, rfl, hs2, K⟩ | ⟨rfl, hs2, K⟩)
  · refine Or.inl ⟨i3, rfl, ?_⟩
    refine Wp.blk (by decide) ol_109 3 3 (pc' := 13) (L' := [.ref 2, .int v1, .int v2, .ref i3]) (S' := []) (h' := h1) rfl ?_
    refine Wp.blk (by decide) ol_109 8 1 (pc' := 14) (L' := [.ref 2, .int v1, .int v2, .ref i3]) (S' := [.ref 2]) (h' := h1) rfl ?_
    refine Wp.callI (op_ix (by decide) ol_109 9 rfl) (act_virt (c2 := 0) rfl (lk1 (kS hs2 2 rfl)) rfl) rfl (Cl.enter (L := [.ref 2]) rfl ?_)
    refine Wp.blk (by decide) ol_115 0 1 (pc' := 1) (L' := [.ref 2]) (S' := [.ref 2]) (h' := h1) rfl ?_
    refine Wp.getf (op_ix (by decide) ol_115 1 rfl) (okS hs2 2 rfl rfl) (v := .ref 5) (congrArg va_rf (rS hs2 2 1 rfl)) rfl ?_
    refine Wp.callI (op_ix (by decide) ol_115 2 rfl) (act_virt (c2 := 0) rfl (lk1 (kS hs2 5 rfl)) rfl) rfl (Cl.enter (L := [.ref 5]) rfl ?_)
    refine Wp.blk (by decide) ol_26 0 1 (pc' := 1) (L' := [.ref 5]) (S' := [.ref 5]) (h' := h1) rfl ?_
    refine Wp.getf (op_ix (by decide) ol_26 1 rfl) (okS hs2 5 rfl rfl) (v := .int (AI h1 5 5)) rfl rfl ?_
    refine Wp.ret (op_ix (by decide) ol_26 2 rfl) rfl ⟨_, rfl, ?_⟩
    refine Wp.blk (by decide) ol_115 3 1 (pc' := (if (0 : Int32) < (AI h1 5 5) then 10 else 14)) (L' := [.ref 2]) (S' := []) (h' := h1) rfl ?_
    refine Wp.br (fun c4 => ?_) (fun c4 => ?_)
    · replace K := K.1 c4
      refine Wp.blk (by decide) ol_115 4 2 (pc' := 15) (L' := [.ref 2]) (S' := [.int (1 : Int32)]) (h' := h1) rfl ?_
      refine Wp.ret (op_ix (by decide) ol_115 7 rfl) rfl ⟨_, rfl, ?_⟩
      refine Wp.blk (by decide) ol_109 10 1 (pc' := (if (1 : Int32) = (0 : Int32) then 30 else 20)) (L' := [.ref 2, .int v1, .int v2, .ref i3]) (S' := []) (h' := h1) rfl ?_
      refine Wp.br (fun hc => absurd hc (by decide)) (fun _ => ?_)
      refine Wp.blk (by decide) ol_109 11 1 (pc' := 21) (L' := [.ref 2, .int v1, .int v2, .ref i3]) (S' := [.ref 2]) (h' := h1) rfl ?_
      refine Wp.getf (op_ix (by decide) ol_109 12 rfl) (okS hs2 2 rfl rfl) (v := .ref 11) (congrArg va_rf (rS hs2 2 2 rfl)) rfl ?_
      refine Wp.callI (op_ix (by decide) ol_109 13 rfl) (act_virt (c2 := 0) rfl (lk1 (kS hs2 11 rfl)) rfl) rfl (Cl.enter (L := [.ref 11]) rfl ?_)
      refine Wp.blk (by decide) ol_77 0 1 (pc' := 1) (L' := [.ref 11]) (S' := [.ref 11]) (h' := h1) rfl ?_
      refine Wp.getf (op_ix (by decide) ol_77 1 rfl) (okS hs2 11 rfl rfl) (v := .ref 5) (congrArg va_rf (rS hs2 11 0 rfl)) rfl ?_
      refine Wp.blk (by decide) ol_77 2 1 (pc' := 5) (L' := [.ref 11]) (S' := [.ref 11, .ref 5]) (h' := h1) rfl ?_
      refine Wp.getf (op_ix (by decide) ol_77 3 rfl) (okS hs2 11 rfl rfl) (v := .int (AI h1 11 3)) rfl rfl ?_
      refine Wp.blk (by decide) ol_77 4 1 (pc' := 9) (L' := [.ref 11]) (S' := [.ref 11, .int (AI h1 11 3), .ref 5]) (h' := h1) rfl ?_
      refine Wp.getf (op_ix (by decide) ol_77 5 rfl) (okS hs2 11 rfl rfl) (v := .int (AI h1 11 4)) rfl rfl ?_
      refine Wp.callI (op_ix (by decide) ol_77 6 rfl) (act_virt (c2 := 2) rfl (lk1 (kS hs2 5 rfl)) rfl) rfl (K.mono ?_)
      rintro _ h5 ⟨x7, rfl, hs6, K⟩
      refine ⟨x7, rfl, ?_⟩
      refine Wp.ret (op_ix (by decide) ol_77 7 rfl) rfl ⟨_, rfl, ?_⟩
      refine Wp.blk (by decide) ol_109 14 1 (pc' := (if x7 = (0 : Int32) then 33 else 30)) (L' := [.ref 2, .int v1, .int v2, .ref i3]) (S' := []) (h' := h5) rfl ?_
      refine Wp.br (fun c8 => ?_) (fun c8 => ?_)
      · replace K := K.1 c8
        refine Wp.blk (by decide) ol_109 17 2 (pc' := (if v2 < (0 : Int32) then 37 else 40)) (L' := [.ref 2, .int v1, .int v2, .ref i3]) (S' := []) (h' := h5) rfl ?_
        refine Wp.br (fun c9 => ?_) (fun c9 => ?_)
        · replace K := K.1 c9
          refine Wp.blk (by decide) ol_109 19 1 (pc' := 39) (L' := [.ref 2, .int v1, .int v2, .ref i3]) (S' := [.int (-102 : Int32)]) (h' := h5) rfl ?_
          exact Wp.ret (op_ix (by decide) ol_109 20 rfl) rfl K
        · replace K := K.2 c9
          refine Wp.blk (by decide) ol_109 21 1 (pc' := 41) (L' := [.ref 2, .int v1, .int v2, .ref i3]) (S' := [.ref 2]) (h' := h5) rfl ?_
          refine Wp.getf (op_ix (by decide) ol_109 22 rfl) (okS hs6 2 rfl rfl) (v := .ref 21) (congrArg va_rf (rS hs6 2 7 rfl)) rfl ?_
          refine Wp.blk (by decide) ol_109 23 1 (pc' := 45) (L' := [.ref 2, .int v1, .int v2, .ref i3]) (S' := [.int v2, .ref 21]) (h' := h5) rfl ?_
          refine Wp.callV (op_ix (by decide) ol_109 24 rfl) (act_virt (c2 := 1) rfl (lk1 (kS hs6 21 rfl)) rfl) rfl (Cl.enter (L := [.ref 21, .int v2]) rfl ?_)
          refine Wp.blk (by decide) ol_10 0 3 (pc' := 3) (L' := [.ref 21, .int v2]) (S' := [.long v2.toInt64, .ref 21]) (h' := h5) rfl ?_
          refine Wp.putf (op_ix (by decide) ol_10 3 rfl) (by decide) (okS hs6 21 rfl rfl) (h' := (stL h5 21 0 v2.toInt64)) rfl rfl ?_
          refine Wp.ret (op_ix (by decide) ol_10 4 rfl) rfl ⟨rfl, ?_⟩
          refine Wp.blk (by decide) ol_109 25 2 (pc' := 50) (L' := [.ref 2, .int v1, .int v2, .ref i3]) (S' := [.ref 2, .ref i3]) (h' := (stL h5 21 0 v2.toInt64)) rfl ?_
          refine Wp.getf (op_ix (by decide) ol_109 27 rfl) (okS hs6 2 rfl rfl) (v := .ref 11) (congrArg va_rf (rS hs6 2 2 rfl)) rfl ?_
          refine Wp.blk (by decide) ol_109 28 1 (pc' := 54) (L' := [.ref 2, .int v1, .int v2, .ref i3]) (S' := [.ref 2, .ref 11, .ref i3]) (h' := (stL h5 21 0 v2.toInt64)) rfl ?_
          refine Wp.getf (op_ix (by decide) ol_109 29 rfl) (okS hs6 2 rfl rfl) (v := .ref 17) (congrArg va_rf (rS hs6 2 5 rfl)) rfl ?_
          refine Wp.blk (by decide) ol_109 30 1 (pc' := 58) (L' := [.ref 2, .int v1, .int v2, .ref i3]) (S' := [.ref 2, .ref 17, .ref 11, .ref i3]) (h' := (stL h5 21 0 v2.toInt64)) rfl ?_
          refine Wp.getf (op_ix (by decide) ol_109 31 rfl) (okS hs6 2 rfl rfl) (v := .ref 21) (congrArg va_rf (rS hs6 2 7 rfl)) rfl ?_
          obtain ⟨j10, q11, q12, K⟩ := K
          refine Wp.callI (op_ix (by decide) ol_109 32 rfl) (act_virt (c2 := 3) rfl q11 (cal_ok rfl q12)) rfl (K.mono ?_)
          rintro _ h13 ⟨x15, rfl, hs14, K⟩
          refine ⟨x15, rfl, ?_⟩
          exact Wp.ret (op_ix (by decide) ol_109 33 rfl) rfl K
      · replace K := K.2 c8
        refine Wp.blk (by decide) ol_109 15 1 (pc' := 32) (L' := [.ref 2, .int v1, .int v2, .ref i3]) (S' := [.int (-103 : Int32)]) (h' := h5) rfl ?_
        exact Wp.ret (op_ix (by decide) ol_109 16 rfl) rfl K
    · replace K := K.2 c4
      refine Wp.blk (by decide) ol_115 6 1 (pc' := 15) (L' := [.ref 2]) (S' := [.int (0 : Int32)]) (h' := h1) rfl ?_
      refine Wp.ret (op_ix (by decide) ol_115 7 rfl) rfl ⟨_, rfl, ?_⟩
      refine Wp.blk (by decide) ol_109 10 1 (pc' := (if (0 : Int32) = (0 : Int32) then 30 else 20)) (L' := [.ref 2, .int v1, .int v2, .ref i3]) (S' := []) (h' := h1) rfl ?_
      refine Wp.br (fun _ => ?_) (fun hc => absurd (by decide) hc)
      refine Wp.blk (by decide) ol_109 15 1 (pc' := 32) (L' := [.ref 2, .int v1, .int v2, .ref i3]) (S' := [.int (-103 : Int32)]) (h' := h1) rfl ?_
      exact Wp.ret (op_ix (by decide) ol_109 16 rfl) rfl K
  · refine Or.inr ⟨rfl, ?_⟩
    refine Wp.blk (by decide) ol_109 3 3 (pc' := 10) (L' := [.ref 2, .int v1, .int v2, .null]) (S' := []) (h' := h1) rfl ?_
    refine Wp.blk (by decide) ol_109 6 1 (pc' := 12) (L' := [.ref 2, .int v1, .int v2, .null]) (S' := [.int (-101 : Int32)]) (h' := h1) rfl ?_
    exact Wp.ret (op_ix (by decide) ol_109 7 rfl) rfl K
/-- CutsOrFast.game at 0 (IIII)I -/
theorem g110_0 (d : Nat) (v1 : Int32) (v2 : Int32) (v3 : Int32) (v4 : Int32) (h : AH) (HS : Sh h)  (Q : Option Value → AH → Prop) (K : (Cl (d + 1) 120 [.ref 2, .int v1] h (fun r h1 => (∃ i3 : Nat, r = some (.ref i3) ∧ Sh h1 ∧ (Cl (d + 1) 120 [.ref 2, .int v2] h1 (fun r h7 => (∃ i9 : Nat, r = some (.ref i9) ∧ Sh h7 ∧ (((0 : Int32) < (AI h7 5 5) → ((v3 < (0 : Int32) → Q (some (.int (-102 : Int32))) h7) ∧ (¬ v3 < (0 : Int32) → ((v4 < (0 : Int32) → Q (some (.int (-102 : Int32))) h7) ∧ (¬ v4 < (0 : Int32) → (((3 : Int32) < v4 → Q (some (.int (-102 : Int32))) h7) ∧ (¬ (3 : Int32) < v4 → (Cl (d + 1) 123 [.ref 2, .ref i3, .ref i9] ((stL h7 21 0 v3.toInt64)) (fun r h14 => ∃ x16 : Int32, r = some (.int x16) ∧ Sh h14 ∧ ((v4 = Int32.ofNat 0 → (Cl d 37 [.ref 5, .int (AI h14 15 3), .int (AI h14 15 4)] h14 (fun r h18 => ∃ x20 : Int32, r = some (.int x20) ∧ Sh h18 ∧ ((x20 = (1 : Int32) → Q (some (.int (0 : Int32))) h18) ∧ (¬ x20 = (1 : Int32) → Q (some (.int (1 : Int32))) h18))))) ∧ (¬ v4 = Int32.ofNat 0 → ((v4 = Int32.ofNat 1 → Q (some (.int x16)) h14) ∧ (¬ v4 = Int32.ofNat 1 → ((v4 = Int32.ofNat 2 → Q (some (.int (AI h14 15 3))) h14) ∧ (¬ v4 = Int32.ofNat 2 → Q (some (.int ((AL h14 21 0)).toInt32)) h14))))))))))))))) ∧ (¬ (0 : Int32) < (AI h7 5 5) → Q (some (.int (-103 : Int32))) h7))) ∨ (r = some .null ∧ Sh h7 ∧ Q (some (.int (-101 : Int32))) h7)))) ∨ (r = some .null ∧ Sh h1 ∧ (Cl (d + 1) 120 [.ref 2, .int v2] h1 (fun r h4 => (∃ i6 : Nat, r = some (.ref i6) ∧ Sh h4 ∧ Q (some (.int (-101 : Int32))) h4) ∨ (r = some .null ∧ Sh h4 ∧ Q (some (.int (-101 : Int32))) h4))))))) : Wp (d + 2) 110 0 [.ref 2, .int v1, .int v2, .int v3, .int v4, mk0, mk0, mk0] [] h Q := by
  refine Wp.blk (by decide) ol_110 0 2 (pc' := 2) (L' := [.ref 2, .int v1, .int v2, .int v3, .int v4, mk0, mk0, mk0]) (S' := [.int v1, .ref 2]) (h' := h) rfl ?_
  refine Wp.callR (op_ix (by decide) ol_110 2 rfl) (act_virt (c2 := 1) rfl (lk1 (kS HS 2 rfl)) rfl) rfl (K.mono ?_)
  rintro _ h1 (⟨i3, rfl, hs2, K⟩ | ⟨rfl, hs2, K⟩)
  · refine Or.inl ⟨i3, rfl, ?_⟩
    refine Wp.blk (by decide) ol_110 3 3 (pc' := 9) (L' := [.ref 2, .int v1, .int v2, .int v3, .int v4, .ref i3, mk0, mk0]) (S' := [.int v2, .ref 2]) (h' := h1) rfl ?_
    refine Wp.callR (op_ix (by decide) ol_110 6 rfl) (act_virt (c2 := 1) rfl (lk1 (kS hs2 2 rfl)) rfl) rfl (K.mono ?_)
    rintro _ h7 (⟨i9, rfl, hs8, K⟩ | ⟨rfl, hs8, K⟩)
    · refine Or.inl ⟨i9, rfl, ?_⟩
      refine Wp.blk (by decide) ol_110 7 3 (pc' := 19) (L' := [.ref 2, .int v1, .int v2, .int v3, .int v4, .ref i3, .ref i9, mk0]) (S' := []) (h' := h7) rfl ?_
      refine Wp.blk (by decide) ol_110 10 2 (pc' := 27) (L' := [.ref 2, .int v1, .int v2, .int v3, .int v4, .ref i3, .ref i9, mk0]) (S' := []) (h' := h7) rfl ?_
      refine Wp.blk (by decide) ol_110 14 1 (pc' := 28) (L' := [.ref 2, .int v1, .int v2, .int v3, .int v4, .ref i3, .ref i9, mk0]) (S' := [.ref 2]) (h' := h7) rfl ?_
      refine Wp.callI (op_ix (by decide) ol_110 15 rfl) (act_virt (c2 := 0) rfl (lk1 (kS hs8 2 rfl)) rfl) rfl (Cl.enter (L := [.ref 2]) rfl ?_)
      refine Wp.blk (by decide) ol_115 0 1 (pc' := 1) (L' := [.ref 2]) (S' := [.ref 2]) (h' := h7) rfl ?_
      refine Wp.getf (op_ix (by decide) ol_115 1 rfl) (okS hs8 2 rfl rfl) (v := .ref 5) (congrArg va_rf (rS hs8 2 1 rfl)) rfl ?_
      refine Wp.callI (op_ix (by decide) ol_115 2 rfl) (act_virt (c2 := 0) rfl (lk1 (kS hs8 5 rfl)) rfl) rfl (Cl.enter (L := [.ref 5]) rfl ?_)
      refine Wp.blk (by decide) ol_26 0 1 (pc' := 1) (L' := [.ref 5]) (S' := [.ref 5]) (h' := h7) rfl ?_
      refine Wp.getf (op_ix (by decide) ol_26 1 rfl) (okS hs8 5 rfl rfl) (v := .int (AI h7 5 5)) rfl rfl ?_
      refine Wp.ret (op_ix (by decide) ol_26 2 rfl) rfl ⟨_, rfl, ?_⟩
      refine Wp.blk (by decide) ol_115 3 1 (pc' := (if (0 : Int32) < (AI h7 5 5) then 10 else 14)) (L' := [.ref 2]) (S' := []) (h' := h7) rfl ?_
      refine Wp.br (fun c10 => ?_) (fun c10 => ?_)
      · replace K := K.1 c10
        refine Wp.blk (by decide) ol_115 4 2 (pc' := 15) (L' := [.ref 2]) (S' := [.int (1 : Int32)]) (h' := h7) rfl ?_
        refine Wp.ret (op_ix (by decide) ol_115 7 rfl) rfl ⟨_, rfl, ?_⟩
        refine Wp.blk (by decide) ol_110 16 1 (pc' := (if (1 : Int32) = (0 : Int32) then 34 else 37)) (L' := [.ref 2, .int v1, .int v2, .int v3, .int v4, .ref i3, .ref i9, mk0]) (S' := []) (h' := h7) rfl ?_
        refine Wp.br (fun hc => absurd hc (by decide)) (fun _ => ?_)
        refine Wp.blk (by decide) ol_110 19 2 (pc' := (if v3 < (0 : Int32) then 52 else 41)) (L' := [.ref 2, .int v1, .int v2, .int v3, .int v4, .ref i3, .ref i9, mk0]) (S' := []) (h' := h7) rfl ?_
        refine Wp.br (fun c11 => ?_) (fun c11 => ?_)
        · replace K := K.1 c11
          refine Wp.blk (by decide) ol_110 26 1 (pc' := 54) (L' := [.ref 2, .int v1, .int v2, .int v3, .int v4, .ref i3, .ref i9, mk0]) (S' := [.int (-102 : Int32)]) (h' := h7) rfl ?_
          exact Wp.ret (op_ix (by decide) ol_110 27 rfl) rfl K
        · replace K := K.2 c11
          refine Wp.blk (by decide) ol_110 21 2 (pc' := (if v4 < (0 : Int32) then 52 else 46)) (L' := [.ref 2, .int v1, .int v2, .int v3, .int v4, .ref i3, .ref i9, mk0]) (S' := []) (h' := h7) rfl ?_
          refine Wp.br (fun c12 => ?_) (fun c12 => ?_)
          · replace K := K.1 c12
            refine Wp.blk (by decide) ol_110 26 1 (pc' := 54) (L' := [.ref 2, .int v1, .int v2, .int v3, .int v4, .ref i3, .ref i9, mk0]) (S' := [.int (-102 : Int32)]) (h' := h7) rfl ?_
            exact Wp.ret (op_ix (by decide) ol_110 27 rfl) rfl K
          · replace K := K.2 c12
            refine Wp.blk (by decide) ol_110 23 3 (pc' := (if (3 : Int32) < v4 then 52 else 55)) (L' := [.ref 2, .int v1, .int v2, .int v3, .int v4, .ref i3, .ref i9, mk0]) (S' := []) (h' := h7) rfl ?_
            refine Wp.br (fun c13 => ?_) (fun c13 => ?_)
            · replace K := K.1 c13
              refine Wp.blk (by decide) ol_110 26 1 (pc' := 54) (L' := [.ref 2, .int v1, .int v2, .int v3, .int v4, .ref i3, .ref i9, mk0]) (S' := [.int (-102 : Int32)]) (h' := h7) rfl ?_
              exact Wp.ret (op_ix (by decide) ol_110 27 rfl) rfl K
            · replace K := K.2 c13
              refine Wp.blk (by decide) ol_110 28 1 (pc' := 56) (L' := [.ref 2, .int v1, .int v2, .int v3, .int v4, .ref i3, .ref i9, mk0]) (S' := [.ref 2]) (h' := h7) rfl ?_
              refine Wp.getf (op_ix (by decide) ol_110 29 rfl) (okS hs8 2 rfl rfl) (v := .ref 21) (congrArg va_rf (rS hs8 2 7 rfl)) rfl ?_
              refine Wp.blk (by decide) ol_110 30 1 (pc' := 60) (L' := [.ref 2, .int v1, .int v2, .int v3, .int v4, .ref i3, .ref i9, mk0]) (S' := [.int v3, .ref 21]) (h' := h7) rfl ?_
              refine Wp.callV (op_ix (by decide) ol_110 31 rfl) (act_virt (c2 := 1) rfl (lk1 (kS hs8 21 rfl)) rfl) rfl (Cl.enter (L := [.ref 21, .int v3]) rfl ?_)
              refine Wp.blk (by decide) ol_10 0 3 (pc' := 3) (L' := [.ref 21, .int v3]) (S' := [.long v3.toInt64, .ref 21]) (h' := h7) rfl ?_
              refine Wp.putf (op_ix (by decide) ol_10 3 rfl) (by decide) (okS hs8 21 rfl rfl) (h' := (stL h7 21 0 v3.toInt64)) rfl rfl ?_
              refine Wp.ret (op_ix (by decide) ol_10 4 rfl) rfl ⟨rfl, ?_⟩
              refine Wp.blk (by decide) ol_110 32 3 (pc' := 68) (L' := [.ref 2, .int v1, .int v2, .int v3, .int v4, .ref i3, .ref i9, mk0]) (S' := [.ref i9, .ref i3, .ref 2]) (h' := (stL h7 21 0 v3.toInt64)) rfl ?_
              refine Wp.callI (op_ix (by decide) ol_110 35 rfl) (act_virt (c2 := 2) rfl (lk1 (kS hs8 2 rfl)) rfl) rfl (K.mono ?_)
              rintro _ h14 ⟨x16, rfl, hs15, K⟩
              refine ⟨x16, rfl, ?_⟩
              refine Wp.blk (by decide) ol_110 36 3 (pc' := (tsw v4 [(0, 100), (1, 117), (2, 120)] 128)) (L' := [.ref 2, .int v1, .int v2, .int v3, .int v4, .ref i3, .ref i9, .int x16]) (S' := []) (h' := h14) rfl ?_
              refine Wp.tsw (fun c17 => ?_) (fun c17 => ?_)
              · replace K := K.1 c17
                refine Wp.blk (by decide) ol_110 39 1 (pc' := 101) (L' := [.ref 2, .int v1, .int v2, .int v3, .int v4, .ref i3, .ref i9, .int x16]) (S' := [.ref 2]) (h' := h14) rfl ?_
                refine Wp.getf (op_ix (by decide) ol_110 40 rfl) (okS hs15 2 rfl rfl) (v := .ref 15) (congrArg va_rf (rS hs15 2 4 rfl)) rfl ?_
                refine Wp.callI (op_ix (by decide) ol_110 41 rfl) (act_virt (c2 := 0) rfl (lk1 (kS hs15 15 rfl)) rfl) rfl (Cl.enter (L := [.ref 15]) rfl ?_)
                refine Wp.blk (by decide) ol_77 0 1 (pc' := 1) (L' := [.ref 15]) (S' := [.ref 15]) (h' := h14) rfl ?_
                refine Wp.getf (op_ix (by decide) ol_77 1 rfl) (okS hs15 15 rfl rfl) (v := .ref 5) (congrArg va_rf (rS hs15 15 0 rfl)) rfl ?_
                refine Wp.blk (by decide) ol_77 2 1 (pc' := 5) (L' := [.ref 15]) (S' := [.ref 15, .ref 5]) (h' := h14) rfl ?_
                refine Wp.getf (op_ix (by decide) ol_77 3 rfl) (okS hs15 15 rfl rfl) (v := .int (AI h14 15 3)) rfl rfl ?_
                refine Wp.blk (by decide) ol_77 4 1 (pc' := 9) (L' := [.ref 15]) (S' := [.ref 15, .int (AI h14 15 3), .ref 5]) (h' := h14) rfl ?_
                refine Wp.getf (op_ix (by decide) ol_77 5 rfl) (okS hs15 15 rfl rfl) (v := .int (AI h14 15 4)) rfl rfl ?_
                refine Wp.callI (op_ix (by decide) ol_77 6 rfl) (act_virt (c2 := 2) rfl (lk1 (kS hs15 5 rfl)) rfl) rfl (K.mono ?_)
                rintro _ h18 ⟨x20, rfl, hs19, K⟩
                refine ⟨x20, rfl, ?_⟩
                refine Wp.ret (op_ix (by decide) ol_77 7 rfl) rfl ⟨_, rfl, ?_⟩
                refine Wp.blk (by decide) ol_110 42 2 (pc' := (if x20 = (1 : Int32) then 111 else 115)) (L' := [.ref 2, .int v1, .int v2, .int v3, .int v4, .ref i3, .ref i9, .int x16]) (S' := []) (h' := h18) rfl ?_
                refine Wp.br (fun c21 => ?_) (fun c21 => ?_)
                · replace K := K.1 c21
                  refine Wp.blk (by decide) ol_110 44 2 (pc' := 116) (L' := [.ref 2, .int v1, .int v2, .int v3, .int v4, .ref i3, .ref i9, .int x16]) (S' := [.int (0 : Int32)]) (h' := h18) rfl ?_
                  exact Wp.ret (op_ix (by decide) ol_110 47 rfl) rfl K
                · replace K := K.2 c21
                  refine Wp.blk (by decide) ol_110 46 1 (pc' := 116) (L' := [.ref 2, .int v1, .int v2, .int v3, .int v4, .ref i3, .ref i9, .int x16]) (S' := [.int (1 : Int32)]) (h' := h18) rfl ?_
                  exact Wp.ret (op_ix (by decide) ol_110 47 rfl) rfl K
              replace K := K.2 c17
              refine Wp.tsw (fun c22 => ?_) (fun c22 => ?_)
              · replace K := K.1 c22
                refine Wp.blk (by decide) ol_110 48 1 (pc' := 119) (L' := [.ref 2, .int v1, .int v2, .int v3, .int v4, .ref i3, .ref i9, .int x16]) (S' := [.int x16]) (h' := h14) rfl ?_
                exact Wp.ret (op_ix (by decide) ol_110 49 rfl) rfl K
              replace K := K.2 c22
              refine Wp.tsw (fun c23 => ?_) (fun c23 => ?_)
              · replace K := K.1 c23
                refine Wp.blk (by decide) ol_110 50 1 (pc' := 121) (L' := [.ref 2, .int v1, .int v2, .int v3, .int v4, .ref i3, .ref i9, .int x16]) (S' := [.ref 2]) (h' := h14) rfl ?_
                refine Wp.getf (op_ix (by decide) ol_110 51 rfl) (okS hs15 2 rfl rfl) (v := .ref 15) (congrArg va_rf (rS hs15 2 4 rfl)) rfl ?_
                refine Wp.callI (op_ix (by decide) ol_110 52 rfl) (act_virt (c2 := 0) rfl (lk1 (kS hs15 15 rfl)) rfl) rfl (Cl.enter (L := [.ref 15]) rfl ?_)
                refine Wp.blk (by decide) ol_84 0 1 (pc' := 1) (L' := [.ref 15]) (S' := [.ref 15]) (h' := h14) rfl ?_
                refine Wp.getf (op_ix (by decide) ol_84 1 rfl) (okS hs15 15 rfl rfl) (v := .int (AI h14 15 3)) rfl rfl ?_
                refine Wp.ret (op_ix (by decide) ol_84 2 rfl) rfl ⟨_, rfl, ?_⟩
                exact Wp.ret (op_ix (by decide) ol_110 53 rfl) rfl K
              replace K := K.2 c23
              unfold tsw
              refine Wp.blk (by decide) ol_110 54 1 (pc' := 129) (L' := [.ref 2, .int v1, .int v2, .int v3, .int v4, .ref i3, .ref i9, .int x16]) (S' := [.ref 2]) (h' := h14) rfl ?_
              refine Wp.getf (op_ix (by decide) ol_110 55 rfl) (okS hs15 2 rfl rfl) (v := .ref 21) (congrArg va_rf (rS hs15 2 7 rfl)) rfl ?_
              refine Wp.callI (op_ix (by decide) ol_110 56 rfl) (act_virt (c2 := 0) rfl (lk1 (kS hs15 21 rfl)) rfl) rfl (Cl.enter (L := [.ref 21]) rfl ?_)
              refine Wp.blk (by decide) ol_12 0 1 (pc' := 1) (L' := [.ref 21]) (S' := [.ref 21]) (h' := h14) rfl ?_
              refine Wp.getf (op_ix (by decide) ol_12 1 rfl) (okS hs15 21 rfl rfl) (v := .long (AL h14 21 0)) rfl rfl ?_
              refine Wp.blk (by decide) ol_12 2 1 (pc' := 5) (L' := [.ref 21]) (S' := [.int ((AL h14 21 0)).toInt32]) (h' := h14) rfl ?_
              refine Wp.ret (op_ix (by decide) ol_12 3 rfl) rfl ⟨_, rfl, ?_⟩
              exact Wp.ret (op_ix (by decide) ol_110 57 rfl) rfl K
      · replace K := K.2 c10
        refine Wp.blk (by decide) ol_115 6 1 (pc' := 15) (L' := [.ref 2]) (S' := [.int (0 : Int32)]) (h' := h7) rfl ?_
        refine Wp.ret (op_ix (by decide) ol_115 7 rfl) rfl ⟨_, rfl, ?_⟩
        refine Wp.blk (by decide) ol_110 16 1 (pc' := (if (0 : Int32) = (0 : Int32) then 34 else 37)) (L' := [.ref 2, .int v1, .int v2, .int v3, .int v4, .ref i3, .ref i9, mk0]) (S' := []) (h' := h7) rfl ?_
        refine Wp.br (fun _ => ?_) (fun hc => absurd (by decide) hc)
        refine Wp.blk (by decide) ol_110 17 1 (pc' := 36) (L' := [.ref 2, .int v1, .int v2, .int v3, .int v4, .ref i3, .ref i9, mk0]) (S' := [.int (-103 : Int32)]) (h' := h7) rfl ?_
        exact Wp.ret (op_ix (by decide) ol_110 18 rfl) rfl K
    · refine Or.inr ⟨rfl, ?_⟩
      refine Wp.blk (by decide) ol_110 7 3 (pc' := 19) (L' := [.ref 2, .int v1, .int v2, .int v3, .int v4, .ref i3, .null, mk0]) (S' := []) (h' := h7) rfl ?_
      refine Wp.blk (by decide) ol_110 10 2 (pc' := 24) (L' := [.ref 2, .int v1, .int v2, .int v3, .int v4, .ref i3, .null, mk0]) (S' := []) (h' := h7) rfl ?_
      refine Wp.blk (by decide) ol_110 12 1 (pc' := 26) (L' := [.ref 2, .int v1, .int v2, .int v3, .int v4, .ref i3, .null, mk0]) (S' := [.int (-101 : Int32)]) (h' := h7) rfl ?_
      exact Wp.ret (op_ix (by decide) ol_110 13 rfl) rfl K
  · refine Or.inr ⟨rfl, ?_⟩
    refine Wp.blk (by decide) ol_110 3 3 (pc' := 9) (L' := [.ref 2, .int v1, .int v2, .int v3, .int v4, .null, mk0, mk0]) (S' := [.int v2, .ref 2]) (h' := h1) rfl ?_
    refine Wp.callR (op_ix (by decide) ol_110 6 rfl) (act_virt (c2 := 1) rfl (lk1 (kS hs2 2 rfl)) rfl) rfl (K.mono ?_)
    rintro _ h4 (⟨i6, rfl, hs5, K⟩ | ⟨rfl, hs5, K⟩)
    · refine Or.inl ⟨i6, rfl, ?_⟩
      refine Wp.blk (by decide) ol_110 7 3 (pc' := 24) (L' := [.ref 2, .int v1, .int v2, .int v3, .int v4, .null, .ref i6, mk0]) (S' := []) (h' := h4) rfl ?_
      refine Wp.blk (by decide) ol_110 12 1 (pc' := 26) (L' := [.ref 2, .int v1, .int v2, .int v3, .int v4, .null, .ref i6, mk0]) (S' := [.int (-101 : Int32)]) (h' := h4) rfl ?_
      exact Wp.ret (op_ix (by decide) ol_110 13 rfl) rfl K
    · refine Or.inr ⟨rfl, ?_⟩
      refine Wp.blk (by decide) ol_110 7 3 (pc' := 24) (L' := [.ref 2, .int v1, .int v2, .int v3, .int v4, .null, .null, mk0]) (S' := []) (h' := h4) rfl ?_
      refine Wp.blk (by decide) ol_110 12 1 (pc' := 26) (L' := [.ref 2, .int v1, .int v2, .int v3, .int v4, .null, .null, mk0]) (S' := [.int (-101 : Int32)]) (h' := h4) rfl ?_
      exact Wp.ret (op_ix (by decide) ol_110 13 rfl) rfl K
/-- CutsOrFast.image at 0 ()I -/
theorem g111_0 (d : Nat)  (h : AH) (HS : Sh h)  (Q : Option Value → AH → Prop) (K : (((0 : Int32) < (AI h 5 5) → (Cl (d + 1) 73 [.ref 13, .ref 11] h (fun r h2 => r = none ∧ Sh h2 ∧ Q (some (.int (AI ((stI h2 2 12 ((1 : Int32)))) 11 2))) (stI h2 2 12 ((1 : Int32)))))) ∧ (¬ (0 : Int32) < (AI h 5 5) → Q (some (.int (-103 : Int32))) h))) : Wp (d + 2) 111 0 [.ref 2] [] h Q := by
  refine Wp.blk (by decide) ol_111 0 1 (pc' := 1) (L' := [.ref 2]) (S' := [.ref 2]) (h' := h) rfl ?_
  refine Wp.callI (op_ix (by decide) ol_111 1 rfl) (act_virt (c2 := 0) rfl (lk1 (kS HS 2 rfl)) rfl) rfl (Cl.enter (L := [.ref 2]) rfl ?_)
  refine Wp.blk (by decide) ol_115 0 1 (pc' := 1) (L' := [.ref 2]) (S' := [.ref 2]) (h' := h) rfl ?_
  refine Wp.getf (op_ix (by decide) ol_115 1 rfl) (okS HS 2 rfl rfl) (v := .ref 5) (congrArg va_rf (rS HS 2 1 rfl)) rfl ?_
  refine Wp.callI (op_ix (by decide) ol_115 2 rfl) (act_virt (c2 := 0) rfl (lk1 (kS HS 5 rfl)) rfl) rfl (Cl.enter (L := [.ref 5]) rfl ?_)
  refine Wp.blk (by decide) ol_26 0 1 (pc' := 1) (L' := [.ref 5]) (S' := [.ref 5]) (h' := h) rfl ?_
  refine Wp.getf (op_ix (by decide) ol_26 1 rfl) (okS HS 5 rfl rfl) (v := .int (AI h 5 5)) rfl rfl ?_
  refine Wp.ret (op_ix (by decide) ol_26 2 rfl) rfl ⟨_, rfl, ?_⟩
  refine Wp.blk (by decide) ol_115 3 1 (pc' := (if (0 : Int32) < (AI h 5 5) then 10 else 14)) (L' := [.ref 2]) (S' := []) (h' := h) rfl ?_
  refine Wp.br (fun c1 => ?_) (fun c1 => ?_)
  · replace K := K.1 c1
    refine Wp.blk (by decide) ol_115 4 2 (pc' := 15) (L' := [.ref 2]) (S' := [.int (1 : Int32)]) (h' := h) rfl ?_
    refine Wp.ret (op_ix (by decide) ol_115 7 rfl) rfl ⟨_, rfl, ?_⟩
    refine Wp.blk (by decide) ol_111 2 1 (pc' := (if (1 : Int32) = (0 : Int32) then 7 else 10)) (L' := [.ref 2]) (S' := []) (h' := h) rfl ?_
    refine Wp.br (fun hc => absurd hc (by decide)) (fun _ => ?_)
    refine Wp.blk (by decide) ol_111 5 1 (pc' := 11) (L' := [.ref 2]) (S' := [.ref 2]) (h' := h) rfl ?_
    refine Wp.getf (op_ix (by decide) ol_111 6 rfl) (okS HS 2 rfl rfl) (v := .ref 13) (congrArg va_rf (rS HS 2 3 rfl)) rfl ?_
    refine Wp.blk (by decide) ol_111 7 1 (pc' := 15) (L' := [.ref 2]) (S' := [.ref 2, .ref 13]) (h' := h) rfl ?_
    refine Wp.getf (op_ix (by decide) ol_111 8 rfl) (okS HS 2 rfl rfl) (v := .ref 11) (congrArg va_rf (rS HS 2 2 rfl)) rfl ?_
    refine Wp.callV (op_ix (by decide) ol_111 9 rfl) (act_virt (c2 := 1) rfl (lk1 (kS HS 13 rfl)) rfl) rfl (K.mono ?_)
    rintro _ h2 ⟨rfl, hs3, K⟩
    refine ⟨rfl, ?_⟩
    refine Wp.blk (by decide) ol_111 10 2 (pc' := 23) (L' := [.ref 2]) (S' := [.int (1 : Int32), .ref 2]) (h' := h2) rfl ?_
    refine Wp.putf (op_ix (by decide) ol_111 12 rfl) (by decide) (okS hs3 2 rfl rfl) (h' := (stI h2 2 12 ((1 : Int32)))) rfl rfl ?_
    refine Wp.blk (by decide) ol_111 13 1 (pc' := 27) (L' := [.ref 2]) (S' := [.ref 2]) (h' := (stI h2 2 12 ((1 : Int32)))) rfl ?_
    refine Wp.getf (op_ix (by decide) ol_111 14 rfl) (okS hs3 2 rfl rfl) (v := .ref 11) (congrArg va_rf (rS hs3 2 2 rfl)) rfl ?_
    refine Wp.callI (op_ix (by decide) ol_111 15 rfl) (act_virt (c2 := 0) rfl (lk1 (kS hs3 11 rfl)) rfl) rfl (Cl.enter (L := [.ref 11]) rfl ?_)
    refine Wp.blk (by decide) ol_80 0 1 (pc' := 1) (L' := [.ref 11]) (S' := [.ref 11]) (h' := (stI h2 2 12 ((1 : Int32)))) rfl ?_
    refine Wp.getf (op_ix (by decide) ol_80 1 rfl) (okS hs3 11 rfl rfl) (v := .int (AI ((stI h2 2 12 ((1 : Int32)))) 11 2)) rfl rfl ?_
    refine Wp.ret (op_ix (by decide) ol_80 2 rfl) rfl ⟨_, rfl, ?_⟩
    exact Wp.ret (op_ix (by decide) ol_111 16 rfl) rfl K
  · replace K := K.2 c1
    refine Wp.blk (by decide) ol_115 6 1 (pc' := 15) (L' := [.ref 2]) (S' := [.int (0 : Int32)]) (h' := h) rfl ?_
    refine Wp.ret (op_ix (by decide) ol_115 7 rfl) rfl ⟨_, rfl, ?_⟩
    refine Wp.blk (by decide) ol_111 2 1 (pc' := (if (0 : Int32) = (0 : Int32) then 7 else 10)) (L' := [.ref 2]) (S' := []) (h' := h) rfl ?_
    refine Wp.br (fun _ => ?_) (fun hc => absurd (by decide) hc)
    refine Wp.blk (by decide) ol_111 3 1 (pc' := 9) (L' := [.ref 2]) (S' := [.int (-103 : Int32)]) (h' := h) rfl ?_
    exact Wp.ret (op_ix (by decide) ol_111 4 rfl) rfl K
/-- CutsOrFast.restore at 0 ()I -/
theorem g112_0 (d : Nat)  (h : AH) (HS : Sh h)  (Q : Option Value → AH → Prop) (K : (((AI h 2 12) = (0 : Int32) → Q (some (.int (-103 : Int32))) h) ∧ (¬ (AI h 2 12) = (0 : Int32) → (Cl d 73 [.ref 11, .ref 13] h (fun r h2 => r = none ∧ Sh h2 ∧ Q (some (.int (AI h2 11 2))) h2))))) : Wp (d + 1) 112 0 [.ref 2] [] h Q := by
  refine Wp.blk (by decide) ol_112 0 1 (pc' := 1) (L' := [.ref 2]) (S' := [.ref 2]) (h' := h) rfl ?_
  refine Wp.getf (op_ix (by decide) ol_112 1 rfl) (okS HS 2 rfl rfl) (v := .int (AI h 2 12)) rfl rfl ?_
  refine Wp.blk (by decide) ol_112 2 1 (pc' := (if (AI h 2 12) = (0 : Int32) then 7 else 10)) (L' := [.ref 2]) (S' := []) (h' := h) rfl ?_
  refine Wp.br (fun c1 => ?_) (fun c1 => ?_)
  · replace K := K.1 c1
    refine Wp.blk (by decide) ol_112 3 1 (pc' := 9) (L' := [.ref 2]) (S' := [.int (-103 : Int32)]) (h' := h) rfl ?_
    exact Wp.ret (op_ix (by decide) ol_112 4 rfl) rfl K
  · replace K := K.2 c1
    refine Wp.blk (by decide) ol_112 5 1 (pc' := 11) (L' := [.ref 2]) (S' := [.ref 2]) (h' := h) rfl ?_
    refine Wp.getf (op_ix (by decide) ol_112 6 rfl) (okS HS 2 rfl rfl) (v := .ref 11) (congrArg va_rf (rS HS 2 2 rfl)) rfl ?_
    refine Wp.blk (by decide) ol_112 7 1 (pc' := 15) (L' := [.ref 2]) (S' := [.ref 2, .ref 11]) (h' := h) rfl ?_
    refine Wp.getf (op_ix (by decide) ol_112 8 rfl) (okS HS 2 rfl rfl) (v := .ref 13) (congrArg va_rf (rS HS 2 3 rfl)) rfl ?_
    refine Wp.callV (op_ix (by decide) ol_112 9 rfl) (act_virt (c2 := 1) rfl (lk1 (kS HS 11 rfl)) rfl) rfl (K.mono ?_)
    rintro _ h2 ⟨rfl, hs3, K⟩
    refine ⟨rfl, ?_⟩
    refine Wp.blk (by decide) ol_112 10 1 (pc' := 22) (L' := [.ref 2]) (S' := [.ref 2]) (h' := h2) rfl ?_
    refine Wp.getf (op_ix (by decide) ol_112 11 rfl) (okS hs3 2 rfl rfl) (v := .ref 11) (congrArg va_rf (rS hs3 2 2 rfl)) rfl ?_
    refine Wp.callI (op_ix (by decide) ol_112 12 rfl) (act_virt (c2 := 0) rfl (lk1 (kS hs3 11 rfl)) rfl) rfl (Cl.enter (L := [.ref 11]) rfl ?_)
    refine Wp.blk (by decide) ol_80 0 1 (pc' := 1) (L' := [.ref 11]) (S' := [.ref 11]) (h' := h2) rfl ?_
    refine Wp.getf (op_ix (by decide) ol_80 1 rfl) (okS hs3 11 rfl rfl) (v := .int (AI h2 11 2)) rfl rfl ?_
    refine Wp.ret (op_ix (by decide) ol_80 2 rfl) rfl ⟨_, rfl, ?_⟩
    exact Wp.ret (op_ix (by decide) ol_112 13 rfl) rfl K
/-- CutsOrFast.count at 0 (I)I -/
theorem g113_0 (d : Nat) (v1 : Int32) (h : AH) (HS : Sh h)  (Q : Option Value → AH → Prop) (K : ((v1 = Int32.ofNat 0 → Q (some (.int (AI h 5 5))) h) ∧ (¬ v1 = Int32.ofNat 0 → ((v1 = Int32.ofNat 1 → (Cl (d + 1) 199 [.int (((((((((1 : Int32)) <<< (((AI h 5 5)) &&& 31))) - ((1 : Int32)))) &&& ((((AI h 11 3)) ^^^ ((-1 : Int32)))))) &&& ((((AI h 11 4)) ^^^ ((-1 : Int32)))))] h (fun r h3 => ∃ x5 : Int32, r = some (.int x5) ∧ Sh h3 ∧ Q (some (.int x5)) h3))) ∧ (¬ v1 = Int32.ofNat 1 → ((v1 = Int32.ofNat 2 → (Cl (d + 1) 199 [.int (AI h 11 3)] h (fun r h7 => ∃ x9 : Int32, r = some (.int x9) ∧ Sh h7 ∧ Q (some (.int x9)) h7))) ∧ (¬ v1 = Int32.ofNat 2 → ((v1 = Int32.ofNat 3 → (Cl (d + 1) 199 [.int (AI h 11 4)] h (fun r h11 => ∃ x13 : Int32, r = some (.int x13) ∧ Sh h11 ∧ Q (some (.int x13)) h11))) ∧ (¬ v1 = Int32.ofNat 3 → ((v1 = Int32.ofNat 4 → Q (some (.int (AI h 11 2))) h) ∧ (¬ v1 = Int32.ofNat 4 → ((v1 = Int32.ofNat 5 → Q (some (.int (AI h 11 5))) h) ∧ (¬ v1 = Int32.ofNat 5 → ((v1 = Int32.ofNat 6 → Q (some (.int (AI h 2 9))) h) ∧ (¬ v1 = Int32.ofNat 6 → ((v1 = Int32.ofNat 7 → Q (some (.int (AI h 3 1))) h) ∧ (¬ v1 = Int32.ofNat 7 → ((v1 = Int32.ofNat 8 → Q (some (.int (AI h 2 10))) h) ∧ (¬ v1 = Int32.ofNat 8 → ((v1 = Int32.ofNat 9 → Q (some (.int (AI h 2 11))) h) ∧ (¬ v1 = Int32.ofNat 9 → Q (some (.int (-102 : Int32))) h))))))))))))))))))))) : Wp (d + 2) 113 0 [.ref 2, .int v1] [] h Q := by
  refine Wp.blk (by decide) ol_113 0 2 (pc' := (tsw v1 [(0, 56), (1, 64), (2, 75), (3, 86), (4, 97), (5, 105), (6, 113), (7, 118), (8, 126), (9, 131)] 136)) (L' := [.ref 2, .int v1]) (S' := []) (h' := h) rfl ?_
  refine Wp.tsw (fun c1 => ?_) (fun c1 => ?_)
  · replace K := K.1 c1
    refine Wp.blk (by decide) ol_113 2 1 (pc' := 57) (L' := [.ref 2, .int v1]) (S' := [.ref 2]) (h' := h) rfl ?_
    refine Wp.getf (op_ix (by decide) ol_113 3 rfl) (okS HS 2 rfl rfl) (v := .ref 5) (congrArg va_rf (rS HS 2 1 rfl)) rfl ?_
    refine Wp.callI (op_ix (by decide) ol_113 4 rfl) (act_virt (c2 := 0) rfl (lk1 (kS HS 5 rfl)) rfl) rfl (Cl.enter (L := [.ref 5]) rfl ?_)
    refine Wp.blk (by decide) ol_26 0 1 (pc' := 1) (L' := [.ref 5]) (S' := [.ref 5]) (h' := h) rfl ?_
    refine Wp.getf (op_ix (by decide) ol_26 1 rfl) (okS HS 5 rfl rfl) (v := .int (AI h 5 5)) rfl rfl ?_
    refine Wp.ret (op_ix (by decide) ol_26 2 rfl) rfl ⟨_, rfl, ?_⟩
    exact Wp.ret (op_ix (by decide) ol_113 5 rfl) rfl K
  replace K := K.2 c1
  refine Wp.tsw (fun c2 => ?_) (fun c2 => ?_)
  · replace K := K.1 c2
    refine Wp.blk (by decide) ol_113 6 1 (pc' := 65) (L' := [.ref 2, .int v1]) (S' := [.ref 2]) (h' := h) rfl ?_
    refine Wp.getf (op_ix (by decide) ol_113 7 rfl) (okS HS 2 rfl rfl) (v := .ref 11) (congrArg va_rf (rS HS 2 2 rfl)) rfl ?_
    refine Wp.callI (op_ix (by decide) ol_113 8 rfl) (act_virt (c2 := 0) rfl (lk1 (kS HS 11 rfl)) rfl) rfl (Cl.enter (L := [.ref 11]) rfl ?_)
    refine Wp.blk (by decide) ol_86 0 1 (pc' := 1) (L' := [.ref 11]) (S' := [.ref 11]) (h' := h) rfl ?_
    refine Wp.getf (op_ix (by decide) ol_86 1 rfl) (okS HS 11 rfl rfl) (v := .ref 5) (congrArg va_rf (rS HS 11 0 rfl)) rfl ?_
    refine Wp.callI (op_ix (by decide) ol_86 2 rfl) (act_virt (c2 := 0) rfl (lk1 (kS HS 5 rfl)) rfl) rfl (Cl.enter (L := [.ref 5]) rfl ?_)
    refine Wp.blk (by decide) ol_27 0 2 (pc' := 2) (L' := [.ref 5]) (S' := [.ref 5, .int (1 : Int32)]) (h' := h) rfl ?_
    refine Wp.getf (op_ix (by decide) ol_27 2 rfl) (okS HS 5 rfl rfl) (v := .int (AI h 5 5)) rfl rfl ?_
    refine Wp.blk (by decide) ol_27 3 3 (pc' := 8) (L' := [.ref 5]) (S' := [.int (((((1 : Int32)) <<< (((AI h 5 5)) &&& 31))) - ((1 : Int32)))]) (h' := h) rfl ?_
    refine Wp.ret (op_ix (by decide) ol_27 6 rfl) rfl ⟨_, rfl, ?_⟩
    refine Wp.blk (by decide) ol_86 3 1 (pc' := 8) (L' := [.ref 11]) (S' := [.ref 11, .int (((((1 : Int32)) <<< (((AI h 5 5)) &&& 31))) - ((1 : Int32)))]) (h' := h) rfl ?_
    refine Wp.getf (op_ix (by decide) ol_86 4 rfl) (okS HS 11 rfl rfl) (v := .int (AI h 11 3)) rfl rfl ?_
    refine Wp.blk (by decide) ol_86 5 4 (pc' := 15) (L' := [.ref 11]) (S' := [.ref 11, .int (((((((1 : Int32)) <<< (((AI h 5 5)) &&& 31))) - ((1 : Int32)))) &&& ((((AI h 11 3)) ^^^ ((-1 : Int32)))))]) (h' := h) rfl ?_
    refine Wp.getf (op_ix (by decide) ol_86 9 rfl) (okS HS 11 rfl rfl) (v := .int (AI h 11 4)) rfl rfl ?_
    refine Wp.blk (by decide) ol_86 10 3 (pc' := 21) (L' := [.ref 11]) (S' := [.int (((((((((1 : Int32)) <<< (((AI h 5 5)) &&& 31))) - ((1 : Int32)))) &&& ((((AI h 11 3)) ^^^ ((-1 : Int32)))))) &&& ((((AI h 11 4)) ^^^ ((-1 : Int32)))))]) (h' := h) rfl ?_
    refine Wp.ret (op_ix (by decide) ol_86 13 rfl) rfl ⟨_, rfl, ?_⟩
    refine Wp.callI (op_ix (by decide) ol_113 9 rfl) rfl rfl (K.mono ?_)
    rintro _ h3 ⟨x5, rfl, hs4, K⟩
    refine ⟨x5, rfl, ?_⟩
    exact Wp.ret (op_ix (by decide) ol_113 10 rfl) rfl K
  replace K := K.2 c2
  refine Wp.tsw (fun c6 => ?_) (fun c6 => ?_)
  · replace K := K.1 c6
    refine Wp.blk (by decide) ol_113 11 1 (pc' := 76) (L' := [.ref 2, .int v1]) (S' := [.ref 2]) (h' := h) rfl ?_
    refine Wp.getf (op_ix (by decide) ol_113 12 rfl) (okS HS 2 rfl rfl) (v := .ref 11) (congrArg va_rf (rS HS 2 2 rfl)) rfl ?_
    refine Wp.callI (op_ix (by decide) ol_113 13 rfl) (act_virt (c2 := 0) rfl (lk1 (kS HS 11 rfl)) rfl) rfl (Cl.enter (L := [.ref 11]) rfl ?_)
    refine Wp.blk (by decide) ol_84 0 1 (pc' := 1) (L' := [.ref 11]) (S' := [.ref 11]) (h' := h) rfl ?_
    refine Wp.getf (op_ix (by decide) ol_84 1 rfl) (okS HS 11 rfl rfl) (v := .int (AI h 11 3)) rfl rfl ?_
    refine Wp.ret (op_ix (by decide) ol_84 2 rfl) rfl ⟨_, rfl, ?_⟩
    refine Wp.callI (op_ix (by decide) ol_113 14 rfl) rfl rfl (K.mono ?_)
    rintro _ h7 ⟨x9, rfl, hs8, K⟩
    refine ⟨x9, rfl, ?_⟩
    exact Wp.ret (op_ix (by decide) ol_113 15 rfl) rfl K
  replace K := K.2 c6
  refine Wp.tsw (fun c10 => ?_) (fun c10 => ?_)
  · replace K := K.1 c10
    refine Wp.blk (by decide) ol_113 16 1 (pc' := 87) (L' := [.ref 2, .int v1]) (S' := [.ref 2]) (h' := h) rfl ?_
    refine Wp.getf (op_ix (by decide) ol_113 17 rfl) (okS HS 2 rfl rfl) (v := .ref 11) (congrArg va_rf (rS HS 2 2 rfl)) rfl ?_
    refine Wp.callI (op_ix (by decide) ol_113 18 rfl) (act_virt (c2 := 0) rfl (lk1 (kS HS 11 rfl)) rfl) rfl (Cl.enter (L := [.ref 11]) rfl ?_)
    refine Wp.blk (by decide) ol_85 0 1 (pc' := 1) (L' := [.ref 11]) (S' := [.ref 11]) (h' := h) rfl ?_
    refine Wp.getf (op_ix (by decide) ol_85 1 rfl) (okS HS 11 rfl rfl) (v := .int (AI h 11 4)) rfl rfl ?_
    refine Wp.ret (op_ix (by decide) ol_85 2 rfl) rfl ⟨_, rfl, ?_⟩
    refine Wp.callI (op_ix (by decide) ol_113 19 rfl) rfl rfl (K.mono ?_)
    rintro _ h11 ⟨x13, rfl, hs12, K⟩
    refine ⟨x13, rfl, ?_⟩
    exact Wp.ret (op_ix (by decide) ol_113 20 rfl) rfl K
  replace K := K.2 c10
  refine Wp.tsw (fun c14 => ?_) (fun c14 => ?_)
  · replace K := K.1 c14
    refine Wp.blk (by decide) ol_113 21 1 (pc' := 98) (L' := [.ref 2, .int v1]) (S' := [.ref 2]) (h' := h) rfl ?_
    refine Wp.getf (op_ix (by decide) ol_113 22 rfl) (okS HS 2 rfl rfl) (v := .ref 11) (congrArg va_rf (rS HS 2 2 rfl)) rfl ?_
    refine Wp.callI (op_ix (by decide) ol_113 23 rfl) (act_virt (c2 := 0) rfl (lk1 (kS HS 11 rfl)) rfl) rfl (Cl.enter (L := [.ref 11]) rfl ?_)
    refine Wp.blk (by decide) ol_80 0 1 (pc' := 1) (L' := [.ref 11]) (S' := [.ref 11]) (h' := h) rfl ?_
    refine Wp.getf (op_ix (by decide) ol_80 1 rfl) (okS HS 11 rfl rfl) (v := .int (AI h 11 2)) rfl rfl ?_
    refine Wp.ret (op_ix (by decide) ol_80 2 rfl) rfl ⟨_, rfl, ?_⟩
    exact Wp.ret (op_ix (by decide) ol_113 24 rfl) rfl K
  replace K := K.2 c14
  refine Wp.tsw (fun c15 => ?_) (fun c15 => ?_)
  · replace K := K.1 c15
    refine Wp.blk (by decide) ol_113 25 1 (pc' := 106) (L' := [.ref 2, .int v1]) (S' := [.ref 2]) (h' := h) rfl ?_
    refine Wp.getf (op_ix (by decide) ol_113 26 rfl) (okS HS 2 rfl rfl) (v := .ref 11) (congrArg va_rf (rS HS 2 2 rfl)) rfl ?_
    refine Wp.callI (op_ix (by decide) ol_113 27 rfl) (act_virt (c2 := 0) rfl (lk1 (kS HS 11 rfl)) rfl) rfl (Cl.enter (L := [.ref 11]) rfl ?_)
    refine Wp.blk (by decide) ol_82 0 1 (pc' := 1) (L' := [.ref 11]) (S' := [.ref 11]) (h' := h) rfl ?_
    refine Wp.getf (op_ix (by decide) ol_82 1 rfl) (okS HS 11 rfl rfl) (v := .int (AI h 11 5)) rfl rfl ?_
    refine Wp.ret (op_ix (by decide) ol_82 2 rfl) rfl ⟨_, rfl, ?_⟩
    exact Wp.ret (op_ix (by decide) ol_113 28 rfl) rfl K
  replace K := K.2 c15
  refine Wp.tsw (fun c16 => ?_) (fun c16 => ?_)
  · replace K := K.1 c16
    refine Wp.blk (by decide) ol_113 29 1 (pc' := 114) (L' := [.ref 2, .int v1]) (S' := [.ref 2]) (h' := h) rfl ?_
    refine Wp.getf (op_ix (by decide) ol_113 30 rfl) (okS HS 2 rfl rfl) (v := .int (AI h 2 9)) rfl rfl ?_
    exact Wp.ret (op_ix (by decide) ol_113 31 rfl) rfl K
  replace K := K.2 c16
  refine Wp.tsw (fun c17 => ?_) (fun c17 => ?_)
  · replace K := K.1 c17
    refine Wp.blk (by decide) ol_113 32 1 (pc' := 119) (L' := [.ref 2, .int v1]) (S' := [.ref 2]) (h' := h) rfl ?_
    refine Wp.getf (op_ix (by decide) ol_113 33 rfl) (okS HS 2 rfl rfl) (v := .ref 3) (congrArg va_rf (rS HS 2 0 rfl)) rfl ?_
    refine Wp.callI (op_ix (by decide) ol_113 34 rfl) (act_virt (c2 := 0) rfl (lk1 (kS HS 3 rfl)) rfl) rfl (Cl.enter (L := [.ref 3]) rfl ?_)
    refine Wp.blk (by decide) ol_39 0 1 (pc' := 1) (L' := [.ref 3]) (S' := [.ref 3]) (h' := h) rfl ?_
    refine Wp.getf (op_ix (by decide) ol_39 1 rfl) (okS HS 3 rfl rfl) (v := .int (AI h 3 1)) rfl rfl ?_
    refine Wp.ret (op_ix (by decide) ol_39 2 rfl) rfl ⟨_, rfl, ?_⟩
    exact Wp.ret (op_ix (by decide) ol_113 35 rfl) rfl K
  replace K := K.2 c17
  refine Wp.tsw (fun c18 => ?_) (fun c18 => ?_)
  · replace K := K.1 c18
    refine Wp.blk (by decide) ol_113 36 1 (pc' := 127) (L' := [.ref 2, .int v1]) (S' := [.ref 2]) (h' := h) rfl ?_
    refine Wp.getf (op_ix (by decide) ol_113 37 rfl) (okS HS 2 rfl rfl) (v := .int (AI h 2 10)) rfl rfl ?_
    exact Wp.ret (op_ix (by decide) ol_113 38 rfl) rfl K
  replace K := K.2 c18
  refine Wp.tsw (fun c19 => ?_) (fun c19 => ?_)
  · replace K := K.1 c19
    refine Wp.blk (by decide) ol_113 39 1 (pc' := 132) (L' := [.ref 2, .int v1]) (S' := [.ref 2]) (h' := h) rfl ?_
    refine Wp.getf (op_ix (by decide) ol_113 40 rfl) (okS HS 2 rfl rfl) (v := .int (AI h 2 11)) rfl rfl ?_
    exact Wp.ret (op_ix (by decide) ol_113 41 rfl) rfl K
  replace K := K.2 c19
  unfold tsw
  refine Wp.blk (by decide) ol_113 42 1 (pc' := 138) (L' := [.ref 2, .int v1]) (S' := [.int (-102 : Int32)]) (h' := h) rfl ?_
  exact Wp.ret (op_ix (by decide) ol_113 43 rfl) rfl K
/-- CutsOrFast.digest at 0 ()J -/
theorem g114_0 (d : Nat)  (h : AH) (HS : Sh h)  (Q : Option Value → AH → Prop) (K : Wp d 114 6 [.ref 2, .long (587 : Int64), mk0, .int (0 : Int32), mk0] [] h Q) : Wp d 114 0 [.ref 2, mk0, mk0, mk0, mk0] [] h Q := by
  refine Wp.blk (by decide) ol_114 0 4 (pc' := 6) (L' := [.ref 2, .long (587 : Int64), mk0, .int (0 : Int32), mk0]) (S' := []) (h' := h) rfl ?_
  exact K
/-- CutsOrFast.digest at 6 -/
theorem g114_6 (d : Nat) (v1 : Int64) (v3 : Int32) (h : AH) (HS : Sh h)  (Q : Option Value → AH → Prop) (K : ((v3 < (AI h 5 5) → Wp (d + 2) 114 20 [.ref 2, .long v1, mk0, .int v3, .int (0 : Int32)] [] h Q) ∧ (¬ v3 < (AI h 5 5) → (((0 : Int32) < (AI h 5 5) → (Cl (d + 1) 94 [.ref 2] h (fun r h3 => ∃ x5 : Int32, r = some (.int x5) ∧ Sh h3 ∧ (Cl (d + 1) 98 [.ref 2, .int (0 : Int32)] h3 (fun r h6 => ∃ x8 : Int32, r = some (.int x8) ∧ Sh h6 ∧ (Cl (d + 1) 98 [.ref 2, .int (1 : Int32)] h6 (fun r h9 => ∃ x11 : Int32, r = some (.int x11) ∧ Sh h9 ∧ (Cl (d + 1) 99 [.ref 2, .int (0 : Int32)] h9 (fun r h12 => ∃ x14 : Int32, r = some (.int x14) ∧ Sh h12 ∧ (Cl (d + 1) 99 [.ref 2, .int (1 : Int32)] h12 (fun r h15 => ∃ x17 : Int32, r = some (.int x17) ∧ Sh h15 ∧ (Cl (d + 1) 101 [.ref 2] h15 (fun r h18 => ∃ x20 : Int32, r = some (.int x20) ∧ Sh h18 ∧ (Cl (d + 1) 102 [.ref 2] h18 (fun r h21 => ∃ x23 : Int32, r = some (.int x23) ∧ Sh h21 ∧ (Cl (d + 1) 103 [.ref 2, .int (0 : Int32)] h21 (fun r h24 => ∃ x26 : Int32, r = some (.int x26) ∧ Sh h24 ∧ (Cl (d + 1) 103 [.ref 2, .int (1 : Int32)] h24 (fun r h27 => ∃ x29 : Int32, r = some (.int x29) ∧ Sh h27 ∧ (Cl (d + 1) 105 [.ref 2, .int (0 : Int32)] h27 (fun r h30 => ∃ x32 : Int32, r = some (.int x32) ∧ Sh h30 ∧ (Cl (d + 1) 105 [.ref 2, .int (1 : Int32)] h30 (fun r h33 => ∃ x35 : Int32, r = some (.int x35) ∧ Sh h33 ∧ Wp (d + 2) 114 202 [.ref 2, .long (((((31 : Int64)) * ((((((31 : Int64)) * ((((((31 : Int64)) * ((((((31 : Int64)) * ((((((31 : Int64)) * ((((((31 : Int64)) * ((((((31 : Int64)) * ((((((31 : Int64)) * ((((((31 : Int64)) * ((((((31 : Int64)) * ((((((31 : Int64)) * v1)) + x5.toInt64)))) + x8.toInt64)))) + x11.toInt64)))) + x14.toInt64)))) + x17.toInt64)))) + x20.toInt64)))) + x23.toInt64)))) + x26.toInt64)))) + x29.toInt64)))) + x32.toInt64)))) + x35.toInt64), mk0, .int (0 : Int32), mk0] [] h33 Q))))))))))))))))))))))) ∧ (¬ (0 : Int32) < (AI h 5 5) → Wp (d + 2) 114 243 [.ref 2, .long v1, mk0, .int (0 : Int32), mk0] [] h Q))))) : Wp (d + 2) 114 6 [.ref 2, .long v1, mk0, .int v3, mk0] [] h Q := by
  refine Wp.blk (by decide) ol_114 4 2 (pc' := 8) (L' := [.ref 2, .long v1, mk0, .int v3, mk0]) (S' := [.ref 2, .int v3]) (h' := h) rfl ?_
  refine Wp.getf (op_ix (by decide) ol_114 6 rfl) (okS HS 2 rfl rfl) (v := .ref 5) (congrArg va_rf (rS HS 2 1 rfl)) rfl ?_
  refine Wp.callI (op_ix (by decide) ol_114 7 rfl) (act_virt (c2 := 0) rfl (lk1 (kS HS 5 rfl)) rfl) rfl (Cl.enter (L := [.ref 5]) rfl ?_)
  refine Wp.blk (by decide) ol_26 0 1 (pc' := 1) (L' := [.ref 5]) (S' := [.ref 5]) (h' := h) rfl ?_
  refine Wp.getf (op_ix (by decide) ol_26 1 rfl) (okS HS 5 rfl rfl) (v := .int (AI h 5 5)) rfl rfl ?_
  refine Wp.ret (op_ix (by decide) ol_26 2 rfl) rfl ⟨_, rfl, ?_⟩
  refine Wp.blk (by decide) ol_114 8 1 (pc' := (if v3 < (AI h 5 5) then 17 else 53)) (L' := [.ref 2, .long v1, mk0, .int v3, mk0]) (S' := []) (h' := h) rfl ?_
  refine Wp.br (fun c1 => ?_) (fun c1 => ?_)
  · replace K := K.1 c1
    refine Wp.blk (by decide) ol_114 9 2 (pc' := 20) (L' := [.ref 2, .long v1, mk0, .int v3, .int (0 : Int32)]) (S' := []) (h' := h) rfl ?_
    exact K
  · replace K := K.2 c1
    refine Wp.blk (by decide) ol_114 28 1 (pc' := 54) (L' := [.ref 2, .long v1, mk0, .int v3, mk0]) (S' := [.ref 2]) (h' := h) rfl ?_
    refine Wp.callI (op_ix (by decide) ol_114 29 rfl) (act_virt (c2 := 0) rfl (lk1 (kS HS 2 rfl)) rfl) rfl (Cl.enter (L := [.ref 2]) rfl ?_)
    refine Wp.blk (by decide) ol_115 0 1 (pc' := 1) (L' := [.ref 2]) (S' := [.ref 2]) (h' := h) rfl ?_
    refine Wp.getf (op_ix (by decide) ol_115 1 rfl) (okS HS 2 rfl rfl) (v := .ref 5) (congrArg va_rf (rS HS 2 1 rfl)) rfl ?_
    refine Wp.callI (op_ix (by decide) ol_115 2 rfl) (act_virt (c2 := 0) rfl (lk1 (kS HS 5 rfl)) rfl) rfl (Cl.enter (L := [.ref 5]) rfl ?_)
    refine Wp.blk (by decide) ol_26 0 1 (pc' := 1) (L' := [.ref 5]) (S' := [.ref 5]) (h' := h) rfl ?_
    refine Wp.getf (op_ix (by decide) ol_26 1 rfl) (okS HS 5 rfl rfl) (v := .int (AI h 5 5)) rfl rfl ?_
    refine Wp.ret (op_ix (by decide) ol_26 2 rfl) rfl ⟨_, rfl, ?_⟩
    refine Wp.blk (by decide) ol_115 3 1 (pc' := (if (0 : Int32) < (AI h 5 5) then 10 else 14)) (L' := [.ref 2]) (S' := []) (h' := h) rfl ?_
    refine Wp.br (fun c2 => ?_) (fun c2 => ?_)
    · replace K := K.1 c2
      refine Wp.blk (by decide) ol_115 4 2 (pc' := 15) (L' := [.ref 2]) (S' := [.int (1 : Int32)]) (h' := h) rfl ?_
      refine Wp.ret (op_ix (by decide) ol_115 7 rfl) rfl ⟨_, rfl, ?_⟩
      refine Wp.blk (by decide) ol_114 30 1 (pc' := (if (1 : Int32) = (0 : Int32) then 241 else 60)) (L' := [.ref 2, .long v1, mk0, .int v3, mk0]) (S' := []) (h' := h) rfl ?_
      refine Wp.br (fun hc => absurd hc (by decide)) (fun _ => ?_)
      refine Wp.blk (by decide) ol_114 31 4 (pc' := 66) (L' := [.ref 2, .long v1, mk0, .int v3, mk0]) (S' := [.ref 2, .long (((31 : Int64)) * v1)]) (h' := h) rfl ?_
      refine Wp.callI (op_ix (by decide) ol_114 35 rfl) (act_virt (c2 := 0) rfl (lk1 (kS HS 2 rfl)) rfl) rfl (K.mono ?_)
      rintro _ h3 ⟨x5, rfl, hs4, K⟩
      refine ⟨x5, rfl, ?_⟩
      refine Wp.blk (by decide) ol_114 36 8 (pc' := 79) (L' := [.ref 2, .long (((((31 : Int64)) * v1)) + x5.toInt64), mk0, .int v3, mk0]) (S' := [.int (0 : Int32), .ref 2, .long (((31 : Int64)) * ((((((31 : Int64)) * v1)) + x5.toInt64)))]) (h' := h3) rfl ?_
      refine Wp.callI (op_ix (by decide) ol_114 44 rfl) (act_virt (c2 := 1) rfl (lk1 (kS hs4 2 rfl)) rfl) rfl (K.mono ?_)
      rintro _ h6 ⟨x8, rfl, hs7, K⟩
      refine ⟨x8, rfl, ?_⟩
      refine Wp.blk (by decide) ol_114 45 8 (pc' := 92) (L' := [.ref 2, .long (((((31 : Int64)) * ((((((31 : Int64)) * v1)) + x5.toInt64)))) + x8.toInt64), mk0, .int v3, mk0]) (S' := [.int (1 : Int32), .ref 2, .long (((31 : Int64)) * ((((((31 : Int64)) * ((((((31 : Int64)) * v1)) + x5.toInt64)))) + x8.toInt64)))]) (h' := h6) rfl ?_
      refine Wp.callI (op_ix (by decide) ol_114 53 rfl) (act_virt (c2 := 1) rfl (lk1 (kS hs7 2 rfl)) rfl) rfl (K.mono ?_)
      rintro _ h9 ⟨x11, rfl, hs10, K⟩
      refine ⟨x11, rfl, ?_⟩
      refine Wp.blk (by decide) ol_114 54 8 (pc' := 105) (L' := [.ref 2, .long (((((31 : Int64)) * ((((((31 : Int64)) * ((((((31 : Int64)) * v1)) + x5.toInt64)))) + x8.toInt64)))) + x11.toInt64), mk0, .int v3, mk0]) (S' := [.int (0 : Int32), .ref 2, .long (((31 : Int64)) * ((((((31 : Int64)) * ((((((31 : Int64)) * ((((((31 : Int64)) * v1)) + x5.toInt64)))) + x8.toInt64)))) + x11.toInt64)))]) (h' := h9) rfl ?_
      refine Wp.callI (op_ix (by decide) ol_114 62 rfl) (act_virt (c2 := 1) rfl (lk1 (kS hs10 2 rfl)) rfl) rfl (K.mono ?_)
      rintro _ h12 ⟨x14, rfl, hs13, K⟩
      refine ⟨x14, rfl, ?_⟩
      refine Wp.blk (by decide) ol_114 63 8 (pc' := 118) (L' := [.ref 2, .long (((((31 : Int64)) * ((((((31 : Int64)) * ((((((31 : Int64)) * ((((((31 : Int64)) * v1)) + x5.toInt64)))) + x8.toInt64)))) + x11.toInt64)))) + x14.toInt64), mk0, .int v3, mk0]) (S' := [.int (1 : Int32), .ref 2, .long (((31 : Int64)) * ((((((31 : Int64)) * ((((((31 : Int64)) * ((((((31 : Int64)) * ((((((31 : Int64)) * v1)) + x5.toInt64)))) + x8.toInt64)))) + x11.toInt64)))) + x14.toInt64)))]) (h' := h12) rfl ?_
      refine Wp.callI (op_ix (by decide) ol_114 71 rfl) (act_virt (c2 := 1) rfl (lk1 (kS hs13 2 rfl)) rfl) rfl (K.mono ?_)
      rintro _ h15 ⟨x17, rfl, hs16, K⟩
      refine ⟨x17, rfl, ?_⟩
      refine Wp.blk (by decide) ol_114 72 7 (pc' := 130) (L' := [.ref 2, .long (((((31 : Int64)) * ((((((31 : Int64)) * ((((((31 : Int64)) * ((((((31 : Int64)) * ((((((31 : Int64)) * v1)) + x5.toInt64)))) + x8.toInt64)))) + x11.toInt64)))) + x14.toInt64)))) + x17.toInt64), mk0, .int v3, mk0]) (S' := [.ref 2, .long (((31 : Int64)) * ((((((31 : Int64)) * ((((((31 : Int64)) * ((((((31 : Int64)) * ((((((31 : Int64)) * ((((((31 : Int64)) * v1)) + x5.toInt64)))) + x8.toInt64)))) + x11.toInt64)))) + x14.toInt64)))) + x17.toInt64)))]) (h' := h15) rfl ?_
      refine Wp.callI (op_ix (by decide) ol_114 79 rfl) (act_virt (c2 := 0) rfl (lk1 (kS hs16 2 rfl)) rfl) rfl (K.mono ?_)
      rintro _ h18 ⟨x20, rfl, hs19, K⟩
      refine ⟨x20, rfl, ?_⟩
      refine Wp.blk (by decide) ol_114 80 7 (pc' := 142) (L' := [.ref 2, .long (((((31 : Int64)) * ((((((31 : Int64)) * ((((((31 : Int64)) * ((((((31 : Int64)) * ((((((31 : Int64)) * ((((((31 : Int64)) * v1)) + x5.toInt64)))) + x8.toInt64)))) + x11.toInt64)))) + x14.toInt64)))) + x17.toInt64)))) + x20.toInt64), mk0, .int v3, mk0]) (S' := [.ref 2, .long (((31 : Int64)) * ((((((31 : Int64)) * ((((((31 : Int64)) * ((((((31 : Int64)) * ((((((31 : Int64)) * ((((((31 : Int64)) * ((((((31 : Int64)) * v1)) + x5.toInt64)))) + x8.toInt64)))) + x11.toInt64)))) + x14.toInt64)))) + x17.toInt64)))) + x20.toInt64)))]) (h' := h18) rfl ?_
      refine Wp.callI (op_ix (by decide) ol_114 87 rfl) (act_virt (c2 := 0) rfl (lk1 (kS hs19 2 rfl)) rfl) rfl (K.mono ?_)
      rintro _ h21 ⟨x23, rfl, hs22, K⟩
      refine ⟨x23, rfl, ?_⟩
      refine Wp.blk (by decide) ol_114 88 8 (pc' := 155) (L' := [.ref 2, .long (((((31 : Int64)) * ((((((31 : Int64)) * ((((((31 : Int64)) * ((((((31 : Int64)) * ((((((31 : Int64)) * ((((((31 : Int64)) * ((((((31 : Int64)) * v1)) + x5.toInt64)))) + x8.toInt64)))) + x11.toInt64)))) + x14.toInt64)))) + x17.toInt64)))) + x20.toInt64)))) + x23.toInt64), mk0, .int v3, mk0]) (S' := [.int (0 : Int32), .ref 2, .long (((31 : Int64)) * ((((((31 : Int64)) * ((((((31 : Int64)) * ((((((31 : Int64)) * ((((((31 : Int64)) * ((((((31 : Int64)) * ((((((31 : Int64)) * ((((((31 : Int64)) * v1)) + x5.toInt64)))) + x8.toInt64)))) + x11.toInt64)))) + x14.toInt64)))) + x17.toInt64)))) + x20.toInt64)))) + x23.toInt64)))]) (h' := h21) rfl ?_
      refine Wp.callI (op_ix (by decide) ol_114 96 rfl) (act_virt (c2 := 1) rfl (lk1 (kS hs22 2 rfl)) rfl) rfl (K.mono ?_)
      rintro _ h24 ⟨x26, rfl, hs25, K⟩
      refine ⟨x26, rfl, ?_⟩
      refine Wp.blk (by decide) ol_114 97 8 (pc' := 168) (L' := [.ref 2, .long (((((31 : Int64)) * ((((((31 : Int64)) * ((((((31 : Int64)) * ((((((31 : Int64)) * ((((((31 : Int64)) * ((((((31 : Int64)) * ((((((31 : Int64)) * ((((((31 : Int64)) * v1)) + x5.toInt64)))) + x8.toInt64)))) + x11.toInt64)))) + x14.toInt64)))) + x17.toInt64)))) + x20.toInt64)))) + x23.toInt64)))) + x26.toInt64), mk0, .int v3, mk0]) (S' := [.int (1 : Int32), .ref 2, .long (((31 : Int64)) * ((((((31 : Int64)) * ((((((31 : Int64)) * ((((((31 : Int64)) * ((((((31 : Int64)) * ((((((31 : Int64)) * ((((((31 : Int64)) * ((((((31 : Int64)) * ((((((31 : Int64)) * v1)) + x5.toInt64)))) + x8.toInt64)))) + x11.toInt64)))) + x14.toInt64)))) + x17.toInt64)))) + x20.toInt64)))) + x23.toInt64)))) + x26.toInt64)))]) (h' := h24) rfl ?_
      refine Wp.callI (op_ix (by decide) ol_114 105 rfl) (act_virt (c2 := 1) rfl (lk1 (kS hs25 2 rfl)) rfl) rfl (K.mono ?_)
      rintro _ h27 ⟨x29, rfl, hs28, K⟩
      refine ⟨x29, rfl, ?_⟩
      refine Wp.blk (by decide) ol_114 106 8 (pc' := 181) (L' := [.ref 2, .long (((((31 : Int64)) * ((((((31 : Int64)) * ((((((31 : Int64)) * ((((((31 : Int64)) * ((((((31 : Int64)) * ((((((31 : Int64)) * ((((((31 : Int64)) * ((((((31 : Int64)) * ((((((31 : Int64)) * v1)) + x5.toInt64)))) + x8.toInt64)))) + x11.toInt64)))) + x14.toInt64)))) + x17.toInt64)))) + x20.toInt64)))) + x23.toInt64)))) + x26.toInt64)))) + x29.toInt64), mk0, .int v3, mk0]) (S' := [.int (0 : Int32), .ref 2, .long (((31 : Int64)) * ((((((31 : Int64)) * ((((((31 : Int64)) * ((((((31 : Int64)) * ((((((31 : Int64)) * ((((((31 : Int64)) * ((((((31 : Int64)) * ((((((31 : Int64)) * ((((((31 : Int64)) * ((((((31 : Int64)) * v1)) + x5.toInt64)))) + x8.toInt64)))) + x11.toInt64)))) + x14.toInt64)))) + x17.toInt64)))) + x20.toInt64)))) + x23.toInt64)))) + x26.toInt64)))) + x29.toInt64)))]) (h' := h27) rfl ?_
      refine Wp.callI (op_ix (by decide) ol_114 114 rfl) (act_virt (c2 := 1) rfl (lk1 (kS hs28 2 rfl)) rfl) rfl (K.mono ?_)
      rintro _ h30 ⟨x32, rfl, hs31, K⟩
      refine ⟨x32, rfl, ?_⟩
      refine Wp.blk (by decide) ol_114 115 8 (pc' := 194) (L' := [.ref 2, .long (((((31 : Int64)) * ((((((31 : Int64)) * ((((((31 : Int64)) * ((((((31 : Int64)) * ((((((31 : Int64)) * ((((((31 : Int64)) * ((((((31 : Int64)) * ((((((31 : Int64)) * ((((((31 : Int64)) * ((((((31 : Int64)) * v1)) + x5.toInt64)))) + x8.toInt64)))) + x11.toInt64)))) + x14.toInt64)))) + x17.toInt64)))) + x20.toInt64)))) + x23.toInt64)))) + x26.toInt64)))) + x29.toInt64)))) + x32.toInt64), mk0, .int v3, mk0]) (S' := [.int (1 : Int32), .ref 2, .long (((31 : Int64)) * ((((((31 : Int64)) * ((((((31 : Int64)) * ((((((31 : Int64)) * ((((((31 : Int64)) * ((((((31 : Int64)) * ((((((31 : Int64)) * ((((((31 : Int64)) * ((((((31 : Int64)) * ((((((31 : Int64)) * ((((((31 : Int64)) * v1)) + x5.toInt64)))) + x8.toInt64)))) + x11.toInt64)))) + x14.toInt64)))) + x17.toInt64)))) + x20.toInt64)))) + x23.toInt64)))) + x26.toInt64)))) + x29.toInt64)))) + x32.toInt64)))]) (h' := h30) rfl ?_
      refine Wp.callI (op_ix (by decide) ol_114 123 rfl) (act_virt (c2 := 1) rfl (lk1 (kS hs31 2 rfl)) rfl) rfl (K.mono ?_)
      rintro _ h33 ⟨x35, rfl, hs34, K⟩
      refine ⟨x35, rfl, ?_⟩
      refine Wp.blk (by decide) ol_114 124 5 (pc' := 202) (L' := [.ref 2, .long (((((31 : Int64)) * ((((((31 : Int64)) * ((((((31 : Int64)) * ((((((31 : Int64)) * ((((((31 : Int64)) * ((((((31 : Int64)) * ((((((31 : Int64)) * ((((((31 : Int64)) * ((((((31 : Int64)) * ((((((31 : Int64)) * ((((((31 : Int64)) * v1)) + x5.toInt64)))) + x8.toInt64)))) + x11.toInt64)))) + x14.toInt64)))) + x17.toInt64)))) + x20.toInt64)))) + x23.toInt64)))) + x26.toInt64)))) + x29.toInt64)))) + x32.toInt64)))) + x35.toInt64), mk0, .int (0 : Int32), mk0]) (S' := []) (h' := h33) rfl ?_
      exact K
    · replace K := K.2 c2
      refine Wp.blk (by decide) ol_115 6 1 (pc' := 15) (L' := [.ref 2]) (S' := [.int (0 : Int32)]) (h' := h) rfl ?_
      refine Wp.ret (op_ix (by decide) ol_115 7 rfl) rfl ⟨_, rfl, ?_⟩
      refine Wp.blk (by decide) ol_114 30 1 (pc' := (if (0 : Int32) = (0 : Int32) then 241 else 60)) (L' := [.ref 2, .long v1, mk0, .int v3, mk0]) (S' := []) (h' := h) rfl ?_
      refine Wp.br (fun _ => ?_) (fun hc => absurd (by decide) hc)
      refine Wp.blk (by decide) ol_114 154 2 (pc' := 243) (L' := [.ref 2, .long v1, mk0, .int (0 : Int32), mk0]) (S' := []) (h' := h) rfl ?_
      exact K
/-- CutsOrFast.digest at 20 -/
theorem g114_20 (d : Nat) (v1 : Int64) (v3 : Int32) (v4 : Int32) (h : AH) (HS : Sh h)  (Q : Option Value → AH → Prop) (K : (((3 : Int32) < v4 → Wp (d + 1) 114 6 [.ref 2, .long v1, mk0, .int (v3 + (1 : Int32)), mk0] [] h Q) ∧ (¬ (3 : Int32) < v4 → (Cl d 93 [.ref 2, .int v3, .int v4] h (fun r h2 => ∃ x4 : Int32, r = some (.int x4) ∧ Sh h2 ∧ Wp (d + 1) 114 20 [.ref 2, .long (((((31 : Int64)) * v1)) + x4.toInt64), mk0, .int v3, .int (v4 + (1 : Int32))] [] h2 Q))))) : Wp (d + 1) 114 20 [.ref 2, .long v1, mk0, .int v3, .int v4] [] h Q := by
  refine Wp.blk (by decide) ol_114 11 3 (pc' := (if (3 : Int32) < v4 then 47 else 26)) (L' := [.ref 2, .long v1, mk0, .int v3, .int v4]) (S' := []) (h' := h) rfl ?_
  refine Wp.br (fun c1 => ?_) (fun c1 => ?_)
  · replace K := K.1 c1
    refine Wp.blk (by decide) ol_114 26 2 (pc' := 6) (L' := [.ref 2, .long v1, mk0, .int (v3 + (1 : Int32)), .int v4]) (S' := []) (h' := h) rfl ?_
    refine Wp.forget (L := [.ref 2, .long v1, mk0, .int (v3 + (1 : Int32)), mk0]) (⟨Or.inr rfl, ⟨Or.inr rfl, ⟨Or.inr rfl, ⟨Or.inr rfl, ⟨Or.inl rfl, trivial⟩⟩⟩⟩⟩) ?_
    exact K
  · replace K := K.2 c1
    refine Wp.blk (by decide) ol_114 14 6 (pc' := 35) (L' := [.ref 2, .long v1, mk0, .int v3, .int v4]) (S' := [.int v4, .int v3, .ref 2, .long (((31 : Int64)) * v1)]) (h' := h) rfl ?_
    refine Wp.callI (op_ix (by decide) ol_114 20 rfl) (act_virt (c2 := 2) rfl (lk1 (kS HS 2 rfl)) rfl) rfl (K.mono ?_)
    rintro _ h2 ⟨x4, rfl, hs3, K⟩
    refine ⟨x4, rfl, ?_⟩
    refine Wp.blk (by decide) ol_114 21 5 (pc' := 20) (L' := [.ref 2, .long (((((31 : Int64)) * v1)) + x4.toInt64), mk0, .int v3, .int (v4 + (1 : Int32))]) (S' := []) (h' := h2) rfl ?_
    exact K
/-- CutsOrFast.digest at 202 -/
theorem g114_202 (d : Nat) (v1 : Int64) (v3 : Int32) (h : AH) (HS : Sh h)  (Q : Option Value → AH → Prop) (K : ((v3 < (3 : Int32) → (Cl d 106 [.ref 2, .int v3, .int (0 : Int32)] h (fun r h2 => ∃ x4 : Int32, r = some (.int x4) ∧ Sh h2 ∧ (Cl d 106 [.ref 2, .int v3, .int (1 : Int32)] h2 (fun r h5 => ∃ x7 : Int32, r = some (.int x7) ∧ Sh h5 ∧ Wp (d + 1) 114 202 [.ref 2, .long (((((31 : Int64)) * ((((((31 : Int64)) * v1)) + x4.toInt64)))) + x7.toInt64), mk0, .int (v3 + (1 : Int32)), mk0] [] h5 Q))))) ∧ (¬ v3 < (3 : Int32) → Wp (d + 1) 114 243 [.ref 2, .long v1, mk0, .int (0 : Int32), mk0] [] h Q))) : Wp (d + 1) 114 202 [.ref 2, .long v1, mk0, .int v3, mk0] [] h Q := by
  refine Wp.blk (by decide) ol_114 129 3 (pc' := (if v3 < (3 : Int32) then 207 else 241)) (L' := [.ref 2, .long v1, mk0, .int v3, mk0]) (S' := []) (h' := h) rfl ?_
  refine Wp.br (fun c1 => ?_) (fun c1 => ?_)
  · replace K := K.1 c1
    refine Wp.blk (by decide) ol_114 132 6 (pc' := 215) (L' := [.ref 2, .long v1, mk0, .int v3, mk0]) (S' := [.int (0 : Int32), .int v3, .ref 2, .long (((31 : Int64)) * v1)]) (h' := h) rfl ?_
    refine Wp.callI (op_ix (by decide) ol_114 138 rfl) (act_virt (c2 := 2) rfl (lk1 (kS HS 2 rfl)) rfl) rfl (K.mono ?_)
    rintro _ h2 ⟨x4, rfl, hs3, K⟩
    refine ⟨x4, rfl, ?_⟩
    refine Wp.blk (by decide) ol_114 139 9 (pc' := 229) (L' := [.ref 2, .long (((((31 : Int64)) * v1)) + x4.toInt64), mk0, .int v3, mk0]) (S' := [.int (1 : Int32), .int v3, .ref 2, .long (((31 : Int64)) * ((((((31 : Int64)) * v1)) + x4.toInt64)))]) (h' := h2) rfl ?_
    refine Wp.callI (op_ix (by decide) ol_114 148 rfl) (act_virt (c2 := 2) rfl (lk1 (kS hs3 2 rfl)) rfl) rfl (K.mono ?_)
    rintro _ h5 ⟨x7, rfl, hs6, K⟩
    refine ⟨x7, rfl, ?_⟩
    refine Wp.blk (by decide) ol_114 149 5 (pc' := 202) (L' := [.ref 2, .long (((((31 : Int64)) * ((((((31 : Int64)) * v1)) + x4.toInt64)))) + x7.toInt64), mk0, .int (v3 + (1 : Int32)), mk0]) (S' := []) (h' := h5) rfl ?_
    exact K
  · replace K := K.2 c1
    refine Wp.blk (by decide) ol_114 154 2 (pc' := 243) (L' := [.ref 2, .long v1, mk0, .int (0 : Int32), mk0]) (S' := []) (h' := h) rfl ?_
    exact K
/-- CutsOrFast.digest at 243 -/
theorem g114_243 (d : Nat) (v1 : Int64) (v3 : Int32) (h : AH) (HS : Sh h)  (Q : Option Value → AH → Prop) (K : (((AK h 22).1 = 20 ∨ (AK h 22).1 = 21 ∨ (AK h 22).1 = 24) ∧ ((v3 < (Int32.ofNat (AK h 22).2) → (ixR v3 5 ∧ ((AR h 22 v3.toNatClampNeg = none → Wp (d + 1) 114 243 [.ref 2, .long v1, mk0, .int (v3 + (1 : Int32)), mk0] [] h Q) ∧ (∀ i4, AR h 22 v3.toNatClampNeg = some i4 → (∃ j6 : Nat, ([(7, 52), (0, 1), (1, 4), (2, 7), (4, 14)] : List (Nat × Nat)).lookup (AK h i4).1 = some j6 ∧ (exL [.ref i4]).length ≤ mMax j6 ∧ (Cl d j6 [.ref i4] h (fun r h9 => ∃ x11 : Int32, r = some (.int x11) ∧ Sh h9 ∧ Wp (d + 1) 114 243 [.ref 2, .long (((((31 : Int64)) * v1)) + x11.toInt64), mk0, .int (v3 + (1 : Int32)), mk0] [] h9 Q))))))) ∧ (¬ v3 < (Int32.ofNat (AK h 22).2) → Wp (d + 1) 114 286 [.ref 2, .long v1, mk0, .int (0 : Int32), mk0] [] h Q)))) : Wp (d + 1) 114 243 [.ref 2, .long v1, mk0, .int v3, mk0] [] h Q := by
  refine Wp.blk (by decide) ol_114 156 2 (pc' := 245) (L' := [.ref 2, .long v1, mk0, .int v3, mk0]) (S' := [.ref 2, .int v3]) (h' := h) rfl ?_
  refine Wp.getf (op_ix (by decide) ol_114 158 rfl) (okS HS 2 rfl rfl) (v := .ref 22) (congrArg va_rf (rS HS 2 8 rfl)) rfl ?_
  obtain ⟨k1, K⟩ := K
  refine Wp.alen (op_ix (by decide) ol_114 159 rfl) k1 rfl ?_
  refine Wp.blk (by decide) ol_114 160 1 (pc' := (if v3 < (Int32.ofNat (AK h 22).2) then 252 else 284)) (L' := [.ref 2, .long v1, mk0, .int v3, mk0]) (S' := []) (h' := h) rfl ?_
  refine Wp.br (fun c2 => ?_) (fun c2 => ?_)
  · replace K := K.1 c2
    refine Wp.blk (by decide) ol_114 161 1 (pc' := 253) (L' := [.ref 2, .long v1, mk0, .int v3, mk0]) (S' := [.ref 2]) (h' := h) rfl ?_
    refine Wp.getf (op_ix (by decide) ol_114 162 rfl) (okS HS 2 rfl rfl) (v := .ref 22) (congrArg va_rf (rS HS 2 8 rfl)) rfl ?_
    refine Wp.blk (by decide) ol_114 163 1 (pc' := 257) (L' := [.ref 2, .long v1, mk0, .int v3, mk0]) (S' := [.int v3, .ref 22]) (h' := h) rfl ?_
    obtain ⟨r3, K⟩ := K
    cases z5 : AR h 22 v3.toNatClampNeg with
    | none =>
      replace K := K.1 z5
      refine Wp.aald (op_ix (by decide) ol_114 164 rfl) (kS HS 22 rfl) (inS HS 22 rfl r3) (v := .null) (congrArg va_rf z5) rfl ?_
      refine Wp.blk (by decide) ol_114 165 3 (pc' := 278) (L' := [.ref 2, .long v1, mk0, .int v3, .null]) (S' := []) (h' := h) rfl ?_
      refine Wp.blk (by decide) ol_114 176 2 (pc' := 243) (L' := [.ref 2, .long v1, mk0, .int (v3 + (1 : Int32)), .null]) (S' := []) (h' := h) rfl ?_
      refine Wp.forget (L := [.ref 2, .long v1, mk0, .int (v3 + (1 : Int32)), mk0]) (⟨Or.inr rfl, ⟨Or.inr rfl, ⟨Or.inr rfl, ⟨Or.inr rfl, ⟨Or.inl rfl, trivial⟩⟩⟩⟩⟩) ?_
      exact K
    | some i4 =>
      replace K := K.2 i4 z5
      refine Wp.aald (op_ix (by decide) ol_114 164 rfl) (kS HS 22 rfl) (inS HS 22 rfl r3) (v := .ref i4) (congrArg va_rf z5) rfl ?_
      refine Wp.blk (by decide) ol_114 165 3 (pc' := 265) (L' := [.ref 2, .long v1, mk0, .int v3, .ref i4]) (S' := []) (h' := h) rfl ?_
      refine Wp.blk (by decide) ol_114 168 4 (pc' := 272) (L' := [.ref 2, .long v1, mk0, .int v3, .ref i4]) (S' := [.ref i4, .long (((31 : Int64)) * v1)]) (h' := h) rfl ?_
      obtain ⟨j6, q7, q8, K⟩ := K
      refine Wp.callI (op_ix (by decide) ol_114 172 rfl) (act_virt (c2 := 0) rfl q7 (cal_ok rfl q8)) rfl (K.mono ?_)
      rintro _ h9 ⟨x11, rfl, hs10, K⟩
      refine ⟨x11, rfl, ?_⟩
      refine Wp.blk (by decide) ol_114 173 5 (pc' := 243) (L' := [.ref 2, .long (((((31 : Int64)) * v1)) + x11.toInt64), mk0, .int (v3 + (1 : Int32)), .ref i4]) (S' := []) (h' := h9) rfl ?_
      refine Wp.forget (L := [.ref 2, .long (((((31 : Int64)) * v1)) + x11.toInt64), mk0, .int (v3 + (1 : Int32)), mk0]) (⟨Or.inr rfl, ⟨Or.inr rfl, ⟨Or.inr rfl, ⟨Or.inr rfl, ⟨Or.inl rfl, trivial⟩⟩⟩⟩⟩) ?_
      exact K
  · replace K := K.2 c2
    refine Wp.blk (by decide) ol_114 178 2 (pc' := 286) (L' := [.ref 2, .long v1, mk0, .int (0 : Int32), mk0]) (S' := []) (h' := h) rfl ?_
    exact K
/-- CutsOrFast.digest at 286 -/
theorem g114_286 (d : Nat) (v1 : Int64) (v3 : Int32) (h : AH) (HS : Sh h)  (Q : Option Value → AH → Prop) (K : ((v3 < (AI h 3 1) → Wp (d + 2) 114 286 [.ref 2, .long (((((31 : Int64)) * v1)) + (((atv h 4 v3)).toInt64)), mk0, .int (v3 + (1 : Int32)), mk0] [] h Q) ∧ (¬ v3 < (AI h 3 1) → Wp (d + 2) 114 321 [.ref 2, .long v1, mk0, .int (0 : Int32), mk0] [] h Q))) : Wp (d + 2) 114 286 [.ref 2, .long v1, mk0, .int v3, mk0] [] h Q := by
  refine Wp.blk (by decide) ol_114 180 2 (pc' := 288) (L' := [.ref 2, .long v1, mk0, .int v3, mk0]) (S' := [.ref 2, .int v3]) (h' := h) rfl ?_
  refine Wp.getf (op_ix (by decide) ol_114 182 rfl) (okS HS 2 rfl rfl) (v := .ref 3) (congrArg va_rf (rS HS 2 0 rfl)) rfl ?_
  refine Wp.callI (op_ix (by decide) ol_114 183 rfl) (act_virt (c2 := 0) rfl (lk1 (kS HS 3 rfl)) rfl) rfl (Cl.enter (L := [.ref 3]) rfl ?_)
  refine Wp.blk (by decide) ol_39 0 1 (pc' := 1) (L' := [.ref 3]) (S' := [.ref 3]) (h' := h) rfl ?_
  refine Wp.getf (op_ix (by decide) ol_39 1 rfl) (okS HS 3 rfl rfl) (v := .int (AI h 3 1)) rfl rfl ?_
  refine Wp.ret (op_ix (by decide) ol_39 2 rfl) rfl ⟨_, rfl, ?_⟩
  refine Wp.blk (by decide) ol_114 184 1 (pc' := (if v3 < (AI h 3 1) then 297 else 319)) (L' := [.ref 2, .long v1, mk0, .int v3, mk0]) (S' := []) (h' := h) rfl ?_
  refine Wp.br (fun c1 => ?_) (fun c1 => ?_)
  · replace K := K.1 c1
    refine Wp.blk (by decide) ol_114 185 4 (pc' := 303) (L' := [.ref 2, .long v1, mk0, .int v3, mk0]) (S' := [.ref 2, .long (((31 : Int64)) * v1)]) (h' := h) rfl ?_
    refine Wp.getf (op_ix (by decide) ol_114 189 rfl) (okS HS 2 rfl rfl) (v := .ref 3) (congrArg va_rf (rS HS 2 0 rfl)) rfl ?_
    refine Wp.blk (by decide) ol_114 190 1 (pc' := 307) (L' := [.ref 2, .long v1, mk0, .int v3, mk0]) (S' := [.int v3, .ref 3, .long (((31 : Int64)) * v1)]) (h' := h) rfl ?_
    refine Wp.callI (op_ix (by decide) ol_114 191 rfl) (act_virt (c2 := 1) rfl (lk1 (kS HS 3 rfl)) rfl) rfl (Cl.enter (L := [.ref 3, .int v3]) rfl ?_)
    refine Wp.blk (by decide) ol_41 0 2 (pc' := 2) (L' := [.ref 3, .int v3]) (S' := [.ref 3, .int v3]) (h' := h) rfl ?_
    refine Wp.getf (op_ix (by decide) ol_41 2 rfl) (okS HS 3 rfl rfl) (v := .int (AI h 3 1)) rfl rfl ?_
    refine Wp.blk (by decide) ol_41 3 1 (pc' := (if v3 < (AI h 3 1) then 8 else 19)) (L' := [.ref 3, .int v3]) (S' := []) (h' := h) rfl ?_
    refine Wp.br (fun _ => ?_) (fun hc => absurd c1 hc)
    refine Wp.blk (by decide) ol_41 4 1 (pc' := 9) (L' := [.ref 3, .int v3]) (S' := [.ref 3]) (h' := h) rfl ?_
    refine Wp.getf (op_ix (by decide) ol_41 5 rfl) (okS HS 3 rfl rfl) (v := .ref 4) (congrArg va_rf (rS HS 3 0 rfl)) rfl ?_
    refine Wp.blk (by decide) ol_41 6 1 (pc' := 13) (L' := [.ref 3, .int v3]) (S' := [.int v3, .ref 4]) (h' := h) rfl ?_
    refine Wp.callI (op_ix (by decide) ol_41 7 rfl) rfl rfl (sp_at (kS HS 4 rfl) (nS HS 4 rfl) ?_)
    refine ⟨_, rfl, ?_⟩
    refine Wp.blk (by decide) ol_41 8 1 (pc' := 20) (L' := [.ref 3, .int v3]) (S' := [.int (atv h 4 v3)]) (h' := h) rfl ?_
    refine Wp.ret (op_ix (by decide) ol_41 10 rfl) rfl ⟨_, rfl, ?_⟩
    refine Wp.blk (by decide) ol_114 192 5 (pc' := 286) (L' := [.ref 2, .long (((((31 : Int64)) * v1)) + (((atv h 4 v3)).toInt64)), mk0, .int (v3 + (1 : Int32)), mk0]) (S' := []) (h' := h) rfl ?_
    exact K
  · replace K := K.2 c1
    refine Wp.blk (by decide) ol_114 197 2 (pc' := 321) (L' := [.ref 2, .long v1, mk0, .int (0 : Int32), mk0]) (S' := []) (h' := h) rfl ?_
    exact K
/-- CutsOrFast.digest at 321 -/
theorem g114_321 (d : Nat) (v1 : Int64) (v3 : Int32) (h : AH) (HS : Sh h)  (Q : Option Value → AH → Prop) (K : ((v3 < (10 : Int32) → (Cl d 113 [.ref 2, .int v3] h (fun r h2 => ∃ x4 : Int32, r = some (.int x4) ∧ Sh h2 ∧ Wp (d + 1) 114 321 [.ref 2, .long (((((31 : Int64)) * v1)) + x4.toInt64), mk0, .int (v3 + (1 : Int32)), mk0] [] h2 Q))) ∧ (¬ v3 < (10 : Int32) → Q (some (.long v1)) h))) : Wp (d + 1) 114 321 [.ref 2, .long v1, mk0, .int v3, mk0] [] h Q := by
  refine Wp.blk (by decide) ol_114 199 3 (pc' := (if v3 < (10 : Int32) then 327 else 346)) (L' := [.ref 2, .long v1, mk0, .int v3, mk0]) (S' := []) (h' := h) rfl ?_
  refine Wp.br (fun c1 => ?_) (fun c1 => ?_)
  · replace K := K.1 c1
    refine Wp.blk (by decide) ol_114 202 5 (pc' := 334) (L' := [.ref 2, .long v1, mk0, .int v3, mk0]) (S' := [.int v3, .ref 2, .long (((31 : Int64)) * v1)]) (h' := h) rfl ?_
    refine Wp.callI (op_ix (by decide) ol_114 207 rfl) (act_virt (c2 := 1) rfl (lk1 (kS HS 2 rfl)) rfl) rfl (K.mono ?_)
    rintro _ h2 ⟨x4, rfl, hs3, K⟩
    refine ⟨x4, rfl, ?_⟩
    refine Wp.blk (by decide) ol_114 208 5 (pc' := 321) (L' := [.ref 2, .long (((((31 : Int64)) * v1)) + x4.toInt64), mk0, .int (v3 + (1 : Int32)), mk0]) (S' := []) (h' := h2) rfl ?_
    exact K
  · replace K := K.2 c1
    refine Wp.blk (by decide) ol_114 213 1 (pc' := 347) (L' := [.ref 2, .long v1, mk0, .int v3, mk0]) (S' := [.long v1]) (h' := h) rfl ?_
    exact Wp.ret (op_ix (by decide) ol_114 214 rfl) rfl K
/-- CutsOrFast.hasNet at 0 ()Z -/
theorem g115_0 (d : Nat)  (h : AH) (HS : Sh h)  (Q : Option Value → AH → Prop) (K : (((0 : Int32) < (AI h 5 5) → Q (some (.int (1 : Int32))) h) ∧ (¬ (0 : Int32) < (AI h 5 5) → Q (some (.int (0 : Int32))) h))) : Wp (d + 1) 115 0 [.ref 2] [] h Q := by
  refine Wp.blk (by decide) ol_115 0 1 (pc' := 1) (L' := [.ref 2]) (S' := [.ref 2]) (h' := h) rfl ?_
  refine Wp.getf (op_ix (by decide) ol_115 1 rfl) (okS HS 2 rfl rfl) (v := .ref 5) (congrArg va_rf (rS HS 2 1 rfl)) rfl ?_
  refine Wp.callI (op_ix (by decide) ol_115 2 rfl) (act_virt (c2 := 0) rfl (lk1 (kS HS 5 rfl)) rfl) rfl (Cl.enter (L := [.ref 5]) rfl ?_)
  refine Wp.blk (by decide) ol_26 0 1 (pc' := 1) (L' := [.ref 5]) (S' := [.ref 5]) (h' := h) rfl ?_
  refine Wp.getf (op_ix (by decide) ol_26 1 rfl) (okS HS 5 rfl rfl) (v := .int (AI h 5 5)) rfl rfl ?_
  refine Wp.ret (op_ix (by decide) ol_26 2 rfl) rfl ⟨_, rfl, ?_⟩
  refine Wp.blk (by decide) ol_115 3 1 (pc' := (if (0 : Int32) < (AI h 5 5) then 10 else 14)) (L' := [.ref 2]) (S' := []) (h' := h) rfl ?_
  refine Wp.br (fun c1 => ?_) (fun c1 => ?_)
  · replace K := K.1 c1
    refine Wp.blk (by decide) ol_115 4 2 (pc' := 15) (L' := [.ref 2]) (S' := [.int (1 : Int32)]) (h' := h) rfl ?_
    exact Wp.ret (op_ix (by decide) ol_115 7 rfl) rfl K
  · replace K := K.2 c1
    refine Wp.blk (by decide) ol_115 6 1 (pc' := 15) (L' := [.ref 2]) (S' := [.int (0 : Int32)]) (h' := h) rfl ?_
    exact Wp.ret (op_ix (by decide) ol_115 7 rfl) rfl K
/-- CutsOrFast.isLane at 0 (I)Z -/
theorem g116_0 (d : Nat) (v1 : Int32) (h : AH) (HS : Sh h)  (Q : Option Value → AH → Prop) (K : ((v1 < (0 : Int32) → Q (some (.int (0 : Int32))) h) ∧ (¬ v1 < (0 : Int32) → ((v1 < (AI h 5 5) → Q (some (.int (1 : Int32))) h) ∧ (¬ v1 < (AI h 5 5) → Q (some (.int (0 : Int32))) h))))) : Wp (d + 1) 116 0 [.ref 2, .int v1] [] h Q := by
  refine Wp.blk (by decide) ol_116 0 2 (pc' := (if v1 < (0 : Int32) then 19 else 4)) (L' := [.ref 2, .int v1]) (S' := []) (h' := h) rfl ?_
  refine Wp.br (fun c1 => ?_) (fun c1 => ?_)
  · replace K := K.1 c1
    refine Wp.blk (by decide) ol_116 9 1 (pc' := 20) (L' := [.ref 2, .int v1]) (S' := [.int (0 : Int32)]) (h' := h) rfl ?_
    exact Wp.ret (op_ix (by decide) ol_116 10 rfl) rfl K
  · replace K := K.2 c1
    refine Wp.blk (by decide) ol_116 2 2 (pc' := 6) (L' := [.ref 2, .int v1]) (S' := [.ref 2, .int v1]) (h' := h) rfl ?_
    refine Wp.getf (op_ix (by decide) ol_116 4 rfl) (okS HS 2 rfl rfl) (v := .ref 5) (congrArg va_rf (rS HS 2 1 rfl)) rfl ?_
    refine Wp.callI (op_ix (by decide) ol_116 5 rfl) (act_virt (c2 := 0) rfl (lk1 (kS HS 5 rfl)) rfl) rfl (Cl.enter (L := [.ref 5]) rfl ?_)
    refine Wp.blk (by decide) ol_26 0 1 (pc' := 1) (L' := [.ref 5]) (S' := [.ref 5]) (h' := h) rfl ?_
    refine Wp.getf (op_ix (by decide) ol_26 1 rfl) (okS HS 5 rfl rfl) (v := .int (AI h 5 5)) rfl rfl ?_
    refine Wp.ret (op_ix (by decide) ol_26 2 rfl) rfl ⟨_, rfl, ?_⟩
    refine Wp.blk (by decide) ol_116 6 1 (pc' := (if v1 < (AI h 5 5) then 15 else 19)) (L' := [.ref 2, .int v1]) (S' := []) (h' := h) rfl ?_
    refine Wp.br (fun c2 => ?_) (fun c2 => ?_)
    · replace K := K.1 c2
      refine Wp.blk (by decide) ol_116 7 2 (pc' := 20) (L' := [.ref 2, .int v1]) (S' := [.int (1 : Int32)]) (h' := h) rfl ?_
      exact Wp.ret (op_ix (by decide) ol_116 10 rfl) rfl K
    · replace K := K.2 c2
      refine Wp.blk (by decide) ol_116 9 1 (pc' := 20) (L' := [.ref 2, .int v1]) (S' := [.int (0 : Int32)]) (h' := h) rfl ?_
      exact Wp.ret (op_ix (by decide) ol_116 10 rfl) rfl K
/-- CutsOrFast.isSide at 0 (I)Z -/
theorem g117_0 (d : Nat) (v0 : Int32) (h : AH) (HS : Sh h)  (Q : Option Value → AH → Prop) (K : ((v0 = (0 : Int32) → Q (some (.int (1 : Int32))) h) ∧ (¬ v0 = (0 : Int32) → ((v0 = (1 : Int32) → Q (some (.int (1 : Int32))) h) ∧ (¬ v0 = (1 : Int32) → Q (some (.int (0 : Int32))) h))))) : Wp d 117 0 [.int v0] [] h Q := by
  refine Wp.blk (by decide) ol_117 0 2 (pc' := (if v0 = (0 : Int32) then 9 else 4)) (L' := [.int v0]) (S' := []) (h' := h) rfl ?_
  refine Wp.br (fun c1 => ?_) (fun c1 => ?_)
  · replace K := K.1 c1
    refine Wp.blk (by decide) ol_117 5 2 (pc' := 14) (L' := [.int v0]) (S' := [.int (1 : Int32)]) (h' := h) rfl ?_
    exact Wp.ret (op_ix (by decide) ol_117 8 rfl) rfl K
  · replace K := K.2 c1
    refine Wp.blk (by decide) ol_117 2 3 (pc' := (if v0 = (1 : Int32) then 9 else 13)) (L' := [.int v0]) (S' := []) (h' := h) rfl ?_
    refine Wp.br (fun c2 => ?_) (fun c2 => ?_)
    · replace K := K.1 c2
      refine Wp.blk (by decide) ol_117 5 2 (pc' := 14) (L' := [.int v0]) (S' := [.int (1 : Int32)]) (h' := h) rfl ?_
      exact Wp.ret (op_ix (by decide) ol_117 8 rfl) rfl K
    · replace K := K.2 c2
      refine Wp.blk (by decide) ol_117 7 1 (pc' := 14) (L' := [.int v0]) (S' := [.int (0 : Int32)]) (h' := h) rfl ?_
      exact Wp.ret (op_ix (by decide) ol_117 8 rfl) rfl K
/-- CutsOrFast.isKind at 0 (I)Z -/
theorem g118_0 (d : Nat) (v0 : Int32) (h : AH) (HS : Sh h)  (Q : Option Value → AH → Prop) (K : ((v0 < (0 : Int32) → Q (some (.int (0 : Int32))) h) ∧ (¬ v0 < (0 : Int32) → ((v0 < (5 : Int32) → Q (some (.int (1 : Int32))) h) ∧ (¬ v0 < (5 : Int32) → Q (some (.int (0 : Int32))) h))))) : Wp d 118 0 [.int v0] [] h Q := by
  refine Wp.blk (by decide) ol_118 0 2 (pc' := (if v0 < (0 : Int32) then 13 else 4)) (L' := [.int v0]) (S' := []) (h' := h) rfl ?_
  refine Wp.br (fun c1 => ?_) (fun c1 => ?_)
  · replace K := K.1 c1
    refine Wp.blk (by decide) ol_118 7 1 (pc' := 14) (L' := [.int v0]) (S' := [.int (0 : Int32)]) (h' := h) rfl ?_
    exact Wp.ret (op_ix (by decide) ol_118 8 rfl) rfl K
  · replace K := K.2 c1
    refine Wp.blk (by decide) ol_118 2 3 (pc' := (if v0 < (5 : Int32) then 9 else 13)) (L' := [.int v0]) (S' := []) (h' := h) rfl ?_
    refine Wp.br (fun c2 => ?_) (fun c2 => ?_)
    · replace K := K.1 c2
      refine Wp.blk (by decide) ol_118 5 2 (pc' := 14) (L' := [.int v0]) (S' := [.int (1 : Int32)]) (h' := h) rfl ?_
      exact Wp.ret (op_ix (by decide) ol_118 8 rfl) rfl K
    · replace K := K.2 c2
      refine Wp.blk (by decide) ol_118 7 1 (pc' := 14) (L' := [.int v0]) (S' := [.int (0 : Int32)]) (h' := h) rfl ?_
      exact Wp.ret (op_ix (by decide) ol_118 8 rfl) rfl K
/-- CutsOrFast.canBeTaken at 0 (I)Z -/
theorem g119_0 (d : Nat) (v1 : Int32) (h : AH) (HS : Sh h)  (Q : Option Value → AH → Prop) (K : (Cl d 37 [.ref 5, .int (AI h 11 3), .int (AI h 11 4)] h (fun r h1 => ∃ x3 : Int32, r = some (.int x3) ∧ Sh h1 ∧ ((x3 = (0 : Int32) → (Cl (d + 1) 78 [.ref 11, .int v1] h1 (fun r h5 => ∃ x7 : Int32, r = some (.int x7) ∧ Sh h5 ∧ ((x7 = (0 : Int32) → Q (some (.int (1 : Int32))) h5) ∧ (¬ x7 = (0 : Int32) → Q (some (.int (0 : Int32))) h5))))) ∧ (¬ x3 = (0 : Int32) → Q (some (.int (0 : Int32))) h1))))) : Wp (d + 2) 119 0 [.ref 2, .int v1] [] h Q := by
  refine Wp.blk (by decide) ol_119 0 1 (pc' := 1) (L' := [.ref 2, .int v1]) (S' := [.ref 2]) (h' := h) rfl ?_
  refine Wp.getf (op_ix (by decide) ol_119 1 rfl) (okS HS 2 rfl rfl) (v := .ref 11) (congrArg va_rf (rS HS 2 2 rfl)) rfl ?_
  refine Wp.callI (op_ix (by decide) ol_119 2 rfl) (act_virt (c2 := 0) rfl (lk1 (kS HS 11 rfl)) rfl) rfl (Cl.enter (L := [.ref 11]) rfl ?_)
  refine Wp.blk (by decide) ol_77 0 1 (pc' := 1) (L' := [.ref 11]) (S' := [.ref 11]) (h' := h) rfl ?_
  refine Wp.getf (op_ix (by decide) ol_77 1 rfl) (okS HS 11 rfl rfl) (v := .ref 5) (congrArg va_rf (rS HS 11 0 rfl)) rfl ?_
  refine Wp.blk (by decide) ol_77 2 1 (pc' := 5) (L' := [.ref 11]) (S' := [.ref 11, .ref 5]) (h' := h) rfl ?_
  refine Wp.getf (op_ix (by decide) ol_77 3 rfl) (okS HS 11 rfl rfl) (v := .int (AI h 11 3)) rfl rfl ?_
  refine Wp.blk (by decide) ol_77 4 1 (pc' := 9) (L' := [.ref 11]) (S' := [.ref 11, .int (AI h 11 3), .ref 5]) (h' := h) rfl ?_
  refine Wp.getf (op_ix (by decide) ol_77 5 rfl) (okS HS 11 rfl rfl) (v := .int (AI h 11 4)) rfl rfl ?_
  refine Wp.callI (op_ix (by decide) ol_77 6 rfl) (act_virt (c2 := 2) rfl (lk1 (kS HS 5 rfl)) rfl) rfl (K.mono ?_)
  rintro _ h1 ⟨x3, rfl, hs2, K⟩
  refine ⟨x3, rfl, ?_⟩
  refine Wp.ret (op_ix (by decide) ol_77 7 rfl) rfl ⟨_, rfl, ?_⟩
  refine Wp.blk (by decide) ol_119 3 1 (pc' := (if x3 = (0 : Int32) then 10 else 25)) (L' := [.ref 2, .int v1]) (S' := []) (h' := h1) rfl ?_
  refine Wp.br (fun c4 => ?_) (fun c4 => ?_)
  · replace K := K.1 c4
    refine Wp.blk (by decide) ol_119 4 1 (pc' := 11) (L' := [.ref 2, .int v1]) (S' := [.ref 2]) (h' := h1) rfl ?_
    refine Wp.getf (op_ix (by decide) ol_119 5 rfl) (okS hs2 2 rfl rfl) (v := .ref 11) (congrArg va_rf (rS hs2 2 2 rfl)) rfl ?_
    refine Wp.blk (by decide) ol_119 6 1 (pc' := 15) (L' := [.ref 2, .int v1]) (S' := [.int v1, .ref 11]) (h' := h1) rfl ?_
    refine Wp.callI (op_ix (by decide) ol_119 7 rfl) (act_virt (c2 := 1) rfl (lk1 (kS hs2 11 rfl)) rfl) rfl (K.mono ?_)
    rintro _ h5 ⟨x7, rfl, hs6, K⟩
    refine ⟨x7, rfl, ?_⟩
    refine Wp.blk (by decide) ol_119 8 1 (pc' := (if x7 = (0 : Int32) then 21 else 25)) (L' := [.ref 2, .int v1]) (S' := []) (h' := h5) rfl ?_
    refine Wp.br (fun c8 => ?_) (fun c8 => ?_)
    · replace K := K.1 c8
      refine Wp.blk (by decide) ol_119 9 2 (pc' := 26) (L' := [.ref 2, .int v1]) (S' := [.int (1 : Int32)]) (h' := h5) rfl ?_
      exact Wp.ret (op_ix (by decide) ol_119 12 rfl) rfl K
    · replace K := K.2 c8
      refine Wp.blk (by decide) ol_119 11 1 (pc' := 26) (L' := [.ref 2, .int v1]) (S' := [.int (0 : Int32)]) (h' := h5) rfl ?_
      exact Wp.ret (op_ix (by decide) ol_119 12 rfl) rfl K
  · replace K := K.2 c4
    refine Wp.blk (by decide) ol_119 11 1 (pc' := 26) (L' := [.ref 2, .int v1]) (S' := [.int (0 : Int32)]) (h' := h1) rfl ?_
    exact Wp.ret (op_ix (by decide) ol_119 12 rfl) rfl K
/-- CutsOrFast.playerAt at 0 (I)LCutsOrFast$Player; -/
theorem g120_0 (d : Nat) (v1 : Int32) (h : AH) (HS : Sh h)  (Q : Option Value → AH → Prop) (K : ((v1 < (0 : Int32) → Q (some (.null)) h) ∧ (¬ v1 < (0 : Int32) → (((AK h 22).1 = 20 ∨ (AK h 22).1 = 21 ∨ (AK h 22).1 = 24) ∧ ((v1 < (Int32.ofNat (AK h 22).2) → (ixR v1 5 ∧ ((AR h 22 v1.toNatClampNeg = none → Q (some (.null)) h) ∧ (∀ i5, AR h 22 v1.toNatClampNeg = some i5 → Q (some (.ref i5)) h)))) ∧ (¬ v1 < (Int32.ofNat (AK h 22).2) → Q (some (.null)) h)))))) : Wp d 120 0 [.ref 2, .int v1] [] h Q := by
  refine Wp.blk (by decide) ol_120 0 2 (pc' := (if v1 < (0 : Int32) then 22 else 4)) (L' := [.ref 2, .int v1]) (S' := []) (h' := h) rfl ?_
  refine Wp.br (fun c1 => ?_) (fun c1 => ?_)
  · replace K := K.1 c1
    refine Wp.blk (by decide) ol_120 12 1 (pc' := 23) (L' := [.ref 2, .int v1]) (S' := [.null]) (h' := h) rfl ?_
    exact Wp.ret (op_ix (by decide) ol_120 13 rfl) rfl K
  · replace K := K.2 c1
    refine Wp.blk (by decide) ol_120 2 2 (pc' := 6) (L' := [.ref 2, .int v1]) (S' := [.ref 2, .int v1]) (h' := h) rfl ?_
    refine Wp.getf (op_ix (by decide) ol_120 4 rfl) (okS HS 2 rfl rfl) (v := .ref 22) (congrArg va_rf (rS HS 2 8 rfl)) rfl ?_
    obtain ⟨k2, K⟩ := K
    refine Wp.alen (op_ix (by decide) ol_120 5 rfl) k2 rfl ?_
    refine Wp.blk (by decide) ol_120 6 1 (pc' := (if v1 < (Int32.ofNat (AK h 22).2) then 13 else 22)) (L' := [.ref 2, .int v1]) (S' := []) (h' := h) rfl ?_
    refine Wp.br (fun c3 => ?_) (fun c3 => ?_)
    · replace K := K.1 c3
      refine Wp.blk (by decide) ol_120 7 1 (pc' := 14) (L' := [.ref 2, .int v1]) (S' := [.ref 2]) (h' := h) rfl ?_
      refine Wp.getf (op_ix (by decide) ol_120 8 rfl) (okS HS 2 rfl rfl) (v := .ref 22) (congrArg va_rf (rS HS 2 8 rfl)) rfl ?_
      refine Wp.blk (by decide) ol_120 9 1 (pc' := 18) (L' := [.ref 2, .int v1]) (S' := [.int v1, .ref 22]) (h' := h) rfl ?_
      obtain ⟨r4, K⟩ := K
      cases z6 : AR h 22 v1.toNatClampNeg with
      | none =>
        replace K := K.1 z6
        refine Wp.aald (op_ix (by decide) ol_120 10 rfl) (kS HS 22 rfl) (inS HS 22 rfl r4) (v := .null) (congrArg va_rf z6) rfl ?_
        refine Wp.blk (by decide) ol_120 11 1 (pc' := 23) (L' := [.ref 2, .int v1]) (S' := [.null]) (h' := h) rfl ?_
        exact Wp.ret (op_ix (by decide) ol_120 13 rfl) rfl K
      | some i5 =>
        replace K := K.2 i5 z6
        refine Wp.aald (op_ix (by decide) ol_120 10 rfl) (kS HS 22 rfl) (inS HS 22 rfl r4) (v := .ref i5) (congrArg va_rf z6) rfl ?_
        refine Wp.blk (by decide) ol_120 11 1 (pc' := 23) (L' := [.ref 2, .int v1]) (S' := [.ref i5]) (h' := h) rfl ?_
        exact Wp.ret (op_ix (by decide) ol_120 13 rfl) rfl K
    · replace K := K.2 c3
      refine Wp.blk (by decide) ol_120 12 1 (pc' := 23) (L' := [.ref 2, .int v1]) (S' := [.null]) (h' := h) rfl ?_
      exact Wp.ret (op_ix (by decide) ol_120 13 rfl) rfl K
/-- CutsOrFast.newPlayer at 0 (I)LCutsOrFast$Player; -/
theorem g121_0 (d : Nat) (v0 : Int32) (h : AH) (HS : Sh h)  (Q : Option Value → AH → Prop) (K : ((v0 = Int32.ofNat 1 → (∀ n2, n2 = (NX h) → ∀ h3, h3 = (newO h 0 0) → (Cl d 0 [.ref n2] h3 (fun r h6 => r = none ∧ Sh h6 ∧ Q (some (.ref n2)) h6)))) ∧ (¬ v0 = Int32.ofNat 1 → ((v0 = Int32.ofNat 2 → (∀ n9, n9 = (NX h) → ∀ h10, h10 = (newO h 4 2) → (Cl d 13 [.ref n9] h10 (fun r h13 => r = none ∧ Sh h13 ∧ Q (some (.ref n9)) h13)))) ∧ (¬ v0 = Int32.ofNat 2 → ((v0 = Int32.ofNat 3 → (∀ n16, n16 = (NX h) → ∀ h17, h17 = (newO h 2 2) → (Cl d 6 [.ref n16] h17 (fun r h20 => r = none ∧ Sh h20 ∧ Q (some (.ref n16)) h20)))) ∧ (¬ v0 = Int32.ofNat 3 → ((v0 = Int32.ofNat 4 → (∀ n23, n23 = (NX h) → ∀ h24, h24 = (newO h 1 0) → (Cl d 3 [.ref n23] h24 (fun r h27 => r = none ∧ Sh h27 ∧ Q (some (.ref n23)) h27)))) ∧ (¬ v0 = Int32.ofNat 4 → (∀ n29, n29 = (NX h) → ∀ h30, h30 = (newO h 7 0) → (Cl d 51 [.ref n29] h30 (fun r h33 => r = none ∧ Sh h33 ∧ Q (some (.ref n29)) h33)))))))))))) : Wp (d + 1) 121 0 [.int v0] [] h Q := by
  refine Wp.blk (by decide) ol_121 0 2 (pc' := (tsw v0 [(1, 32), (2, 40), (3, 48), (4, 56)] 64)) (L' := [.int v0]) (S' := []) (h' := h) rfl ?_
  refine Wp.tsw (fun c1 => ?_) (fun c1 => ?_)
  · replace K := K.1 c1
    refine Wp.blk (by decide) ol_121 2 1 (pc' := 35) (L' := [.int v0]) (S' := [.ref (NX h)]) (h' := (newO h 0 0)) rfl ?_
    obtain ⟨n2, e4⟩ : ∃ x, x = (NX h) := ⟨_, rfl⟩
    obtain ⟨h3, e5⟩ : ∃ x, x = (newO h 0 0) := ⟨_, rfl⟩
    rw [← e5, ← e4]
    replace K := K n2 e4 h3 e5
    refine Wp.blk (by decide) ol_121 3 1 (pc' := 36) (L' := [.int v0]) (S' := [.ref n2, .ref n2]) (h' := h3) rfl ?_
    refine Wp.callV (op_ix (by decide) ol_121 4 rfl) rfl rfl (K.mono ?_)
    rintro _ h6 ⟨rfl, hs7, K⟩
    refine ⟨rfl, ?_⟩
    exact Wp.ret (op_ix (by decide) ol_121 5 rfl) rfl K
  replace K := K.2 c1
  refine Wp.tsw (fun c8 => ?_) (fun c8 => ?_)
  · replace K := K.1 c8
    refine Wp.blk (by decide) ol_121 6 1 (pc' := 43) (L' := [.int v0]) (S' := [.ref (NX h)]) (h' := (newO h 4 2)) rfl ?_
    obtain ⟨n9, e11⟩ : ∃ x, x = (NX h) := ⟨_, rfl⟩
    obtain ⟨h10, e12⟩ : ∃ x, x = (newO h 4 2) := ⟨_, rfl⟩
    rw [← e12, ← e11]
    replace K := K n9 e11 h10 e12
    refine Wp.blk (by decide) ol_121 7 1 (pc' := 44) (L' := [.int v0]) (S' := [.ref n9, .ref n9]) (h' := h10) rfl ?_
    refine Wp.callV (op_ix (by decide) ol_121 8 rfl) rfl rfl (K.mono ?_)
    rintro _ h13 ⟨rfl, hs14, K⟩
    refine ⟨rfl, ?_⟩
    exact Wp.ret (op_ix (by decide) ol_121 9 rfl) rfl K
  replace K := K.2 c8
  refine Wp.tsw (fun c15 => ?_) (fun c15 => ?_)
  · replace K := K.1 c15
    refine Wp.blk (by decide) ol_121 10 1 (pc' := 51) (L' := [.int v0]) (S' := [.ref (NX h)]) (h' := (newO h 2 2)) rfl ?_
    obtain ⟨n16, e18⟩ : ∃ x, x = (NX h) := ⟨_, rfl⟩
    obtain ⟨h17, e19⟩ : ∃ x, x = (newO h 2 2) := ⟨_, rfl⟩
    rw [← e19, ← e18]
    replace K := K n16 e18 h17 e19
    refine Wp.blk (by decide) ol_121 11 1 (pc' := 52) (L' := [.int v0]) (S' := [.ref n16, .ref n16]) (h' := h17) rfl ?_
    refine Wp.callV (op_ix (by decide) ol_121 12 rfl) rfl rfl (K.mono ?_)
    rintro _ h20 ⟨rfl, hs21, K⟩
    refine ⟨rfl, ?_⟩
    exact Wp.ret (op_ix (by decide) ol_121 13 rfl) rfl K
  replace K := K.2 c15
  refine Wp.tsw (fun c22 => ?_) (fun c22 => ?_)
  · replace K := K.1 c22
    refine Wp.blk (by decide) ol_121 14 1 (pc' := 59) (L' := [.int v0]) (S' := [.ref (NX h)]) (h' := (newO h 1 0)) rfl ?_
    obtain ⟨n23, e25⟩ : ∃ x, x = (NX h) := ⟨_, rfl⟩
    obtain ⟨h24, e26⟩ : ∃ x, x = (newO h 1 0) := ⟨_, rfl⟩
    rw [← e26, ← e25]
    replace K := K n23 e25 h24 e26
    refine Wp.blk (by decide) ol_121 15 1 (pc' := 60) (L' := [.int v0]) (S' := [.ref n23, .ref n23]) (h' := h24) rfl ?_
    refine Wp.callV (op_ix (by decide) ol_121 16 rfl) rfl rfl (K.mono ?_)
    rintro _ h27 ⟨rfl, hs28, K⟩
    refine ⟨rfl, ?_⟩
    exact Wp.ret (op_ix (by decide) ol_121 17 rfl) rfl K
  replace K := K.2 c22
  unfold tsw
  refine Wp.blk (by decide) ol_121 18 1 (pc' := 67) (L' := [.int v0]) (S' := [.ref (NX h)]) (h' := (newO h 7 0)) rfl ?_
  obtain ⟨n29, e31⟩ : ∃ x, x = (NX h) := ⟨_, rfl⟩
  obtain ⟨h30, e32⟩ : ∃ x, x = (newO h 7 0) := ⟨_, rfl⟩
  rw [← e32, ← e31]
  replace K := K n29 e31 h30 e32
  refine Wp.blk (by decide) ol_121 19 1 (pc' := 68) (L' := [.int v0]) (S' := [.ref n29, .ref n29]) (h' := h30) rfl ?_
  refine Wp.callV (op_ix (by decide) ol_121 20 rfl) rfl rfl (K.mono ?_)
  rintro _ h33 ⟨rfl, hs34, K⟩
  refine ⟨rfl, ?_⟩
  exact Wp.ret (op_ix (by decide) ol_121 21 rfl) rfl K
/-- CutsOrFast.isOfKind at 0 (LCutsOrFast$Player;I)Z -/
theorem g122_0 (d : Nat) (v0 : Nat) (v1 : Int32) (h : AH) (HS : Sh h)  (Q : Option Value → AH → Prop) (K : ((v1 = Int32.ofNat 1 → (∃ r2 : Nat, ([(0, 1), (1, 0), (2, 0), (4, 0), (7, 0)] : List (Nat × Nat)).lookup (AK h v0).1 = some r2 ∧ ((Int32.ofNat r2) = 0 ∨ (Int32.ofNat r2) = 1) ∧ Q (some (.int (Int32.ofNat r2))) h)) ∧ (¬ v1 = Int32.ofNat 1 → ((v1 = Int32.ofNat 2 → (∃ r6 : Nat, ([(0, 0), (1, 0), (2, 1), (4, 1), (7, 0)] : List (Nat × Nat)).lookup (AK h v0).1 = some r6 ∧ ((Int32.ofNat r6) = 0 ∨ (Int32.ofNat r6) = 1) ∧ Q (some (.int (Int32.ofNat r6))) h)) ∧ (¬ v1 = Int32.ofNat 2 → ((v1 = Int32.ofNat 3 → (∃ r10 : Nat, ([(0, 0), (1, 0), (2, 1), (4, 0), (7, 0)] : List (Nat × Nat)).lookup (AK h v0).1 = some r10 ∧ ((Int32.ofNat r10) = 0 ∨ (Int32.ofNat r10) = 1) ∧ Q (some (.int (Int32.ofNat r10))) h)) ∧ (¬ v1 = Int32.ofNat 3 → ((v1 = Int32.ofNat 4 → (∃ r14 : Nat, ([(0, 0), (1, 1), (2, 0), (4, 0), (7, 0)] : List (Nat × Nat)).lookup (AK h v0).1 = some r14 ∧ ((Int32.ofNat r14) = 0 ∨ (Int32.ofNat r14) = 1) ∧ Q (some (.int (Int32.ofNat r14))) h)) ∧ (¬ v1 = Int32.ofNat 4 → Q (some (.int (1 : Int32))) h))))))))) : Wp d 122 0 [.ref v0, .int v1] [] h Q := by
  refine Wp.blk (by decide) ol_122 0 2 (pc' := (tsw v1 [(1, 32), (2, 37), (3, 42), (4, 47)] 52)) (L' := [.ref v0, .int v1]) (S' := []) (h' := h) rfl ?_
  refine Wp.tsw (fun c1 => ?_) (fun c1 => ?_)
  · replace K := K.1 c1
    refine Wp.blk (by decide) ol_122 2 1 (pc' := 33) (L' := [.ref v0, .int v1]) (S' := [.ref v0]) (h' := h) rfl ?_
    obtain ⟨r2, q3, K⟩ := K
    refine Wp.inst (op_ix (by decide) ol_122 3 rfl) q3 rfl ?_
    obtain ⟨b4, K⟩ := K
    exact Wp.retB (op_ix (by decide) ol_122 4 rfl) rfl b4 K
  replace K := K.2 c1
  refine Wp.tsw (fun c5 => ?_) (fun c5 => ?_)
  · replace K := K.1 c5
    refine Wp.blk (by decide) ol_122 5 1 (pc' := 38) (L' := [.ref v0, .int v1]) (S' := [.ref v0]) (h' := h) rfl ?_
    obtain ⟨r6, q7, K⟩ := K
    refine Wp.inst (op_ix (by decide) ol_122 6 rfl) q7 rfl ?_
    obtain ⟨b8, K⟩ := K
    exact Wp.retB (op_ix (by decide) ol_122 7 rfl) rfl b8 K
  replace K := K.2 c5
  refine Wp.tsw (fun c9 => ?_) (fun c9 => ?_)
  · replace K := K.1 c9
    refine Wp.blk (by decide) ol_122 8 1 (pc' := 43) (L' := [.ref v0, .int v1]) (S' := [.ref v0]) (h' := h) rfl ?_
    obtain ⟨r10, q11, K⟩ := K
    refine Wp.inst (op_ix (by decide) ol_122 9 rfl) q11 rfl ?_
    obtain ⟨b12, K⟩ := K
    exact Wp.retB (op_ix (by decide) ol_122 10 rfl) rfl b12 K
  replace K := K.2 c9
  refine Wp.tsw (fun c13 => ?_) (fun c13 => ?_)
  · replace K := K.1 c13
    refine Wp.blk (by decide) ol_122 11 1 (pc' := 48) (L' := [.ref v0, .int v1]) (S' := [.ref v0]) (h' := h) rfl ?_
    obtain ⟨r14, q15, K⟩ := K
    refine Wp.inst (op_ix (by decide) ol_122 12 rfl) q15 rfl ?_
    obtain ⟨b16, K⟩ := K
    exact Wp.retB (op_ix (by decide) ol_122 13 rfl) rfl b16 K
  replace K := K.2 c13
  unfold tsw
  refine Wp.blk (by decide) ol_122 14 1 (pc' := 53) (L' := [.ref v0, .int v1]) (S' := [.int (1 : Int32)]) (h' := h) rfl ?_
  exact Wp.ret (op_ix (by decide) ol_122 15 rfl) rfl K
/-- CutsOrFast.playOut at 0 (LCutsOrFast$Player;LCutsOrFast$Player;)I -/
theorem g123_0 (d : Nat) (v1 : Nat) (v2 : Nat) (h : AH) (HS : Sh h)  (Q : Option Value → AH → Prop) (K : (Cl d 73 [.ref 15, .ref 11] h (fun r h1 => r = none ∧ Sh h1 ∧ Wp (d + 1) 123 13 [.ref 2, .ref v1, .ref v2, .int (0 : Int32), mk0] [] h1 Q))) : Wp (d + 1) 123 0 [.ref 2, .ref v1, .ref v2, mk0, mk0] [] h Q := by
  refine Wp.blk (by decide) ol_123 0 1 (pc' := 1) (L' := [.ref 2, .ref v1, .ref v2, mk0, mk0]) (S' := [.ref 2]) (h' := h) rfl ?_
  refine Wp.getf (op_ix (by decide) ol_123 1 rfl) (okS HS 2 rfl rfl) (v := .ref 15) (congrArg va_rf (rS HS 2 4 rfl)) rfl ?_
  refine Wp.blk (by decide) ol_123 2 1 (pc' := 5) (L' := [.ref 2, .ref v1, .ref v2, mk0, mk0]) (S' := [.ref 2, .ref 15]) (h' := h) rfl ?_
  refine Wp.getf (op_ix (by decide) ol_123 3 rfl) (okS HS 2 rfl rfl) (v := .ref 11) (congrArg va_rf (rS HS 2 2 rfl)) rfl ?_
  refine Wp.callV (op_ix (by decide) ol_123 4 rfl) (act_virt (c2 := 1) rfl (lk1 (kS HS 15 rfl)) rfl) rfl (K.mono ?_)
  rintro _ h1 ⟨rfl, hs2, K⟩
  refine ⟨rfl, ?_⟩
  refine Wp.blk (by decide) ol_123 5 2 (pc' := 13) (L' := [.ref 2, .ref v1, .ref v2, .int (0 : Int32), mk0]) (S' := []) (h' := h1) rfl ?_
  exact K
/-- CutsOrFast.playOut at 13 -/
theorem g123_13 (d : Nat) (v1 : Nat) (v2 : Nat) (v3 : Int32) (h : AH) (HS : Sh h)  (Q : Option Value → AH → Prop) (K : ((v3 < (9 : Int32) → (Cl d 37 [.ref 5, .int (AI h 15 3), .int (AI h 15 4)] h (fun r h2 => ∃ x4 : Int32, r = some (.int x4) ∧ Sh h2 ∧ ((x4 = (0 : Int32) → (((AI h2 15 5) = (0 : Int32) → (∃ j7 : Nat, ([(7, 53), (0, 2), (1, 5), (2, 15), (4, 15)] : List (Nat × Nat)).lookup (AK h2 v1).1 = some j7 ∧ (exL [.ref v1, .ref 15, .ref 17, .ref 21]).length ≤ mMax j7 ∧ (Cl (d + 1) j7 [.ref v1, .ref 15, .ref 17, .ref 21] h2 (fun r h10 => ∃ x12 : Int32, r = some (.int x12) ∧ Sh h10 ∧ (Cl (d + 1) 74 [.ref 15, .int x12] h10 (fun r h13 => r = none ∧ Sh h13 ∧ Wp (d + 2) 123 13 [.ref 2, .ref v1, .ref v2, .int (v3 + (1 : Int32)), mk0] [] h13 Q)))))) ∧ (¬ (AI h2 15 5) = (0 : Int32) → (∃ j15 : Nat, ([(7, 53), (0, 2), (1, 5), (2, 15), (4, 15)] : List (Nat × Nat)).lookup (AK h2 v2).1 = some j15 ∧ (exL [.ref v2, .ref 15, .ref 17, .ref 21]).length ≤ mMax j15 ∧ (Cl (d + 1) j15 [.ref v2, .ref 15, .ref 17, .ref 21] h2 (fun r h18 => ∃ x20 : Int32, r = some (.int x20) ∧ Sh h18 ∧ (Cl (d + 1) 74 [.ref 15, .int x20] h18 (fun r h21 => r = none ∧ Sh h21 ∧ Wp (d + 2) 123 13 [.ref 2, .ref v1, .ref v2, .int (v3 + (1 : Int32)), mk0] [] h21 Q)))))))) ∧ (¬ x4 = (0 : Int32) → Q (some (.int v3)) h2))))) ∧ (¬ v3 < (9 : Int32) → Q (some (.int v3)) h))) : Wp (d + 2) 123 13 [.ref 2, .ref v1, .ref v2, .int v3, mk0] [] h Q := by
  refine Wp.blk (by decide) ol_123 7 3 (pc' := (if v3 < (9 : Int32) then 19 else 76)) (L' := [.ref 2, .ref v1, .ref v2, .int v3, mk0]) (S' := []) (h' := h) rfl ?_
  refine Wp.br (fun c1 => ?_) (fun c1 => ?_)
  · replace K := K.1 c1
    refine Wp.blk (by decide) ol_123 10 1 (pc' := 20) (L' := [.ref 2, .ref v1, .ref v2, .int v3, mk0]) (S' := [.ref 2]) (h' := h) rfl ?_
    refine Wp.getf (op_ix (by decide) ol_123 11 rfl) (okS HS 2 rfl rfl) (v := .ref 15) (congrArg va_rf (rS HS 2 4 rfl)) rfl ?_
    refine Wp.callI (op_ix (by decide) ol_123 12 rfl) (act_virt (c2 := 0) rfl (lk1 (kS HS 15 rfl)) rfl) rfl (Cl.enter (L := [.ref 15]) rfl ?_)
    refine Wp.blk (by decide) ol_77 0 1 (pc' := 1) (L' := [.ref 15]) (S' := [.ref 15]) (h' := h) rfl ?_
    refine Wp.getf (op_ix (by decide) ol_77 1 rfl) (okS HS 15 rfl rfl) (v := .ref 5) (congrArg va_rf (rS HS 15 0 rfl)) rfl ?_
    refine Wp.blk (by decide) ol_77 2 1 (pc' := 5) (L' := [.ref 15]) (S' := [.ref 15, .ref 5]) (h' := h) rfl ?_
    refine Wp.getf (op_ix (by decide) ol_77 3 rfl) (okS HS 15 rfl rfl) (v := .int (AI h 15 3)) rfl rfl ?_
    refine Wp.blk (by decide) ol_77 4 1 (pc' := 9) (L' := [.ref 15]) (S' := [.ref 15, .int (AI h 15 3), .ref 5]) (h' := h) rfl ?_
    refine Wp.getf (op_ix (by decide) ol_77 5 rfl) (okS HS 15 rfl rfl) (v := .int (AI h 15 4)) rfl rfl ?_
    refine Wp.callI (op_ix (by decide) ol_77 6 rfl) (act_virt (c2 := 2) rfl (lk1 (kS HS 5 rfl)) rfl) rfl (K.mono ?_)
    rintro _ h2 ⟨x4, rfl, hs3, K⟩
    refine ⟨x4, rfl, ?_⟩
    refine Wp.ret (op_ix (by decide) ol_77 7 rfl) rfl ⟨_, rfl, ?_⟩
    refine Wp.blk (by decide) ol_123 13 1 (pc' := (if x4 = (0 : Int32) then 29 else 76)) (L' := [.ref 2, .ref v1, .ref v2, .int v3, mk0]) (S' := []) (h' := h2) rfl ?_
    refine Wp.br (fun c5 => ?_) (fun c5 => ?_)
    · replace K := K.1 c5
      refine Wp.blk (by decide) ol_123 14 1 (pc' := 30) (L' := [.ref 2, .ref v1, .ref v2, .int v3, mk0]) (S' := [.ref 2]) (h' := h2) rfl ?_
      refine Wp.getf (op_ix (by decide) ol_123 15 rfl) (okS hs3 2 rfl rfl) (v := .ref 15) (congrArg va_rf (rS hs3 2 4 rfl)) rfl ?_
      refine Wp.callI (op_ix (by decide) ol_123 16 rfl) (act_virt (c2 := 0) rfl (lk1 (kS hs3 15 rfl)) rfl) rfl (Cl.enter (L := [.ref 15]) rfl ?_)
      refine Wp.blk (by decide) ol_82 0 1 (pc' := 1) (L' := [.ref 15]) (S' := [.ref 15]) (h' := h2) rfl ?_
      refine Wp.getf (op_ix (by decide) ol_82 1 rfl) (okS hs3 15 rfl rfl) (v := .int (AI h2 15 5)) rfl rfl ?_
      refine Wp.ret (op_ix (by decide) ol_82 2 rfl) rfl ⟨_, rfl, ?_⟩
      refine Wp.blk (by decide) ol_123 17 1 (pc' := (if (AI h2 15 5) = (0 : Int32) then 39 else 43)) (L' := [.ref 2, .ref v1, .ref v2, .int v3, mk0]) (S' := []) (h' := h2) rfl ?_
      refine Wp.br (fun c6 => ?_) (fun c6 => ?_)
      · replace K := K.1 c6
        refine Wp.blk (by decide) ol_123 18 2 (pc' := 44) (L' := [.ref 2, .ref v1, .ref v2, .int v3, mk0]) (S' := [.ref v1]) (h' := h2) rfl ?_
        refine Wp.blk (by decide) ol_123 21 2 (pc' := 47) (L' := [.ref 2, .ref v1, .ref v2, .int v3, .ref v1]) (S' := [.ref 2]) (h' := h2) rfl ?_
        refine Wp.getf (op_ix (by decide) ol_123 23 rfl) (okS hs3 2 rfl rfl) (v := .ref 15) (congrArg va_rf (rS hs3 2 4 rfl)) rfl ?_
        refine Wp.blk (by decide) ol_123 24 2 (pc' := 53) (L' := [.ref 2, .ref v1, .ref v2, .int v3, .ref v1]) (S' := [.ref 2, .ref v1, .ref 15]) (h' := h2) rfl ?_
        refine Wp.getf (op_ix (by decide) ol_123 26 rfl) (okS hs3 2 rfl rfl) (v := .ref 15) (congrArg va_rf (rS hs3 2 4 rfl)) rfl ?_
        refine Wp.blk (by decide) ol_123 27 1 (pc' := 57) (L' := [.ref 2, .ref v1, .ref v2, .int v3, .ref v1]) (S' := [.ref 2, .ref 15, .ref v1, .ref 15]) (h' := h2) rfl ?_
        refine Wp.getf (op_ix (by decide) ol_123 28 rfl) (okS hs3 2 rfl rfl) (v := .ref 17) (congrArg va_rf (rS hs3 2 5 rfl)) rfl ?_
        refine Wp.blk (by decide) ol_123 29 1 (pc' := 61) (L' := [.ref 2, .ref v1, .ref v2, .int v3, .ref v1]) (S' := [.ref 2, .ref 17, .ref 15, .ref v1, .ref 15]) (h' := h2) rfl ?_
        refine Wp.getf (op_ix (by decide) ol_123 30 rfl) (okS hs3 2 rfl rfl) (v := .ref 21) (congrArg va_rf (rS hs3 2 7 rfl)) rfl ?_
        obtain ⟨j7, q8, q9, K⟩ := K
        refine Wp.callI (op_ix (by decide) ol_123 31 rfl) (act_virt (c2 := 3) rfl q8 (cal_ok rfl q9)) rfl (K.mono ?_)
        rintro _ h10 ⟨x12, rfl, hs11, K⟩
        refine ⟨x12, rfl, ?_⟩
        refine Wp.callV (op_ix (by decide) ol_123 32 rfl) (act_virt (c2 := 1) rfl (lk1 (kS hs11 15 rfl)) rfl) rfl (K.mono ?_)
        rintro _ h13 ⟨rfl, hs14, K⟩
        refine ⟨rfl, ?_⟩
        refine Wp.blk (by decide) ol_123 33 2 (pc' := 13) (L' := [.ref 2, .ref v1, .ref v2, .int (v3 + (1 : Int32)), .ref v1]) (S' := []) (h' := h13) rfl ?_
        refine Wp.forget (L := [.ref 2, .ref v1, .ref v2, .int (v3 + (1 : Int32)), mk0]) (⟨Or.inr rfl, ⟨Or.inr rfl, ⟨Or.inr rfl, ⟨Or.inr rfl, ⟨Or.inl rfl, trivial⟩⟩⟩⟩⟩) ?_
        exact K
      · replace K := K.2 c6
        refine Wp.blk (by decide) ol_123 20 3 (pc' := 47) (L' := [.ref 2, .ref v1, .ref v2, .int v3, .ref v2]) (S' := [.ref 2]) (h' := h2) rfl ?_
        refine Wp.getf (op_ix (by decide) ol_123 23 rfl) (okS hs3 2 rfl rfl) (v := .ref 15) (congrArg va_rf (rS hs3 2 4 rfl)) rfl ?_
        refine Wp.blk (by decide) ol_123 24 2 (pc' := 53) (L' := [.ref 2, .ref v1, .ref v2, .int v3, .ref v2]) (S' := [.ref 2, .ref v2, .ref 15]) (h' := h2) rfl ?_
        refine Wp.getf (op_ix (by decide) ol_123 26 rfl) (okS hs3 2 rfl rfl) (v := .ref 15) (congrArg va_rf (rS hs3 2 4 rfl)) rfl ?_
        refine Wp.blk (by decide) ol_123 27 1 (pc' := 57) (L' := [.ref 2, .ref v1, .ref v2, .int v3, .ref v2]) (S' := [.ref 2, .ref 15, .ref v2, .ref 15]) (h' := h2) rfl ?_
        refine Wp.getf (op_ix (by decide) ol_123 28 rfl) (okS hs3 2 rfl rfl) (v := .ref 17) (congrArg va_rf (rS hs3 2 5 rfl)) rfl ?_
        refine Wp.blk (by decide) ol_123 29 1 (pc' := 61) (L' := [.ref 2, .ref v1, .ref v2, .int v3, .ref v2]) (S' := [.ref 2, .ref 17, .ref 15, .ref v2, .ref 15]) (h' := h2) rfl ?_
        refine Wp.getf (op_ix (by decide) ol_123 30 rfl) (okS hs3 2 rfl rfl) (v := .ref 21) (congrArg va_rf (rS hs3 2 7 rfl)) rfl ?_
        obtain ⟨j15, q16, q17, K⟩ := K
        refine Wp.callI (op_ix (by decide) ol_123 31 rfl) (act_virt (c2 := 3) rfl q16 (cal_ok rfl q17)) rfl (K.mono ?_)
        rintro _ h18 ⟨x20, rfl, hs19, K⟩
        refine ⟨x20, rfl, ?_⟩
        refine Wp.callV (op_ix (by decide) ol_123 32 rfl) (act_virt (c2 := 1) rfl (lk1 (kS hs19 15 rfl)) rfl) rfl (K.mono ?_)
        rintro _ h21 ⟨rfl, hs22, K⟩
        refine ⟨rfl, ?_⟩
        refine Wp.blk (by decide) ol_123 33 2 (pc' := 13) (L' := [.ref 2, .ref v1, .ref v2, .int (v3 + (1 : Int32)), .ref v2]) (S' := []) (h' := h21) rfl ?_
        refine Wp.forget (L := [.ref 2, .ref v1, .ref v2, .int (v3 + (1 : Int32)), mk0]) (⟨Or.inr rfl, ⟨Or.inr rfl, ⟨Or.inr rfl, ⟨Or.inr rfl, ⟨Or.inl rfl, trivial⟩⟩⟩⟩⟩) ?_
        exact K
    · replace K := K.2 c5
      refine Wp.blk (by decide) ol_123 35 1 (pc' := 77) (L' := [.ref 2, .ref v1, .ref v2, .int v3, mk0]) (S' := [.int v3]) (h' := h2) rfl ?_
      exact Wp.ret (op_ix (by decide) ol_123 36 rfl) rfl K
  · replace K := K.2 c1
    refine Wp.blk (by decide) ol_123 35 1 (pc' := 77) (L' := [.ref 2, .ref v1, .ref v2, .int v3, mk0]) (S' := [.int v3]) (h' := h) rfl ?_
    exact Wp.ret (op_ix (by decide) ol_123 36 rfl) rfl K
/-- CutsOrFast.greatestDivisor at 0 (II)I -/
theorem g125_0 (d : Nat) (v0 : Int32) (v1 : Int32) (h : AH) (HS : Sh h)  (Q : Option Value → AH → Prop) (K : Wp d 125 7 [mk0, mk0, .int v0, .int v1, .int (0 : Int32), mk0] [] h Q) : Wp d 125 0 [.int v0, .int v1, mk0, mk0, mk0, mk0] [] h Q := by
  refine Wp.blk (by decide) ol_125 0 6 (pc' := 7) (L' := [.int v0, .int v1, .int v0, .int v1, .int (0 : Int32), mk0]) (S' := []) (h' := h) rfl ?_
  refine Wp.forget (L := [mk0, mk0, .int v0, .int v1, .int (0 : Int32), mk0]) (⟨Or.inl rfl, ⟨Or.inl rfl, ⟨Or.inr rfl, ⟨Or.inr rfl, ⟨Or.inr rfl, ⟨Or.inr rfl, trivial⟩⟩⟩⟩⟩⟩) ?_
  exact K
/-- CutsOrFast.greatestDivisor at 7 -/
theorem g125_7 (d : Nat) (v2 : Int32) (v3 : Int32) (v4 : Int32) (h : AH) (HS : Sh h)  (Q : Option Value → AH → Prop) (K : ((v4 < (100 : Int32) → ((v3 = (0 : Int32) → Q (some (.int v2)) h) ∧ (¬ v3 = (0 : Int32) → ((¬ v3 = 0) ∧ Wp d 125 7 [mk0, mk0, .int v3, .int (v2 - v2 / v3 * v3), .int (v4 + (1 : Int32)), mk0] [] h Q)))) ∧ (¬ v4 < (100 : Int32) → Q (some (.int v2)) h))) : Wp d 125 7 [mk0, mk0, .int v2, .int v3, .int v4, mk0] [] h Q := by
  refine Wp.blk (by decide) ol_125 6 3 (pc' := (if v4 < (100 : Int32) then 14 else 34)) (L' := [mk0, mk0, .int v2, .int v3, .int v4, mk0]) (S' := []) (h' := h) rfl ?_
  refine Wp.br (fun c1 => ?_) (fun c1 => ?_)
  · replace K := K.1 c1
    refine Wp.blk (by decide) ol_125 9 2 (pc' := (if v3 = (0 : Int32) then 34 else 18)) (L' := [mk0, mk0, .int v2, .int v3, .int v4, mk0]) (S' := []) (h' := h) rfl ?_
    refine Wp.br (fun c2 => ?_) (fun c2 => ?_)
    · replace K := K.1 c2
      refine Wp.blk (by decide) ol_125 21 1 (pc' := 35) (L' := [mk0, mk0, .int v2, .int v3, .int v4, mk0]) (S' := [.int v2]) (h' := h) rfl ?_
      exact Wp.ret (op_ix (by decide) ol_125 22 rfl) rfl K
    · replace K := K.2 c2
      refine Wp.blk (by decide) ol_125 11 2 (pc' := 20) (L' := [mk0, mk0, .int v2, .int v3, .int v4, mk0]) (S' := [.int v3, .int v2]) (h' := h) rfl ?_
      obtain ⟨z3, K⟩ := K
      refine Wp.rem (op_ix (by decide) ol_125 13 rfl) z3 rfl ?_
      refine Wp.blk (by decide) ol_125 14 7 (pc' := 7) (L' := [mk0, mk0, .int v3, .int (v2 - v2 / v3 * v3), .int (v4 + (1 : Int32)), .int (v2 - v2 / v3 * v3)]) (S' := []) (h' := h) rfl ?_
      refine Wp.forget (L := [mk0, mk0, .int v3, .int (v2 - v2 / v3 * v3), .int (v4 + (1 : Int32)), mk0]) (⟨Or.inr rfl, ⟨Or.inr rfl, ⟨Or.inr rfl, ⟨Or.inr rfl, ⟨Or.inr rfl, ⟨Or.inl rfl, trivial⟩⟩⟩⟩⟩⟩) ?_
      exact K
  · replace K := K.2 c1
    refine Wp.blk (by decide) ol_125 21 1 (pc' := 35) (L' := [mk0, mk0, .int v2, .int v3, .int v4, mk0]) (S' := [.int v2]) (h' := h) rfl ?_
    exact Wp.ret (op_ix (by decide) ol_125 22 rfl) rfl K
