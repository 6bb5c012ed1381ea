/-- CutsOrFast.<init> at 0 ()V -/
theorem g88_0 (d : Nat) (v0 : Nat) (h : AH)  (Q : Option Value → AH → Prop) (K : (∀ n1, n1 = (NX h) → ∀ h2, h2 = (newO h 6 3) → (Cl d 38 [.ref n1] h2 (fun r h5 => r = none ∧ (okC 11 (AK h5 v0).1 = true ∧ 2 ≤ v0 ∧ (∀ n9, n9 = (NX ((stR h5 v0 0 (some n1)))) → ∀ h10, h10 = (newO ((stR h5 v0 0 (some n1))) 5 8) → (Cl d 20 [.ref n9] h10 (fun r h13 => r = none ∧ (okC 11 (AK h13 v0).1 = true ∧ (∀ n16, n16 = (NX ((stR h13 v0 1 (some n9)))) → ∀ h17, h17 = (newO ((stR h13 v0 1 (some n9))) 10 6) → (okC 11 (AK h17 v0).1 = true ∧ ∃ i21 : Nat, AR h17 v0 1 = some i21 ∧ (Cl d 71 [.ref n16, .ref i21] h17 (fun r h23 => r = none ∧ (okC 11 (AK h23 v0).1 = true ∧ (∀ n26, n26 = (NX ((stR h23 v0 2 (some n16)))) → ∀ h27, h27 = (newO ((stR h23 v0 2 (some n16))) 10 6) → (okC 11 (AK h27 v0).1 = true ∧ ∃ i31 : Nat, AR h27 v0 1 = some i31 ∧ (Cl d 71 [.ref n26, .ref i31] h27 (fun r h33 => r = none ∧ (okC 11 (AK h33 v0).1 = true ∧ (∀ n36, n36 = (NX ((stR h33 v0 3 (some n26)))) → ∀ h37, h37 = (newO ((stR h33 v0 3 (some n26))) 10 6) → (okC 11 (AK h37 v0).1 = true ∧ ∃ i41 : Nat, AR h37 v0 1 = some i41 ∧ (Cl d 71 [.ref n36, .ref i41] h37 (fun r h43 => r = none ∧ (okC 11 (AK h43 v0).1 = true ∧ (∀ n46, n46 = (NX ((stR h43 v0 4 (some n36)))) → ∀ h47, h47 = (newO ((stR h43 v0 4 (some n36))) 8 5) → (okC 11 (AK h47 v0).1 = true ∧ ∃ i51 : Nat, AR h47 v0 1 = some i51 ∧ (Cl d 54 [.ref n46, .ref i51] h47 (fun r h53 => r = none ∧ (okC 11 (AK h53 v0).1 = true ∧ (∀ n56, n56 = (NX ((stR h53 v0 5 (some n46)))) → ∀ h57, h57 = (newO ((stR h53 v0 5 (some n46))) 9 2) → (okC 11 (AK h57 v0).1 = true ∧ ∃ i61 : Nat, AR h57 v0 1 = some i61 ∧ ∃ i63 : Nat, AR h57 v0 5 = some i63 ∧ (Cl d 65 [.ref n56, .ref i61, .ref i63] h57 (fun r h65 => r = none ∧ (okC 11 (AK h65 v0).1 = true ∧ (∀ n68, n68 = (NX ((stR h65 v0 6 (some n56)))) → ∀ h69, h69 = (newO ((stR h65 v0 6 (some n56))) 3 1) → (Cl d 9 [.ref n68] h69 (fun r h72 => r = none ∧ (okC 11 (AK h72 v0).1 = true ∧ (∀ n75, n75 = (NX ((stR h72 v0 7 (some n68)))) → ∀ h76, h76 = (newO ((stR h72 v0 7 (some n68))) 24 5) → (okC 11 (AK h76 v0).1 = true ∧ Q none (stR h76 v0 8 (some n75)))))))))))))))))))))))))))))))))))))))))) : Wp (d + 1) 88 0 [.ref v0] [] h Q := by
  refine Wp.blk (by decide) ol_88 0 3 (pc' := 5) (L' := [.ref v0]) (S' := [.ref v0]) (h' := h) rfl ?_
  refine Wp.blk (by decide) ol_88 3 1 (pc' := 8) (L' := [.ref v0]) (S' := [.ref (NX h), .ref v0]) (h' := (newO h 6 3)) rfl ?_
  obtain ⟨n1, e3⟩ : ∃ x, x = (NX h) := ⟨_, rfl⟩
  obtain ⟨h2, e4⟩ : ∃ x, x = (newO h 6 3) := ⟨_, rfl⟩
  rw [← e4, ← e3]
  replace K := K n1 e3 h2 e4
  refine Wp.blk (by decide) ol_88 4 1 (pc' := 9) (L' := [.ref v0]) (S' := [.ref n1, .ref n1, .ref v0]) (h' := h2) rfl ?_
  refine Wp.callV (op_ix (by decide) ol_88 5 rfl) rfl rfl (K.mono ?_)
  rintro _ h5 ⟨rfl, K⟩
  refine ⟨rfl, ?_⟩
  obtain ⟨k7, K⟩ := K
  obtain ⟨b8, K⟩ := K
  refine Wp.putf (op_ix (by decide) ol_88 6 rfl) b8 k7 (h' := (stR h5 v0 0 (some n1))) rfl rfl ?_
  refine Wp.blk (by decide) ol_88 7 1 (pc' := 16) (L' := [.ref v0]) (S' := [.ref v0]) (h' := (stR h5 v0 0 (some n1))) rfl ?_
  refine Wp.blk (by decide) ol_88 8 1 (pc' := 19) (L' := [.ref v0]) (S' := [.ref (NX ((stR h5 v0 0 (some n1)))), .ref v0]) (h' := (newO ((stR h5 v0 0 (some n1))) 5 8)) rfl ?_
  obtain ⟨n9, e11⟩ : ∃ x, x = (NX ((stR h5 v0 0 (some n1)))) := ⟨_, rfl⟩
  obtain ⟨h10, e12⟩ : ∃ x, x = (newO ((stR h5 v0 0 (some n1))) 5 8) := ⟨_, rfl⟩
  rw [← e12, ← e11]
  replace K := K n9 e11 h10 e12
  refine Wp.blk (by decide) ol_88 9 1 (pc' := 20) (L' := [.ref v0]) (S' := [.ref n9, .ref n9, .ref v0]) (h' := h10) rfl ?_
  refine Wp.callV (op_ix (by decide) ol_88 10 rfl) rfl rfl (K.mono ?_)
  rintro _ h13 ⟨rfl, K⟩
  refine ⟨rfl, ?_⟩
  obtain ⟨k15, K⟩ := K
  refine Wp.putf (op_ix (by decide) ol_88 11 rfl) b8 k15 (h' := (stR h13 v0 1 (some n9))) rfl rfl ?_
  refine Wp.blk (by decide) ol_88 12 1 (pc' := 27) (L' := [.ref v0]) (S' := [.ref v0]) (h' := (stR h13 v0 1 (some n9))) rfl ?_
  refine Wp.blk (by decide) ol_88 13 1 (pc' := 30) (L' := [.ref v0]) (S' := [.ref (NX ((stR h13 v0 1 (some n9)))), .ref v0]) (h' := (newO ((stR h13 v0 1 (some n9))) 10 6)) rfl ?_
  obtain ⟨n16, e18⟩ : ∃ x, x = (NX ((stR h13 v0 1 (some n9)))) := ⟨_, rfl⟩
  obtain ⟨h17, e19⟩ : ∃ x, x = (newO ((stR h13 v0 1 (some n9))) 10 6) := ⟨_, rfl⟩
  rw [← e19, ← e18]
  replace K := K n16 e18 h17 e19
  refine Wp.blk (by decide) ol_88 14 2 (pc' := 32) (L' := [.ref v0]) (S' := [.ref v0, .ref n16, .ref n16, .ref v0]) (h' := h17) rfl ?_
  obtain ⟨k20, K⟩ := K
  obtain ⟨i21, q22, K⟩ := K
  refine Wp.getf (op_ix (by decide) ol_88 16 rfl) k20 (v := .ref i21) (congrArg va_rf q22) rfl ?_
  refine Wp.callV (op_ix (by decide) ol_88 17 rfl) rfl rfl (K.mono ?_)
  rintro _ h23 ⟨rfl, K⟩
  refine ⟨rfl, ?_⟩
  obtain ⟨k25, K⟩ := K
  refine Wp.putf (op_ix (by decide) ol_88 18 rfl) b8 k25 (h' := (stR h23 v0 2 (some n16))) rfl rfl ?_
  refine Wp.blk (by decide) ol_88 19 1 (pc' := 42) (L' := [.ref v0]) (S' := [.ref v0]) (h' := (stR h23 v0 2 (some n16))) rfl ?_
  refine Wp.blk (by decide) ol_88 20 1 (pc' := 45) (L' := [.ref v0]) (S' := [.ref (NX ((stR h23 v0 2 (some n16)))), .ref v0]) (h' := (newO ((stR h23 v0 2 (some n16))) 10 6)) rfl ?_
  obtain ⟨n26, e28⟩ : ∃ x, x = (NX ((stR h23 v0 2 (some n16)))) := ⟨_, rfl⟩
  obtain ⟨h27, e29⟩ : ∃ x, x = (newO ((stR h23 v0 2 (some n16))) 10 6) := ⟨_, rfl⟩
  rw [← e29, ← e28]
  replace K := K n26 e28 h27 e29
  refine Wp.blk (by decide) ol_88 21 2 (pc' := 47) (L' := [.ref v0]) (S' := [.ref v0, .ref n26, .ref n26, .ref v0]) (h' := h27) rfl ?_
  obtain ⟨k30, K⟩ := K
  obtain ⟨i31, q32, K⟩ := K
  refine Wp.getf (op_ix (by decide) ol_88 23 rfl) k30 (v := .ref i31) (congrArg va_rf q32) rfl ?_
  refine Wp.callV (op_ix (by decide) ol_88 24 rfl) rfl rfl (K.mono ?_)
  rintro _ h33 ⟨rfl, K⟩
  refine ⟨rfl, ?_⟩
  obtain ⟨k35, K⟩ := K
  refine Wp.putf (op_ix (by decide) ol_88 25 rfl) b8 k35 (h' := (stR h33 v0 3 (some n26))) rfl rfl ?_
  refine Wp.blk (by decide) ol_88 26 1 (pc' := 57) (L' := [.ref v0]) (S' := [.ref v0]) (h' := (stR h33 v0 3 (some n26))) rfl ?_
  refine Wp.blk (by decide) ol_88 27 1 (pc' := 60) (L' := [.ref v0]) (S' := [.ref (NX ((stR h33 v0 3 (some n26)))), .ref v0]) (h' := (newO ((stR h33 v0 3 (some n26))) 10 6)) rfl ?_
  obtain ⟨n36, e38⟩ : ∃ x, x = (NX ((stR h33 v0 3 (some n26)))) := ⟨_, rfl⟩
  obtain ⟨h37, e39⟩ : ∃ x, x = (newO ((stR h33 v0 3 (some n26))) 10 6) := ⟨_, rfl⟩
  rw [← e39, ← e38]
  replace K := K n36 e38 h37 e39
  refine Wp.blk (by decide) ol_88 28 2 (pc' := 62) (L' := [.ref v0]) (S' := [.ref v0, .ref n36, .ref n36, .ref v0]) (h' := h37) rfl ?_
  obtain ⟨k40, K⟩ := K
  obtain ⟨i41, q42, K⟩ := K
  refine Wp.getf (op_ix (by decide) ol_88 30 rfl) k40 (v := .ref i41) (congrArg va_rf q42) rfl ?_
  refine Wp.callV (op_ix (by decide) ol_88 31 rfl) rfl rfl (K.mono ?_)
  rintro _ h43 ⟨rfl, K⟩
  refine ⟨rfl, ?_⟩
  obtain ⟨k45, K⟩ := K
  refine Wp.putf (op_ix (by decide) ol_88 32 rfl) b8 k45 (h' := (stR h43 v0 4 (some n36))) rfl rfl ?_
  refine Wp.blk (by decide) ol_88 33 1 (pc' := 72) (L' := [.ref v0]) (S' := [.ref v0]) (h' := (stR h43 v0 4 (some n36))) rfl ?_
  refine Wp.blk (by decide) ol_88 34 1 (pc' := 75) (L' := [.ref v0]) (S' := [.ref (NX ((stR h43 v0 4 (some n36)))), .ref v0]) (h' := (newO ((stR h43 v0 4 (some n36))) 8 5)) rfl ?_
  obtain ⟨n46, e48⟩ : ∃ x, x = (NX ((stR h43 v0 4 (some n36)))) := ⟨_, rfl⟩
  obtain ⟨h47, e49⟩ : ∃ x, x = (newO ((stR h43 v0 4 (some n36))) 8 5) := ⟨_, rfl⟩
  rw [← e49, ← e48]
  replace K := K n46 e48 h47 e49
  refine Wp.blk (by decide) ol_88 35 2 (pc' := 77) (L' := [.ref v0]) (S' := [.ref v0, .ref n46, .ref n46, .ref v0]) (h' := h47) rfl ?_
  obtain ⟨k50, K⟩ := K
  obtain ⟨i51, q52, K⟩ := K
  refine Wp.getf (op_ix (by decide) ol_88 37 rfl) k50 (v := .ref i51) (congrArg va_rf q52) rfl ?_
  refine Wp.callV (op_ix (by decide) ol_88 38 rfl) rfl rfl (K.mono ?_)
  rintro _ h53 ⟨rfl, K⟩
  refine ⟨rfl, ?_⟩
  obtain ⟨k55, K⟩ := K
  refine Wp.putf (op_ix (by decide) ol_88 39 rfl) b8 k55 (h' := (stR h53 v0 5 (some n46))) rfl rfl ?_
  refine Wp.blk (by decide) ol_88 40 1 (pc' := 87) (L' := [.ref v0]) (S' := [.ref v0]) (h' := (stR h53 v0 5 (some n46))) rfl ?_
  refine Wp.blk (by decide) ol_88 41 1 (pc' := 90) (L' := [.ref v0]) (S' := [.ref (NX ((stR h53 v0 5 (some n46)))), .ref v0]) (h' := (newO ((stR h53 v0 5 (some n46))) 9 2)) rfl ?_
  obtain ⟨n56, e58⟩ : ∃ x, x = (NX ((stR h53 v0 5 (some n46)))) := ⟨_, rfl⟩
  obtain ⟨h57, e59⟩ : ∃ x, x = (newO ((stR h53 v0 5 (some n46))) 9 2) := ⟨_, rfl⟩
  rw [← e59, ← e58]
  replace K := K n56 e58 h57 e59
  refine Wp.blk (by decide) ol_88 42 2 (pc' := 92) (L' := [.ref v0]) (S' := [.ref v0, .ref n56, .ref n56, .ref v0]) (h' := h57) rfl ?_
  obtain ⟨k60, K⟩ := K
  obtain ⟨i61, q62, K⟩ := K
  refine Wp.getf (op_ix (by decide) ol_88 44 rfl) k60 (v := .ref i61) (congrArg va_rf q62) rfl ?_
  refine Wp.blk (by decide) ol_88 45 1 (pc' := 96) (L' := [.ref v0]) (S' := [.ref v0, .ref i61, .ref n56, .ref n56, .ref v0]) (h' := h57) rfl ?_
  obtain ⟨i63, q64, K⟩ := K
  refine Wp.getf (op_ix (by decide) ol_88 46 rfl) k60 (v := .ref i63) (congrArg va_rf q64) rfl ?_
  refine Wp.callV (op_ix (by decide) ol_88 47 rfl) rfl rfl (K.mono ?_)
  rintro _ h65 ⟨rfl, K⟩
  refine ⟨rfl, ?_⟩
  obtain ⟨k67, K⟩ := K
  refine Wp.putf (op_ix (by decide) ol_88 48 rfl) b8 k67 (h' := (stR h65 v0 6 (some n56))) rfl rfl ?_
  refine Wp.blk (by decide) ol_88 49 1 (pc' := 106) (L' := [.ref v0]) (S' := [.ref v0]) (h' := (stR h65 v0 6 (some n56))) rfl ?_
  refine Wp.blk (by decide) ol_88 50 1 (pc' := 109) (L' := [.ref v0]) (S' := [.ref (NX ((stR h65 v0 6 (some n56)))), .ref v0]) (h' := (newO ((stR h65 v0 6 (some n56))) 3 1)) rfl ?_
  obtain ⟨n68, e70⟩ : ∃ x, x = (NX ((stR h65 v0 6 (some n56)))) := ⟨_, rfl⟩
  obtain ⟨h69, e71⟩ : ∃ x, x = (newO ((stR h65 v0 6 (some n56))) 3 1) := ⟨_, rfl⟩
  rw [← e71, ← e70]
  replace K := K n68 e70 h69 e71
  refine Wp.blk (by decide) ol_88 51 1 (pc' := 110) (L' := [.ref v0]) (S' := [.ref n68, .ref n68, .ref v0]) (h' := h69) rfl ?_
  refine Wp.callV (op_ix (by decide) ol_88 52 rfl) rfl rfl (K.mono ?_)
  rintro _ h72 ⟨rfl, K⟩
  refine ⟨rfl, ?_⟩
  obtain ⟨k74, K⟩ := K
  refine Wp.putf (op_ix (by decide) ol_88 53 rfl) b8 k74 (h' := (stR h72 v0 7 (some n68))) rfl rfl ?_
  refine Wp.blk (by decide) ol_88 54 2 (pc' := 118) (L' := [.ref v0]) (S' := [.int (5 : Int32), .ref v0]) (h' := (stR h72 v0 7 (some n68))) rfl ?_
  refine Wp.blk (by decide) ol_88 56 1 (pc' := 121) (L' := [.ref v0]) (S' := [.ref (NX ((stR h72 v0 7 (some n68)))), .ref v0]) (h' := (newO ((stR h72 v0 7 (some n68))) 24 5)) rfl ?_
  obtain ⟨n75, e77⟩ : ∃ x, x = (NX ((stR h72 v0 7 (some n68)))) := ⟨_, rfl⟩
  obtain ⟨h76, e78⟩ : ∃ x, x = (newO ((stR h72 v0 7 (some n68))) 24 5) := ⟨_, rfl⟩
  rw [← e78, ← e77]
  replace K := K n75 e77 h76 e78
  obtain ⟨k79, K⟩ := K
  refine Wp.putf (op_ix (by decide) ol_88 57 rfl) b8 k79 (h' := (stR h76 v0 8 (some n75))) rfl rfl ?_
  exact Wp.ret (op_ix (by decide) ol_88 58 rfl) rfl K
/-- CutsOrFast.letters at 0 (J)I -/
theorem g89_0 (d : Nat) (v1 : Int64) (h : AH) (HS : Sh h)  (Q : Option Value → AH → Prop) (K : (Cl d 42 [.ref 3, .long v1] h (fun r h1 => ∃ x3 : Int32, r = some (.int x3) ∧ Sh h1 ∧ Q (some (.int x3)) h1))) : Wp (d + 1) 89 0 [.ref 2, .long v1, mk0] [] h Q := by
  refine Wp.blk (by decide) ol_89 0 1 (pc' := 1) (L' := [.ref 2, .long v1, mk0]) (S' := [.ref 2]) (h' := h) rfl ?_
  refine Wp.getf (op_ix (by decide) ol_89 1 rfl) (okS HS 2 rfl rfl) (v := .ref 3) (congrArg va_rf (rS HS 2 0 rfl)) rfl ?_
  refine Wp.blk (by decide) ol_89 2 1 (pc' := 5) (L' := [.ref 2, .long v1, mk0]) (S' := [.long v1, .ref 3]) (h' := h) rfl ?_
  refine Wp.callI (op_ix (by decide) ol_89 3 rfl) (act_virt (c2 := 1) rfl (lk1 (kS HS 3 rfl)) rfl) rfl (K.mono ?_)
  rintro _ h1 ⟨x3, rfl, hs2, K⟩
  refine ⟨x3, rfl, ?_⟩
  exact Wp.ret (op_ix (by decide) ol_89 4 rfl) rfl K
/-- CutsOrFast.fault at 0 ()I -/
theorem g91_0 (d : Nat)  (h : AH) (HS : Sh h)  (Q : Option Value → AH → Prop) (K : (Cl d 45 [.ref 3] h (fun r h1 => ∃ x3 : Int32, r = some (.int x3) ∧ Sh h1 ∧ Q (some (.int x3)) h1))) : Wp (d + 1) 91 0 [.ref 2] [] h Q := by
  refine Wp.blk (by decide) ol_91 0 1 (pc' := 1) (L' := [.ref 2]) (S' := [.ref 2]) (h' := h) rfl ?_
  refine Wp.getf (op_ix (by decide) ol_91 1 rfl) (okS HS 2 rfl rfl) (v := .ref 3) (congrArg va_rf (rS HS 2 0 rfl)) rfl ?_
  refine Wp.callI (op_ix (by decide) ol_91 2 rfl) (act_virt (c2 := 0) rfl (lk1 (kS HS 3 rfl)) rfl) rfl (K.mono ?_)
  rintro _ h1 ⟨x3, rfl, hs2, K⟩
  refine ⟨x3, rfl, ?_⟩
  exact Wp.ret (op_ix (by decide) ol_91 3 rfl) rfl K
/-- CutsOrFast.net at 0 ()I -/
theorem g92_0 (d : Nat)  (h : AH) (HS : Sh h)  (Q : Option Value → AH → Prop) (K : (Cl d 45 [.ref 3] h (fun r h1 => ∃ x3 : Int32, r = some (.int x3) ∧ Sh h1 ∧ ((x3 = (AI h1 3 1) → (((AI h1 3 2) < (5 : Int32) → Q (some (.int (-103 : Int32))) h1) ∧ (¬ (AI h1 3 2) < (5 : Int32) → (Cl (d + 1) 50 [.ref 3, .ref 5, .ref 11] h1 (fun r h6 => r = none ∧ Sh h6 ∧ (Cl d 56 [.ref 19] ((stI h6 3 1 ((0 : Int32)))) (fun r h8 => r = none ∧ Sh h8 ∧ Q (some (.int (AI ((stI ((stI ((stI h8 17 4 ((-1 : Int32)))) 2 12 ((0 : Int32)))) 2 10 ((((AI ((stI ((stI h8 17 4 ((-1 : Int32)))) 2 12 ((0 : Int32)))) 2 10)) + ((1 : Int32)))))) 5 5))) (stI ((stI ((stI h8 17 4 ((-1 : Int32)))) 2 12 ((0 : Int32)))) 2 10 ((((AI ((stI ((stI h8 17 4 ((-1 : Int32)))) 2 12 ((0 : Int32)))) 2 10)) + ((1 : Int32)))))))))))) ∧ (¬ x3 = (AI h1 3 1) → Q (some (.int (-103 : Int32))) h1))))) : Wp (d + 2) 92 0 [.ref 2] [] h Q := by
  refine Wp.blk (by decide) ol_92 0 1 (pc' := 1) (L' := [.ref 2]) (S' := [.ref 2]) (h' := h) rfl ?_
  refine Wp.getf (op_ix (by decide) ol_92 1 rfl) (okS HS 2 rfl rfl) (v := .ref 3) (congrArg va_rf (rS HS 2 0 rfl)) rfl ?_
  refine Wp.callI (op_ix (by decide) ol_92 2 rfl) (act_virt (c2 := 0) rfl (lk1 (kS HS 3 rfl)) rfl) rfl (Cl.enter (L := [.ref 3]) rfl ?_)
  refine Wp.blk (by decide) ol_44 0 1 (pc' := 1) (L' := [.ref 3]) (S' := [.ref 3]) (h' := h) rfl ?_
  refine Wp.callI (op_ix (by decide) ol_44 1 rfl) (act_virt (c2 := 0) rfl (lk1 (kS HS 3 rfl)) rfl) rfl (K.mono ?_)
  rintro _ h1 ⟨x3, rfl, hs2, K⟩
  refine ⟨x3, rfl, ?_⟩
  refine Wp.blk (by decide) ol_44 2 1 (pc' := 5) (L' := [.ref 3]) (S' := [.ref 3, .int x3]) (h' := h1) rfl ?_
  refine Wp.getf (op_ix (by decide) ol_44 3 rfl) (okS hs2 3 rfl rfl) (v := .int (AI h1 3 1)) rfl rfl ?_
  refine Wp.blk (by decide) ol_44 4 1 (pc' := (if x3 = (AI h1 3 1) then 11 else 23)) (L' := [.ref 3]) (S' := []) (h' := h1) rfl ?_
  refine Wp.br (fun c4 => ?_) (fun c4 => ?_)
  · replace K := K.1 c4
    refine Wp.blk (by decide) ol_44 5 1 (pc' := 12) (L' := [.ref 3]) (S' := [.ref 3]) (h' := h1) rfl ?_
    refine Wp.getf (op_ix (by decide) ol_44 6 rfl) (okS hs2 3 rfl rfl) (v := .int (AI h1 3 2)) rfl rfl ?_
    refine Wp.blk (by decide) ol_44 7 2 (pc' := (if (AI h1 3 2) < (5 : Int32) then 23 else 19)) (L' := [.ref 3]) (S' := []) (h' := h1) rfl ?_
    refine Wp.br (fun c5 => ?_) (fun c5 => ?_)
    · replace K := K.1 c5
      refine Wp.blk (by decide) ol_44 11 1 (pc' := 24) (L' := [.ref 3]) (S' := [.int (0 : Int32)]) (h' := h1) rfl ?_
      refine Wp.ret (op_ix (by decide) ol_44 12 rfl) rfl ⟨_, rfl, ?_⟩
      refine Wp.blk (by decide) ol_92 3 1 (pc' := (if (0 : Int32) = (0 : Int32) then 10 else 13)) (L' := [.ref 2]) (S' := []) (h' := h1) rfl ?_
      refine Wp.br (fun _ => ?_) (fun hc => absurd (by decide) hc)
      refine Wp.blk (by decide) ol_92 4 1 (pc' := 12) (L' := [.ref 2]) (S' := [.int (-103 : Int32)]) (h' := h1) rfl ?_
      exact Wp.ret (op_ix (by decide) ol_92 5 rfl) rfl K
    · replace K := K.2 c5
      refine Wp.blk (by decide) ol_44 9 2 (pc' := 24) (L' := [.ref 3]) (S' := [.int (1 : Int32)]) (h' := h1) rfl ?_
      refine Wp.ret (op_ix (by decide) ol_44 12 rfl) rfl ⟨_, rfl, ?_⟩
      refine Wp.blk (by decide) ol_92 3 1 (pc' := (if (1 : Int32) = (0 : Int32) then 10 else 13)) (L' := [.ref 2]) (S' := []) (h' := h1) rfl ?_
      refine Wp.br (fun hc => absurd hc (by decide)) (fun _ => ?_)
      refine Wp.blk (by decide) ol_92 6 1 (pc' := 14) (L' := [.ref 2]) (S' := [.ref 2]) (h' := h1) rfl ?_
      refine Wp.getf (op_ix (by decide) ol_92 7 rfl) (okS hs2 2 rfl rfl) (v := .ref 3) (congrArg va_rf (rS hs2 2 0 rfl)) rfl ?_
      refine Wp.blk (by decide) ol_92 8 1 (pc' := 18) (L' := [.ref 2]) (S' := [.ref 2, .ref 3]) (h' := h1) rfl ?_
      refine Wp.getf (op_ix (by decide) ol_92 9 rfl) (okS hs2 2 rfl rfl) (v := .ref 5) (congrArg va_rf (rS hs2 2 1 rfl)) rfl ?_
      refine Wp.blk (by decide) ol_92 10 1 (pc' := 22) (L' := [.ref 2]) (S' := [.ref 2, .ref 5, .ref 3]) (h' := h1) rfl ?_
      refine Wp.getf (op_ix (by decide) ol_92 11 rfl) (okS hs2 2 rfl rfl) (v := .ref 11) (congrArg va_rf (rS hs2 2 2 rfl)) rfl ?_
      refine Wp.callV (op_ix (by decide) ol_92 12 rfl) (act_virt (c2 := 2) rfl (lk1 (kS hs2 3 rfl)) rfl) rfl (K.mono ?_)
      rintro _ h6 ⟨rfl, hs7, K⟩
      refine ⟨rfl, ?_⟩
      refine Wp.blk (by decide) ol_92 13 1 (pc' := 29) (L' := [.ref 2]) (S' := [.ref 2]) (h' := h6) rfl ?_
      refine Wp.getf (op_ix (by decide) ol_92 14 rfl) (okS hs7 2 rfl rfl) (v := .ref 3) (congrArg va_rf (rS hs7 2 0 rfl)) rfl ?_
      refine Wp.callV (op_ix (by decide) ol_92 15 rfl) (act_virt (c2 := 0) rfl (lk1 (kS hs7 3 rfl)) rfl) rfl (Cl.enter (L := [.ref 3]) rfl ?_)
      refine Wp.blk (by decide) ol_40 0 2 (pc' := 2) (L' := [.ref 3]) (S' := [.int (0 : Int32), .ref 3]) (h' := h6) rfl ?_
      refine Wp.putf (op_ix (by decide) ol_40 2 rfl) (by decide) (okS hs7 3 rfl rfl) (h' := (stI h6 3 1 ((0 : Int32)))) rfl rfl ?_
      refine Wp.ret (op_ix (by decide) ol_40 3 rfl) rfl ⟨rfl, ?_⟩
      refine Wp.blk (by decide) ol_92 16 1 (pc' := 36) (L' := [.ref 2]) (S' := [.ref 2]) (h' := (stI h6 3 1 ((0 : Int32)))) rfl ?_
      refine Wp.getf (op_ix (by decide) ol_92 17 rfl) (okS hs7 2 rfl rfl) (v := .ref 17) (congrArg va_rf (rS hs7 2 5 rfl)) rfl ?_
      refine Wp.callV (op_ix (by decide) ol_92 18 rfl) (act_virt (c2 := 0) rfl (lk1 (kS hs7 17 rfl)) rfl) rfl (Cl.enter (L := [.ref 17]) rfl ?_)
      refine Wp.blk (by decide) ol_55 0 1 (pc' := 1) (L' := [.ref 17]) (S' := [.ref 17]) (h' := (stI h6 3 1 ((0 : Int32)))) rfl ?_
      refine Wp.getf (op_ix (by decide) ol_55 1 rfl) (okS hs7 17 rfl rfl) (v := .ref 19) (congrArg va_rf (rS hs7 17 2 rfl)) rfl ?_
      refine Wp.callV (op_ix (by decide) ol_55 2 rfl) rfl rfl (K.mono ?_)
      rintro _ h8 ⟨rfl, hs9, K⟩
      refine ⟨rfl, ?_⟩
      refine Wp.blk (by decide) ol_55 3 2 (pc' := 9) (L' := [.ref 17]) (S' := [.int (-1 : Int32), .ref 17]) (h' := h8) rfl ?_
      refine Wp.putf (op_ix (by decide) ol_55 5 rfl) (by decide) (okS hs9 17 rfl rfl) (h' := (stI h8 17 4 ((-1 : Int32)))) rfl rfl ?_
      refine Wp.ret (op_ix (by decide) ol_55 6 rfl) rfl ⟨rfl, ?_⟩
      refine Wp.blk (by decide) ol_92 19 2 (pc' := 44) (L' := [.ref 2]) (S' := [.int (0 : Int32), .ref 2]) (h' := (stI h8 17 4 ((-1 : Int32)))) rfl ?_
      refine Wp.putf (op_ix (by decide) ol_92 21 rfl) (by decide) (okS hs9 2 rfl rfl) (h' := (stI ((stI h8 17 4 ((-1 : Int32)))) 2 12 ((0 : Int32)))) rfl rfl ?_
      refine Wp.blk (by decide) ol_92 22 2 (pc' := 49) (L' := [.ref 2]) (S' := [.ref 2, .ref 2]) (h' := (stI ((stI h8 17 4 ((-1 : Int32)))) 2 12 ((0 : Int32)))) rfl ?_
      refine Wp.getf (op_ix (by decide) ol_92 24 rfl) (okS hs9 2 rfl rfl) (v := .int (AI ((stI ((stI h8 17 4 ((-1 : Int32)))) 2 12 ((0 : Int32)))) 2 10)) rfl rfl ?_
      refine Wp.blk (by decide) ol_92 25 2 (pc' := 54) (L' := [.ref 2]) (S' := [.int (((AI ((stI ((stI h8 17 4 ((-1 : Int32)))) 2 12 ((0 : Int32)))) 2 10)) + ((1 : Int32))), .ref 2]) (h' := (stI ((stI h8 17 4 ((-1 : Int32)))) 2 12 ((0 : Int32)))) rfl ?_
      refine Wp.putf (op_ix (by decide) ol_92 27 rfl) (by decide) (okS hs9 2 rfl rfl) (h' := (stI ((stI ((stI h8 17 4 ((-1 : Int32)))) 2 12 ((0 : Int32)))) 2 10 ((((AI ((stI ((stI h8 17 4 ((-1 : Int32)))) 2 12 ((0 : Int32)))) 2 10)) + ((1 : Int32)))))) rfl rfl ?_
      refine Wp.blk (by decide) ol_92 28 1 (pc' := 58) (L' := [.ref 2]) (S' := [.ref 2]) (h' := (stI ((stI ((stI h8 17 4 ((-1 : Int32)))) 2 12 ((0 : Int32)))) 2 10 ((((AI ((stI ((stI h8 17 4 ((-1 : Int32)))) 2 12 ((0 : Int32)))) 2 10)) + ((1 : Int32)))))) rfl ?_
      refine Wp.getf (op_ix (by decide) ol_92 29 rfl) (okS hs9 2 rfl rfl) (v := .ref 5) (congrArg va_rf (rS hs9 2 1 rfl)) rfl ?_
      refine Wp.callI (op_ix (by decide) ol_92 30 rfl) (act_virt (c2 := 0) rfl (lk1 (kS hs9 5 rfl)) rfl) rfl (Cl.enter (L := [.ref 5]) rfl ?_)
      refine Wp.blk (by decide) ol_26 0 1 (pc' := 1) (L' := [.ref 5]) (S' := [.ref 5]) (h' := (stI ((stI ((stI h8 17 4 ((-1 : Int32)))) 2 12 ((0 : Int32)))) 2 10 ((((AI ((stI ((stI h8 17 4 ((-1 : Int32)))) 2 12 ((0 : Int32)))) 2 10)) + ((1 : Int32)))))) rfl ?_
      refine Wp.getf (op_ix (by decide) ol_26 1 rfl) (okS hs9 5 rfl rfl) (v := .int (AI ((stI ((stI ((stI h8 17 4 ((-1 : Int32)))) 2 12 ((0 : Int32)))) 2 10 ((((AI ((stI ((stI h8 17 4 ((-1 : Int32)))) 2 12 ((0 : Int32)))) 2 10)) + ((1 : Int32)))))) 5 5)) rfl rfl ?_
      refine Wp.ret (op_ix (by decide) ol_26 2 rfl) rfl ⟨_, rfl, ?_⟩
      exact Wp.ret (op_ix (by decide) ol_92 31 rfl) rfl K
  · replace K := K.2 c4
    refine Wp.blk (by decide) ol_44 11 1 (pc' := 24) (L' := [.ref 3]) (S' := [.int (0 : Int32)]) (h' := h1) rfl ?_
    refine Wp.ret (op_ix (by decide) ol_44 12 rfl) rfl ⟨_, rfl, ?_⟩
    refine Wp.blk (by decide) ol_92 3 1 (pc' := (if (0 : Int32) = (0 : Int32) then 10 else 13)) (L' := [.ref 2]) (S' := []) (h' := h1) rfl ?_
    refine Wp.br (fun _ => ?_) (fun hc => absurd (by decide) hc)
    refine Wp.blk (by decide) ol_92 4 1 (pc' := 12) (L' := [.ref 2]) (S' := [.int (-103 : Int32)]) (h' := h1) rfl ?_
    exact Wp.ret (op_ix (by decide) ol_92 5 rfl) rfl K
/-- CutsOrFast.lane at 0 (II)I -/
theorem g93_0 (d : Nat) (v1 : Int32) (v2 : Int32) (h : AH) (HS : Sh h)  (Q : Option Value → AH → Prop) (K : ((v1 < (0 : Int32) → Q (some (.int (-101 : Int32))) h) ∧ (¬ v1 < (0 : Int32) → ((v1 < (AI h 5 5) → ((v2 = Int32.ofNat 0 → Q (some (.int (atv h 6 v1))) h) ∧ (¬ v2 = Int32.ofNat 0 → ((v2 = Int32.ofNat 1 → Q (some (.int (atv h 7 v1))) h) ∧ (¬ v2 = Int32.ofNat 1 → ((v2 = Int32.ofNat 2 → (Cl (d + 1) 78 [.ref 11, .int v1] h (fun r h6 => ∃ x8 : Int32, r = some (.int x8) ∧ Sh h6 ∧ Q (some (.int x8)) h6))) ∧ (¬ v2 = Int32.ofNat 2 → ((v2 = Int32.ofNat 3 → Q (some (.int (atv h 8 v1))) h) ∧ (¬ v2 = Int32.ofNat 3 → Q (some (.int (-102 : Int32))) h))))))))) ∧ (¬ v1 < (AI h 5 5) → Q (some (.int (-101 : Int32))) h))))) : Wp (d + 2) 93 0 [.ref 2, .int v1, .int v2] [] h Q := by
  refine Wp.blk (by decide) ol_93 0 2 (pc' := 2) (L' := [.ref 2, .int v1, .int v2]) (S' := [.int v1, .ref 2]) (h' := h) rfl ?_
  refine Wp.callI (op_ix (by decide) ol_93 2 rfl) (act_virt (c2 := 1) rfl (lk1 (kS HS 2 rfl)) rfl) rfl (Cl.enter (L := [.ref 2, .int v1]) rfl ?_)
  refine Wp.blk (by decide) ol_116 0 2 (pc' := (if v1 < (0 : Int32) then 19 else 4)) (L' := [.ref 2, .int v1]) (S' := []) (h' := h) rfl ?_
  refine Wp.br (fun c1 => ?_) (fun c1 => ?_)
  · replace K := K.1 c1
    refine Wp.blk (by decide) ol_116 9 1 (pc' := 20) (L' := [.ref 2, .int v1]) (S' := [.int (0 : Int32)]) (h' := h) rfl ?_
    refine Wp.ret (op_ix (by decide) ol_116 10 rfl) rfl ⟨_, rfl, ?_⟩
    refine Wp.blk (by decide) ol_93 3 1 (pc' := (if (0 : Int32) = (0 : Int32) then 8 else 11)) (L' := [.ref 2, .int v1, .int v2]) (S' := []) (h' := h) rfl ?_
    refine Wp.br (fun _ => ?_) (fun hc => absurd (by decide) hc)
    refine Wp.blk (by decide) ol_93 4 1 (pc' := 10) (L' := [.ref 2, .int v1, .int v2]) (S' := [.int (-101 : Int32)]) (h' := h) rfl ?_
    exact Wp.ret (op_ix (by decide) ol_93 5 rfl) rfl K
  · replace K := K.2 c1
    refine Wp.blk (by decide) ol_116 2 2 (pc' := 6) (L' := [.ref 2, .int v1]) (S' := [.ref 2, .int v1]) (h' := h) rfl ?_
    refine Wp.getf (op_ix (by decide) ol_116 4 rfl) (okS HS 2 rfl rfl) (v := .ref 5) (congrArg va_rf (rS HS 2 1 rfl)) rfl ?_
    refine Wp.callI (op_ix (by decide) ol_116 5 rfl) (act_virt (c2 := 0) rfl (lk1 (kS HS 5 rfl)) rfl) rfl (Cl.enter (L := [.ref 5]) rfl ?_)
    refine Wp.blk (by decide) ol_26 0 1 (pc' := 1) (L' := [.ref 5]) (S' := [.ref 5]) (h' := h) rfl ?_
    refine Wp.getf (op_ix (by decide) ol_26 1 rfl) (okS HS 5 rfl rfl) (v := .int (AI h 5 5)) rfl rfl ?_
    refine Wp.ret (op_ix (by decide) ol_26 2 rfl) rfl ⟨_, rfl, ?_⟩
    refine Wp.blk (by decide) ol_116 6 1 (pc' := (if v1 < (AI h 5 5) then 15 else 19)) (L' := [.ref 2, .int v1]) (S' := []) (h' := h) rfl ?_
    refine Wp.br (fun c2 => ?_) (fun c2 => ?_)
    · replace K := K.1 c2
      refine Wp.blk (by decide) ol_116 7 2 (pc' := 20) (L' := [.ref 2, .int v1]) (S' := [.int (1 : Int32)]) (h' := h) rfl ?_
      refine Wp.ret (op_ix (by decide) ol_116 10 rfl) rfl ⟨_, rfl, ?_⟩
      refine Wp.blk (by decide) ol_93 3 1 (pc' := (if (1 : Int32) = (0 : Int32) then 8 else 11)) (L' := [.ref 2, .int v1, .int v2]) (S' := []) (h' := h) rfl ?_
      refine Wp.br (fun hc => absurd hc (by decide)) (fun _ => ?_)
      refine Wp.blk (by decide) ol_93 6 2 (pc' := (tsw v2 [(0, 44), (1, 53), (2, 62), (3, 71)] 80)) (L' := [.ref 2, .int v1, .int v2]) (S' := []) (h' := h) rfl ?_
      refine Wp.tsw (fun c3 => ?_) (fun c3 => ?_)
      · replace K := K.1 c3
        refine Wp.blk (by decide) ol_93 8 1 (pc' := 45) (L' := [.ref 2, .int v1, .int v2]) (S' := [.ref 2]) (h' := h) rfl ?_
        refine Wp.getf (op_ix (by decide) ol_93 9 rfl) (okS HS 2 rfl rfl) (v := .ref 5) (congrArg va_rf (rS HS 2 1 rfl)) rfl ?_
        refine Wp.blk (by decide) ol_93 10 1 (pc' := 49) (L' := [.ref 2, .int v1, .int v2]) (S' := [.int v1, .ref 5]) (h' := h) rfl ?_
        refine Wp.callI (op_ix (by decide) ol_93 11 rfl) (act_virt (c2 := 1) rfl (lk1 (kS HS 5 rfl)) rfl) rfl (Cl.enter (L := [.ref 5, .int v1]) rfl ?_)
        refine Wp.blk (by decide) ol_30 0 1 (pc' := 1) (L' := [.ref 5, .int v1]) (S' := [.ref 5]) (h' := h) rfl ?_
        refine Wp.getf (op_ix (by decide) ol_30 1 rfl) (okS HS 5 rfl rfl) (v := .ref 6) (congrArg va_rf (rS HS 5 0 rfl)) rfl ?_
        refine Wp.blk (by decide) ol_30 2 1 (pc' := 5) (L' := [.ref 5, .int v1]) (S' := [.int v1, .ref 6]) (h' := h) rfl ?_
        refine Wp.callI (op_ix (by decide) ol_30 3 rfl) rfl rfl (sp_at (kS HS 6 rfl) (nS HS 6 rfl) ?_)
        refine ⟨_, rfl, ?_⟩
        refine Wp.ret (op_ix (by decide) ol_30 4 rfl) rfl ⟨_, rfl, ?_⟩
        exact Wp.ret (op_ix (by decide) ol_93 12 rfl) rfl K
      replace K := K.2 c3
      refine Wp.tsw (fun c4 => ?_) (fun c4 => ?_)
      · replace K := K.1 c4
        refine Wp.blk (by decide) ol_93 13 1 (pc' := 54) (L' := [.ref 2, .int v1, .int v2]) (S' := [.ref 2]) (h' := h) rfl ?_
        refine Wp.getf (op_ix (by decide) ol_93 14 rfl) (okS HS 2 rfl rfl) (v := .ref 5) (congrArg va_rf (rS HS 2 1 rfl)) rfl ?_
        refine Wp.blk (by decide) ol_93 15 1 (pc' := 58) (L' := [.ref 2, .int v1, .int v2]) (S' := [.int v1, .ref 5]) (h' := h) rfl ?_
        refine Wp.callI (op_ix (by decide) ol_93 16 rfl) (act_virt (c2 := 1) rfl (lk1 (kS HS 5 rfl)) rfl) rfl (Cl.enter (L := [.ref 5, .int v1]) rfl ?_)
        refine Wp.blk (by decide) ol_31 0 1 (pc' := 1) (L' := [.ref 5, .int v1]) (S' := [.ref 5]) (h' := h) rfl ?_
        refine Wp.getf (op_ix (by decide) ol_31 1 rfl) (okS HS 5 rfl rfl) (v := .ref 7) (congrArg va_rf (rS HS 5 1 rfl)) rfl ?_
        refine Wp.blk (by decide) ol_31 2 1 (pc' := 5) (L' := [.ref 5, .int v1]) (S' := [.int v1, .ref 7]) (h' := h) rfl ?_
        refine Wp.callI (op_ix (by decide) ol_31 3 rfl) rfl rfl (sp_at (kS HS 7 rfl) (nS HS 7 rfl) ?_)
        refine ⟨_, rfl, ?_⟩
        refine Wp.ret (op_ix (by decide) ol_31 4 rfl) rfl ⟨_, rfl, ?_⟩
        exact Wp.ret (op_ix (by decide) ol_93 17 rfl) rfl K
      replace K := K.2 c4
      refine Wp.tsw (fun c5 => ?_) (fun c5 => ?_)
      · replace K := K.1 c5
        refine Wp.blk (by decide) ol_93 18 1 (pc' := 63) (L' := [.ref 2, .int v1, .int v2]) (S' := [.ref 2]) (h' := h) rfl ?_
        refine Wp.getf (op_ix (by decide) ol_93 19 rfl) (okS HS 2 rfl rfl) (v := .ref 11) (congrArg va_rf (rS HS 2 2 rfl)) rfl ?_
        refine Wp.blk (by decide) ol_93 20 1 (pc' := 67) (L' := [.ref 2, .int v1, .int v2]) (S' := [.int v1, .ref 11]) (h' := h) rfl ?_
        refine Wp.callI (op_ix (by decide) ol_93 21 rfl) (act_virt (c2 := 1) rfl (lk1 (kS HS 11 rfl)) rfl) rfl (K.mono ?_)
        rintro _ h6 ⟨x8, rfl, hs7, K⟩
        refine ⟨x8, rfl, ?_⟩
        exact Wp.ret (op_ix (by decide) ol_93 22 rfl) rfl K
      replace K := K.2 c5
      refine Wp.tsw (fun c9 => ?_) (fun c9 => ?_)
      · replace K := K.1 c9
        refine Wp.blk (by decide) ol_93 23 1 (pc' := 72) (L' := [.ref 2, .int v1, .int v2]) (S' := [.ref 2]) (h' := h) rfl ?_
        refine Wp.getf (op_ix (by decide) ol_93 24 rfl) (okS HS 2 rfl rfl) (v := .ref 5) (congrArg va_rf (rS HS 2 1 rfl)) rfl ?_
        refine Wp.blk (by decide) ol_93 25 1 (pc' := 76) (L' := [.ref 2, .int v1, .int v2]) (S' := [.int v1, .ref 5]) (h' := h) rfl ?_
        refine Wp.callI (op_ix (by decide) ol_93 26 rfl) (act_virt (c2 := 1) rfl (lk1 (kS HS 5 rfl)) rfl) rfl (Cl.enter (L := [.ref 5, .int v1]) rfl ?_)
        refine Wp.blk (by decide) ol_32 0 1 (pc' := 1) (L' := [.ref 5, .int v1]) (S' := [.ref 5]) (h' := h) rfl ?_
        refine Wp.getf (op_ix (by decide) ol_32 1 rfl) (okS HS 5 rfl rfl) (v := .ref 8) (congrArg va_rf (rS HS 5 2 rfl)) rfl ?_
        refine Wp.blk (by decide) ol_32 2 1 (pc' := 5) (L' := [.ref 5, .int v1]) (S' := [.int v1, .ref 8]) (h' := h) rfl ?_
        refine Wp.callI (op_ix (by decide) ol_32 3 rfl) rfl rfl (sp_at (kS HS 8 rfl) (nS HS 8 rfl) ?_)
        refine ⟨_, rfl, ?_⟩
        refine Wp.ret (op_ix (by decide) ol_32 4 rfl) rfl ⟨_, rfl, ?_⟩
        exact Wp.ret (op_ix (by decide) ol_93 27 rfl) rfl K
      replace K := K.2 c9
      unfold tsw
      refine Wp.blk (by decide) ol_93 28 1 (pc' := 82) (L' := [.ref 2, .int v1, .int v2]) (S' := [.int (-102 : Int32)]) (h' := h) rfl ?_
      exact Wp.ret (op_ix (by decide) ol_93 29 rfl) rfl K
    · replace K := K.2 c2
      refine Wp.blk (by decide) ol_116 9 1 (pc' := 20) (L' := [.ref 2, .int v1]) (S' := [.int (0 : Int32)]) (h' := h) rfl ?_
      refine Wp.ret (op_ix (by decide) ol_116 10 rfl) rfl ⟨_, rfl, ?_⟩
      refine Wp.blk (by decide) ol_93 3 1 (pc' := (if (0 : Int32) = (0 : Int32) then 8 else 11)) (L' := [.ref 2, .int v1, .int v2]) (S' := []) (h' := h) rfl ?_
      refine Wp.br (fun _ => ?_) (fun hc => absurd (by decide) hc)
      refine Wp.blk (by decide) ol_93 4 1 (pc' := 10) (L' := [.ref 2, .int v1, .int v2]) (S' := [.int (-101 : Int32)]) (h' := h) rfl ?_
      exact Wp.ret (op_ix (by decide) ol_93 5 rfl) rfl K
/-- CutsOrFast.status at 0 ()I -/
theorem g94_0 (d : Nat)  (h : AH) (HS : Sh h)  (Q : Option Value → AH → Prop) (K : (((0 : Int32) < (AI h 5 5) → (Cl d 37 [.ref 5, .int (AI h 11 3), .int (AI h 11 4)] h (fun r h2 => ∃ x4 : Int32, r = some (.int x4) ∧ Sh h2 ∧ Q (some (.int x4)) h2))) ∧ (¬ (0 : Int32) < (AI h 5 5) → Q (some (.int (-103 : Int32))) h))) : Wp (d + 2) 94 0 [.ref 2] [] h Q := by
  refine Wp.blk (by decide) ol_94 0 1 (pc' := 1) (L' := [.ref 2]) (S' := [.ref 2]) (h' := h) rfl ?_
  refine Wp.callI (op_ix (by decide) ol_94 1 rfl) (act_virt (c2 := 0) rfl (lk1 (kS HS 2 rfl)) rfl) rfl (Cl.enter (L := [.ref 2]) rfl ?_)
  refine Wp.blk (by decide) ol_115 0 1 (pc' := 1) (L' := [.ref 2]) (S' := [.ref 2]) (h' := h) rfl ?_
  refine Wp.getf (op_ix (by decide) ol_115 1 rfl) (okS HS 2 rfl rfl) (v := .ref 5) (congrArg va_rf (rS HS 2 1 rfl)) rfl ?_
  refine Wp.callI (op_ix (by decide) ol_115 2 rfl) (act_virt (c2 := 0) rfl (lk1 (kS HS 5 rfl)) rfl) rfl (Cl.enter (L := [.ref 5]) rfl ?_)
  refine Wp.blk (by decide) ol_26 0 1 (pc' := 1) (L' := [.ref 5]) (S' := [.ref 5]) (h' := h) rfl ?_
  refine Wp.getf (op_ix (by decide) ol_26 1 rfl) (okS HS 5 rfl rfl) (v := .int (AI h 5 5)) rfl rfl ?_
  refine Wp.ret (op_ix (by decide) ol_26 2 rfl) rfl ⟨_, rfl, ?_⟩
  refine Wp.blk (by decide) ol_115 3 1 (pc' := (if (0 : Int32) < (AI h 5 5) then 10 else 14)) (L' := [.ref 2]) (S' := []) (h' := h) rfl ?_
  refine Wp.br (fun c1 => ?_) (fun c1 => ?_)
  · replace K := K.1 c1
    refine Wp.blk (by decide) ol_115 4 2 (pc' := 15) (L' := [.ref 2]) (S' := [.int (1 : Int32)]) (h' := h) rfl ?_
    refine Wp.ret (op_ix (by decide) ol_115 7 rfl) rfl ⟨_, rfl, ?_⟩
    refine Wp.blk (by decide) ol_94 2 1 (pc' := (if (1 : Int32) = (0 : Int32) then 17 else 7)) (L' := [.ref 2]) (S' := []) (h' := h) rfl ?_
    refine Wp.br (fun hc => absurd hc (by decide)) (fun _ => ?_)
    refine Wp.blk (by decide) ol_94 3 1 (pc' := 8) (L' := [.ref 2]) (S' := [.ref 2]) (h' := h) rfl ?_
    refine Wp.getf (op_ix (by decide) ol_94 4 rfl) (okS HS 2 rfl rfl) (v := .ref 11) (congrArg va_rf (rS HS 2 2 rfl)) rfl ?_
    refine Wp.callI (op_ix (by decide) ol_94 5 rfl) (act_virt (c2 := 0) rfl (lk1 (kS HS 11 rfl)) rfl) rfl (Cl.enter (L := [.ref 11]) rfl ?_)
    refine Wp.blk (by decide) ol_77 0 1 (pc' := 1) (L' := [.ref 11]) (S' := [.ref 11]) (h' := h) rfl ?_
    refine Wp.getf (op_ix (by decide) ol_77 1 rfl) (okS HS 11 rfl rfl) (v := .ref 5) (congrArg va_rf (rS HS 11 0 rfl)) rfl ?_
    refine Wp.blk (by decide) ol_77 2 1 (pc' := 5) (L' := [.ref 11]) (S' := [.ref 11, .ref 5]) (h' := h) rfl ?_
    refine Wp.getf (op_ix (by decide) ol_77 3 rfl) (okS HS 11 rfl rfl) (v := .int (AI h 11 3)) rfl rfl ?_
    refine Wp.blk (by decide) ol_77 4 1 (pc' := 9) (L' := [.ref 11]) (S' := [.ref 11, .int (AI h 11 3), .ref 5]) (h' := h) rfl ?_
    refine Wp.getf (op_ix (by decide) ol_77 5 rfl) (okS HS 11 rfl rfl) (v := .int (AI h 11 4)) rfl rfl ?_
    refine Wp.callI (op_ix (by decide) ol_77 6 rfl) (act_virt (c2 := 2) rfl (lk1 (kS HS 5 rfl)) rfl) rfl (K.mono ?_)
    rintro _ h2 ⟨x4, rfl, hs3, K⟩
    refine ⟨x4, rfl, ?_⟩
    refine Wp.ret (op_ix (by decide) ol_77 7 rfl) rfl ⟨_, rfl, ?_⟩
    refine Wp.blk (by decide) ol_94 6 1 (pc' := 19) (L' := [.ref 2]) (S' := [.int x4]) (h' := h2) rfl ?_
    exact Wp.ret (op_ix (by decide) ol_94 8 rfl) rfl K
  · replace K := K.2 c1
    refine Wp.blk (by decide) ol_115 6 1 (pc' := 15) (L' := [.ref 2]) (S' := [.int (0 : Int32)]) (h' := h) rfl ?_
    refine Wp.ret (op_ix (by decide) ol_115 7 rfl) rfl ⟨_, rfl, ?_⟩
    refine Wp.blk (by decide) ol_94 2 1 (pc' := (if (0 : Int32) = (0 : Int32) then 17 else 7)) (L' := [.ref 2]) (S' := []) (h' := h) rfl ?_
    refine Wp.br (fun _ => ?_) (fun hc => absurd (by decide) hc)
    refine Wp.blk (by decide) ol_94 7 1 (pc' := 19) (L' := [.ref 2]) (S' := [.int (-103 : Int32)]) (h' := h) rfl ?_
    exact Wp.ret (op_ix (by decide) ol_94 8 rfl) rfl K
/-- CutsOrFast.begin at 0 (I)I -/
theorem g95_0 (d : Nat) (v1 : Int32) (h : AH) (HS : Sh h)  (Q : Option Value → AH → Prop) (K : ((v1 = (0 : Int32) → (((0 : Int32) < (AI h 5 5) → (((0 : Int32) < (AI h 11 2) → Q (some (.int (-103 : Int32))) h) ∧ (¬ (0 : Int32) < (AI h 11 2) → Q (some (.int (AI h 11 5))) (stI h 11 5 v1)))) ∧ (¬ (0 : Int32) < (AI h 5 5) → Q (some (.int (-103 : Int32))) h))) ∧ (¬ v1 = (0 : Int32) → ((v1 = (1 : Int32) → (((0 : Int32) < (AI h 5 5) → (((0 : Int32) < (AI h 11 2) → Q (some (.int (-103 : Int32))) h) ∧ (¬ (0 : Int32) < (AI h 11 2) → Q (some (.int (AI h 11 5))) (stI h 11 5 v1)))) ∧ (¬ (0 : Int32) < (AI h 5 5) → Q (some (.int (-103 : Int32))) h))) ∧ (¬ v1 = (1 : Int32) → Q (some (.int (-101 : Int32))) h))))) : Wp (d + 2) 95 0 [.ref 2, .int v1, mk0] [] h Q := by
  refine Wp.blk (by decide) ol_95 0 1 (pc' := 1) (L' := [.ref 2, .int v1, mk0]) (S' := [.int v1]) (h' := h) rfl ?_
  refine Wp.callI (op_ix (by decide) ol_95 1 rfl) rfl rfl (Cl.enter (L := [.int v1]) rfl ?_)
  refine Wp.blk (by decide) ol_117 0 2 (pc' := (if v1 = (0 : Int32) then 9 else 4)) (L' := [.int v1]) (S' := []) (h' := h) rfl ?_
  refine Wp.br (fun c1 => ?_) (fun c1 => ?_)
  · replace K := K.1 c1
    refine Wp.blk (by decide) ol_117 5 2 (pc' := 14) (L' := [.int v1]) (S' := [.int (1 : Int32)]) (h' := h) rfl ?_
    refine Wp.ret (op_ix (by decide) ol_117 8 rfl) rfl ⟨_, rfl, ?_⟩
    refine Wp.blk (by decide) ol_95 2 1 (pc' := (if (1 : Int32) = (0 : Int32) then 7 else 10)) (L' := [.ref 2, .int v1, mk0]) (S' := []) (h' := h) rfl ?_
    refine Wp.br (fun hc => absurd hc (by decide)) (fun _ => ?_)
    refine Wp.blk (by decide) ol_95 5 1 (pc' := 11) (L' := [.ref 2, .int v1, mk0]) (S' := [.ref 2]) (h' := h) rfl ?_
    refine Wp.callI (op_ix (by decide) ol_95 6 rfl) (act_virt (c2 := 0) rfl (lk1 (kS HS 2 rfl)) rfl) rfl (Cl.enter (L := [.ref 2]) rfl ?_)
    refine Wp.blk (by decide) ol_115 0 1 (pc' := 1) (L' := [.ref 2]) (S' := [.ref 2]) (h' := h) rfl ?_
    refine Wp.getf (op_ix (by decide) ol_115 1 rfl) (okS HS 2 rfl rfl) (v := .ref 5) (congrArg va_rf (rS HS 2 1 rfl)) rfl ?_
    refine Wp.callI (op_ix (by decide) ol_115 2 rfl) (act_virt (c2 := 0) rfl (lk1 (kS HS 5 rfl)) rfl) rfl (Cl.enter (L := [.ref 5]) rfl ?_)
    refine Wp.blk (by decide) ol_26 0 1 (pc' := 1) (L' := [.ref 5]) (S' := [.ref 5]) (h' := h) rfl ?_
    refine Wp.getf (op_ix (by decide) ol_26 1 rfl) (okS HS 5 rfl rfl) (v := .int (AI h 5 5)) rfl rfl ?_
    refine Wp.ret (op_ix (by decide) ol_26 2 rfl) rfl ⟨_, rfl, ?_⟩
    refine Wp.blk (by decide) ol_115 3 1 (pc' := (if (0 : Int32) < (AI h 5 5) then 10 else 14)) (L' := [.ref 2]) (S' := []) (h' := h) rfl ?_
    refine Wp.br (fun c2 => ?_) (fun c2 => ?_)
    · replace K := K.1 c2
      refine Wp.blk (by decide) ol_115 4 2 (pc' := 15) (L' := [.ref 2]) (S' := [.int (1 : Int32)]) (h' := h) rfl ?_
      refine Wp.ret (op_ix (by decide) ol_115 7 rfl) rfl ⟨_, rfl, ?_⟩
      refine Wp.blk (by decide) ol_95 7 1 (pc' := (if (1 : Int32) = (0 : Int32) then 27 else 17)) (L' := [.ref 2, .int v1, mk0]) (S' := []) (h' := h) rfl ?_
      refine Wp.br (fun hc => absurd hc (by decide)) (fun _ => ?_)
      refine Wp.blk (by decide) ol_95 8 1 (pc' := 18) (L' := [.ref 2, .int v1, mk0]) (S' := [.ref 2]) (h' := h) rfl ?_
      refine Wp.getf (op_ix (by decide) ol_95 9 rfl) (okS HS 2 rfl rfl) (v := .ref 11) (congrArg va_rf (rS HS 2 2 rfl)) rfl ?_
      refine Wp.callI (op_ix (by decide) ol_95 10 rfl) (act_virt (c2 := 0) rfl (lk1 (kS HS 11 rfl)) rfl) rfl (Cl.enter (L := [.ref 11]) rfl ?_)
      refine Wp.blk (by decide) ol_80 0 1 (pc' := 1) (L' := [.ref 11]) (S' := [.ref 11]) (h' := h) rfl ?_
      refine Wp.getf (op_ix (by decide) ol_80 1 rfl) (okS HS 11 rfl rfl) (v := .int (AI h 11 2)) rfl rfl ?_
      refine Wp.ret (op_ix (by decide) ol_80 2 rfl) rfl ⟨_, rfl, ?_⟩
      refine Wp.blk (by decide) ol_95 11 1 (pc' := (if (0 : Int32) < (AI h 11 2) then 27 else 30)) (L' := [.ref 2, .int v1, mk0]) (S' := []) (h' := h) rfl ?_
      refine Wp.br (fun c3 => ?_) (fun c3 => ?_)
      · replace K := K.1 c3
        refine Wp.blk (by decide) ol_95 12 1 (pc' := 29) (L' := [.ref 2, .int v1, mk0]) (S' := [.int (-103 : Int32)]) (h' := h) rfl ?_
        exact Wp.ret (op_ix (by decide) ol_95 13 rfl) rfl K
      · replace K := K.2 c3
        refine Wp.blk (by decide) ol_95 14 1 (pc' := 31) (L' := [.ref 2, .int v1, mk0]) (S' := [.ref 2]) (h' := h) rfl ?_
        refine Wp.getf (op_ix (by decide) ol_95 15 rfl) (okS HS 2 rfl rfl) (v := .ref 11) (congrArg va_rf (rS HS 2 2 rfl)) rfl ?_
        refine Wp.callI (op_ix (by decide) ol_95 16 rfl) (act_virt (c2 := 0) rfl (lk1 (kS HS 11 rfl)) rfl) rfl (Cl.enter (L := [.ref 11]) rfl ?_)
        refine Wp.blk (by decide) ol_82 0 1 (pc' := 1) (L' := [.ref 11]) (S' := [.ref 11]) (h' := h) rfl ?_
        refine Wp.getf (op_ix (by decide) ol_82 1 rfl) (okS HS 11 rfl rfl) (v := .int (AI h 11 5)) rfl rfl ?_
        refine Wp.ret (op_ix (by decide) ol_82 2 rfl) rfl ⟨_, rfl, ?_⟩
        refine Wp.blk (by decide) ol_95 17 2 (pc' := 39) (L' := [.ref 2, .int v1, .int (AI h 11 5)]) (S' := [.ref 2]) (h' := h) rfl ?_
        refine Wp.getf (op_ix (by decide) ol_95 19 rfl) (okS HS 2 rfl rfl) (v := .ref 11) (congrArg va_rf (rS HS 2 2 rfl)) rfl ?_
        refine Wp.blk (by decide) ol_95 20 1 (pc' := 43) (L' := [.ref 2, .int v1, .int (AI h 11 5)]) (S' := [.int v1, .ref 11]) (h' := h) rfl ?_
        refine Wp.callV (op_ix (by decide) ol_95 21 rfl) (act_virt (c2 := 1) rfl (lk1 (kS HS 11 rfl)) rfl) rfl (Cl.enter (L := [.ref 11, .int v1]) rfl ?_)
        refine Wp.blk (by decide) ol_83 0 2 (pc' := 2) (L' := [.ref 11, .int v1]) (S' := [.int v1, .ref 11]) (h' := h) rfl ?_
        refine Wp.putf (op_ix (by decide) ol_83 2 rfl) (by decide) (okS HS 11 rfl rfl) (h' := (stI h 11 5 v1)) rfl rfl ?_
        refine Wp.ret (op_ix (by decide) ol_83 3 rfl) rfl ⟨rfl, ?_⟩
        refine Wp.blk (by decide) ol_95 22 1 (pc' := 47) (L' := [.ref 2, .int v1, .int (AI h 11 5)]) (S' := [.int (AI h 11 5)]) (h' := (stI h 11 5 v1)) rfl ?_
        exact Wp.ret (op_ix (by decide) ol_95 23 rfl) rfl K
    · replace K := K.2 c2
      refine Wp.blk (by decide) ol_115 6 1 (pc' := 15) (L' := [.ref 2]) (S' := [.int (0 : Int32)]) (h' := h) rfl ?_
      refine Wp.ret (op_ix (by decide) ol_115 7 rfl) rfl ⟨_, rfl, ?_⟩
      refine Wp.blk (by decide) ol_95 7 1 (pc' := (if (0 : Int32) = (0 : Int32) then 27 else 17)) (L' := [.ref 2, .int v1, mk0]) (S' := []) (h' := h) rfl ?_
      refine Wp.br (fun _ => ?_) (fun hc => absurd (by decide) hc)
      refine Wp.blk (by decide) ol_95 12 1 (pc' := 29) (L' := [.ref 2, .int v1, mk0]) (S' := [.int (-103 : Int32)]) (h' := h) rfl ?_
      exact Wp.ret (op_ix (by decide) ol_95 13 rfl) rfl K
  · replace K := K.2 c1
    refine Wp.blk (by decide) ol_117 2 3 (pc' := (if v1 = (1 : Int32) then 9 else 13)) (L' := [.int v1]) (S' := []) (h' := h) rfl ?_
    refine Wp.br (fun c4 => ?_) (fun c4 => ?_)
    · replace K := K.1 c4
      refine Wp.blk (by decide) ol_117 5 2 (pc' := 14) (L' := [.int v1]) (S' := [.int (1 : Int32)]) (h' := h) rfl ?_
      refine Wp.ret (op_ix (by decide) ol_117 8 rfl) rfl ⟨_, rfl, ?_⟩
      refine Wp.blk (by decide) ol_95 2 1 (pc' := (if (1 : Int32) = (0 : Int32) then 7 else 10)) (L' := [.ref 2, .int v1, mk0]) (S' := []) (h' := h) rfl ?_
      refine Wp.br (fun hc => absurd hc (by decide)) (fun _ => ?_)
      refine Wp.blk (by decide) ol_95 5 1 (pc' := 11) (L' := [.ref 2, .int v1, mk0]) (S' := [.ref 2]) (h' := h) rfl ?_
      refine Wp.callI (op_ix (by decide) ol_95 6 rfl) (act_virt (c2 := 0) rfl (lk1 (kS HS 2 rfl)) rfl) rfl (Cl.enter (L := [.ref 2]) rfl ?_)
      refine Wp.blk (by decide) ol_115 0 1 (pc' := 1) (L' := [.ref 2]) (S' := [.ref 2]) (h' := h) rfl ?_
      refine Wp.getf (op_ix (by decide) ol_115 1 rfl) (okS HS 2 rfl rfl) (v := .ref 5) (congrArg va_rf (rS HS 2 1 rfl)) rfl ?_
      refine Wp.callI (op_ix (by decide) ol_115 2 rfl) (act_virt (c2 := 0) rfl (lk1 (kS HS 5 rfl)) rfl) rfl (Cl.enter (L := [.ref 5]) rfl ?_)
      refine Wp.blk (by decide) ol_26 0 1 (pc' := 1) (L' := [.ref 5]) (S' := [.ref 5]) (h' := h) rfl ?_
      refine Wp.getf (op_ix (by decide) ol_26 1 rfl) (okS HS 5 rfl rfl) (v := .int (AI h 5 5)) rfl rfl ?_
      refine Wp.ret (op_ix (by decide) ol_26 2 rfl) rfl ⟨_, rfl, ?_⟩
      refine Wp.blk (by decide) ol_115 3 1 (pc' := (if (0 : Int32) < (AI h 5 5) then 10 else 14)) (L' := [.ref 2]) (S' := []) (h' := h) rfl ?_
      refine Wp.br (fun c5 => ?_) (fun c5 => ?_)
      · replace K := K.1 c5
        refine Wp.blk (by decide) ol_115 4 2 (pc' := 15) (L' := [.ref 2]) (S' := [.int (1 : Int32)]) (h' := h) rfl ?_
        refine Wp.ret (op_ix (by decide) ol_115 7 rfl) rfl ⟨_, rfl, ?_⟩
        refine Wp.blk (by decide) ol_95 7 1 (pc' := (if (1 : Int32) = (0 : Int32) then 27 else 17)) (L' := [.ref 2, .int v1, mk0]) (S' := []) (h' := h) rfl ?_
        refine Wp.br (fun hc => absurd hc (by decide)) (fun _ => ?_)
        refine Wp.blk (by decide) ol_95 8 1 (pc' := 18) (L' := [.ref 2, .int v1, mk0]) (S' := [.ref 2]) (h' := h) rfl ?_
        refine Wp.getf (op_ix (by decide) ol_95 9 rfl) (okS HS 2 rfl rfl) (v := .ref 11) (congrArg va_rf (rS HS 2 2 rfl)) rfl ?_
        refine Wp.callI (op_ix (by decide) ol_95 10 rfl) (act_virt (c2 := 0) rfl (lk1 (kS HS 11 rfl)) rfl) rfl (Cl.enter (L := [.ref 11]) rfl ?_)
        refine Wp.blk (by decide) ol_80 0 1 (pc' := 1) (L' := [.ref 11]) (S' := [.ref 11]) (h' := h) rfl ?_
        refine Wp.getf (op_ix (by decide) ol_80 1 rfl) (okS HS 11 rfl rfl) (v := .int (AI h 11 2)) rfl rfl ?_
        refine Wp.ret (op_ix (by decide) ol_80 2 rfl) rfl ⟨_, rfl, ?_⟩
        refine Wp.blk (by decide) ol_95 11 1 (pc' := (if (0 : Int32) < (AI h 11 2) then 27 else 30)) (L' := [.ref 2, .int v1, mk0]) (S' := []) (h' := h) rfl ?_
        refine Wp.br (fun c6 => ?_) (fun c6 => ?_)
        · replace K := K.1 c6
          refine Wp.blk (by decide) ol_95 12 1 (pc' := 29) (L' := [.ref 2, .int v1, mk0]) (S' := [.int (-103 : Int32)]) (h' := h) rfl ?_
          exact Wp.ret (op_ix (by decide) ol_95 13 rfl) rfl K
        · replace K := K.2 c6
          refine Wp.blk (by decide) ol_95 14 1 (pc' := 31) (L' := [.ref 2, .int v1, mk0]) (S' := [.ref 2]) (h' := h) rfl ?_
          refine Wp.getf (op_ix (by decide) ol_95 15 rfl) (okS HS 2 rfl rfl) (v := .ref 11) (congrArg va_rf (rS HS 2 2 rfl)) rfl ?_
          refine Wp.callI (op_ix (by decide) ol_95 16 rfl) (act_virt (c2 := 0) rfl (lk1 (kS HS 11 rfl)) rfl) rfl (Cl.enter (L := [.ref 11]) rfl ?_)
          refine Wp.blk (by decide) ol_82 0 1 (pc' := 1) (L' := [.ref 11]) (S' := [.ref 11]) (h' := h) rfl ?_
          refine Wp.getf (op_ix (by decide) ol_82 1 rfl) (okS HS 11 rfl rfl) (v := .int (AI h 11 5)) rfl rfl ?_
          refine Wp.ret (op_ix (by decide) ol_82 2 rfl) rfl ⟨_, rfl, ?_⟩
          refine Wp.blk (by decide) ol_95 17 2 (pc' := 39) (L' := [.ref 2, .int v1, .int (AI h 11 5)]) (S' := [.ref 2]) (h' := h) rfl ?_
          refine Wp.getf (op_ix (by decide) ol_95 19 rfl) (okS HS 2 rfl rfl) (v := .ref 11) (congrArg va_rf (rS HS 2 2 rfl)) rfl ?_
          refine Wp.blk (by decide) ol_95 20 1 (pc' := 43) (L' := [.ref 2, .int v1, .int (AI h 11 5)]) (S' := [.int v1, .ref 11]) (h' := h) rfl ?_
          refine Wp.callV (op_ix (by decide) ol_95 21 rfl) (act_virt (c2 := 1) rfl (lk1 (kS HS 11 rfl)) rfl) rfl (Cl.enter (L := [.ref 11, .int v1]) rfl ?_)
          refine Wp.blk (by decide) ol_83 0 2 (pc' := 2) (L' := [.ref 11, .int v1]) (S' := [.int v1, .ref 11]) (h' := h) rfl ?_
          refine Wp.putf (op_ix (by decide) ol_83 2 rfl) (by decide) (okS HS 11 rfl rfl) (h' := (stI h 11 5 v1)) rfl rfl ?_
          refine Wp.ret (op_ix (by decide) ol_83 3 rfl) rfl ⟨rfl, ?_⟩
          refine Wp.blk (by decide) ol_95 22 1 (pc' := 47) (L' := [.ref 2, .int v1, .int (AI h 11 5)]) (S' := [.int (AI h 11 5)]) (h' := (stI h 11 5 v1)) rfl ?_
          exact Wp.ret (op_ix (by decide) ol_95 23 rfl) rfl K
      · replace K := K.2 c5
        refine Wp.blk (by decide) ol_115 6 1 (pc' := 15) (L' := [.ref 2]) (S' := [.int (0 : Int32)]) (h' := h) rfl ?_
        refine Wp.ret (op_ix (by decide) ol_115 7 rfl) rfl ⟨_, rfl, ?_⟩
        refine Wp.blk (by decide) ol_95 7 1 (pc' := (if (0 : Int32) = (0 : Int32) then 27 else 17)) (L' := [.ref 2, .int v1, mk0]) (S' := []) (h' := h) rfl ?_
        refine Wp.br (fun _ => ?_) (fun hc => absurd (by decide) hc)
        refine Wp.blk (by decide) ol_95 12 1 (pc' := 29) (L' := [.ref 2, .int v1, mk0]) (S' := [.int (-103 : Int32)]) (h' := h) rfl ?_
        exact Wp.ret (op_ix (by decide) ol_95 13 rfl) rfl K
    · replace K := K.2 c4
      refine Wp.blk (by decide) ol_117 7 1 (pc' := 14) (L' := [.int v1]) (S' := [.int (0 : Int32)]) (h' := h) rfl ?_
      refine Wp.ret (op_ix (by decide) ol_117 8 rfl) rfl ⟨_, rfl, ?_⟩
      refine Wp.blk (by decide) ol_95 2 1 (pc' := (if (0 : Int32) = (0 : Int32) then 7 else 10)) (L' := [.ref 2, .int v1, mk0]) (S' := []) (h' := h) rfl ?_
      refine Wp.br (fun _ => ?_) (fun hc => absurd (by decide) hc)
      refine Wp.blk (by decide) ol_95 3 1 (pc' := 9) (L' := [.ref 2, .int v1, mk0]) (S' := [.int (-101 : Int32)]) (h' := h) rfl ?_
      exact Wp.ret (op_ix (by decide) ol_95 4 rfl) rfl K
/-- CutsOrFast.take at 0 (I)I -/
theorem g96_0 (d : Nat) (v1 : Int32) (h : AH) (HS : Sh h)  (Q : Option Value → AH → Prop) (K : ((v1 < (0 : Int32) → Q (some (.int (-101 : Int32))) h) ∧ (¬ v1 < (0 : Int32) → ((v1 < (AI h 5 5) → (Cl d 37 [.ref 5, .int (AI h 11 3), .int (AI h 11 4)] h (fun r h3 => ∃ x5 : Int32, r = some (.int x5) ∧ Sh h3 ∧ ((x5 = (0 : Int32) → (Cl (d + 1) 78 [.ref 11, .int v1] h3 (fun r h7 => ∃ x9 : Int32, r = some (.int x9) ∧ Sh h7 ∧ ((x9 = (0 : Int32) → (Cl (d + 2) 74 [.ref 11, .int v1] h7 (fun r h11 => r = none ∧ Sh h11 ∧ Q (some (.int (AI h11 11 2))) h11))) ∧ (¬ x9 = (0 : Int32) → Q (some (.int (-103 : Int32))) h7))))) ∧ (¬ x5 = (0 : Int32) → Q (some (.int (-103 : Int32))) h3))))) ∧ (¬ v1 < (AI h 5 5) → Q (some (.int (-101 : Int32))) h))))) : Wp (d + 3) 96 0 [.ref 2, .int v1] [] h Q := by
  refine Wp.blk (by decide) ol_96 0 2 (pc' := 2) (L' := [.ref 2, .int v1]) (S' := [.int v1, .ref 2]) (h' := h) rfl ?_
  refine Wp.callI (op_ix (by decide) ol_96 2 rfl) (act_virt (c2 := 1) rfl (lk1 (kS HS 2 rfl)) rfl) rfl (Cl.enter (L := [.ref 2, .int v1]) rfl ?_)
  refine Wp.blk (by decide) ol_116 0 2 (pc' := (if v1 < (0 : Int32) then 19 else 4)) (L' := [.ref 2, .int v1]) (S' := []) (h' := h) rfl ?_
  refine Wp.br (fun c1 => ?_) (fun c1 => ?_)
  · replace K := K.1 c1
    refine Wp.blk (by decide) ol_116 9 1 (pc' := 20) (L' := [.ref 2, .int v1]) (S' := [.int (0 : Int32)]) (h' := h) rfl ?_
    refine Wp.ret (op_ix (by decide) ol_116 10 rfl) rfl ⟨_, rfl, ?_⟩
    refine Wp.blk (by decide) ol_96 3 1 (pc' := (if (0 : Int32) = (0 : Int32) then 8 else 11)) (L' := [.ref 2, .int v1]) (S' := []) (h' := h) rfl ?_
    refine Wp.br (fun _ => ?_) (fun hc => absurd (by decide) hc)
    refine Wp.blk (by decide) ol_96 4 1 (pc' := 10) (L' := [.ref 2, .int v1]) (S' := [.int (-101 : Int32)]) (h' := h) rfl ?_
    exact Wp.ret (op_ix (by decide) ol_96 5 rfl) rfl K
  · replace K := K.2 c1
    refine Wp.blk (by decide) ol_116 2 2 (pc' := 6) (L' := [.ref 2, .int v1]) (S' := [.ref 2, .int v1]) (h' := h) rfl ?_
    refine Wp.getf (op_ix (by decide) ol_116 4 rfl) (okS HS 2 rfl rfl) (v := .ref 5) (congrArg va_rf (rS HS 2 1 rfl)) rfl ?_
    refine Wp.callI (op_ix (by decide) ol_116 5 rfl) (act_virt (c2 := 0) rfl (lk1 (kS HS 5 rfl)) rfl) rfl (Cl.enter (L := [.ref 5]) rfl ?_)
    refine Wp.blk (by decide) ol_26 0 1 (pc' := 1) (L' := [.ref 5]) (S' := [.ref 5]) (h' := h) rfl ?_
    refine Wp.getf (op_ix (by decide) ol_26 1 rfl) (okS HS 5 rfl rfl) (v := .int (AI h 5 5)) rfl rfl ?_
    refine Wp.ret (op_ix (by decide) ol_26 2 rfl) rfl ⟨_, rfl, ?_⟩
    refine Wp.blk (by decide) ol_116 6 1 (pc' := (if v1 < (AI h 5 5) then 15 else 19)) (L' := [.ref 2, .int v1]) (S' := []) (h' := h) rfl ?_
    refine Wp.br (fun c2 => ?_) (fun c2 => ?_)
    · replace K := K.1 c2
      refine Wp.blk (by decide) ol_116 7 2 (pc' := 20) (L' := [.ref 2, .int v1]) (S' := [.int (1 : Int32)]) (h' := h) rfl ?_
      refine Wp.ret (op_ix (by decide) ol_116 10 rfl) rfl ⟨_, rfl, ?_⟩
      refine Wp.blk (by decide) ol_96 3 1 (pc' := (if (1 : Int32) = (0 : Int32) then 8 else 11)) (L' := [.ref 2, .int v1]) (S' := []) (h' := h) rfl ?_
      refine Wp.br (fun hc => absurd hc (by decide)) (fun _ => ?_)
      refine Wp.blk (by decide) ol_96 6 2 (pc' := 13) (L' := [.ref 2, .int v1]) (S' := [.int v1, .ref 2]) (h' := h) rfl ?_
      refine Wp.callI (op_ix (by decide) ol_96 8 rfl) (act_virt (c2 := 1) rfl (lk1 (kS HS 2 rfl)) rfl) rfl (Cl.enter (L := [.ref 2, .int v1]) rfl ?_)
      refine Wp.blk (by decide) ol_119 0 1 (pc' := 1) (L' := [.ref 2, .int v1]) (S' := [.ref 2]) (h' := h) rfl ?_
      refine Wp.getf (op_ix (by decide) ol_119 1 rfl) (okS HS 2 rfl rfl) (v := .ref 11) (congrArg va_rf (rS HS 2 2 rfl)) rfl ?_
      refine Wp.callI (op_ix (by decide) ol_119 2 rfl) (act_virt (c2 := 0) rfl (lk1 (kS HS 11 rfl)) rfl) rfl (Cl.enter (L := [.ref 11]) rfl ?_)
      refine Wp.blk (by decide) ol_77 0 1 (pc' := 1) (L' := [.ref 11]) (S' := [.ref 11]) (h' := h) rfl ?_
      refine Wp.getf (op_ix (by decide) ol_77 1 rfl) (okS HS 11 rfl rfl) (v := .ref 5) (congrArg va_rf (rS HS 11 0 rfl)) rfl ?_
      refine Wp.blk (by decide) ol_77 2 1 (pc' := 5) (L' := [.ref 11]) (S' := [.ref 11, .ref 5]) (h' := h) rfl ?_
      refine Wp.getf (op_ix (by decide) ol_77 3 rfl) (okS HS 11 rfl rfl) (v := .int (AI h 11 3)) rfl rfl ?_
      refine Wp.blk (by decide) ol_77 4 1 (pc' := 9) (L' := [.ref 11]) (S' := [.ref 11, .int (AI h 11 3), .ref 5]) (h' := h) rfl ?_
      refine Wp.getf (op_ix (by decide) ol_77 5 rfl) (okS HS 11 rfl rfl) (v := .int (AI h 11 4)) rfl rfl ?_
      refine Wp.callI (op_ix (by decide) ol_77 6 rfl) (act_virt (c2 := 2) rfl (lk1 (kS HS 5 rfl)) rfl) rfl (K.mono ?_)
      rintro _ h3 ⟨x5, rfl, hs4, K⟩
      refine ⟨x5, rfl, ?_⟩
      refine Wp.ret (op_ix (by decide) ol_77 7 rfl) rfl ⟨_, rfl, ?_⟩
      refine Wp.blk (by decide) ol_119 3 1 (pc' := (if x5 = (0 : Int32) then 10 else 25)) (L' := [.ref 2, .int v1]) (S' := []) (h' := h3) rfl ?_
      refine Wp.br (fun c6 => ?_) (fun c6 => ?_)
      · replace K := K.1 c6
        refine Wp.blk (by decide) ol_119 4 1 (pc' := 11) (L' := [.ref 2, .int v1]) (S' := [.ref 2]) (h' := h3) rfl ?_
        refine Wp.getf (op_ix (by decide) ol_119 5 rfl) (okS hs4 2 rfl rfl) (v := .ref 11) (congrArg va_rf (rS hs4 2 2 rfl)) rfl ?_
        refine Wp.blk (by decide) ol_119 6 1 (pc' := 15) (L' := [.ref 2, .int v1]) (S' := [.int v1, .ref 11]) (h' := h3) rfl ?_
        refine Wp.callI (op_ix (by decide) ol_119 7 rfl) (act_virt (c2 := 1) rfl (lk1 (kS hs4 11 rfl)) rfl) rfl (K.mono ?_)
        rintro _ h7 ⟨x9, rfl, hs8, K⟩
        refine ⟨x9, rfl, ?_⟩
        refine Wp.blk (by decide) ol_119 8 1 (pc' := (if x9 = (0 : Int32) then 21 else 25)) (L' := [.ref 2, .int v1]) (S' := []) (h' := h7) rfl ?_
        refine Wp.br (fun c10 => ?_) (fun c10 => ?_)
        · replace K := K.1 c10
          refine Wp.blk (by decide) ol_119 9 2 (pc' := 26) (L' := [.ref 2, .int v1]) (S' := [.int (1 : Int32)]) (h' := h7) rfl ?_
          refine Wp.ret (op_ix (by decide) ol_119 12 rfl) rfl ⟨_, rfl, ?_⟩
          refine Wp.blk (by decide) ol_96 9 1 (pc' := (if (1 : Int32) = (0 : Int32) then 19 else 22)) (L' := [.ref 2, .int v1]) (S' := []) (h' := h7) rfl ?_
          refine Wp.br (fun hc => absurd hc (by decide)) (fun _ => ?_)
          refine Wp.blk (by decide) ol_96 12 1 (pc' := 23) (L' := [.ref 2, .int v1]) (S' := [.ref 2]) (h' := h7) rfl ?_
          refine Wp.getf (op_ix (by decide) ol_96 13 rfl) (okS hs8 2 rfl rfl) (v := .ref 11) (congrArg va_rf (rS hs8 2 2 rfl)) rfl ?_
          refine Wp.blk (by decide) ol_96 14 1 (pc' := 27) (L' := [.ref 2, .int v1]) (S' := [.int v1, .ref 11]) (h' := h7) rfl ?_
          refine Wp.callV (op_ix (by decide) ol_96 15 rfl) (act_virt (c2 := 1) rfl (lk1 (kS hs8 11 rfl)) rfl) rfl (K.mono ?_)
          rintro _ h11 ⟨rfl, hs12, K⟩
          refine ⟨rfl, ?_⟩
          refine Wp.blk (by decide) ol_96 16 1 (pc' := 31) (L' := [.ref 2, .int v1]) (S' := [.ref 2]) (h' := h11) rfl ?_
          refine Wp.getf (op_ix (by decide) ol_96 17 rfl) (okS hs12 2 rfl rfl) (v := .ref 11) (congrArg va_rf (rS hs12 2 2 rfl)) rfl ?_
          refine Wp.callI (op_ix (by decide) ol_96 18 rfl) (act_virt (c2 := 0) rfl (lk1 (kS hs12 11 rfl)) rfl) rfl (Cl.enter (L := [.ref 11]) rfl ?_)
          refine Wp.blk (by decide) ol_80 0 1 (pc' := 1) (L' := [.ref 11]) (S' := [.ref 11]) (h' := h11) rfl ?_
          refine Wp.getf (op_ix (by decide) ol_80 1 rfl) (okS hs12 11 rfl rfl) (v := .int (AI h11 11 2)) rfl rfl ?_
          refine Wp.ret (op_ix (by decide) ol_80 2 rfl) rfl ⟨_, rfl, ?_⟩
          exact Wp.ret (op_ix (by decide) ol_96 19 rfl) rfl K
        · replace K := K.2 c10
          refine Wp.blk (by decide) ol_119 11 1 (pc' := 26) (L' := [.ref 2, .int v1]) (S' := [.int (0 : Int32)]) (h' := h7) rfl ?_
          refine Wp.ret (op_ix (by decide) ol_119 12 rfl) rfl ⟨_, rfl, ?_⟩
          refine Wp.blk (by decide) ol_96 9 1 (pc' := (if (0 : Int32) = (0 : Int32) then 19 else 22)) (L' := [.ref 2, .int v1]) (S' := []) (h' := h7) rfl ?_
          refine Wp.br (fun _ => ?_) (fun hc => absurd (by decide) hc)
          refine Wp.blk (by decide) ol_96 10 1 (pc' := 21) (L' := [.ref 2, .int v1]) (S' := [.int (-103 : Int32)]) (h' := h7) rfl ?_
          exact Wp.ret (op_ix (by decide) ol_96 11 rfl) rfl K
      · replace K := K.2 c6
        refine Wp.blk (by decide) ol_119 11 1 (pc' := 26) (L' := [.ref 2, .int v1]) (S' := [.int (0 : Int32)]) (h' := h3) rfl ?_
        refine Wp.ret (op_ix (by decide) ol_119 12 rfl) rfl ⟨_, rfl, ?_⟩
        refine Wp.blk (by decide) ol_96 9 1 (pc' := (if (0 : Int32) = (0 : Int32) then 19 else 22)) (L' := [.ref 2, .int v1]) (S' := []) (h' := h3) rfl ?_
        refine Wp.br (fun _ => ?_) (fun hc => absurd (by decide) hc)
        refine Wp.blk (by decide) ol_96 10 1 (pc' := 21) (L' := [.ref 2, .int v1]) (S' := [.int (-103 : Int32)]) (h' := h3) rfl ?_
        exact Wp.ret (op_ix (by decide) ol_96 11 rfl) rfl K
    · replace K := K.2 c2
      refine Wp.blk (by decide) ol_116 9 1 (pc' := 20) (L' := [.ref 2, .int v1]) (S' := [.int (0 : Int32)]) (h' := h) rfl ?_
      refine Wp.ret (op_ix (by decide) ol_116 10 rfl) rfl ⟨_, rfl, ?_⟩
      refine Wp.blk (by decide) ol_96 3 1 (pc' := (if (0 : Int32) = (0 : Int32) then 8 else 11)) (L' := [.ref 2, .int v1]) (S' := []) (h' := h) rfl ?_
      refine Wp.br (fun _ => ?_) (fun hc => absurd (by decide) hc)
      refine Wp.blk (by decide) ol_96 4 1 (pc' := 10) (L' := [.ref 2, .int v1]) (S' := [.int (-101 : Int32)]) (h' := h) rfl ?_
      exact Wp.ret (op_ix (by decide) ol_96 5 rfl) rfl K
/-- CutsOrFast.back at 0 ()I -/
theorem g97_0 (d : Nat)  (h : AH) (HS : Sh h)  (Q : Option Value → AH → Prop) (K : (((0 : Int32) < (AI h 5 5) → (((AI h 11 2) = (0 : Int32) → Q (some (.int (-103 : Int32))) h) ∧ (¬ (AI h 11 2) = (0 : Int32) → (Cl (d + 1) 75 [.ref 11] h (fun r h3 => r = none ∧ Sh h3 ∧ Q (some (.int (AI h3 11 2))) h3))))) ∧ (¬ (0 : Int32) < (AI h 5 5) → Q (some (.int (-103 : Int32))) h))) : Wp (d + 2) 97 0 [.ref 2] [] h Q := by
  refine Wp.blk (by decide) ol_97 0 1 (pc' := 1) (L' := [.ref 2]) (S' := [.ref 2]) (h' := h) rfl ?_
  refine Wp.callI (op_ix (by decide) ol_97 1 rfl) (act_virt (c2 := 0) rfl (lk1 (kS HS 2 rfl)) rfl) rfl (Cl.enter (L := [.ref 2]) rfl ?_)
  refine Wp.blk (by decide) ol_115 0 1 (pc' := 1) (L' := [.ref 2]) (S' := [.ref 2]) (h' := h) rfl ?_
  refine Wp.getf (op_ix (by decide) ol_115 1 rfl) (okS HS 2 rfl rfl) (v := .ref 5) (congrArg va_rf (rS HS 2 1 rfl)) rfl ?_
  refine Wp.callI (op_ix (by decide) ol_115 2 rfl) (act_virt (c2 := 0) rfl (lk1 (kS HS 5 rfl)) rfl) rfl (Cl.enter (L := [.ref 5]) rfl ?_)
  refine Wp.blk (by decide) ol_26 0 1 (pc' := 1) (L' := [.ref 5]) (S' := [.ref 5]) (h' := h) rfl ?_
  refine Wp.getf (op_ix (by decide) ol_26 1 rfl) (okS HS 5 rfl rfl) (v := .int (AI h 5 5)) rfl rfl ?_
  refine Wp.ret (op_ix (by decide) ol_26 2 rfl) rfl ⟨_, rfl, ?_⟩
  refine Wp.blk (by decide) ol_115 3 1 (pc' := (if (0 : Int32) < (AI h 5 5) then 10 else 14)) (L' := [.ref 2]) (S' := []) (h' := h) rfl ?_
  refine Wp.br (fun c1 => ?_) (fun c1 => ?_)
  · replace K := K.1 c1
    refine Wp.blk (by decide) ol_115 4 2 (pc' := 15) (L' := [.ref 2]) (S' := [.int (1 : Int32)]) (h' := h) rfl ?_
    refine Wp.ret (op_ix (by decide) ol_115 7 rfl) rfl ⟨_, rfl, ?_⟩
    refine Wp.blk (by decide) ol_97 2 1 (pc' := (if (1 : Int32) = (0 : Int32) then 17 else 7)) (L' := [.ref 2]) (S' := []) (h' := h) rfl ?_
    refine Wp.br (fun hc => absurd hc (by decide)) (fun _ => ?_)
    refine Wp.blk (by decide) ol_97 3 1 (pc' := 8) (L' := [.ref 2]) (S' := [.ref 2]) (h' := h) rfl ?_
    refine Wp.getf (op_ix (by decide) ol_97 4 rfl) (okS HS 2 rfl rfl) (v := .ref 11) (congrArg va_rf (rS HS 2 2 rfl)) rfl ?_
    refine Wp.callI (op_ix (by decide) ol_97 5 rfl) (act_virt (c2 := 0) rfl (lk1 (kS HS 11 rfl)) rfl) rfl (Cl.enter (L := [.ref 11]) rfl ?_)
    refine Wp.blk (by decide) ol_80 0 1 (pc' := 1) (L' := [.ref 11]) (S' := [.ref 11]) (h' := h) rfl ?_
    refine Wp.getf (op_ix (by decide) ol_80 1 rfl) (okS HS 11 rfl rfl) (v := .int (AI h 11 2)) rfl rfl ?_
    refine Wp.ret (op_ix (by decide) ol_80 2 rfl) rfl ⟨_, rfl, ?_⟩
    refine Wp.blk (by decide) ol_97 6 1 (pc' := (if (AI h 11 2) = (0 : Int32) then 17 else 20)) (L' := [.ref 2]) (S' := []) (h' := h) rfl ?_
    refine Wp.br (fun c2 => ?_) (fun c2 => ?_)
    · replace K := K.1 c2
      refine Wp.blk (by decide) ol_97 7 1 (pc' := 19) (L' := [.ref 2]) (S' := [.int (-103 : Int32)]) (h' := h) rfl ?_
      exact Wp.ret (op_ix (by decide) ol_97 8 rfl) rfl K
    · replace K := K.2 c2
      refine Wp.blk (by decide) ol_97 9 1 (pc' := 21) (L' := [.ref 2]) (S' := [.ref 2]) (h' := h) rfl ?_
      refine Wp.getf (op_ix (by decide) ol_97 10 rfl) (okS HS 2 rfl rfl) (v := .ref 11) (congrArg va_rf (rS HS 2 2 rfl)) rfl ?_
      refine Wp.callV (op_ix (by decide) ol_97 11 rfl) (act_virt (c2 := 0) rfl (lk1 (kS HS 11 rfl)) rfl) rfl (K.mono ?_)
      rintro _ h3 ⟨rfl, hs4, K⟩
      refine ⟨rfl, ?_⟩
      refine Wp.blk (by decide) ol_97 12 1 (pc' := 28) (L' := [.ref 2]) (S' := [.ref 2]) (h' := h3) rfl ?_
      refine Wp.getf (op_ix (by decide) ol_97 13 rfl) (okS hs4 2 rfl rfl) (v := .ref 11) (congrArg va_rf (rS hs4 2 2 rfl)) rfl ?_
      refine Wp.callI (op_ix (by decide) ol_97 14 rfl) (act_virt (c2 := 0) rfl (lk1 (kS hs4 11 rfl)) rfl) rfl (Cl.enter (L := [.ref 11]) rfl ?_)
      refine Wp.blk (by decide) ol_80 0 1 (pc' := 1) (L' := [.ref 11]) (S' := [.ref 11]) (h' := h3) rfl ?_
      refine Wp.getf (op_ix (by decide) ol_80 1 rfl) (okS hs4 11 rfl rfl) (v := .int (AI h3 11 2)) rfl rfl ?_
      refine Wp.ret (op_ix (by decide) ol_80 2 rfl) rfl ⟨_, rfl, ?_⟩
      exact Wp.ret (op_ix (by decide) ol_97 15 rfl) rfl K
  · replace K := K.2 c1
    refine Wp.blk (by decide) ol_115 6 1 (pc' := 15) (L' := [.ref 2]) (S' := [.int (0 : Int32)]) (h' := h) rfl ?_
    refine Wp.ret (op_ix (by decide) ol_115 7 rfl) rfl ⟨_, rfl, ?_⟩
    refine Wp.blk (by decide) ol_97 2 1 (pc' := (if (0 : Int32) = (0 : Int32) then 17 else 7)) (L' := [.ref 2]) (S' := []) (h' := h) rfl ?_
    refine Wp.br (fun _ => ?_) (fun hc => absurd (by decide) hc)
    refine Wp.blk (by decide) ol_97 7 1 (pc' := 19) (L' := [.ref 2]) (S' := [.int (-103 : Int32)]) (h' := h) rfl ?_
    exact Wp.ret (op_ix (by decide) ol_97 8 rfl) rfl K
/-- CutsOrFast.whose at 0 (I)I -/
theorem g98_0 (d : Nat) (v1 : Int32) (h : AH) (HS : Sh h)  (Q : Option Value → AH → Prop) (K : ((v1 = (0 : Int32) → (((0 : Int32) < (AI h 5 5) → (Cl (d + 1) 58 [.ref 17, .int (AI h 11 3), .int (AI h 11 4), .int v1] h (fun r h3 => ∃ x5 : Int32, r = some (.int x5) ∧ Sh h3 ∧ Q (some (.int x5)) h3))) ∧ (¬ (0 : Int32) < (AI h 5 5) → Q (some (.int (-103 : Int32))) h))) ∧ (¬ v1 = (0 : Int32) → ((v1 = (1 : Int32) → (((0 : Int32) < (AI h 5 5) → (Cl (d + 1) 58 [.ref 17, .int (AI h 11 3), .int (AI h 11 4), .int v1] h (fun r h8 => ∃ x10 : Int32, r = some (.int x10) ∧ Sh h8 ∧ Q (some (.int x10)) h8))) ∧ (¬ (0 : Int32) < (AI h 5 5) → Q (some (.int (-103 : Int32))) h))) ∧ (¬ v1 = (1 : Int32) → Q (some (.int (-101 : Int32))) h))))) : Wp (d + 2) 98 0 [.ref 2, .int v1] [] h Q := by
  refine Wp.blk (by decide) ol_98 0 1 (pc' := 1) (L' := [.ref 2, .int v1]) (S' := [.int v1]) (h' := h) rfl ?_
  refine Wp.callI (op_ix (by decide) ol_98 1 rfl) rfl rfl (Cl.enter (L := [.int v1]) rfl ?_)
  refine Wp.blk (by decide) ol_117 0 2 (pc' := (if v1 = (0 : Int32) then 9 else 4)) (L' := [.int v1]) (S' := []) (h' := h) rfl ?_
  refine Wp.br (fun c1 => ?_) (fun c1 => ?_)
  · replace K := K.1 c1
    refine Wp.blk (by decide) ol_117 5 2 (pc' := 14) (L' := [.int v1]) (S' := [.int (1 : Int32)]) (h' := h) rfl ?_
    refine Wp.ret (op_ix (by decide) ol_117 8 rfl) rfl ⟨_, rfl, ?_⟩
    refine Wp.blk (by decide) ol_98 2 1 (pc' := (if (1 : Int32) = (0 : Int32) then 7 else 10)) (L' := [.ref 2, .int v1]) (S' := []) (h' := h) rfl ?_
    refine Wp.br (fun hc => absurd hc (by decide)) (fun _ => ?_)
    refine Wp.blk (by decide) ol_98 5 1 (pc' := 11) (L' := [.ref 2, .int v1]) (S' := [.ref 2]) (h' := h) rfl ?_
    refine Wp.callI (op_ix (by decide) ol_98 6 rfl) (act_virt (c2 := 0) rfl (lk1 (kS HS 2 rfl)) rfl) rfl (Cl.enter (L := [.ref 2]) rfl ?_)
    refine Wp.blk (by decide) ol_115 0 1 (pc' := 1) (L' := [.ref 2]) (S' := [.ref 2]) (h' := h) rfl ?_
    refine Wp.getf (op_ix (by decide) ol_115 1 rfl) (okS HS 2 rfl rfl) (v := .ref 5) (congrArg va_rf (rS HS 2 1 rfl)) rfl ?_
    refine Wp.callI (op_ix (by decide) ol_115 2 rfl) (act_virt (c2 := 0) rfl (lk1 (kS HS 5 rfl)) rfl) rfl (Cl.enter (L := [.ref 5]) rfl ?_)
    refine Wp.blk (by decide) ol_26 0 1 (pc' := 1) (L' := [.ref 5]) (S' := [.ref 5]) (h' := h) rfl ?_
    refine Wp.getf (op_ix (by decide) ol_26 1 rfl) (okS HS 5 rfl rfl) (v := .int (AI h 5 5)) rfl rfl ?_
    refine Wp.ret (op_ix (by decide) ol_26 2 rfl) rfl ⟨_, rfl, ?_⟩
    refine Wp.blk (by decide) ol_115 3 1 (pc' := (if (0 : Int32) < (AI h 5 5) then 10 else 14)) (L' := [.ref 2]) (S' := []) (h' := h) rfl ?_
    refine Wp.br (fun c2 => ?_) (fun c2 => ?_)
    · replace K := K.1 c2
      refine Wp.blk (by decide) ol_115 4 2 (pc' := 15) (L' := [.ref 2]) (S' := [.int (1 : Int32)]) (h' := h) rfl ?_
      refine Wp.ret (op_ix (by decide) ol_115 7 rfl) rfl ⟨_, rfl, ?_⟩
      refine Wp.blk (by decide) ol_98 7 1 (pc' := (if (1 : Int32) = (0 : Int32) then 42 else 17)) (L' := [.ref 2, .int v1]) (S' := []) (h' := h) rfl ?_
      refine Wp.br (fun hc => absurd hc (by decide)) (fun _ => ?_)
      refine Wp.blk (by decide) ol_98 8 1 (pc' := 18) (L' := [.ref 2, .int v1]) (S' := [.ref 2]) (h' := h) rfl ?_
      refine Wp.getf (op_ix (by decide) ol_98 9 rfl) (okS HS 2 rfl rfl) (v := .ref 17) (congrArg va_rf (rS HS 2 5 rfl)) rfl ?_
      refine Wp.blk (by decide) ol_98 10 1 (pc' := 22) (L' := [.ref 2, .int v1]) (S' := [.ref 2, .ref 17]) (h' := h) rfl ?_
      refine Wp.getf (op_ix (by decide) ol_98 11 rfl) (okS HS 2 rfl rfl) (v := .ref 11) (congrArg va_rf (rS HS 2 2 rfl)) rfl ?_
      refine Wp.callI (op_ix (by decide) ol_98 12 rfl) (act_virt (c2 := 0) rfl (lk1 (kS HS 11 rfl)) rfl) rfl (Cl.enter (L := [.ref 11]) rfl ?_)
      refine Wp.blk (by decide) ol_84 0 1 (pc' := 1) (L' := [.ref 11]) (S' := [.ref 11]) (h' := h) rfl ?_
      refine Wp.getf (op_ix (by decide) ol_84 1 rfl) (okS HS 11 rfl rfl) (v := .int (AI h 11 3)) rfl rfl ?_
      refine Wp.ret (op_ix (by decide) ol_84 2 rfl) rfl ⟨_, rfl, ?_⟩
      refine Wp.blk (by decide) ol_98 13 1 (pc' := 29) (L' := [.ref 2, .int v1]) (S' := [.ref 2, .int (AI h 11 3), .ref 17]) (h' := h) rfl ?_
      refine Wp.getf (op_ix (by decide) ol_98 14 rfl) (okS HS 2 rfl rfl) (v := .ref 11) (congrArg va_rf (rS HS 2 2 rfl)) rfl ?_
      refine Wp.callI (op_ix (by decide) ol_98 15 rfl) (act_virt (c2 := 0) rfl (lk1 (kS HS 11 rfl)) rfl) rfl (Cl.enter (L := [.ref 11]) rfl ?_)
      refine Wp.blk (by decide) ol_85 0 1 (pc' := 1) (L' := [.ref 11]) (S' := [.ref 11]) (h' := h) rfl ?_
      refine Wp.getf (op_ix (by decide) ol_85 1 rfl) (okS HS 11 rfl rfl) (v := .int (AI h 11 4)) rfl rfl ?_
      refine Wp.ret (op_ix (by decide) ol_85 2 rfl) rfl ⟨_, rfl, ?_⟩
      refine Wp.blk (by decide) ol_98 16 1 (pc' := 36) (L' := [.ref 2, .int v1]) (S' := [.int v1, .int (AI h 11 4), .int (AI h 11 3), .ref 17]) (h' := h) rfl ?_
      refine Wp.callI (op_ix (by decide) ol_98 17 rfl) (act_virt (c2 := 3) rfl (lk1 (kS HS 17 rfl)) rfl) rfl (K.mono ?_)
      rintro _ h3 ⟨x5, rfl, hs4, K⟩
      refine ⟨x5, rfl, ?_⟩
      refine Wp.blk (by decide) ol_98 18 1 (pc' := 44) (L' := [.ref 2, .int v1]) (S' := [.int x5]) (h' := h3) rfl ?_
      exact Wp.ret (op_ix (by decide) ol_98 20 rfl) rfl K
    · replace K := K.2 c2
      refine Wp.blk (by decide) ol_115 6 1 (pc' := 15) (L' := [.ref 2]) (S' := [.int (0 : Int32)]) (h' := h) rfl ?_
      refine Wp.ret (op_ix (by decide) ol_115 7 rfl) rfl ⟨_, rfl, ?_⟩
      refine Wp.blk (by decide) ol_98 7 1 (pc' := (if (0 : Int32) = (0 : Int32) then 42 else 17)) (L' := [.ref 2, .int v1]) (S' := []) (h' := h) rfl ?_
      refine Wp.br (fun _ => ?_) (fun hc => absurd (by decide) hc)
      refine Wp.blk (by decide) ol_98 19 1 (pc' := 44) (L' := [.ref 2, .int v1]) (S' := [.int (-103 : Int32)]) (h' := h) rfl ?_
      exact Wp.ret (op_ix (by decide) ol_98 20 rfl) rfl K
  · replace K := K.2 c1
    refine Wp.blk (by decide) ol_117 2 3 (pc' := (if v1 = (1 : Int32) then 9 else 13)) (L' := [.int v1]) (S' := []) (h' := h) rfl ?_
    refine Wp.br (fun c6 => ?_) (fun c6 => ?_)
    · replace K := K.1 c6
      refine Wp.blk (by decide) ol_117 5 2 (pc' := 14) (L' := [.int v1]) (S' := [.int (1 : Int32)]) (h' := h) rfl ?_
      refine Wp.ret (op_ix (by decide) ol_117 8 rfl) rfl ⟨_, rfl, ?_⟩
      refine Wp.blk (by decide) ol_98 2 1 (pc' := (if (1 : Int32) = (0 : Int32) then 7 else 10)) (L' := [.ref 2, .int v1]) (S' := []) (h' := h) rfl ?_
      refine Wp.br (fun hc => absurd hc (by decide)) (fun _ => ?_)
      refine Wp.blk (by decide) ol_98 5 1 (pc' := 11) (L' := [.ref 2, .int v1]) (S' := [.ref 2]) (h' := h) rfl ?_
      refine Wp.callI (op_ix (by decide) ol_98 6 rfl) (act_virt (c2 := 0) rfl (lk1 (kS HS 2 rfl)) rfl) rfl (Cl.enter (L := [.ref 2]) rfl ?_)
      refine Wp.blk (by decide) ol_115 0 1 (pc' := 1) (L' := [.ref 2]) (S' := [.ref 2]) (h' := h) rfl ?_
      refine Wp.getf (op_ix (by decide) ol_115 1 rfl) (okS HS 2 rfl rfl) (v := .ref 5) (congrArg va_rf (rS HS 2 1 rfl)) rfl ?_
      refine Wp.callI (op_ix (by decide) ol_115 2 rfl) (act_virt (c2 := 0) rfl (lk1 (kS HS 5 rfl)) rfl) rfl (Cl.enter (L := [.ref 5]) rfl ?_)
      refine Wp.blk (by decide) ol_26 0 1 (pc' := 1) (L' := [.ref 5]) (S' := [.ref 5]) (h' := h) rfl ?_
      refine Wp.getf (op_ix (by decide) ol_26 1 rfl) (okS HS 5 rfl rfl) (v := .int (AI h 5 5)) rfl rfl ?_
      refine Wp.ret (op_ix (by decide) ol_26 2 rfl) rfl ⟨_, rfl, ?_⟩
      refine Wp.blk (by decide) ol_115 3 1 (pc' := (if (0 : Int32) < (AI h 5 5) then 10 else 14)) (L' := [.ref 2]) (S' := []) (h' := h) rfl ?_
      refine Wp.br (fun c7 => ?_) (fun c7 => ?_)
      · replace K := K.1 c7
        refine Wp.blk (by decide) ol_115 4 2 (pc' := 15) (L' := [.ref 2]) (S' := [.int (1 : Int32)]) (h' := h) rfl ?_
        refine Wp.ret (op_ix (by decide) ol_115 7 rfl) rfl ⟨_, rfl, ?_⟩
        refine Wp.blk (by decide) ol_98 7 1 (pc' := (if (1 : Int32) = (0 : Int32) then 42 else 17)) (L' := [.ref 2, .int v1]) (S' := []) (h' := h) rfl ?_
        refine Wp.br (fun hc => absurd hc (by decide)) (fun _ => ?_)
        refine Wp.blk (by decide) ol_98 8 1 (pc' := 18) (L' := [.ref 2, .int v1]) (S' := [.ref 2]) (h' := h) rfl ?_
        refine Wp.getf (op_ix (by decide) ol_98 9 rfl) (okS HS 2 rfl rfl) (v := .ref 17) (congrArg va_rf (rS HS 2 5 rfl)) rfl ?_
        refine Wp.blk (by decide) ol_98 10 1 (pc' := 22) (L' := [.ref 2, .int v1]) (S' := [.ref 2, .ref 17]) (h' := h) rfl ?_
        refine Wp.getf (op_ix (by decide) ol_98 11 rfl) (okS HS 2 rfl rfl) (v := .ref 11) (congrArg va_rf (rS HS 2 2 rfl)) rfl ?_
        refine Wp.callI (op_ix (by decide) ol_98 12 rfl) (act_virt (c2 := 0) rfl (lk1 (kS HS 11 rfl)) rfl) rfl (Cl.enter (L := [.ref 11]) rfl ?_)
        refine Wp.blk (by decide) ol_84 0 1 (pc' := 1) (L' := [.ref 11]) (S' := [.ref 11]) (h' := h) rfl ?_
        refine Wp.getf (op_ix (by decide) ol_84 1 rfl) (okS HS 11 rfl rfl) (v := .int (AI h 11 3)) rfl rfl ?_
        refine Wp.ret (op_ix (by decide) ol_84 2 rfl) rfl ⟨_, rfl, ?_⟩
        refine Wp.blk (by decide) ol_98 13 1 (pc' := 29) (L' := [.ref 2, .int v1]) (S' := [.ref 2, .int (AI h 11 3), .ref 17]) (h' := h) rfl ?_
        refine Wp.getf (op_ix (by decide) ol_98 14 rfl) (okS HS 2 rfl rfl) (v := .ref 11) (congrArg va_rf (rS HS 2 2 rfl)) rfl ?_
        refine Wp.callI (op_ix (by decide) ol_98 15 rfl) (act_virt (c2 := 0) rfl (lk1 (kS HS 11 rfl)) rfl) rfl (Cl.enter (L := [.ref 11]) rfl ?_)
        refine Wp.blk (by decide) ol_85 0 1 (pc' := 1) (L' := [.ref 11]) (S' := [.ref 11]) (h' := h) rfl ?_
        refine Wp.getf (op_ix (by decide) ol_85 1 rfl) (okS HS 11 rfl rfl) (v := .int (AI h 11 4)) rfl rfl ?_
        refine Wp.ret (op_ix (by decide) ol_85 2 rfl) rfl ⟨_, rfl, ?_⟩
        refine Wp.blk (by decide) ol_98 16 1 (pc' := 36) (L' := [.ref 2, .int v1]) (S' := [.int v1, .int (AI h 11 4), .int (AI h 11 3), .ref 17]) (h' := h) rfl ?_
        refine Wp.callI (op_ix (by decide) ol_98 17 rfl) (act_virt (c2 := 3) rfl (lk1 (kS HS 17 rfl)) rfl) rfl (K.mono ?_)
        rintro _ h8 ⟨x10, rfl, hs9, K⟩
        refine ⟨x10, rfl, ?_⟩
        refine Wp.blk (by decide) ol_98 18 1 (pc' := 44) (L' := [.ref 2, .int v1]) (S' := [.int x10]) (h' := h8) rfl ?_
        exact Wp.ret (op_ix (by decide) ol_98 20 rfl) rfl K
      · replace K := K.2 c7
        refine Wp.blk (by decide) ol_115 6 1 (pc' := 15) (L' := [.ref 2]) (S' := [.int (0 : Int32)]) (h' := h) rfl ?_
        refine Wp.ret (op_ix (by decide) ol_115 7 rfl) rfl ⟨_, rfl, ?_⟩
        refine Wp.blk (by decide) ol_98 7 1 (pc' := (if (0 : Int32) = (0 : Int32) then 42 else 17)) (L' := [.ref 2, .int v1]) (S' := []) (h' := h) rfl ?_
        refine Wp.br (fun _ => ?_) (fun hc => absurd (by decide) hc)
        refine Wp.blk (by decide) ol_98 19 1 (pc' := 44) (L' := [.ref 2, .int v1]) (S' := [.int (-103 : Int32)]) (h' := h) rfl ?_
        exact Wp.ret (op_ix (by decide) ol_98 20 rfl) rfl K
    · replace K := K.2 c6
      refine Wp.blk (by decide) ol_117 7 1 (pc' := 14) (L' := [.int v1]) (S' := [.int (0 : Int32)]) (h' := h) rfl ?_
      refine Wp.ret (op_ix (by decide) ol_117 8 rfl) rfl ⟨_, rfl, ?_⟩
      refine Wp.blk (by decide) ol_98 2 1 (pc' := (if (0 : Int32) = (0 : Int32) then 7 else 10)) (L' := [.ref 2, .int v1]) (S' := []) (h' := h) rfl ?_
      refine Wp.br (fun _ => ?_) (fun hc => absurd (by decide) hc)
      refine Wp.blk (by decide) ol_98 3 1 (pc' := 9) (L' := [.ref 2, .int v1]) (S' := [.int (-101 : Int32)]) (h' := h) rfl ?_
      exact Wp.ret (op_ix (by decide) ol_98 4 rfl) rfl K
/-- CutsOrFast.by at 0 (I)I -/
theorem g99_0 (d : Nat) (v1 : Int32) (h : AH) (HS : Sh h)  (Q : Option Value → AH → Prop) (K : ((v1 = (0 : Int32) → (((0 : Int32) < (AI h 5 5) → (Cl (d + 1) 59 [.ref 17, .int (AI h 11 3), .int (AI h 11 4), .int v1] h (fun r h3 => ∃ x5 : Int32, r = some (.int x5) ∧ Sh h3 ∧ Q (some (.int x5)) h3))) ∧ (¬ (0 : Int32) < (AI h 5 5) → Q (some (.int (-103 : Int32))) h))) ∧ (¬ v1 = (0 : Int32) → ((v1 = (1 : Int32) → (((0 : Int32) < (AI h 5 5) → (Cl (d + 1) 59 [.ref 17, .int (AI h 11 3), .int (AI h 11 4), .int v1] h (fun r h8 => ∃ x10 : Int32, r = some (.int x10) ∧ Sh h8 ∧ Q (some (.int x10)) h8))) ∧ (¬ (0 : Int32) < (AI h 5 5) → Q (some (.int (-103 : Int32))) h))) ∧ (¬ v1 = (1 : Int32) → Q (some (.int (-101 : Int32))) h))))) : Wp (d + 2) 99 0 [.ref 2, .int v1] [] h Q := by
  refine Wp.blk (by decide) ol_99 0 1 (pc' := 1) (L' := [.ref 2, .int v1]) (S' := [.int v1]) (h' := h) rfl ?_
  refine Wp.callI (op_ix (by decide) ol_99 1 rfl) rfl rfl (Cl.enter (L := [.int v1]) rfl ?_)
  refine Wp.blk (by decide) ol_117 0 2 (pc' := (if v1 = (0 : Int32) then 9 else 4)) (L' := [.int v1]) (S' := []) (h' := h) rfl ?_
  refine Wp.br (fun c1 => ?_) (fun c1 => ?_)
  · replace K := K.1 c1
    refine Wp.blk (by decide) ol_117 5 2 (pc' := 14) (L' := [.int v1]) (S' := [.int (1 : Int32)]) (h' := h) rfl ?_
    refine Wp.ret (op_ix (by decide) ol_117 8 rfl) rfl ⟨_, rfl, ?_⟩
    refine Wp.blk (by decide) ol_99 2 1 (pc' := (if (1 : Int32) = (0 : Int32) then 7 else 10)) (L' := [.ref 2, .int v1]) (S' := []) (h' := h) rfl ?_
    refine Wp.br (fun hc => absurd hc (by decide)) (fun _ => ?_)
    refine Wp.blk (by decide) ol_99 5 1 (pc' := 11) (L' := [.ref 2, .int v1]) (S' := [.ref 2]) (h' := h) rfl ?_
    refine Wp.callI (op_ix (by decide) ol_99 6 rfl) (act_virt (c2 := 0) rfl (lk1 (kS HS 2 rfl)) rfl) rfl (Cl.enter (L := [.ref 2]) rfl ?_)
    refine Wp.blk (by decide) ol_115 0 1 (pc' := 1) (L' := [.ref 2]) (S' := [.ref 2]) (h' := h) rfl ?_
    refine Wp.getf (op_ix (by decide) ol_115 1 rfl) (okS HS 2 rfl rfl) (v := .ref 5) (congrArg va_rf (rS HS 2 1 rfl)) rfl ?_
    refine Wp.callI (op_ix (by decide) ol_115 2 rfl) (act_virt (c2 := 0) rfl (lk1 (kS HS 5 rfl)) rfl) rfl (Cl.enter (L := [.ref 5]) rfl ?_)
    refine Wp.blk (by decide) ol_26 0 1 (pc' := 1) (L' := [.ref 5]) (S' := [.ref 5]) (h' := h) rfl ?_
    refine Wp.getf (op_ix (by decide) ol_26 1 rfl) (okS HS 5 rfl rfl) (v := .int (AI h 5 5)) rfl rfl ?_
    refine Wp.ret (op_ix (by decide) ol_26 2 rfl) rfl ⟨_, rfl, ?_⟩
    refine Wp.blk (by decide) ol_115 3 1 (pc' := (if (0 : Int32) < (AI h 5 5) then 10 else 14)) (L' := [.ref 2]) (S' := []) (h' := h) rfl ?_
    refine Wp.br (fun c2 => ?_) (fun c2 => ?_)
    · replace K := K.1 c2
      refine Wp.blk (by decide) ol_115 4 2 (pc' := 15) (L' := [.ref 2]) (S' := [.int (1 : Int32)]) (h' := h) rfl ?_
      refine Wp.ret (op_ix (by decide) ol_115 7 rfl) rfl ⟨_, rfl, ?_⟩
      refine Wp.blk (by decide) ol_99 7 1 (pc' := (if (1 : Int32) = (0 : Int32) then 42 else 17)) (L' := [.ref 2, .int v1]) (S' := []) (h' := h) rfl ?_
      refine Wp.br (fun hc => absurd hc (by decide)) (fun _ => ?_)
      refine Wp.blk (by decide) ol_99 8 1 (pc' := 18) (L' := [.ref 2, .int v1]) (S' := [.ref 2]) (h' := h) rfl ?_
      refine Wp.getf (op_ix (by decide) ol_99 9 rfl) (okS HS 2 rfl rfl) (v := .ref 17) (congrArg va_rf (rS HS 2 5 rfl)) rfl ?_
      refine Wp.blk (by decide) ol_99 10 1 (pc' := 22) (L' := [.ref 2, .int v1]) (S' := [.ref 2, .ref 17]) (h' := h) rfl ?_
      refine Wp.getf (op_ix (by decide) ol_99 11 rfl) (okS HS 2 rfl rfl) (v := .ref 11) (congrArg va_rf (rS HS 2 2 rfl)) rfl ?_
      refine Wp.callI (op_ix (by decide) ol_99 12 rfl) (act_virt (c2 := 0) rfl (lk1 (kS HS 11 rfl)) rfl) rfl (Cl.enter (L := [.ref 11]) rfl ?_)
      refine Wp.blk (by decide) ol_84 0 1 (pc' := 1) (L' := [.ref 11]) (S' := [.ref 11]) (h' := h) rfl ?_
      refine Wp.getf (op_ix (by decide) ol_84 1 rfl) (okS HS 11 rfl rfl) (v := .int (AI h 11 3)) rfl rfl ?_
      refine Wp.ret (op_ix (by decide) ol_84 2 rfl) rfl ⟨_, rfl, ?_⟩
      refine Wp.blk (by decide) ol_99 13 1 (pc' := 29) (L' := [.ref 2, .int v1]) (S' := [.ref 2, .int (AI h 11 3), .ref 17]) (h' := h) rfl ?_
      refine Wp.getf (op_ix (by decide) ol_99 14 rfl) (okS HS 2 rfl rfl) (v := .ref 11) (congrArg va_rf (rS HS 2 2 rfl)) rfl ?_
      refine Wp.callI (op_ix (by decide) ol_99 15 rfl) (act_virt (c2 := 0) rfl (lk1 (kS HS 11 rfl)) rfl) rfl (Cl.enter (L := [.ref 11]) rfl ?_)
      refine Wp.blk (by decide) ol_85 0 1 (pc' := 1) (L' := [.ref 11]) (S' := [.ref 11]) (h' := h) rfl ?_
      refine Wp.getf (op_ix (by decide) ol_85 1 rfl) (okS HS 11 rfl rfl) (v := .int (AI h 11 4)) rfl rfl ?_
      refine Wp.ret (op_ix (by decide) ol_85 2 rfl) rfl ⟨_, rfl, ?_⟩
      refine Wp.blk (by decide) ol_99 16 1 (pc' := 36) (L' := [.ref 2, .int v1]) (S' := [.int v1, .int (AI h 11 4), .int (AI h 11 3), .ref 17]) (h' := h) rfl ?_
      refine Wp.callI (op_ix (by decide) ol_99 17 rfl) (act_virt (c2 := 3) rfl (lk1 (kS HS 17 rfl)) rfl) rfl (K.mono ?_)
      rintro _ h3 ⟨x5, rfl, hs4, K⟩
      refine ⟨x5, rfl, ?_⟩
      refine Wp.blk (by decide) ol_99 18 1 (pc' := 44) (L' := [.ref 2, .int v1]) (S' := [.int x5]) (h' := h3) rfl ?_
      exact Wp.ret (op_ix (by decide) ol_99 20 rfl) rfl K
    · replace K := K.2 c2
      refine Wp.blk (by decide) ol_115 6 1 (pc' := 15) (L' := [.ref 2]) (S' := [.int (0 : Int32)]) (h' := h) rfl ?_
      refine Wp.ret (op_ix (by decide) ol_115 7 rfl) rfl ⟨_, rfl, ?_⟩
      refine Wp.blk (by decide) ol_99 7 1 (pc' := (if (0 : Int32) = (0 : Int32) then 42 else 17)) (L' := [.ref 2, .int v1]) (S' := []) (h' := h) rfl ?_
      refine Wp.br (fun _ => ?_) (fun hc => absurd (by decide) hc)
      refine Wp.blk (by decide) ol_99 19 1 (pc' := 44) (L' := [.ref 2, .int v1]) (S' := [.int (-103 : Int32)]) (h' := h) rfl ?_
      exact Wp.ret (op_ix (by decide) ol_99 20 rfl) rfl K
  · replace K := K.2 c1
    refine Wp.blk (by decide) ol_117 2 3 (pc' := (if v1 = (1 : Int32) then 9 else 13)) (L' := [.int v1]) (S' := []) (h' := h) rfl ?_
    refine Wp.br (fun c6 => ?_) (fun c6 => ?_)
    · replace K := K.1 c6
      refine Wp.blk (by decide) ol_117 5 2 (pc' := 14) (L' := [.int v1]) (S' := [.int (1 : Int32)]) (h' := h) rfl ?_
      refine Wp.ret (op_ix (by decide) ol_117 8 rfl) rfl ⟨_, rfl, ?_⟩
      refine Wp.blk (by decide) ol_99 2 1 (pc' := (if (1 : Int32) = (0 : Int32) then 7 else 10)) (L' := [.ref 2, .int v1]) (S' := []) (h' := h) rfl ?_
      refine Wp.br (fun hc => absurd hc (by decide)) (fun _ => ?_)
      refine Wp.blk (by decide) ol_99 5 1 (pc' := 11) (L' := [.ref 2, .int v1]) (S' := [.ref 2]) (h' := h) rfl ?_
      refine Wp.callI (op_ix (by decide) ol_99 6 rfl) (act_virt (c2 := 0) rfl (lk1 (kS HS 2 rfl)) rfl) rfl (Cl.enter (L := [.ref 2]) rfl ?_)
      refine Wp.blk (by decide) ol_115 0 1 (pc' := 1) (L' := [.ref 2]) (S' := [.ref 2]) (h' := h) rfl ?_
      refine Wp.getf (op_ix (by decide) ol_115 1 rfl) (okS HS 2 rfl rfl) (v := .ref 5) (congrArg va_rf (rS HS 2 1 rfl)) rfl ?_
      refine Wp.callI (op_ix (by decide) ol_115 2 rfl) (act_virt (c2 := 0) rfl (lk1 (kS HS 5 rfl)) rfl) rfl (Cl.enter (L := [.ref 5]) rfl ?_)
      refine Wp.blk (by decide) ol_26 0 1 (pc' := 1) (L' := [.ref 5]) (S' := [.ref 5]) (h' := h) rfl ?_
      refine Wp.getf (op_ix (by decide) ol_26 1 rfl) (okS HS 5 rfl rfl) (v := .int (AI h 5 5)) rfl rfl ?_
      refine Wp.ret (op_ix (by decide) ol_26 2 rfl) rfl ⟨_, rfl, ?_⟩
      refine Wp.blk (by decide) ol_115 3 1 (pc' := (if (0 : Int32) < (AI h 5 5) then 10 else 14)) (L' := [.ref 2]) (S' := []) (h' := h) rfl ?_
      refine Wp.br (fun c7 => ?_) (fun c7 => ?_)
      · replace K := K.1 c7
        refine Wp.blk (by decide) ol_115 4 2 (pc' := 15) (L' := [.ref 2]) (S' := [.int (1 : Int32)]) (h' := h) rfl ?_
        refine Wp.ret (op_ix (by decide) ol_115 7 rfl) rfl ⟨_, rfl, ?_⟩
        refine Wp.blk (by decide) ol_99 7 1 (pc' := (if (1 : Int32) = (0 : Int32) then 42 else 17)) (L' := [.ref 2, .int v1]) (S' := []) (h' := h) rfl ?_
        refine Wp.br (fun hc => absurd hc (by decide)) (fun _ => ?_)
        refine Wp.blk (by decide) ol_99 8 1 (pc' := 18) (L' := [.ref 2, .int v1]) (S' := [.ref 2]) (h' := h) rfl ?_
        refine Wp.getf (op_ix (by decide) ol_99 9 rfl) (okS HS 2 rfl rfl) (v := .ref 17) (congrArg va_rf (rS HS 2 5 rfl)) rfl ?_
        refine Wp.blk (by decide) ol_99 10 1 (pc' := 22) (L' := [.ref 2, .int v1]) (S' := [.ref 2, .ref 17]) (h' := h) rfl ?_
        refine Wp.getf (op_ix (by decide) ol_99 11 rfl) (okS HS 2 rfl rfl) (v := .ref 11) (congrArg va_rf (rS HS 2 2 rfl)) rfl ?_
        refine Wp.callI (op_ix (by decide) ol_99 12 rfl) (act_virt (c2 := 0) rfl (lk1 (kS HS 11 rfl)) rfl) rfl (Cl.enter (L := [.ref 11]) rfl ?_)
        refine Wp.blk (by decide) ol_84 0 1 (pc' := 1) (L' := [.ref 11]) (S' := [.ref 11]) (h' := h) rfl ?_
        refine Wp.getf (op_ix (by decide) ol_84 1 rfl) (okS HS 11 rfl rfl) (v := .int (AI h 11 3)) rfl rfl ?_
        refine Wp.ret (op_ix (by decide) ol_84 2 rfl) rfl ⟨_, rfl, ?_⟩
        refine Wp.blk (by decide) ol_99 13 1 (pc' := 29) (L' := [.ref 2, .int v1]) (S' := [.ref 2, .int (AI h 11 3), .ref 17]) (h' := h) rfl ?_
        refine Wp.getf (op_ix (by decide) ol_99 14 rfl) (okS HS 2 rfl rfl) (v := .ref 11) (congrArg va_rf (rS HS 2 2 rfl)) rfl ?_
        refine Wp.callI (op_ix (by decide) ol_99 15 rfl) (act_virt (c2 := 0) rfl (lk1 (kS HS 11 rfl)) rfl) rfl (Cl.enter (L := [.ref 11]) rfl ?_)
        refine Wp.blk (by decide) ol_85 0 1 (pc' := 1) (L' := [.ref 11]) (S' := [.ref 11]) (h' := h) rfl ?_
        refine Wp.getf (op_ix (by decide) ol_85 1 rfl) (okS HS 11 rfl rfl) (v := .int (AI h 11 4)) rfl rfl ?_
        refine Wp.ret (op_ix (by decide) ol_85 2 rfl) rfl ⟨_, rfl, ?_⟩
        refine Wp.blk (by decide) ol_99 16 1 (pc' := 36) (L' := [.ref 2, .int v1]) (S' := [.int v1, .int (AI h 11 4), .int (AI h 11 3), .ref 17]) (h' := h) rfl ?_
        refine Wp.callI (op_ix (by decide) ol_99 17 rfl) (act_virt (c2 := 3) rfl (lk1 (kS HS 17 rfl)) rfl) rfl (K.mono ?_)
        rintro _ h8 ⟨x10, rfl, hs9, K⟩
        refine ⟨x10, rfl, ?_⟩
        refine Wp.blk (by decide) ol_99 18 1 (pc' := 44) (L' := [.ref 2, .int v1]) (S' := [.int x10]) (h' := h8) rfl ?_
        exact Wp.ret (op_ix (by decide) ol_99 20 rfl) rfl K
      · replace K := K.2 c7
        refine Wp.blk (by decide) ol_115 6 1 (pc' := 15) (L' := [.ref 2]) (S' := [.int (0 : Int32)]) (h' := h) rfl ?_
        refine Wp.ret (op_ix (by decide) ol_115 7 rfl) rfl ⟨_, rfl, ?_⟩
        refine Wp.blk (by decide) ol_99 7 1 (pc' := (if (0 : Int32) = (0 : Int32) then 42 else 17)) (L' := [.ref 2, .int v1]) (S' := []) (h' := h) rfl ?_
        refine Wp.br (fun _ => ?_) (fun hc => absurd (by decide) hc)
        refine Wp.blk (by decide) ol_99 19 1 (pc' := 44) (L' := [.ref 2, .int v1]) (S' := [.int (-103 : Int32)]) (h' := h) rfl ?_
        exact Wp.ret (op_ix (by decide) ol_99 20 rfl) rfl K
    · replace K := K.2 c6
      refine Wp.blk (by decide) ol_117 7 1 (pc' := 14) (L' := [.int v1]) (S' := [.int (0 : Int32)]) (h' := h) rfl ?_
      refine Wp.ret (op_ix (by decide) ol_117 8 rfl) rfl ⟨_, rfl, ?_⟩
      refine Wp.blk (by decide) ol_99 2 1 (pc' := (if (0 : Int32) = (0 : Int32) then 7 else 10)) (L' := [.ref 2, .int v1]) (S' := []) (h' := h) rfl ?_
      refine Wp.br (fun _ => ?_) (fun hc => absurd (by decide) hc)
      refine Wp.blk (by decide) ol_99 3 1 (pc' := 9) (L' := [.ref 2, .int v1]) (S' := [.int (-101 : Int32)]) (h' := h) rfl ?_
      exact Wp.ret (op_ix (by decide) ol_99 4 rfl) rfl K
/-- CutsOrFast.answer at 0 (I)I -/
theorem g100_0 (d : Nat) (v1 : Int32) (h : AH) (HS : Sh h)  (Q : Option Value → AH → Prop) (K : ((v1 < (0 : Int32) → Q (some (.int (-101 : Int32))) h) ∧ (¬ v1 < (0 : Int32) → ((v1 < (AI h 5 5) → (Cl d 37 [.ref 5, .int (AI h 11 3), .int (AI h 11 4)] h (fun r h3 => ∃ x5 : Int32, r = some (.int x5) ∧ Sh h3 ∧ ((x5 = (0 : Int32) → (Cl (d + 1) 78 [.ref 11, .int v1] h3 (fun r h7 => ∃ x9 : Int32, r = some (.int x9) ∧ Sh h7 ∧ ((x9 = (0 : Int32) → (Cl (d + 2) 59 [.ref 17, .int (AI h7 11 3), .int (((AI h7 11 4)) ||| ((((1 : Int32)) <<< (v1 &&& 31)))), .int (0 : Int32)] h7 (fun r h11 => ∃ x13 : Int32, r = some (.int x13) ∧ Sh h11 ∧ Q (some (.int x13)) h11))) ∧ (¬ x9 = (0 : Int32) → Q (some (.int (-103 : Int32))) h7))))) ∧ (¬ x5 = (0 : Int32) → Q (some (.int (-103 : Int32))) h3))))) ∧ (¬ v1 < (AI h 5 5) → Q (some (.int (-101 : Int32))) h))))) : Wp (d + 3) 100 0 [.ref 2, .int v1] [] h Q := by
  refine Wp.blk (by decide) ol_100 0 2 (pc' := 2) (L' := [.ref 2, .int v1]) (S' := [.int v1, .ref 2]) (h' := h) rfl ?_
  refine Wp.callI (op_ix (by decide) ol_100 2 rfl) (act_virt (c2 := 1) rfl (lk1 (kS HS 2 rfl)) rfl) rfl (Cl.enter (L := [.ref 2, .int v1]) rfl ?_)
  refine Wp.blk (by decide) ol_116 0 2 (pc' := (if v1 < (0 : Int32) then 19 else 4)) (L' := [.ref 2, .int v1]) (S' := []) (h' := h) rfl ?_
  refine Wp.br (fun c1 => ?_) (fun c1 => ?_)
  · replace K := K.1 c1
    refine Wp.blk (by decide) ol_116 9 1 (pc' := 20) (L' := [.ref 2, .int v1]) (S' := [.int (0 : Int32)]) (h' := h) rfl ?_
    refine Wp.ret (op_ix (by decide) ol_116 10 rfl) rfl ⟨_, rfl, ?_⟩
    refine Wp.blk (by decide) ol_100 3 1 (pc' := (if (0 : Int32) = (0 : Int32) then 8 else 11)) (L' := [.ref 2, .int v1]) (S' := []) (h' := h) rfl ?_
    refine Wp.br (fun _ => ?_) (fun hc => absurd (by decide) hc)
    refine Wp.blk (by decide) ol_100 4 1 (pc' := 10) (L' := [.ref 2, .int v1]) (S' := [.int (-101 : Int32)]) (h' := h) rfl ?_
    exact Wp.ret (op_ix (by decide) ol_100 5 rfl) rfl K
  · replace K := K.2 c1
    refine Wp.blk (by decide) ol_116 2 2 (pc' := 6) (L' := [.ref 2, .int v1]) (S' := [.ref 2, .int v1]) (h' := h) rfl ?_
    refine Wp.getf (op_ix (by decide) ol_116 4 rfl) (okS HS 2 rfl rfl) (v := .ref 5) (congrArg va_rf (rS HS 2 1 rfl)) rfl ?_
    refine Wp.callI (op_ix (by decide) ol_116 5 rfl) (act_virt (c2 := 0) rfl (lk1 (kS HS 5 rfl)) rfl) rfl (Cl.enter (L := [.ref 5]) rfl ?_)
    refine Wp.blk (by decide) ol_26 0 1 (pc' := 1) (L' := [.ref 5]) (S' := [.ref 5]) (h' := h) rfl ?_
    refine Wp.getf (op_ix (by decide) ol_26 1 rfl) (okS HS 5 rfl rfl) (v := .int (AI h 5 5)) rfl rfl ?_
    refine Wp.ret (op_ix (by decide) ol_26 2 rfl) rfl ⟨_, rfl, ?_⟩
    refine Wp.blk (by decide) ol_116 6 1 (pc' := (if v1 < (AI h 5 5) then 15 else 19)) (L' := [.ref 2, .int v1]) (S' := []) (h' := h) rfl ?_
    refine Wp.br (fun c2 => ?_) (fun c2 => ?_)
    · replace K := K.1 c2
      refine Wp.blk (by decide) ol_116 7 2 (pc' := 20) (L' := [.ref 2, .int v1]) (S' := [.int (1 : Int32)]) (h' := h) rfl ?_
      refine Wp.ret (op_ix (by decide) ol_116 10 rfl) rfl ⟨_, rfl, ?_⟩
      refine Wp.blk (by decide) ol_100 3 1 (pc' := (if (1 : Int32) = (0 : Int32) then 8 else 11)) (L' := [.ref 2, .int v1]) (S' := []) (h' := h) rfl ?_
      refine Wp.br (fun hc => absurd hc (by decide)) (fun _ => ?_)
      refine Wp.blk (by decide) ol_100 6 2 (pc' := 13) (L' := [.ref 2, .int v1]) (S' := [.int v1, .ref 2]) (h' := h) rfl ?_
      refine Wp.callI (op_ix (by decide) ol_100 8 rfl) (act_virt (c2 := 1) rfl (lk1 (kS HS 2 rfl)) rfl) rfl (Cl.enter (L := [.ref 2, .int v1]) rfl ?_)
      refine Wp.blk (by decide) ol_119 0 1 (pc' := 1) (L' := [.ref 2, .int v1]) (S' := [.ref 2]) (h' := h) rfl ?_
      refine Wp.getf (op_ix (by decide) ol_119 1 rfl) (okS HS 2 rfl rfl) (v := .ref 11) (congrArg va_rf (rS HS 2 2 rfl)) rfl ?_
      refine Wp.callI (op_ix (by decide) ol_119 2 rfl) (act_virt (c2 := 0) rfl (lk1 (kS HS 11 rfl)) rfl) rfl (Cl.enter (L := [.ref 11]) rfl ?_)
      refine Wp.blk (by decide) ol_77 0 1 (pc' := 1) (L' := [.ref 11]) (S' := [.ref 11]) (h' := h) rfl ?_
      refine Wp.getf (op_ix (by decide) ol_77 1 rfl) (okS HS 11 rfl rfl) (v := .ref 5) (congrArg va_rf (rS HS 11 0 rfl)) rfl ?_
      refine Wp.blk (by decide) ol_77 2 1 (pc' := 5) (L' := [.ref 11]) (S' := [.ref 11, .ref 5]) (h' := h) rfl ?_
      refine Wp.getf (op_ix (by decide) ol_77 3 rfl) (okS HS 11 rfl rfl) (v := .int (AI h 11 3)) rfl rfl ?_
      refine Wp.blk (by decide) ol_77 4 1 (pc' := 9) (L' := [.ref 11]) (S' := [.ref 11, .int (AI h 11 3), .ref 5]) (h' := h) rfl ?_
      refine Wp.getf (op_ix (by decide) ol_77 5 rfl) (okS HS 11 rfl rfl) (v := .int (AI h 11 4)) rfl rfl ?_
      refine Wp.callI (op_ix (by decide) ol_77 6 rfl) (act_virt (c2 := 2) rfl (lk1 (kS HS 5 rfl)) rfl) rfl (K.mono ?_)
      rintro _ h3 ⟨x5, rfl, hs4, K⟩
      refine ⟨x5, rfl, ?_⟩
      refine Wp.ret (op_ix (by decide) ol_77 7 rfl) rfl ⟨_, rfl, ?_⟩
      refine Wp.blk (by decide) ol_119 3 1 (pc' := (if x5 = (0 : Int32) then 10 else 25)) (L' := [.ref 2, .int v1]) (S' := []) (h' := h3) rfl ?_
      refine Wp.br (fun c6 => ?_) (fun c6 => ?_)
      · replace K := K.1 c6
        refine Wp.blk (by decide) ol_119 4 1 (pc' := 11) (L' := [.ref 2, .int v1]) (S' := [.ref 2]) (h' := h3) rfl ?_
        refine Wp.getf (op_ix (by decide) ol_119 5 rfl) (okS hs4 2 rfl rfl) (v := .ref 11) (congrArg va_rf (rS hs4 2 2 rfl)) rfl ?_
        refine Wp.blk (by decide) ol_119 6 1 (pc' := 15) (L' := [.ref 2, .int v1]) (S' := [.int v1, .ref 11]) (h' := h3) rfl ?_
        refine Wp.callI (op_ix (by decide) ol_119 7 rfl) (act_virt (c2 := 1) rfl (lk1 (kS hs4 11 rfl)) rfl) rfl (K.mono ?_)
        rintro _ h7 ⟨x9, rfl, hs8, K⟩
        refine ⟨x9, rfl, ?_⟩
        refine Wp.blk (by decide) ol_119 8 1 (pc' := (if x9 = (0 : Int32) then 21 else 25)) (L' := [.ref 2, .int v1]) (S' := []) (h' := h7) rfl ?_
        refine Wp.br (fun c10 => ?_) (fun c10 => ?_)
        · replace K := K.1 c10
          refine Wp.blk (by decide) ol_119 9 2 (pc' := 26) (L' := [.ref 2, .int v1]) (S' := [.int (1 : Int32)]) (h' := h7) rfl ?_
          refine Wp.ret (op_ix (by decide) ol_119 12 rfl) rfl ⟨_, rfl, ?_⟩
          refine Wp.blk (by decide) ol_100 9 1 (pc' := (if (1 : Int32) = (0 : Int32) then 19 else 22)) (L' := [.ref 2, .int v1]) (S' := []) (h' := h7) rfl ?_
          refine Wp.br (fun hc => absurd hc (by decide)) (fun _ => ?_)
          refine Wp.blk (by decide) ol_100 12 1 (pc' := 23) (L' := [.ref 2, .int v1]) (S' := [.ref 2]) (h' := h7) rfl ?_
          refine Wp.getf (op_ix (by decide) ol_100 13 rfl) (okS hs8 2 rfl rfl) (v := .ref 17) (congrArg va_rf (rS hs8 2 5 rfl)) rfl ?_
          refine Wp.blk (by decide) ol_100 14 1 (pc' := 27) (L' := [.ref 2, .int v1]) (S' := [.ref 2, .ref 17]) (h' := h7) rfl ?_
          refine Wp.getf (op_ix (by decide) ol_100 15 rfl) (okS hs8 2 rfl rfl) (v := .ref 11) (congrArg va_rf (rS hs8 2 2 rfl)) rfl ?_
          refine Wp.callI (op_ix (by decide) ol_100 16 rfl) (act_virt (c2 := 0) rfl (lk1 (kS hs8 11 rfl)) rfl) rfl (Cl.enter (L := [.ref 11]) rfl ?_)
          refine Wp.blk (by decide) ol_84 0 1 (pc' := 1) (L' := [.ref 11]) (S' := [.ref 11]) (h' := h7) rfl ?_
          refine Wp.getf (op_ix (by decide) ol_84 1 rfl) (okS hs8 11 rfl rfl) (v := .int (AI h7 11 3)) rfl rfl ?_
          refine Wp.ret (op_ix (by decide) ol_84 2 rfl) rfl ⟨_, rfl, ?_⟩
          refine Wp.blk (by decide) ol_100 17 1 (pc' := 34) (L' := [.ref 2, .int v1]) (S' := [.ref 2, .int (AI h7 11 3), .ref 17]) (h' := h7) rfl ?_
          refine Wp.getf (op_ix (by decide) ol_100 18 rfl) (okS hs8 2 rfl rfl) (v := .ref 11) (congrArg va_rf (rS hs8 2 2 rfl)) rfl ?_
          refine Wp.callI (op_ix (by decide) ol_100 19 rfl) (act_virt (c2 := 0) rfl (lk1 (kS hs8 11 rfl)) rfl) rfl (Cl.enter (L := [.ref 11]) rfl ?_)
          refine Wp.blk (by decide) ol_85 0 1 (pc' := 1) (L' := [.ref 11]) (S' := [.ref 11]) (h' := h7) rfl ?_
          refine Wp.getf (op_ix (by decide) ol_85 1 rfl) (okS hs8 11 rfl rfl) (v := .int (AI h7 11 4)) rfl rfl ?_
          refine Wp.ret (op_ix (by decide) ol_85 2 rfl) rfl ⟨_, rfl, ?_⟩
          refine Wp.blk (by decide) ol_100 20 5 (pc' := 45) (L' := [.ref 2, .int v1]) (S' := [.int (0 : Int32), .int (((AI h7 11 4)) ||| ((((1 : Int32)) <<< (v1 &&& 31)))), .int (AI h7 11 3), .ref 17]) (h' := h7) rfl ?_
          refine Wp.callI (op_ix (by decide) ol_100 25 rfl) (act_virt (c2 := 3) rfl (lk1 (kS hs8 17 rfl)) rfl) rfl (K.mono ?_)
          rintro _ h11 ⟨x13, rfl, hs12, K⟩
          refine ⟨x13, rfl, ?_⟩
          exact Wp.ret (op_ix (by decide) ol_100 26 rfl) rfl K
        · replace K := K.2 c10
          refine Wp.blk (by decide) ol_119 11 1 (pc' := 26) (L' := [.ref 2, .int v1]) (S' := [.int (0 : Int32)]) (h' := h7) rfl ?_
          refine Wp.ret (op_ix (by decide) ol_119 12 rfl) rfl ⟨_, rfl, ?_⟩
          refine Wp.blk (by decide) ol_100 9 1 (pc' := (if (0 : Int32) = (0 : Int32) then 19 else 22)) (L' := [.ref 2, .int v1]) (S' := []) (h' := h7) rfl ?_
          refine Wp.br (fun _ => ?_) (fun hc => absurd (by decide) hc)
          refine Wp.blk (by decide) ol_100 10 1 (pc' := 21) (L' := [.ref 2, .int v1]) (S' := [.int (-103 : Int32)]) (h' := h7) rfl ?_
          exact Wp.ret (op_ix (by decide) ol_100 11 rfl) rfl K
      · replace K := K.2 c6
        refine Wp.blk (by decide) ol_119 11 1 (pc' := 26) (L' := [.ref 2, .int v1]) (S' := [.int (0 : Int32)]) (h' := h3) rfl ?_
        refine Wp.ret (op_ix (by decide) ol_119 12 rfl) rfl ⟨_, rfl, ?_⟩
        refine Wp.blk (by decide) ol_100 9 1 (pc' := (if (0 : Int32) = (0 : Int32) then 19 else 22)) (L' := [.ref 2, .int v1]) (S' := []) (h' := h3) rfl ?_
        refine Wp.br (fun _ => ?_) (fun hc => absurd (by decide) hc)
        refine Wp.blk (by decide) ol_100 10 1 (pc' := 21) (L' := [.ref 2, .int v1]) (S' := [.int (-103 : Int32)]) (h' := h3) rfl ?_
        exact Wp.ret (op_ix (by decide) ol_100 11 rfl) rfl K
    · replace K := K.2 c2
      refine Wp.blk (by decide) ol_116 9 1 (pc' := 20) (L' := [.ref 2, .int v1]) (S' := [.int (0 : Int32)]) (h' := h) rfl ?_
      refine Wp.ret (op_ix (by decide) ol_116 10 rfl) rfl ⟨_, rfl, ?_⟩
      refine Wp.blk (by decide) ol_100 3 1 (pc' := (if (0 : Int32) = (0 : Int32) then 8 else 11)) (L' := [.ref 2, .int v1]) (S' := []) (h' := h) rfl ?_
      refine Wp.br (fun _ => ?_) (fun hc => absurd (by decide) hc)
      refine Wp.blk (by decide) ol_100 4 1 (pc' := 10) (L' := [.ref 2, .int v1]) (S' := [.int (-101 : Int32)]) (h' := h) rfl ?_
      exact Wp.ret (op_ix (by decide) ol_100 5 rfl) rfl K
/-- CutsOrFast.lost at 0 ()I -/
theorem g101_0 (d : Nat)  (h : AH) (HS : Sh h)  (Q : Option Value → AH → Prop) (K : (((0 : Int32) < (AI h 5 5) → (Cl (d + 1) 73 [.ref 15, .ref 11] h (fun r h2 => r = none ∧ Sh h2 ∧ (Cl (d + 1) 76 [.ref 15] h2 (fun r h4 => r = none ∧ Sh h4 ∧ Wp (d + 2) 101 30 [.ref 2, .int (0 : Int32), mk0, mk0] [] h4 Q))))) ∧ (¬ (0 : Int32) < (AI h 5 5) → Q (some (.int (-103 : Int32))) h))) : Wp (d + 2) 101 0 [.ref 2, mk0, mk0, mk0] [] h Q := by
  refine Wp.blk (by decide) ol_101 0 1 (pc' := 1) (L' := [.ref 2, mk0, mk0, mk0]) (S' := [.ref 2]) (h' := h) rfl ?_
  refine Wp.callI (op_ix (by decide) ol_101 1 rfl) (act_virt (c2 := 0) rfl (lk1 (kS HS 2 rfl)) rfl) rfl (Cl.enter (L := [.ref 2]) rfl ?_)
  refine Wp.blk (by decide) ol_115 0 1 (pc' := 1) (L' := [.ref 2]) (S' := [.ref 2]) (h' := h) rfl ?_
  refine Wp.getf (op_ix (by decide) ol_115 1 rfl) (okS HS 2 rfl rfl) (v := .ref 5) (congrArg va_rf (rS HS 2 1 rfl)) rfl ?_
  refine Wp.callI (op_ix (by decide) ol_115 2 rfl) (act_virt (c2 := 0) rfl (lk1 (kS HS 5 rfl)) rfl) rfl (Cl.enter (L := [.ref 5]) rfl ?_)
  refine Wp.blk (by decide) ol_26 0 1 (pc' := 1) (L' := [.ref 5]) (S' := [.ref 5]) (h' := h) rfl ?_
  refine Wp.getf (op_ix (by decide) ol_26 1 rfl) (okS HS 5 rfl rfl) (v := .int (AI h 5 5)) rfl rfl ?_
  refine Wp.ret (op_ix (by decide) ol_26 2 rfl) rfl ⟨_, rfl, ?_⟩
  refine Wp.blk (by decide) ol_115 3 1 (pc' := (if (0 : Int32) < (AI h 5 5) then 10 else 14)) (L' := [.ref 2]) (S' := []) (h' := h) rfl ?_
  refine Wp.br (fun c1 => ?_) (fun c1 => ?_)
  · replace K := K.1 c1
    refine Wp.blk (by decide) ol_115 4 2 (pc' := 15) (L' := [.ref 2]) (S' := [.int (1 : Int32)]) (h' := h) rfl ?_
    refine Wp.ret (op_ix (by decide) ol_115 7 rfl) rfl ⟨_, rfl, ?_⟩
    refine Wp.blk (by decide) ol_101 2 1 (pc' := (if (1 : Int32) = (0 : Int32) then 7 else 10)) (L' := [.ref 2, mk0, mk0, mk0]) (S' := []) (h' := h) rfl ?_
    refine Wp.br (fun hc => absurd hc (by decide)) (fun _ => ?_)
    refine Wp.blk (by decide) ol_101 5 1 (pc' := 11) (L' := [.ref 2, mk0, mk0, mk0]) (S' := [.ref 2]) (h' := h) rfl ?_
    refine Wp.getf (op_ix (by decide) ol_101 6 rfl) (okS HS 2 rfl rfl) (v := .ref 15) (congrArg va_rf (rS HS 2 4 rfl)) rfl ?_
    refine Wp.blk (by decide) ol_101 7 1 (pc' := 15) (L' := [.ref 2, mk0, mk0, mk0]) (S' := [.ref 2, .ref 15]) (h' := h) rfl ?_
    refine Wp.getf (op_ix (by decide) ol_101 8 rfl) (okS HS 2 rfl rfl) (v := .ref 11) (congrArg va_rf (rS HS 2 2 rfl)) rfl ?_
    refine Wp.callV (op_ix (by decide) ol_101 9 rfl) (act_virt (c2 := 1) rfl (lk1 (kS HS 15 rfl)) rfl) rfl (K.mono ?_)
    rintro _ h2 ⟨rfl, hs3, K⟩
    refine ⟨rfl, ?_⟩
    refine Wp.blk (by decide) ol_101 10 1 (pc' := 22) (L' := [.ref 2, mk0, mk0, mk0]) (S' := [.ref 2]) (h' := h2) rfl ?_
    refine Wp.getf (op_ix (by decide) ol_101 11 rfl) (okS hs3 2 rfl rfl) (v := .ref 15) (congrArg va_rf (rS hs3 2 4 rfl)) rfl ?_
    refine Wp.callV (op_ix (by decide) ol_101 12 rfl) (act_virt (c2 := 0) rfl (lk1 (kS hs3 15 rfl)) rfl) rfl (K.mono ?_)
    rintro _ h4 ⟨rfl, hs5, K⟩
    refine ⟨rfl, ?_⟩
    refine Wp.blk (by decide) ol_101 13 2 (pc' := 30) (L' := [.ref 2, .int (0 : Int32), mk0, mk0]) (S' := []) (h' := h4) rfl ?_
    exact K
  · replace K := K.2 c1
    refine Wp.blk (by decide) ol_115 6 1 (pc' := 15) (L' := [.ref 2]) (S' := [.int (0 : Int32)]) (h' := h) rfl ?_
    refine Wp.ret (op_ix (by decide) ol_115 7 rfl) rfl ⟨_, rfl, ?_⟩
    refine Wp.blk (by decide) ol_101 2 1 (pc' := (if (0 : Int32) = (0 : Int32) then 7 else 10)) (L' := [.ref 2, mk0, mk0, mk0]) (S' := []) (h' := h) rfl ?_
    refine Wp.br (fun _ => ?_) (fun hc => absurd (by decide) hc)
    refine Wp.blk (by decide) ol_101 3 1 (pc' := 9) (L' := [.ref 2, mk0, mk0, mk0]) (S' := [.int (-103 : Int32)]) (h' := h) rfl ?_
    exact Wp.ret (op_ix (by decide) ol_101 4 rfl) rfl K
/-- CutsOrFast.lost at 30 -/
theorem g101_30 (d : Nat) (v1 : Int32) (h : AH) (HS : Sh h)  (Q : Option Value → AH → Prop) (K : ((v1 < (AI h 11 2) → (Cl d 58 [.ref 17, .int (AI h 15 3), .int (AI h 15 4), .int (AI h 15 5)] h (fun r h2 => ∃ x4 : Int32, r = some (.int x4) ∧ Sh h2 ∧ ((x4 = (AI h 15 5) → Wp (d + 1) 101 80 [.ref 2, .int v1, .int (AI h 15 5), mk0] [.int (1 : Int32)] h2 Q) ∧ (¬ x4 = (AI h 15 5) → Wp (d + 1) 101 80 [.ref 2, .int v1, .int (AI h 15 5), mk0] [.int (0 : Int32)] h2 Q))))) ∧ (¬ v1 < (AI h 11 2) → Q (some (.int (-1 : Int32))) h))) : Wp (d + 1) 101 30 [.ref 2, .int v1, mk0, mk0] [] h Q := by
  refine Wp.blk (by decide) ol_101 15 2 (pc' := 32) (L' := [.ref 2, .int v1, mk0, mk0]) (S' := [.ref 2, .int v1]) (h' := h) rfl ?_
  refine Wp.getf (op_ix (by decide) ol_101 17 rfl) (okS HS 2 rfl rfl) (v := .ref 11) (congrArg va_rf (rS HS 2 2 rfl)) rfl ?_
  refine Wp.callI (op_ix (by decide) ol_101 18 rfl) (act_virt (c2 := 0) rfl (lk1 (kS HS 11 rfl)) rfl) rfl (Cl.enter (L := [.ref 11]) rfl ?_)
  refine Wp.blk (by decide) ol_80 0 1 (pc' := 1) (L' := [.ref 11]) (S' := [.ref 11]) (h' := h) rfl ?_
  refine Wp.getf (op_ix (by decide) ol_80 1 rfl) (okS HS 11 rfl rfl) (v := .int (AI h 11 2)) rfl rfl ?_
  refine Wp.ret (op_ix (by decide) ol_80 2 rfl) rfl ⟨_, rfl, ?_⟩
  refine Wp.blk (by decide) ol_101 19 1 (pc' := (if v1 < (AI h 11 2) then 41 else 140)) (L' := [.ref 2, .int v1, mk0, mk0]) (S' := []) (h' := h) rfl ?_
  refine Wp.br (fun c1 => ?_) (fun c1 => ?_)
  · replace K := K.1 c1
    refine Wp.blk (by decide) ol_101 20 1 (pc' := 42) (L' := [.ref 2, .int v1, mk0, mk0]) (S' := [.ref 2]) (h' := h) rfl ?_
    refine Wp.getf (op_ix (by decide) ol_101 21 rfl) (okS HS 2 rfl rfl) (v := .ref 15) (congrArg va_rf (rS HS 2 4 rfl)) rfl ?_
    refine Wp.callI (op_ix (by decide) ol_101 22 rfl) (act_virt (c2 := 0) rfl (lk1 (kS HS 15 rfl)) rfl) rfl (Cl.enter (L := [.ref 15]) rfl ?_)
    refine Wp.blk (by decide) ol_82 0 1 (pc' := 1) (L' := [.ref 15]) (S' := [.ref 15]) (h' := h) rfl ?_
    refine Wp.getf (op_ix (by decide) ol_82 1 rfl) (okS HS 15 rfl rfl) (v := .int (AI h 15 5)) rfl rfl ?_
    refine Wp.ret (op_ix (by decide) ol_82 2 rfl) rfl ⟨_, rfl, ?_⟩
    refine Wp.blk (by decide) ol_101 23 2 (pc' := 50) (L' := [.ref 2, .int v1, .int (AI h 15 5), mk0]) (S' := [.ref 2]) (h' := h) rfl ?_
    refine Wp.getf (op_ix (by decide) ol_101 25 rfl) (okS HS 2 rfl rfl) (v := .ref 17) (congrArg va_rf (rS HS 2 5 rfl)) rfl ?_
    refine Wp.blk (by decide) ol_101 26 1 (pc' := 54) (L' := [.ref 2, .int v1, .int (AI h 15 5), mk0]) (S' := [.ref 2, .ref 17]) (h' := h) rfl ?_
    refine Wp.getf (op_ix (by decide) ol_101 27 rfl) (okS HS 2 rfl rfl) (v := .ref 15) (congrArg va_rf (rS HS 2 4 rfl)) rfl ?_
    refine Wp.callI (op_ix (by decide) ol_101 28 rfl) (act_virt (c2 := 0) rfl (lk1 (kS HS 15 rfl)) rfl) rfl (Cl.enter (L := [.ref 15]) rfl ?_)
    refine Wp.blk (by decide) ol_84 0 1 (pc' := 1) (L' := [.ref 15]) (S' := [.ref 15]) (h' := h) rfl ?_
    refine Wp.getf (op_ix (by decide) ol_84 1 rfl) (okS HS 15 rfl rfl) (v := .int (AI h 15 3)) rfl rfl ?_
    refine Wp.ret (op_ix (by decide) ol_84 2 rfl) rfl ⟨_, rfl, ?_⟩
    refine Wp.blk (by decide) ol_101 29 1 (pc' := 61) (L' := [.ref 2, .int v1, .int (AI h 15 5), mk0]) (S' := [.ref 2, .int (AI h 15 3), .ref 17]) (h' := h) rfl ?_
    refine Wp.getf (op_ix (by decide) ol_101 30 rfl) (okS HS 2 rfl rfl) (v := .ref 15) (congrArg va_rf (rS HS 2 4 rfl)) rfl ?_
    refine Wp.callI (op_ix (by decide) ol_101 31 rfl) (act_virt (c2 := 0) rfl (lk1 (kS HS 15 rfl)) rfl) rfl (Cl.enter (L := [.ref 15]) rfl ?_)
    refine Wp.blk (by decide) ol_85 0 1 (pc' := 1) (L' := [.ref 15]) (S' := [.ref 15]) (h' := h) rfl ?_
    refine Wp.getf (op_ix (by decide) ol_85 1 rfl) (okS HS 15 rfl rfl) (v := .int (AI h 15 4)) rfl rfl ?_
    refine Wp.ret (op_ix (by decide) ol_85 2 rfl) rfl ⟨_, rfl, ?_⟩
    refine Wp.blk (by decide) ol_101 32 1 (pc' := 68) (L' := [.ref 2, .int v1, .int (AI h 15 5), mk0]) (S' := [.int (AI h 15 5), .int (AI h 15 4), .int (AI h 15 3), .ref 17]) (h' := h) rfl ?_
    refine Wp.callI (op_ix (by decide) ol_101 33 rfl) (act_virt (c2 := 3) rfl (lk1 (kS HS 17 rfl)) rfl) rfl (K.mono ?_)
    rintro _ h2 ⟨x4, rfl, hs3, K⟩
    refine ⟨x4, rfl, ?_⟩
    refine Wp.blk (by decide) ol_101 34 2 (pc' := (if x4 = (AI h 15 5) then 75 else 79)) (L' := [.ref 2, .int v1, .int (AI h 15 5), mk0]) (S' := []) (h' := h2) rfl ?_
    refine Wp.br (fun c5 => ?_) (fun c5 => ?_)
    · replace K := K.1 c5
      refine Wp.blk (by decide) ol_101 36 2 (pc' := 80) (L' := [.ref 2, .int v1, .int (AI h 15 5), mk0]) (S' := [.int (1 : Int32)]) (h' := h2) rfl ?_
      exact K
    · replace K := K.2 c5
      refine Wp.blk (by decide) ol_101 38 1 (pc' := 80) (L' := [.ref 2, .int v1, .int (AI h 15 5), mk0]) (S' := [.int (0 : Int32)]) (h' := h2) rfl ?_
      exact K
  · replace K := K.2 c1
    refine Wp.blk (by decide) ol_101 67 1 (pc' := 141) (L' := [.ref 2, .int v1, mk0, mk0]) (S' := [.int (-1 : Int32)]) (h' := h) rfl ?_
    exact Wp.ret (op_ix (by decide) ol_101 68 rfl) rfl K
/-- CutsOrFast.lost at 80 -/
theorem g101_80 (d : Nat) (v1 : Int32) (v2 : Int32) (s0 : Int32) (h : AH) (HS : Sh h)  (Q : Option Value → AH → Prop) (K : (Cl (d + 1) 74 [.ref 15, .int (atv h 12 v1)] h (fun r h1 => r = none ∧ Sh h1 ∧ ((s0 = (0 : Int32) → Wp (d + 2) 101 30 [.ref 2, .int (v1 + (1 : Int32)), mk0, mk0] [] h1 Q) ∧ (¬ s0 = (0 : Int32) → (Cl (d + 1) 58 [.ref 17, .int (AI h1 15 3), .int (AI h1 15 4), .int (AI h1 15 5)] h1 (fun r h4 => ∃ x6 : Int32, r = some (.int x6) ∧ Sh h4 ∧ ((x6 = v2 → Wp (d + 2) 101 30 [.ref 2, .int (v1 + (1 : Int32)), mk0, mk0] [] h4 Q) ∧ (¬ x6 = v2 → Q (some (.int v1)) h4))))))))) : Wp (d + 2) 101 80 [.ref 2, .int v1, .int v2, mk0] [.int s0] h Q := by
  refine Wp.blk (by decide) ol_101 39 2 (pc' := 82) (L' := [.ref 2, .int v1, .int v2, .int s0]) (S' := [.ref 2]) (h' := h) rfl ?_
  refine Wp.getf (op_ix (by decide) ol_101 41 rfl) (okS HS 2 rfl rfl) (v := .ref 15) (congrArg va_rf (rS HS 2 4 rfl)) rfl ?_
  refine Wp.blk (by decide) ol_101 42 1 (pc' := 86) (L' := [.ref 2, .int v1, .int v2, .int s0]) (S' := [.ref 2, .ref 15]) (h' := h) rfl ?_
  refine Wp.getf (op_ix (by decide) ol_101 43 rfl) (okS HS 2 rfl rfl) (v := .ref 11) (congrArg va_rf (rS HS 2 2 rfl)) rfl ?_
  refine Wp.blk (by decide) ol_101 44 1 (pc' := 90) (L' := [.ref 2, .int v1, .int v2, .int s0]) (S' := [.int v1, .ref 11, .ref 15]) (h' := h) rfl ?_
  refine Wp.callI (op_ix (by decide) ol_101 45 rfl) (act_virt (c2 := 1) rfl (lk1 (kS HS 11 rfl)) rfl) rfl (Cl.enter (L := [.ref 11, .int v1]) rfl ?_)
  refine Wp.blk (by decide) ol_81 0 1 (pc' := 1) (L' := [.ref 11, .int v1]) (S' := [.ref 11]) (h' := h) rfl ?_
  refine Wp.getf (op_ix (by decide) ol_81 1 rfl) (okS HS 11 rfl rfl) (v := .ref 12) (congrArg va_rf (rS HS 11 1 rfl)) rfl ?_
  refine Wp.blk (by decide) ol_81 2 1 (pc' := 5) (L' := [.ref 11, .int v1]) (S' := [.int v1, .ref 12]) (h' := h) rfl ?_
  refine Wp.callI (op_ix (by decide) ol_81 3 rfl) rfl rfl (sp_at (kS HS 12 rfl) (nS HS 12 rfl) ?_)
  refine ⟨_, rfl, ?_⟩
  refine Wp.ret (op_ix (by decide) ol_81 4 rfl) rfl ⟨_, rfl, ?_⟩
  refine Wp.callV (op_ix (by decide) ol_101 46 rfl) (act_virt (c2 := 1) rfl (lk1 (kS HS 15 rfl)) rfl) rfl (K.mono ?_)
  rintro _ h1 ⟨rfl, hs2, K⟩
  refine ⟨rfl, ?_⟩
  refine Wp.blk (by decide) ol_101 47 2 (pc' := (if s0 = (0 : Int32) then 134 else 100)) (L' := [.ref 2, .int v1, .int v2, .int s0]) (S' := []) (h' := h1) rfl ?_
  refine Wp.br (fun c3 => ?_) (fun c3 => ?_)
  · replace K := K.1 c3
    refine Wp.blk (by decide) ol_101 65 2 (pc' := 30) (L' := [.ref 2, .int (v1 + (1 : Int32)), .int v2, .int s0]) (S' := []) (h' := h1) rfl ?_
    refine Wp.forget (L := [.ref 2, .int (v1 + (1 : Int32)), mk0, mk0]) (⟨Or.inr rfl, ⟨Or.inr rfl, ⟨Or.inl rfl, ⟨Or.inl rfl, trivial⟩⟩⟩⟩) ?_
    exact K
  · replace K := K.2 c3
    refine Wp.blk (by decide) ol_101 49 1 (pc' := 101) (L' := [.ref 2, .int v1, .int v2, .int s0]) (S' := [.ref 2]) (h' := h1) rfl ?_
    refine Wp.getf (op_ix (by decide) ol_101 50 rfl) (okS hs2 2 rfl rfl) (v := .ref 17) (congrArg va_rf (rS hs2 2 5 rfl)) rfl ?_
    refine Wp.blk (by decide) ol_101 51 1 (pc' := 105) (L' := [.ref 2, .int v1, .int v2, .int s0]) (S' := [.ref 2, .ref 17]) (h' := h1) rfl ?_
    refine Wp.getf (op_ix (by decide) ol_101 52 rfl) (okS hs2 2 rfl rfl) (v := .ref 15) (congrArg va_rf (rS hs2 2 4 rfl)) rfl ?_
    refine Wp.callI (op_ix (by decide) ol_101 53 rfl) (act_virt (c2 := 0) rfl (lk1 (kS hs2 15 rfl)) rfl) rfl (Cl.enter (L := [.ref 15]) rfl ?_)
    refine Wp.blk (by decide) ol_84 0 1 (pc' := 1) (L' := [.ref 15]) (S' := [.ref 15]) (h' := h1) rfl ?_
    refine Wp.getf (op_ix (by decide) ol_84 1 rfl) (okS hs2 15 rfl rfl) (v := .int (AI h1 15 3)) rfl rfl ?_
    refine Wp.ret (op_ix (by decide) ol_84 2 rfl) rfl ⟨_, rfl, ?_⟩
    refine Wp.blk (by decide) ol_101 54 1 (pc' := 112) (L' := [.ref 2, .int v1, .int v2, .int s0]) (S' := [.ref 2, .int (AI h1 15 3), .ref 17]) (h' := h1) rfl ?_
    refine Wp.getf (op_ix (by decide) ol_101 55 rfl) (okS hs2 2 rfl rfl) (v := .ref 15) (congrArg va_rf (rS hs2 2 4 rfl)) rfl ?_
    refine Wp.callI (op_ix (by decide) ol_101 56 rfl) (act_virt (c2 := 0) rfl (lk1 (kS hs2 15 rfl)) rfl) rfl (Cl.enter (L := [.ref 15]) rfl ?_)
    refine Wp.blk (by decide) ol_85 0 1 (pc' := 1) (L' := [.ref 15]) (S' := [.ref 15]) (h' := h1) rfl ?_
    refine Wp.getf (op_ix (by decide) ol_85 1 rfl) (okS hs2 15 rfl rfl) (v := .int (AI h1 15 4)) rfl rfl ?_
    refine Wp.ret (op_ix (by decide) ol_85 2 rfl) rfl ⟨_, rfl, ?_⟩
    refine Wp.blk (by decide) ol_101 57 1 (pc' := 119) (L' := [.ref 2, .int v1, .int v2, .int s0]) (S' := [.ref 2, .int (AI h1 15 4), .int (AI h1 15 3), .ref 17]) (h' := h1) rfl ?_
    refine Wp.getf (op_ix (by decide) ol_101 58 rfl) (okS hs2 2 rfl rfl) (v := .ref 15) (congrArg va_rf (rS hs2 2 4 rfl)) rfl ?_
    refine Wp.callI (op_ix (by decide) ol_101 59 rfl) (act_virt (c2 := 0) rfl (lk1 (kS hs2 15 rfl)) rfl) rfl (Cl.enter (L := [.ref 15]) rfl ?_)
    refine Wp.blk (by decide) ol_82 0 1 (pc' := 1) (L' := [.ref 15]) (S' := [.ref 15]) (h' := h1) rfl ?_
    refine Wp.getf (op_ix (by decide) ol_82 1 rfl) (okS hs2 15 rfl rfl) (v := .int (AI h1 15 5)) rfl rfl ?_
    refine Wp.ret (op_ix (by decide) ol_82 2 rfl) rfl ⟨_, rfl, ?_⟩
    refine Wp.callI (op_ix (by decide) ol_101 60 rfl) (act_virt (c2 := 3) rfl (lk1 (kS hs2 17 rfl)) rfl) rfl (K.mono ?_)
    rintro _ h4 ⟨x6, rfl, hs5, K⟩
    refine ⟨x6, rfl, ?_⟩
    refine Wp.blk (by decide) ol_101 61 2 (pc' := (if x6 = v2 then 134 else 132)) (L' := [.ref 2, .int v1, .int v2, .int s0]) (S' := []) (h' := h4) rfl ?_
    refine Wp.br (fun c7 => ?_) (fun c7 => ?_)
    · replace K := K.1 c7
      refine Wp.blk (by decide) ol_101 65 2 (pc' := 30) (L' := [.ref 2, .int (v1 + (1 : Int32)), .int v2, .int s0]) (S' := []) (h' := h4) rfl ?_
      refine Wp.forget (L := [.ref 2, .int (v1 + (1 : Int32)), mk0, mk0]) (⟨Or.inr rfl, ⟨Or.inr rfl, ⟨Or.inl rfl, ⟨Or.inl rfl, trivial⟩⟩⟩⟩) ?_
      exact K
    · replace K := K.2 c7
      refine Wp.blk (by decide) ol_101 63 1 (pc' := 133) (L' := [.ref 2, .int v1, .int v2, .int s0]) (S' := [.int v1]) (h' := h4) rfl ?_
      exact Wp.ret (op_ix (by decide) ol_101 64 rfl) rfl K
/-- CutsOrFast.count at 0 (I)I -/
theorem g113_0 (d : Nat) (v1 : Int32) (h : AH) (HS : Sh h)  (Q : Option Value → AH → Prop) (K : ((v1 = Int32.ofNat 0 → Q (some (.int (AI h 5 5))) h) ∧ (¬ v1 = Int32.ofNat 0 → ((v1 = Int32.ofNat 1 → (Cl (d + 1) 199 [.int (((((((((1 : Int32)) <<< (((AI h 5 5)) &&& 31))) - ((1 : Int32)))) &&& ((((AI h 11 3)) ^^^ ((-1 : Int32)))))) &&& ((((AI h 11 4)) ^^^ ((-1 : Int32)))))] h (fun r h3 => ∃ x5 : Int32, r = some (.int x5) ∧ Sh h3 ∧ Q (some (.int x5)) h3))) ∧ (¬ v1 = Int32.ofNat 1 → ((v1 = Int32.ofNat 2 → (Cl (d + 1) 199 [.int (AI h 11 3)] h (fun r h7 => ∃ x9 : Int32, r = some (.int x9) ∧ Sh h7 ∧ Q (some (.int x9)) h7))) ∧ (¬ v1 = Int32.ofNat 2 → ((v1 = Int32.ofNat 3 → (Cl (d + 1) 199 [.int (AI h 11 4)] h (fun r h11 => ∃ x13 : Int32, r = some (.int x13) ∧ Sh h11 ∧ Q (some (.int x13)) h11))) ∧ (¬ v1 = Int32.ofNat 3 → ((v1 = Int32.ofNat 4 → Q (some (.int (AI h 11 2))) h) ∧ (¬ v1 = Int32.ofNat 4 → ((v1 = Int32.ofNat 5 → Q (some (.int (AI h 11 5))) h) ∧ (¬ v1 = Int32.ofNat 5 → ((v1 = Int32.ofNat 6 → Q (some (.int (AI h 2 9))) h) ∧ (¬ v1 = Int32.ofNat 6 → ((v1 = Int32.ofNat 7 → Q (some (.int (AI h 3 1))) h) ∧ (¬ v1 = Int32.ofNat 7 → ((v1 = Int32.ofNat 8 → Q (some (.int (AI h 2 10))) h) ∧ (¬ v1 = Int32.ofNat 8 → ((v1 = Int32.ofNat 9 → Q (some (.int (AI h 2 11))) h) ∧ (¬ v1 = Int32.ofNat 9 → Q (some (.int (-102 : Int32))) h))))))))))))))))))))) : Wp (d + 2) 113 0 [.ref 2, .int v1] [] h Q := by
  refine Wp.blk (by decide) ol_113 0 2 (pc' := (tsw v1 [(0, 56), (1, 64), (2, 75), (3, 86), (4, 97), (5, 105), (6, 113), (7, 118), (8, 126), (9, 131)] 136)) (L' := [.ref 2, .int v1]) (S' := []) (h' := h) rfl ?_
  refine Wp.tsw (fun c1 => ?_) (fun c1 => ?_)
  · replace K := K.1 c1
    refine Wp.blk (by decide) ol_113 2 1 (pc' := 57) (L' := [.ref 2, .int v1]) (S' := [.ref 2]) (h' := h) rfl ?_
    refine Wp.getf (op_ix (by decide) ol_113 3 rfl) (okS HS 2 rfl rfl) (v := .ref 5) (congrArg va_rf (rS HS 2 1 rfl)) rfl ?_
    refine Wp.callI (op_ix (by decide) ol_113 4 rfl) (act_virt (c2 := 0) rfl (lk1 (kS HS 5 rfl)) rfl) rfl (Cl.enter (L := [.ref 5]) rfl ?_)
    refine Wp.blk (by decide) ol_26 0 1 (pc' := 1) (L' := [.ref 5]) (S' := [.ref 5]) (h' := h) rfl ?_
    refine Wp.getf (op_ix (by decide) ol_26 1 rfl) (okS HS 5 rfl rfl) (v := .int (AI h 5 5)) rfl rfl ?_
    refine Wp.ret (op_ix (by decide) ol_26 2 rfl) rfl ⟨_, rfl, ?_⟩
    exact Wp.ret (op_ix (by decide) ol_113 5 rfl) rfl K
  replace K := K.2 c1
  refine Wp.tsw (fun c2 => ?_) (fun c2 => ?_)
  · replace K := K.1 c2
    refine Wp.blk (by decide) ol_113 6 1 (pc' := 65) (L' := [.ref 2, .int v1]) (S' := [.ref 2]) (h' := h) rfl ?_
    refine Wp.getf (op_ix (by decide) ol_113 7 rfl) (okS HS 2 rfl rfl) (v := .ref 11) (congrArg va_rf (rS HS 2 2 rfl)) rfl ?_
    refine Wp.callI (op_ix (by decide) ol_113 8 rfl) (act_virt (c2 := 0) rfl (lk1 (kS HS 11 rfl)) rfl) rfl (Cl.enter (L := [.ref 11]) rfl ?_)
    refine Wp.blk (by decide) ol_86 0 1 (pc' := 1) (L' := [.ref 11]) (S' := [.ref 11]) (h' := h) rfl ?_
    refine Wp.getf (op_ix (by decide) ol_86 1 rfl) (okS HS 11 rfl rfl) (v := .ref 5) (congrArg va_rf (rS HS 11 0 rfl)) rfl ?_
    refine Wp.callI (op_ix (by decide) ol_86 2 rfl) (act_virt (c2 := 0) rfl (lk1 (kS HS 5 rfl)) rfl) rfl (Cl.enter (L := [.ref 5]) rfl ?_)
    refine Wp.blk (by decide) ol_27 0 2 (pc' := 2) (L' := [.ref 5]) (S' := [.ref 5, .int (1 : Int32)]) (h' := h) rfl ?_
    refine Wp.getf (op_ix (by decide) ol_27 2 rfl) (okS HS 5 rfl rfl) (v := .int (AI h 5 5)) rfl rfl ?_
    refine Wp.blk (by decide) ol_27 3 3 (pc' := 8) (L' := [.ref 5]) (S' := [.int (((((1 : Int32)) <<< (((AI h 5 5)) &&& 31))) - ((1 : Int32)))]) (h' := h) rfl ?_
    refine Wp.ret (op_ix (by decide) ol_27 6 rfl) rfl ⟨_, rfl, ?_⟩
    refine Wp.blk (by decide) ol_86 3 1 (pc' := 8) (L' := [.ref 11]) (S' := [.ref 11, .int (((((1 : Int32)) <<< (((AI h 5 5)) &&& 31))) - ((1 : Int32)))]) (h' := h) rfl ?_
    refine Wp.getf (op_ix (by decide) ol_86 4 rfl) (okS HS 11 rfl rfl) (v := .int (AI h 11 3)) rfl rfl ?_
    refine Wp.blk (by decide) ol_86 5 4 (pc' := 15) (L' := [.ref 11]) (S' := [.ref 11, .int (((((((1 : Int32)) <<< (((AI h 5 5)) &&& 31))) - ((1 : Int32)))) &&& ((((AI h 11 3)) ^^^ ((-1 : Int32)))))]) (h' := h) rfl ?_
    refine Wp.getf (op_ix (by decide) ol_86 9 rfl) (okS HS 11 rfl rfl) (v := .int (AI h 11 4)) rfl rfl ?_
    refine Wp.blk (by decide) ol_86 10 3 (pc' := 21) (L' := [.ref 11]) (S' := [.int (((((((((1 : Int32)) <<< (((AI h 5 5)) &&& 31))) - ((1 : Int32)))) &&& ((((AI h 11 3)) ^^^ ((-1 : Int32)))))) &&& ((((AI h 11 4)) ^^^ ((-1 : Int32)))))]) (h' := h) rfl ?_
    refine Wp.ret (op_ix (by decide) ol_86 13 rfl) rfl ⟨_, rfl, ?_⟩
    refine Wp.callI (op_ix (by decide) ol_113 9 rfl) rfl rfl (K.mono ?_)
    rintro _ h3 ⟨x5, rfl, hs4, K⟩
    refine ⟨x5, rfl, ?_⟩
    exact Wp.ret (op_ix (by decide) ol_113 10 rfl) rfl K
  replace K := K.2 c2
  refine Wp.tsw (fun c6 => ?_) (fun c6 => ?_)
  · replace K := K.1 c6
    refine Wp.blk (by decide) ol_113 11 1 (pc' := 76) (L' := [.ref 2, .int v1]) (S' := [.ref 2]) (h' := h) rfl ?_
    refine Wp.getf (op_ix (by decide) ol_113 12 rfl) (okS HS 2 rfl rfl) (v := .ref 11) (congrArg va_rf (rS HS 2 2 rfl)) rfl ?_
    refine Wp.callI (op_ix (by decide) ol_113 13 rfl) (act_virt (c2 := 0) rfl (lk1 (kS HS 11 rfl)) rfl) rfl (Cl.enter (L := [.ref 11]) rfl ?_)
    refine Wp.blk (by decide) ol_84 0 1 (pc' := 1) (L' := [.ref 11]) (S' := [.ref 11]) (h' := h) rfl ?_
    refine Wp.getf (op_ix (by decide) ol_84 1 rfl) (okS HS 11 rfl rfl) (v := .int (AI h 11 3)) rfl rfl ?_
    refine Wp.ret (op_ix (by decide) ol_84 2 rfl) rfl ⟨_, rfl, ?_⟩
    refine Wp.callI (op_ix (by decide) ol_113 14 rfl) rfl rfl (K.mono ?_)
    rintro _ h7 ⟨x9, rfl, hs8, K⟩
    refine ⟨x9, rfl, ?_⟩
    exact Wp.ret (op_ix (by decide) ol_113 15 rfl) rfl K
  replace K := K.2 c6
  refine Wp.tsw (fun c10 => ?_) (fun c10 => ?_)
  · replace K := K.1 c10
    refine Wp.blk (by decide) ol_113 16 1 (pc' := 87) (L' := [.ref 2, .int v1]) (S' := [.ref 2]) (h' := h) rfl ?_
    refine Wp.getf (op_ix (by decide) ol_113 17 rfl) (okS HS 2 rfl rfl) (v := .ref 11) (congrArg va_rf (rS HS 2 2 rfl)) rfl ?_
    refine Wp.callI (op_ix (by decide) ol_113 18 rfl) (act_virt (c2 := 0) rfl (lk1 (kS HS 11 rfl)) rfl) rfl (Cl.enter (L := [.ref 11]) rfl ?_)
    refine Wp.blk (by decide) ol_85 0 1 (pc' := 1) (L' := [.ref 11]) (S' := [.ref 11]) (h' := h) rfl ?_
    refine Wp.getf (op_ix (by decide) ol_85 1 rfl) (okS HS 11 rfl rfl) (v := .int (AI h 11 4)) rfl rfl ?_
    refine Wp.ret (op_ix (by decide) ol_85 2 rfl) rfl ⟨_, rfl, ?_⟩
    refine Wp.callI (op_ix (by decide) ol_113 19 rfl) rfl rfl (K.mono ?_)
    rintro _ h11 ⟨x13, rfl, hs12, K⟩
    refine ⟨x13, rfl, ?_⟩
    exact Wp.ret (op_ix (by decide) ol_113 20 rfl) rfl K
  replace K := K.2 c10
  refine Wp.tsw (fun c14 => ?_) (fun c14 => ?_)
  · replace K := K.1 c14
    refine Wp.blk (by decide) ol_113 21 1 (pc' := 98) (L' := [.ref 2, .int v1]) (S' := [.ref 2]) (h' := h) rfl ?_
    refine Wp.getf (op_ix (by decide) ol_113 22 rfl) (okS HS 2 rfl rfl) (v := .ref 11) (congrArg va_rf (rS HS 2 2 rfl)) rfl ?_
    refine Wp.callI (op_ix (by decide) ol_113 23 rfl) (act_virt (c2 := 0) rfl (lk1 (kS HS 11 rfl)) rfl) rfl (Cl.enter (L := [.ref 11]) rfl ?_)
    refine Wp.blk (by decide) ol_80 0 1 (pc' := 1) (L' := [.ref 11]) (S' := [.ref 11]) (h' := h) rfl ?_
    refine Wp.getf (op_ix (by decide) ol_80 1 rfl) (okS HS 11 rfl rfl) (v := .int (AI h 11 2)) rfl rfl ?_
    refine Wp.ret (op_ix (by decide) ol_80 2 rfl) rfl ⟨_, rfl, ?_⟩
    exact Wp.ret (op_ix (by decide) ol_113 24 rfl) rfl K
  replace K := K.2 c14
  refine Wp.tsw (fun c15 => ?_) (fun c15 => ?_)
  · replace K := K.1 c15
    refine Wp.blk (by decide) ol_113 25 1 (pc' := 106) (L' := [.ref 2, .int v1]) (S' := [.ref 2]) (h' := h) rfl ?_
    refine Wp.getf (op_ix (by decide) ol_113 26 rfl) (okS HS 2 rfl rfl) (v := .ref 11) (congrArg va_rf (rS HS 2 2 rfl)) rfl ?_
    refine Wp.callI (op_ix (by decide) ol_113 27 rfl) (act_virt (c2 := 0) rfl (lk1 (kS HS 11 rfl)) rfl) rfl (Cl.enter (L := [.ref 11]) rfl ?_)
    refine Wp.blk (by decide) ol_82 0 1 (pc' := 1) (L' := [.ref 11]) (S' := [.ref 11]) (h' := h) rfl ?_
    refine Wp.getf (op_ix (by decide) ol_82 1 rfl) (okS HS 11 rfl rfl) (v := .int (AI h 11 5)) rfl rfl ?_
    refine Wp.ret (op_ix (by decide) ol_82 2 rfl) rfl ⟨_, rfl, ?_⟩
    exact Wp.ret (op_ix (by decide) ol_113 28 rfl) rfl K
  replace K := K.2 c15
  refine Wp.tsw (fun c16 => ?_) (fun c16 => ?_)
  · replace K := K.1 c16
    refine Wp.blk (by decide) ol_113 29 1 (pc' := 114) (L' := [.ref 2, .int v1]) (S' := [.ref 2]) (h' := h) rfl ?_
    refine Wp.getf (op_ix (by decide) ol_113 30 rfl) (okS HS 2 rfl rfl) (v := .int (AI h 2 9)) rfl rfl ?_
    exact Wp.ret (op_ix (by decide) ol_113 31 rfl) rfl K
  replace K := K.2 c16
  refine Wp.tsw (fun c17 => ?_) (fun c17 => ?_)
  · replace K := K.1 c17
    refine Wp.blk (by decide) ol_113 32 1 (pc' := 119) (L' := [.ref 2, .int v1]) (S' := [.ref 2]) (h' := h) rfl ?_
    refine Wp.getf (op_ix (by decide) ol_113 33 rfl) (okS HS 2 rfl rfl) (v := .ref 3) (congrArg va_rf (rS HS 2 0 rfl)) rfl ?_
    refine Wp.callI (op_ix (by decide) ol_113 34 rfl) (act_virt (c2 := 0) rfl (lk1 (kS HS 3 rfl)) rfl) rfl (Cl.enter (L := [.ref 3]) rfl ?_)
    refine Wp.blk (by decide) ol_39 0 1 (pc' := 1) (L' := [.ref 3]) (S' := [.ref 3]) (h' := h) rfl ?_
    refine Wp.getf (op_ix (by decide) ol_39 1 rfl) (okS HS 3 rfl rfl) (v := .int (AI h 3 1)) rfl rfl ?_
    refine Wp.ret (op_ix (by decide) ol_39 2 rfl) rfl ⟨_, rfl, ?_⟩
    exact Wp.ret (op_ix (by decide) ol_113 35 rfl) rfl K
  replace K := K.2 c17
  refine Wp.tsw (fun c18 => ?_) (fun c18 => ?_)
  · replace K := K.1 c18
    refine Wp.blk (by decide) ol_113 36 1 (pc' := 127) (L' := [.ref 2, .int v1]) (S' := [.ref 2]) (h' := h) rfl ?_
    refine Wp.getf (op_ix (by decide) ol_113 37 rfl) (okS HS 2 rfl rfl) (v := .int (AI h 2 10)) rfl rfl ?_
    exact Wp.ret (op_ix (by decide) ol_113 38 rfl) rfl K
  replace K := K.2 c18
  refine Wp.tsw (fun c19 => ?_) (fun c19 => ?_)
  · replace K := K.1 c19
    refine Wp.blk (by decide) ol_113 39 1 (pc' := 132) (L' := [.ref 2, .int v1]) (S' := [.ref 2]) (h' := h) rfl ?_
    refine Wp.getf (op_ix (by decide) ol_113 40 rfl) (okS HS 2 rfl rfl) (v := .int (AI h 2 11)) rfl rfl ?_
    exact Wp.ret (op_ix (by decide) ol_113 41 rfl) rfl K
  replace K := K.2 c19
  unfold tsw
  refine Wp.blk (by decide) ol_113 42 1 (pc' := 138) (L' := [.ref 2, .int v1]) (S' := [.int (-102 : Int32)]) (h' := h) rfl ?_
  exact Wp.ret (op_ix (by decide) ol_113 43 rfl) rfl K
/-- CutsOrFast.hasNet at 0 ()Z -/
theorem g115_0 (d : Nat)  (h : AH) (HS : Sh h)  (Q : Option Value → AH → Prop) (K : (((0 : Int32) < (AI h 5 5) → Q (some (.int (1 : Int32))) h) ∧ (¬ (0 : Int32) < (AI h 5 5) → Q (some (.int (0 : Int32))) h))) : Wp (d + 1) 115 0 [.ref 2] [] h Q := by
  refine Wp.blk (by decide) ol_115 0 1 (pc' := 1) (L' := [.ref 2]) (S' := [.ref 2]) (h' := h) rfl ?_
  refine Wp.getf (op_ix (by decide) ol_115 1 rfl) (okS HS 2 rfl rfl) (v := .ref 5) (congrArg va_rf (rS HS 2 1 rfl)) rfl ?_
  refine Wp.callI (op_ix (by decide) ol_115 2 rfl) (act_virt (c2 := 0) rfl (lk1 (kS HS 5 rfl)) rfl) rfl (Cl.enter (L := [.ref 5]) rfl ?_)
  refine Wp.blk (by decide) ol_26 0 1 (pc' := 1) (L' := [.ref 5]) (S' := [.ref 5]) (h' := h) rfl ?_
  refine Wp.getf (op_ix (by decide) ol_26 1 rfl) (okS HS 5 rfl rfl) (v := .int (AI h 5 5)) rfl rfl ?_
  refine Wp.ret (op_ix (by decide) ol_26 2 rfl) rfl ⟨_, rfl, ?_⟩
  refine Wp.blk (by decide) ol_115 3 1 (pc' := (if (0 : Int32) < (AI h 5 5) then 10 else 14)) (L' := [.ref 2]) (S' := []) (h' := h) rfl ?_
  refine Wp.br (fun c1 => ?_) (fun c1 => ?_)
  · replace K := K.1 c1
    refine Wp.blk (by decide) ol_115 4 2 (pc' := 15) (L' := [.ref 2]) (S' := [.int (1 : Int32)]) (h' := h) rfl ?_
    exact Wp.ret (op_ix (by decide) ol_115 7 rfl) rfl K
  · replace K := K.2 c1
    refine Wp.blk (by decide) ol_115 6 1 (pc' := 15) (L' := [.ref 2]) (S' := [.int (0 : Int32)]) (h' := h) rfl ?_
    exact Wp.ret (op_ix (by decide) ol_115 7 rfl) rfl K
/-- CutsOrFast.isLane at 0 (I)Z -/
theorem g116_0 (d : Nat) (v1 : Int32) (h : AH) (HS : Sh h)  (Q : Option Value → AH → Prop) (K : ((v1 < (0 : Int32) → Q (some (.int (0 : Int32))) h) ∧ (¬ v1 < (0 : Int32) → ((v1 < (AI h 5 5) → Q (some (.int (1 : Int32))) h) ∧ (¬ v1 < (AI h 5 5) → Q (some (.int (0 : Int32))) h))))) : Wp (d + 1) 116 0 [.ref 2, .int v1] [] h Q := by
  refine Wp.blk (by decide) ol_116 0 2 (pc' := (if v1 < (0 : Int32) then 19 else 4)) (L' := [.ref 2, .int v1]) (S' := []) (h' := h) rfl ?_
  refine Wp.br (fun c1 => ?_) (fun c1 => ?_)
  · replace K := K.1 c1
    refine Wp.blk (by decide) ol_116 9 1 (pc' := 20) (L' := [.ref 2, .int v1]) (S' := [.int (0 : Int32)]) (h' := h) rfl ?_
    exact Wp.ret (op_ix (by decide) ol_116 10 rfl) rfl K
  · replace K := K.2 c1
    refine Wp.blk (by decide) ol_116 2 2 (pc' := 6) (L' := [.ref 2, .int v1]) (S' := [.ref 2, .int v1]) (h' := h) rfl ?_
    refine Wp.getf (op_ix (by decide) ol_116 4 rfl) (okS HS 2 rfl rfl) (v := .ref 5) (congrArg va_rf (rS HS 2 1 rfl)) rfl ?_
    refine Wp.callI (op_ix (by decide) ol_116 5 rfl) (act_virt (c2 := 0) rfl (lk1 (kS HS 5 rfl)) rfl) rfl (Cl.enter (L := [.ref 5]) rfl ?_)
    refine Wp.blk (by decide) ol_26 0 1 (pc' := 1) (L' := [.ref 5]) (S' := [.ref 5]) (h' := h) rfl ?_
    refine Wp.getf (op_ix (by decide) ol_26 1 rfl) (okS HS 5 rfl rfl) (v := .int (AI h 5 5)) rfl rfl ?_
    refine Wp.ret (op_ix (by decide) ol_26 2 rfl) rfl ⟨_, rfl, ?_⟩
    refine Wp.blk (by decide) ol_116 6 1 (pc' := (if v1 < (AI h 5 5) then 15 else 19)) (L' := [.ref 2, .int v1]) (S' := []) (h' := h) rfl ?_
    refine Wp.br (fun c2 => ?_) (fun c2 => ?_)
    · replace K := K.1 c2
      refine Wp.blk (by decide) ol_116 7 2 (pc' := 20) (L' := [.ref 2, .int v1]) (S' := [.int (1 : Int32)]) (h' := h) rfl ?_
      exact Wp.ret (op_ix (by decide) ol_116 10 rfl) rfl K
    · replace K := K.2 c2
      refine Wp.blk (by decide) ol_116 9 1 (pc' := 20) (L' := [.ref 2, .int v1]) (S' := [.int (0 : Int32)]) (h' := h) rfl ?_
      exact Wp.ret (op_ix (by decide) ol_116 10 rfl) rfl K
/-- CutsOrFast.isSide at 0 (I)Z -/
theorem g117_0 (d : Nat) (v0 : Int32) (h : AH) (HS : Sh h)  (Q : Option Value → AH → Prop) (K : ((v0 = (0 : Int32) → Q (some (.int (1 : Int32))) h) ∧ (¬ v0 = (0 : Int32) → ((v0 = (1 : Int32) → Q (some (.int (1 : Int32))) h) ∧ (¬ v0 = (1 : Int32) → Q (some (.int (0 : Int32))) h))))) : Wp d 117 0 [.int v0] [] h Q := by
  refine Wp.blk (by decide) ol_117 0 2 (pc' := (if v0 = (0 : Int32) then 9 else 4)) (L' := [.int v0]) (S' := []) (h' := h) rfl ?_
  refine Wp.br (fun c1 => ?_) (fun c1 => ?_)
  · replace K := K.1 c1
    refine Wp.blk (by decide) ol_117 5 2 (pc' := 14) (L' := [.int v0]) (S' := [.int (1 : Int32)]) (h' := h) rfl ?_
    exact Wp.ret (op_ix (by decide) ol_117 8 rfl) rfl K
  · replace K := K.2 c1
    refine Wp.blk (by decide) ol_117 2 3 (pc' := (if v0 = (1 : Int32) then 9 else 13)) (L' := [.int v0]) (S' := []) (h' := h) rfl ?_
    refine Wp.br (fun c2 => ?_) (fun c2 => ?_)
    · replace K := K.1 c2
      refine Wp.blk (by decide) ol_117 5 2 (pc' := 14) (L' := [.int v0]) (S' := [.int (1 : Int32)]) (h' := h) rfl ?_
      exact Wp.ret (op_ix (by decide) ol_117 8 rfl) rfl K
    · replace K := K.2 c2
      refine Wp.blk (by decide) ol_117 7 1 (pc' := 14) (L' := [.int v0]) (S' := [.int (0 : Int32)]) (h' := h) rfl ?_
      exact Wp.ret (op_ix (by decide) ol_117 8 rfl) rfl K
/-- CutsOrFast.canBeTaken at 0 (I)Z -/
theorem g119_0 (d : Nat) (v1 : Int32) (h : AH) (HS : Sh h)  (Q : Option Value → AH → Prop) (K : (Cl d 37 [.ref 5, .int (AI h 11 3), .int (AI h 11 4)] h (fun r h1 => ∃ x3 : Int32, r = some (.int x3) ∧ Sh h1 ∧ ((x3 = (0 : Int32) → (Cl (d + 1) 78 [.ref 11, .int v1] h1 (fun r h5 => ∃ x7 : Int32, r = some (.int x7) ∧ Sh h5 ∧ ((x7 = (0 : Int32) → Q (some (.int (1 : Int32))) h5) ∧ (¬ x7 = (0 : Int32) → Q (some (.int (0 : Int32))) h5))))) ∧ (¬ x3 = (0 : Int32) → Q (some (.int (0 : Int32))) h1))))) : Wp (d + 2) 119 0 [.ref 2, .int v1] [] h Q := by
  refine Wp.blk (by decide) ol_119 0 1 (pc' := 1) (L' := [.ref 2, .int v1]) (S' := [.ref 2]) (h' := h) rfl ?_
  refine Wp.getf (op_ix (by decide) ol_119 1 rfl) (okS HS 2 rfl rfl) (v := .ref 11) (congrArg va_rf (rS HS 2 2 rfl)) rfl ?_
  refine Wp.callI (op_ix (by decide) ol_119 2 rfl) (act_virt (c2 := 0) rfl (lk1 (kS HS 11 rfl)) rfl) rfl (Cl.enter (L := [.ref 11]) rfl ?_)
  refine Wp.blk (by decide) ol_77 0 1 (pc' := 1) (L' := [.ref 11]) (S' := [.ref 11]) (h' := h) rfl ?_
  refine Wp.getf (op_ix (by decide) ol_77 1 rfl) (okS HS 11 rfl rfl) (v := .ref 5) (congrArg va_rf (rS HS 11 0 rfl)) rfl ?_
  refine Wp.blk (by decide) ol_77 2 1 (pc' := 5) (L' := [.ref 11]) (S' := [.ref 11, .ref 5]) (h' := h) rfl ?_
  refine Wp.getf (op_ix (by decide) ol_77 3 rfl) (okS HS 11 rfl rfl) (v := .int (AI h 11 3)) rfl rfl ?_
  refine Wp.blk (by decide) ol_77 4 1 (pc' := 9) (L' := [.ref 11]) (S' := [.ref 11, .int (AI h 11 3), .ref 5]) (h' := h) rfl ?_
  refine Wp.getf (op_ix (by decide) ol_77 5 rfl) (okS HS 11 rfl rfl) (v := .int (AI h 11 4)) rfl rfl ?_
  refine Wp.callI (op_ix (by decide) ol_77 6 rfl) (act_virt (c2 := 2) rfl (lk1 (kS HS 5 rfl)) rfl) rfl (K.mono ?_)
  rintro _ h1 ⟨x3, rfl, hs2, K⟩
  refine ⟨x3, rfl, ?_⟩
  refine Wp.ret (op_ix (by decide) ol_77 7 rfl) rfl ⟨_, rfl, ?_⟩
  refine Wp.blk (by decide) ol_119 3 1 (pc' := (if x3 = (0 : Int32) then 10 else 25)) (L' := [.ref 2, .int v1]) (S' := []) (h' := h1) rfl ?_
  refine Wp.br (fun c4 => ?_) (fun c4 => ?_)
  · replace K := K.1 c4
    refine Wp.blk (by decide) ol_119 4 1 (pc' := 11) (L' := [.ref 2, .int v1]) (S' := [.ref 2]) (h' := h1) rfl ?_
    refine Wp.getf (op_ix (by decide) ol_119 5 rfl) (okS hs2 2 rfl rfl) (v := .ref 11) (congrArg va_rf (rS hs2 2 2 rfl)) rfl ?_
    refine Wp.blk (by decide) ol_119 6 1 (pc' := 15) (L' := [.ref 2, .int v1]) (S' := [.int v1, .ref 11]) (h' := h1) rfl ?_
    refine Wp.callI (op_ix (by decide) ol_119 7 rfl) (act_virt (c2 := 1) rfl (lk1 (kS hs2 11 rfl)) rfl) rfl (K.mono ?_)
    rintro _ h5 ⟨x7, rfl, hs6, K⟩
    refine ⟨x7, rfl, ?_⟩
    refine Wp.blk (by decide) ol_119 8 1 (pc' := (if x7 = (0 : Int32) then 21 else 25)) (L' := [.ref 2, .int v1]) (S' := []) (h' := h5) rfl ?_
    refine Wp.br (fun c8 => ?_) (fun c8 => ?_)
    · replace K := K.1 c8
      refine Wp.blk (by decide) ol_119 9 2 (pc' := 26) (L' := [.ref 2, .int v1]) (S' := [.int (1 : Int32)]) (h' := h5) rfl ?_
      exact Wp.ret (op_ix (by decide) ol_119 12 rfl) rfl K
    · replace K := K.2 c8
      refine Wp.blk (by decide) ol_119 11 1 (pc' := 26) (L' := [.ref 2, .int v1]) (S' := [.int (0 : Int32)]) (h' := h5) rfl ?_
      exact Wp.ret (op_ix (by decide) ol_119 12 rfl) rfl K
  · replace K := K.2 c4
    refine Wp.blk (by decide) ol_119 11 1 (pc' := 26) (L' := [.ref 2, .int v1]) (S' := [.int (0 : Int32)]) (h' := h1) rfl ?_
    exact Wp.ret (op_ix (by decide) ol_119 12 rfl) rfl K
/-- java/lang/Integer.bitCount at 0 (I)I -/
theorem g199_0 (d : Nat) (v0 : Int32) (h : AH) (HS : Sh h)  (Q : Option Value → AH → Prop) (K : Q (some (.int (((((((((((((((v0 - ((((v0.toUInt32 >>> (((1 : Int32)).toUInt32 &&& Int32.toUInt32 31)).toInt32) &&& ((1431655765 : Int32)))))) &&& ((858993459 : Int32)))) + ((((((v0 - ((((v0.toUInt32 >>> (((1 : Int32)).toUInt32 &&& Int32.toUInt32 31)).toInt32) &&& ((1431655765 : Int32)))))).toUInt32 >>> (((2 : Int32)).toUInt32 &&& Int32.toUInt32 31)).toInt32) &&& ((858993459 : Int32)))))) + ((((((((v0 - ((((v0.toUInt32 >>> (((1 : Int32)).toUInt32 &&& Int32.toUInt32 31)).toInt32) &&& ((1431655765 : Int32)))))) &&& ((858993459 : Int32)))) + ((((((v0 - ((((v0.toUInt32 >>> (((1 : Int32)).toUInt32 &&& Int32.toUInt32 31)).toInt32) &&& ((1431655765 : Int32)))))).toUInt32 >>> (((2 : Int32)).toUInt32 &&& Int32.toUInt32 31)).toInt32) &&& ((858993459 : Int32)))))).toUInt32 >>> (((4 : Int32)).toUInt32 &&& Int32.toUInt32 31)).toInt32))) &&& ((252645135 : Int32)))) + ((((((((((((v0 - ((((v0.toUInt32 >>> (((1 : Int32)).toUInt32 &&& Int32.toUInt32 31)).toInt32) &&& ((1431655765 : Int32)))))) &&& ((858993459 : Int32)))) + ((((((v0 - ((((v0.toUInt32 >>> (((1 : Int32)).toUInt32 &&& Int32.toUInt32 31)).toInt32) &&& ((1431655765 : Int32)))))).toUInt32 >>> (((2 : Int32)).toUInt32 &&& Int32.toUInt32 31)).toInt32) &&& ((858993459 : Int32)))))) + ((((((((v0 - ((((v0.toUInt32 >>> (((1 : Int32)).toUInt32 &&& Int32.toUInt32 31)).toInt32) &&& ((1431655765 : Int32)))))) &&& ((858993459 : Int32)))) + ((((((v0 - ((((v0.toUInt32 >>> (((1 : Int32)).toUInt32 &&& Int32.toUInt32 31)).toInt32) &&& ((1431655765 : Int32)))))).toUInt32 >>> (((2 : Int32)).toUInt32 &&& Int32.toUInt32 31)).toInt32) &&& ((858993459 : Int32)))))).toUInt32 >>> (((4 : Int32)).toUInt32 &&& Int32.toUInt32 31)).toInt32))) &&& ((252645135 : Int32)))).toUInt32 >>> (((8 : Int32)).toUInt32 &&& Int32.toUInt32 31)).toInt32))) + ((((((((((((((v0 - ((((v0.toUInt32 >>> (((1 : Int32)).toUInt32 &&& Int32.toUInt32 31)).toInt32) &&& ((1431655765 : Int32)))))) &&& ((858993459 : Int32)))) + ((((((v0 - ((((v0.toUInt32 >>> (((1 : Int32)).toUInt32 &&& Int32.toUInt32 31)).toInt32) &&& ((1431655765 : Int32)))))).toUInt32 >>> (((2 : Int32)).toUInt32 &&& Int32.toUInt32 31)).toInt32) &&& ((858993459 : Int32)))))) + ((((((((v0 - ((((v0.toUInt32 >>> (((1 : Int32)).toUInt32 &&& Int32.toUInt32 31)).toInt32) &&& ((1431655765 : Int32)))))) &&& ((858993459 : Int32)))) + ((((((v0 - ((((v0.toUInt32 >>> (((1 : Int32)).toUInt32 &&& Int32.toUInt32 31)).toInt32) &&& ((1431655765 : Int32)))))).toUInt32 >>> (((2 : Int32)).toUInt32 &&& Int32.toUInt32 31)).toInt32) &&& ((858993459 : Int32)))))).toUInt32 >>> (((4 : Int32)).toUInt32 &&& Int32.toUInt32 31)).toInt32))) &&& ((252645135 : Int32)))) + ((((((((((((v0 - ((((v0.toUInt32 >>> (((1 : Int32)).toUInt32 &&& Int32.toUInt32 31)).toInt32) &&& ((1431655765 : Int32)))))) &&& ((858993459 : Int32)))) + ((((((v0 - ((((v0.toUInt32 >>> (((1 : Int32)).toUInt32 &&& Int32.toUInt32 31)).toInt32) &&& ((1431655765 : Int32)))))).toUInt32 >>> (((2 : Int32)).toUInt32 &&& Int32.toUInt32 31)).toInt32) &&& ((858993459 : Int32)))))) + ((((((((v0 - ((((v0.toUInt32 >>> (((1 : Int32)).toUInt32 &&& Int32.toUInt32 31)).toInt32) &&& ((1431655765 : Int32)))))) &&& ((858993459 : Int32)))) + ((((((v0 - ((((v0.toUInt32 >>> (((1 : Int32)).toUInt32 &&& Int32.toUInt32 31)).toInt32) &&& ((1431655765 : Int32)))))).toUInt32 >>> (((2 : Int32)).toUInt32 &&& Int32.toUInt32 31)).toInt32) &&& ((858993459 : Int32)))))).toUInt32 >>> (((4 : Int32)).toUInt32 &&& Int32.toUInt32 31)).toInt32))) &&& ((252645135 : Int32)))).toUInt32 >>> (((8 : Int32)).toUInt32 &&& Int32.toUInt32 31)).toInt32))).toUInt32 >>> (((16 : Int32)).toUInt32 &&& Int32.toUInt32 31)).toInt32))) &&& ((63 : Int32))))) h) : Wp d 199 0 [.int v0] [] h Q := by
  refine Wp.blk (by decide) ol_199 0 41 (pc' := 52) (L' := [.int (((((((((((((v0 - ((((v0.toUInt32 >>> (((1 : Int32)).toUInt32 &&& Int32.toUInt32 31)).toInt32) &&& ((1431655765 : Int32)))))) &&& ((858993459 : Int32)))) + ((((((v0 - ((((v0.toUInt32 >>> (((1 : Int32)).toUInt32 &&& Int32.toUInt32 31)).toInt32) &&& ((1431655765 : Int32)))))).toUInt32 >>> (((2 : Int32)).toUInt32 &&& Int32.toUInt32 31)).toInt32) &&& ((858993459 : Int32)))))) + ((((((((v0 - ((((v0.toUInt32 >>> (((1 : Int32)).toUInt32 &&& Int32.toUInt32 31)).toInt32) &&& ((1431655765 : Int32)))))) &&& ((858993459 : Int32)))) + ((((((v0 - ((((v0.toUInt32 >>> (((1 : Int32)).toUInt32 &&& Int32.toUInt32 31)).toInt32) &&& ((1431655765 : Int32)))))).toUInt32 >>> (((2 : Int32)).toUInt32 &&& Int32.toUInt32 31)).toInt32) &&& ((858993459 : Int32)))))).toUInt32 >>> (((4 : Int32)).toUInt32 &&& Int32.toUInt32 31)).toInt32))) &&& ((252645135 : Int32)))) + ((((((((((((v0 - ((((v0.toUInt32 >>> (((1 : Int32)).toUInt32 &&& Int32.toUInt32 31)).toInt32) &&& ((1431655765 : Int32)))))) &&& ((858993459 : Int32)))) + ((((((v0 - ((((v0.toUInt32 >>> (((1 : Int32)).toUInt32 &&& Int32.toUInt32 31)).toInt32) &&& ((1431655765 : Int32)))))).toUInt32 >>> (((2 : Int32)).toUInt32 &&& Int32.toUInt32 31)).toInt32) &&& ((858993459 : Int32)))))) + ((((((((v0 - ((((v0.toUInt32 >>> (((1 : Int32)).toUInt32 &&& Int32.toUInt32 31)).toInt32) &&& ((1431655765 : Int32)))))) &&& ((858993459 : Int32)))) + ((((((v0 - ((((v0.toUInt32 >>> (((1 : Int32)).toUInt32 &&& Int32.toUInt32 31)).toInt32) &&& ((1431655765 : Int32)))))).toUInt32 >>> (((2 : Int32)).toUInt32 &&& Int32.toUInt32 31)).toInt32) &&& ((858993459 : Int32)))))).toUInt32 >>> (((4 : Int32)).toUInt32 &&& Int32.toUInt32 31)).toInt32))) &&& ((252645135 : Int32)))).toUInt32 >>> (((8 : Int32)).toUInt32 &&& Int32.toUInt32 31)).toInt32))) + ((((((((((((((v0 - ((((v0.toUInt32 >>> (((1 : Int32)).toUInt32 &&& Int32.toUInt32 31)).toInt32) &&& ((1431655765 : Int32)))))) &&& ((858993459 : Int32)))) + ((((((v0 - ((((v0.toUInt32 >>> (((1 : Int32)).toUInt32 &&& Int32.toUInt32 31)).toInt32) &&& ((1431655765 : Int32)))))).toUInt32 >>> (((2 : Int32)).toUInt32 &&& Int32.toUInt32 31)).toInt32) &&& ((858993459 : Int32)))))) + ((((((((v0 - ((((v0.toUInt32 >>> (((1 : Int32)).toUInt32 &&& Int32.toUInt32 31)).toInt32) &&& ((1431655765 : Int32)))))) &&& ((858993459 : Int32)))) + ((((((v0 - ((((v0.toUInt32 >>> (((1 : Int32)).toUInt32 &&& Int32.toUInt32 31)).toInt32) &&& ((1431655765 : Int32)))))).toUInt32 >>> (((2 : Int32)).toUInt32 &&& Int32.toUInt32 31)).toInt32) &&& ((858993459 : Int32)))))).toUInt32 >>> (((4 : Int32)).toUInt32 &&& Int32.toUInt32 31)).toInt32))) &&& ((252645135 : Int32)))) + ((((((((((((v0 - ((((v0.toUInt32 >>> (((1 : Int32)).toUInt32 &&& Int32.toUInt32 31)).toInt32) &&& ((1431655765 : Int32)))))) &&& ((858993459 : Int32)))) + ((((((v0 - ((((v0.toUInt32 >>> (((1 : Int32)).toUInt32 &&& Int32.toUInt32 31)).toInt32) &&& ((1431655765 : Int32)))))).toUInt32 >>> (((2 : Int32)).toUInt32 &&& Int32.toUInt32 31)).toInt32) &&& ((858993459 : Int32)))))) + ((((((((v0 - ((((v0.toUInt32 >>> (((1 : Int32)).toUInt32 &&& Int32.toUInt32 31)).toInt32) &&& ((1431655765 : Int32)))))) &&& ((858993459 : Int32)))) + ((((((v0 - ((((v0.toUInt32 >>> (((1 : Int32)).toUInt32 &&& Int32.toUInt32 31)).toInt32) &&& ((1431655765 : Int32)))))).toUInt32 >>> (((2 : Int32)).toUInt32 &&& Int32.toUInt32 31)).toInt32) &&& ((858993459 : Int32)))))).toUInt32 >>> (((4 : Int32)).toUInt32 &&& Int32.toUInt32 31)).toInt32))) &&& ((252645135 : Int32)))).toUInt32 >>> (((8 : Int32)).toUInt32 &&& Int32.toUInt32 31)).toInt32))).toUInt32 >>> (((16 : Int32)).toUInt32 &&& Int32.toUInt32 31)).toInt32))]) (S' := [.int (((((((((((((((v0 - ((((v0.toUInt32 >>> (((1 : Int32)).toUInt32 &&& Int32.toUInt32 31)).toInt32) &&& ((1431655765 : Int32)))))) &&& ((858993459 : Int32)))) + ((((((v0 - ((((v0.toUInt32 >>> (((1 : Int32)).toUInt32 &&& Int32.toUInt32 31)).toInt32) &&& ((1431655765 : Int32)))))).toUInt32 >>> (((2 : Int32)).toUInt32 &&& Int32.toUInt32 31)).toInt32) &&& ((858993459 : Int32)))))) + ((((((((v0 - ((((v0.toUInt32 >>> (((1 : Int32)).toUInt32 &&& Int32.toUInt32 31)).toInt32) &&& ((1431655765 : Int32)))))) &&& ((858993459 : Int32)))) + ((((((v0 - ((((v0.toUInt32 >>> (((1 : Int32)).toUInt32 &&& Int32.toUInt32 31)).toInt32) &&& ((1431655765 : Int32)))))).toUInt32 >>> (((2 : Int32)).toUInt32 &&& Int32.toUInt32 31)).toInt32) &&& ((858993459 : Int32)))))).toUInt32 >>> (((4 : Int32)).toUInt32 &&& Int32.toUInt32 31)).toInt32))) &&& ((252645135 : Int32)))) + ((((((((((((v0 - ((((v0.toUInt32 >>> (((1 : Int32)).toUInt32 &&& Int32.toUInt32 31)).toInt32) &&& ((1431655765 : Int32)))))) &&& ((858993459 : Int32)))) + ((((((v0 - ((((v0.toUInt32 >>> (((1 : Int32)).toUInt32 &&& Int32.toUInt32 31)).toInt32) &&& ((1431655765 : Int32)))))).toUInt32 >>> (((2 : Int32)).toUInt32 &&& Int32.toUInt32 31)).toInt32) &&& ((858993459 : Int32)))))) + ((((((((v0 - ((((v0.toUInt32 >>> (((1 : Int32)).toUInt32 &&& Int32.toUInt32 31)).toInt32) &&& ((1431655765 : Int32)))))) &&& ((858993459 : Int32)))) + ((((((v0 - ((((v0.toUInt32 >>> (((1 : Int32)).toUInt32 &&& Int32.toUInt32 31)).toInt32) &&& ((1431655765 : Int32)))))).toUInt32 >>> (((2 : Int32)).toUInt32 &&& Int32.toUInt32 31)).toInt32) &&& ((858993459 : Int32)))))).toUInt32 >>> (((4 : Int32)).toUInt32 &&& Int32.toUInt32 31)).toInt32))) &&& ((252645135 : Int32)))).toUInt32 >>> (((8 : Int32)).toUInt32 &&& Int32.toUInt32 31)).toInt32))) + ((((((((((((((v0 - ((((v0.toUInt32 >>> (((1 : Int32)).toUInt32 &&& Int32.toUInt32 31)).toInt32) &&& ((1431655765 : Int32)))))) &&& ((858993459 : Int32)))) + ((((((v0 - ((((v0.toUInt32 >>> (((1 : Int32)).toUInt32 &&& Int32.toUInt32 31)).toInt32) &&& ((1431655765 : Int32)))))).toUInt32 >>> (((2 : Int32)).toUInt32 &&& Int32.toUInt32 31)).toInt32) &&& ((858993459 : Int32)))))) + ((((((((v0 - ((((v0.toUInt32 >>> (((1 : Int32)).toUInt32 &&& Int32.toUInt32 31)).toInt32) &&& ((1431655765 : Int32)))))) &&& ((858993459 : Int32)))) + ((((((v0 - ((((v0.toUInt32 >>> (((1 : Int32)).toUInt32 &&& Int32.toUInt32 31)).toInt32) &&& ((1431655765 : Int32)))))).toUInt32 >>> (((2 : Int32)).toUInt32 &&& Int32.toUInt32 31)).toInt32) &&& ((858993459 : Int32)))))).toUInt32 >>> (((4 : Int32)).toUInt32 &&& Int32.toUInt32 31)).toInt32))) &&& ((252645135 : Int32)))) + ((((((((((((v0 - ((((v0.toUInt32 >>> (((1 : Int32)).toUInt32 &&& Int32.toUInt32 31)).toInt32) &&& ((1431655765 : Int32)))))) &&& ((858993459 : Int32)))) + ((((((v0 - ((((v0.toUInt32 >>> (((1 : Int32)).toUInt32 &&& Int32.toUInt32 31)).toInt32) &&& ((1431655765 : Int32)))))).toUInt32 >>> (((2 : Int32)).toUInt32 &&& Int32.toUInt32 31)).toInt32) &&& ((858993459 : Int32)))))) + ((((((((v0 - ((((v0.toUInt32 >>> (((1 : Int32)).toUInt32 &&& Int32.toUInt32 31)).toInt32) &&& ((1431655765 : Int32)))))) &&& ((858993459 : Int32)))) + ((((((v0 - ((((v0.toUInt32 >>> (((1 : Int32)).toUInt32 &&& Int32.toUInt32 31)).toInt32) &&& ((1431655765 : Int32)))))).toUInt32 >>> (((2 : Int32)).toUInt32 &&& Int32.toUInt32 31)).toInt32) &&& ((858993459 : Int32)))))).toUInt32 >>> (((4 : Int32)).toUInt32 &&& Int32.toUInt32 31)).toInt32))) &&& ((252645135 : Int32)))).toUInt32 >>> (((8 : Int32)).toUInt32 &&& Int32.toUInt32 31)).toInt32))).toUInt32 >>> (((16 : Int32)).toUInt32 &&& Int32.toUInt32 31)).toInt32))) &&& ((63 : Int32)))]) (h' := h) rfl ?_
  exact Wp.ret (op_ix (by decide) ol_199 41 rfl) rfl K
