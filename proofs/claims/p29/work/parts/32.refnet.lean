/-! the reference's net: what is reached, sets of lanes, the status -/
def LnR (h : AH) (g : G) : Prop := AI h 23 2 = nI g.e ∧ AI h 23 3 = nI g.f ∧ ∀ i, i < g.n → AI h 24 i = nI (g.a i) ∧ AI h 25 i = nI (g.b i)
def LsR (h : AH) (n F C : Nat) : Prop := ∀ i, i < n → AI h 26 i = nI (sta F C i)
theorem LnR.fr {P : Nat → Nat → Prop} {h h' : AH} {g : G} (s : LnR h g) (hf : Fr P h h') (h1 : ¬ P 23 2 ∧ ¬ P 23 3) (h2 : ∀ j, ¬ P 24 j ∧ ¬ P 25 j) : LnR h' g := by
  obtain ⟨a, b, c⟩ := s
  refine ⟨?_, ?_, fun i hi => ?_⟩
  · rw [hf.I h1.1, a]
  · rw [hf.I h1.2, b]
  · rw [hf.I (h2 i).1, hf.I (h2 i).2]
    exact c i hi
theorem LsR.fr {P : Nat → Nat → Prop} {h h' : AH} {n F C : Nat} (s : LsR h n F C) (hf : Fr P h h') (h1 : ∀ j, ¬ P 26 j) : LsR h' n F C := fun i hi => by
  rw [hf.I (h1 i)]
  exact s i hi
theorem shC {v k : Nat} (hv : v < 2 ^ 31) (hk : k < 31) : ((nI v >>> (nI k &&& 31)) &&& 1) = 1 ↔ v.testBit k = true := by
  rw [pk_shrN hv (nI k &&& 31) k (s_l k (by omega)), show (1 : Int32) = nI 1 from rfl, fa_and, Nat.and_one_is_mod, nI_eq (by omega) (by omega), Nat.testBit_eq_decide_div_mod_eq, decide_eq_true_eq]
theorem or0 (v : Nat) : nI v ||| 0 = nI v := by
  rw [show (0 : Int32) = nI 0 from rfl, fa_or, Nat.or_zero]
theorem meetI {g : G} {v i : Nat} : (v &&& prs g.a g.b i ≠ 0) ↔ (v.testBit (g.a i) = true ∨ v.testBit (g.b i) = true) := by
  rw [meets]
  constructor
  · rintro ⟨p, h1, h2⟩
    rcases prs_bit.mp h2 with rfl | rfl
    · exact Or.inl h1
    · exact Or.inr h1
  · rintro (h | h)
    · exact ⟨_, h, prs_bit.mpr (Or.inl rfl)⟩
    · exact ⟨_, h, prs_bit.mpr (Or.inr rfl)⟩
theorem jnR {h : AH} {g : G} (hl : LnR h g) (ho : GOK g) {s : Nat} : ((nI (rch g s) >>> (AI h 23 3 &&& 31)) &&& 1) = 1 ↔ jn g s = true := by
  have h1 := rch_lt ho s
  have h2 := ho.2.2.1
  rw [hl.2.1, shC (by omega) (by omega)]
  exact Iff.rfl
def b01 (b : Bool) : Int32 := if b = true then 1 else 0
def stm (F C is : Nat) : Nat → Nat := msk (fun i => decide (sta F C i = is))
theorem stm0 (F C n : Nat) : stm F C 0 n = opn n F C := by
  unfold stm opn
  apply msk_cong
  intro i _
  have := sta0 (F := F) (C := C) (l := i)
  unfold opb at this
  cases hb : (!F.testBit i && !C.testBit i) with
  | true => rw [hb] at this; exact decide_eq_true (this.mpr rfl)
  | false => rw [hb] at this; exact decide_eq_false (fun z => by cases this.mp z)
theorem stm1 {F C n : Nat} (h : VS n F C) : stm F C 1 n = F := by
  rw [← msk_self h.1]
  apply msk_cong
  intro i _
  rw [msk_self h.1]
  unfold sta
  cases F.testBit i <;> cases C.testBit i <;> rfl
theorem stm2 {F C n : Nat} (h : VS n F C) : stm F C 2 n = C := by
  have e : msk (fun i => C.testBit i) n = C := msk_self h.2.1
  refine Eq.trans (msk_cong (fun i _ => ?_)) e
  have := h.2.2 i
  unfold sta
  cases a : F.testBit i <;> cases b : C.testBit i <;> first | rfl | exact absurd ⟨a, b⟩ this
theorem F_or_opn {F C n : Nat} (h : VS n F C) : F ||| opn n F C = unc n C := by
  apply tb_ext
  intro i
  rw [Nat.testBit_or, opn_tb, unc_tb]
  have := h.2.2 i
  rcases Nat.lt_or_ge i n with z | z
  · rw [decide_eq_true z]
    cases a : F.testBit i <;> cases b : C.testBit i <;> first | rfl | exact absurd ⟨a, b⟩ this
  · rw [decide_eq_false (by omega), tb_ge h.1 z]
    rfl
