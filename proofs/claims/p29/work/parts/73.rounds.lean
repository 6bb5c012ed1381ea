/-! the law's eight rounds -/
def lI : Nat → Int32
  | 0 => -1
  | r + 1 => nI r
theorem lI_p (r : Nat) : nI r + (-1) = lI r := by
  cases r with
  | zero => rfl
  | succ q => exact nI_m q
theorem lI_n {n : Nat} (h : 1 ≤ n) : nI n - 1 = lI n := by
  obtain ⟨m, rfl⟩ : ∃ m, n = m + 1 := ⟨n - 1, by omega⟩
  exact nI_pred m
/-- the least from a place on, looked for from above -/
def bvF (p : Nat → Bool) (n : Nat) : Nat → Int32
  | 0 => -1
  | m + 1 => if p (n - (m + 1)) = true then nI (n - (m + 1)) else bvF p n m
theorem bvF_fs {p : Nat → Bool} {n : Nat} : ∀ m, m ≤ n → (∀ k, k < n - m → p k = false) → bvF p n m = fsI p n
  | 0, _, h => (fsI_no h).symm
  | m + 1, hm, h => by
    unfold bvF
    cases hp : p (n - (m + 1)) with
    | true => rw [if_pos rfl, fsI_at (by omega) h hp]
    | false =>
      rw [if_neg (by decide)]
      refine bvF_fs m (by omega) (fun k hk => ?_)
      by_cases e : k = n - (m + 1)
      · rw [e]; exact hp
      · exact h k (by omega)
theorem bvF_all (p : Nat → Bool) (n : Nat) : bvF p n n = fsI p n := bvF_fs n (Nat.le_refl n) (fun k hk => by omega)
theorem bvF_st (p : Nat → Bool) {n l : Nat} (hl : l < n) : bvF p n (n - l) = if p l = true then nI l else bvF p n (n - (l + 1)) := by
  have e : n - l = (n - (l + 1)) + 1 := by omega
  have e2 : n - ((n - (l + 1)) + 1) = l := by omega
  rw [e]
  show (if p (n - ((n - (l + 1)) + 1)) = true then nI (n - ((n - (l + 1)) + 1)) else bvF p n (n - (l + 1))) = _
  rw [e2]
theorem lsg_fs (g : G) (F C w : Nat) : lsg g F C w = if outc g F C = 0 then fsI (goo g F C w) g.n else -1 := rfl
/-! LOST behind a move, and behind one that was taken back -/
theorem first_cong {p q : Nat → Bool} {n : Nat} (h : ∀ k, k < n → p k = q k) : fa_first p n = fa_first q n := by
  have hq := fa_first_le q n
  rcases Nat.lt_or_ge (fa_first q n) n with z | z
  · exact first_at z (fun k hk => by rw [h k (by omega)]; exact fa_first_no q n k hk) (by rw [h _ z]; exact fa_first_yes q n z)
  · have e : fa_first q n = n := by omega
    rw [e]
    exact first_none (fun k hk => by rw [h k hk]; exact fa_first_no q n k (by omega))
theorem fsI_cong {p q : Nat → Bool} {n : Nat} (h : ∀ k, k < n → p k = q k) : fsI p n = fsI q n := by
  unfold fsI
  rw [first_cong h]
theorem fsI_or (p : Nat → Bool) (n : Nat) : fsI p n = -1 ∨ ∃ j, j < n ∧ fsI p n = nI j := by
  unfold fsI
  by_cases z : fa_first p n < n
  · rw [if_pos z]
    exact Or.inr ⟨_, z, rfl⟩
  · rw [if_neg z]
    exact Or.inl rfl
def Smu (a b : ST) : Prop := a.F = b.F ∧ a.C = b.C ∧ a.w = b.w ∧ a.k = b.k ∧ ∀ j, j < a.k → a.m j = b.m j
theorem Smu.und {a b : ST} (s : Smu a b) (hk : 0 < a.k) : Smu (undT a) (undT b) := by
  obtain ⟨s1, s2, s3, s4, s5⟩ := s
  have e1 : a.m (a.k - 1) = b.m (b.k - 1) := by
    rw [← s4]
    exact s5 _ (by omega)
  refine ⟨?_, ?_, ?_, ?_, fun j hj => s5 j ?_⟩
  · show dif a.F (2 ^ a.m (a.k - 1)) = dif b.F (2 ^ b.m (b.k - 1))
    rw [s1, e1]
  · show dif a.C (2 ^ a.m (a.k - 1)) = dif b.C (2 ^ b.m (b.k - 1))
    rw [s2, e1]
  · show 1 - a.w = 1 - b.w
    rw [s3]
  · show a.k - 1 = b.k - 1
    rw [s4]
  · have : j < a.k - 1 := hj
    omega
theorem Smu.unT {a b : ST} (s : Smu a b) : ∀ j, j ≤ a.k → Smu (unT a j) (unT b j)
  | 0, _ => s
  | j + 1, hj => (s.unT j (by omega)).und (by rw [unT_k]; omega)
theorem unT_und (t : ST) : ∀ j, unT (undT t) j = unT t (j + 1)
  | 0 => rfl
  | j + 1 => by
    show undT (unT (undT t) j) = undT (unT t (j + 1))
    rw [unT_und t j]
theorem und_ply {t : ST} {l : Nat} (hF : t.F < 1024) (hC : t.C < 1024) (hl : l < 10) (ho : opb t.F t.C l = true) (hw : t.w < 2) : Smu (undT (plyT t l)) t := by
  obtain ⟨nF, nC⟩ := opb_not ho
  have h2 : 2 ^ l < 1024 := Nat.pow_lt_pow_right (a := 2) (n := 10) (by decide) hl
  have em : (plyT t l).m ((plyT t l).k - 1) = l := upN_s t.m t.k l
  have key : ∀ s, s < 1024 → s.testBit l = false → dif (s ||| 2 ^ l) (2 ^ l) = s ∧ dif s (2 ^ l) = s := by
    intro s hs hb
    have hs2 : s ||| 2 ^ l < 1024 := Nat.or_lt_two_pow (n := 10) hs h2
    constructor
    · apply tb_ext
      intro i
      rw [dif_two hs2, Nat.testBit_or, Nat.testBit_two_pow]
      by_cases e : l = i
      · rw [← e, hb, decide_eq_true rfl]
        rfl
      · rw [decide_eq_false e, Bool.or_false]
        simp
    · apply tb_ext
      intro i
      rw [dif_two hs]
      by_cases e : l = i
      · rw [← e, hb]
        rfl
      · rw [decide_eq_false e]
        simp
  refine ⟨?_, ?_, ?_, rfl, fun j hj => ?_⟩
  · show dif (if t.w = 0 then t.F ||| 2 ^ l else t.F) (2 ^ (plyT t l).m ((plyT t l).k - 1)) = t.F
    rw [em]
    split
    · exact (key t.F hF nF).1
    · exact (key t.F hF nF).2
  · show dif (if t.w = 0 then t.C else t.C ||| 2 ^ l) (2 ^ (plyT t l).m ((plyT t l).k - 1)) = t.C
    rw [em]
    split
    · exact (key t.C hC nC).2
    · exact (key t.C hC nC).1
  · show 1 - (1 - t.w) = t.w
    omega
  · have : j < t.k := hj
    exact upN_o t.m (i := t.k) (j := j) l (by omega)
theorem tI_ply {t : ST} {l : Nat} (hF : t.F < 1024) (hC : t.C < 1024) (hl : l < 10) (ho : opb t.F t.C l = true) (hw : t.w < 2) {i : Nat} (hi : i ≤ t.k) : Smu (tI (plyT t l) i) (tI t i) := by
  have ek : (plyT t l).k = t.k + 1 := rfl
  unfold tI
  rw [ek, show t.k + 1 - i = (t.k - i) + 1 from by omega, ← unT_und]
  exact (und_ply hF hC hl ho hw).unT _ (by show t.k - i ≤ t.k; omega)
/-- the mover loses it by this move -/
def lose (g : G) (t : ST) (l : Nat) : Bool := (hv g t.F t.C t.w == decide (t.w = 0)) && !(hv g (plyT t l).F (plyT t l).C (plyT t l).w == decide (t.w = 0))
theorem lsA_ply {g : G} {t : ST} {l : Nat} (hn : t.k < 100) (hF : t.F < 1024) (hC : t.C < 1024) (hl : l < 10) (ho : opb t.F t.C l = true) (hw : t.w < 2) : lsA g (plyT t l) = if lsA g t = -1 then (if lose g t l = true then nI t.k else -1) else lsA g t := by
  have ek : (plyT t l).k = t.k + 1 := rfl
  unfold lsA
  rw [ek, fsI_s _ (by omega)]
  have e1 : fsI (lsp g (plyT t l)) t.k = fsI (lsp g t) t.k := fsI_cong (fun i hi => by
    obtain ⟨a1, a2, a3, -, -⟩ := tI_ply hF hC hl ho hw (i := i) (by omega)
    obtain ⟨b1, b2, b3, -, -⟩ := tI_ply hF hC hl ho hw (i := i + 1) (by omega)
    unfold lsp
    rw [a1, a2, a3, b1, b2, b3])
  have e2 : lsp g (plyT t l) t.k = lose g t l := by
    obtain ⟨a1, a2, a3, -, -⟩ := tI_ply hF hC hl ho hw (i := t.k) (Nat.le_refl _)
    have b := tI_end (plyT t l)
    rw [ek] at b
    unfold lsp lose
    rw [a1, a2, a3, b, tI_end]
  rw [e1, e2]
theorem lsA_und {g : G} {t : ST} (hk : 0 < t.k) (hn : t.k < 100) : lsA g (undT t) = if lsA g t < nI (t.k - 1) then lsA g t else -1 := by
  have ek : (undT t).k = t.k - 1 := rfl
  have e1 : lsA g (undT t) = fsI (lsp g t) (t.k - 1) := by
    unfold lsA
    rw [ek]
    refine fsI_cong (fun i hi => ?_)
    have q : ∀ i, i ≤ t.k - 1 → tI (undT t) i = tI t i := fun i hi => by
      unfold tI
      rw [ek, unT_und, show t.k - 1 - i + 1 = t.k - i from by omega]
    unfold lsp
    rw [q i (by omega), q (i + 1) (by omega)]
  have e2 : lsA g t = if fsI (lsp g t) (t.k - 1) = -1 then (if lsp g t (t.k - 1) = true then nI (t.k - 1) else -1) else fsI (lsp g t) (t.k - 1) := by
    have := fsI_s (lsp g t) (i := t.k - 1) (by omega)
    rw [show t.k - 1 + 1 = t.k from by omega] at this
    exact this
  rw [e1, e2]
  have nm : (-1 : Int32) < nI (t.k - 1) := by
    have h0 : (-1 : Int32) < 0 := by decide
    rcases Nat.eq_zero_or_pos (t.k - 1) with z | z
    · rw [z]; decide
    · have h1 : (0 : Int32) < nI (t.k - 1) := (ltC (x := 0) (a := 0) rfl rfl (by omega) (by omega)).mpr z
      exact Int32.lt_trans h0 h1
  rcases fsI_or (lsp g t) (t.k - 1) with z | ⟨j, hj, z⟩
  · rw [z, if_pos rfl]
    cases lsp g t (t.k - 1) with
    | true =>
      rw [if_pos rfl, if_neg Int32.lt_irrefl]
    | false =>
      rw [if_neg (show ¬ (false = true) by decide), if_pos nm]
  · rw [z, if_neg (nI_m1 (by omega)), if_pos ((nI_ltI (by omega) (by omega)).mpr hj)]
/-! the law's world -/
def LB (h : AH) (c : Nat) : Prop := AN h ≤ 100 + 3 * c ∧ AT h ≤ 50000 + 36 * c
def LX (Ls : Nat) (h : AH) (w : WD) (F C c : Nat) : Prop := CI h w ∧ WdOK w ∧ (1 ≤ w.g.n ∧ w.g.n ≤ 6) ∧ LnW h w.g ∧ RowW h 24 F C w.g.n ∧ (∀ k, k < w.g.n → AI h 25 k = nI (w.g.c k)) ∧ (AK h 26 = (20, 12) ∧ ∀ j, j < w.t.k → AI h 26 j = nI (w.t.m j)) ∧ AK h 0 = (20, Ls) ∧ 28 ≤ AN h ∧ LB h c
theorem LX.up {Ls : Nat} {h : AH} {w : WD} {F C c c' : Nat} (V : LX Ls h w F C c) (hc : c ≤ c') : LX Ls h w F C c' := by
  obtain ⟨v1, v2, v3, v4, v5, v6, v7, v8, v9, b1, b2⟩ := V
  exact ⟨v1, v2, v3, v4, v5, v6, v7, v8, v9, by omega, by omega⟩
theorem LX.frC {Ls : Nat} {h h' : AH} {w : WD} {F C c : Nat} (V : LX Ls h w F C c) (C' : CI h' w) (f : FrC h h') : LX Ls h' w F C c := by
  obtain ⟨v1, v2, v3, ⟨l1, l2, l3⟩, ⟨r1, r2⟩, v6, ⟨q1, q2⟩, v8, v9, b1, b2⟩ := V
  have e := f.2.1
  refine ⟨C', v2, v3, ⟨fun i hi => ?_, by rw [f.I (by decide)]; exact l2, by rw [f.I (by decide)]; exact l3⟩, ⟨by rw [f.K]; exact r1, fun i hi => by rw [f.I (by decide)]; exact r2 i hi⟩, fun k hk => by rw [f.I (by decide)]; exact v6 k hk, ⟨by rw [f.K]; exact q1, fun j hj => by rw [f.I (by decide)]; exact q2 j hj⟩, by rw [f.K]; exact v8, by rw [e.1]; exact v9, by rw [e.1]; exact b1, by rw [e.2.1]; exact b2⟩
  rw [f.I (by decide), f.I (by decide)]
  exact l1 i hi
/-- a row of the law written -/
theorem LX.st24 {Ls : Nat} {h : AH} {w : WD} {F C F' C' c l v : Nat} (V : LX Ls h w F C c) (hs : ∀ i, sta F' C' i = if i = l then v else sta F C i) : LX Ls (stI h 24 l (nI v)) w F' C' c := by
  obtain ⟨v1, v2, v3, v4, ⟨r1, r2⟩, v6, ⟨q1, q2⟩, v8, v9, b1, b2⟩ := V
  have f : Fr (fun a _ => a = 24) h (stI h 24 l (nI v)) := Fr.stI rfl
  refine ⟨v1.row f (fun a j z => by omega), v2, v3, v4.fr f (fun j => by omega), ⟨r1, fun i hi => ?_⟩, fun k hk => by rw [f.I (by omega)]; exact v6 k hk, ⟨q1, fun j hj => by rw [f.I (by omega)]; exact q2 j hj⟩, v8, v9, b1, b2⟩
  rw [AI_stI, hs i]
  by_cases z : i = l
  · rw [if_pos ⟨rfl, z⟩, if_pos z]
  · rw [if_neg (fun y => z y.2), if_neg z]
    exact r2 i hi
theorem CI.hn {h h' : AH} {w : WD} (c : CI h w) (H : HN h h') (h27 : 27 ≤ AN h) : CI h' w := by
  obtain ⟨H1, H2, H3⟩ := H
  have kn : ∀ i, (i < 26 ∨ i = 46) → sgi i < AN h := fun i hi => by
    rcases hi with z | z
    · exact kn_sgi h27 z
    · rw [z]
      show 20 < AN h
      omega
  have eI : ∀ i j, (i < 26 ∨ i = 46) → AI h' i j = AI h i j := fun i j hi => ((H3 i (kn i hi)).2.2 j).1
  have eL : ∀ i j, (i < 26 ∨ i = 46) → AL h' i j = AL h i j := fun i j hi => ((H3 i (kn i hi)).2.2 j).2
  have eK : ∀ i, (i < 26 ∨ i = 46) → AK h' i = AK h i := fun i hi => (H3 i (kn i hi)).1
  have stc : ∀ {v : Nat} {t : ST}, v + 1 < 26 → StC h v t → StC h' v t := fun hv s => by
    obtain ⟨s1, s2, s3, s4, s5⟩ := s
    exact ⟨by rw [eI _ _ (by omega)]; exact s1, by rw [eI _ _ (by omega)]; exact s2, by rw [eI _ _ (by omega)]; exact s3, by rw [eI _ _ (by omega)]; exact s4, fun i hi => by rw [eI _ _ (by omega)]; exact s5 i hi⟩
  have net : ∀ {g : G}, NetC h g → NetC h' g := fun s => by
    obtain ⟨s1, s2, s3, s4⟩ := s
    refine ⟨by rw [eI _ _ (by omega)]; exact s1, by rw [eI _ _ (by omega)]; exact s2, by rw [eI _ _ (by omega)]; exact s3, fun i hi => ?_⟩
    rw [eI _ _ (by omega), eI _ _ (by omega), eI _ _ (by omega), eI _ _ (by omega)]
    exact s4 i hi
  obtain ⟨⟨⟨p1, p2⟩, c2, ⟨c3, c4, c5, c6⟩, ⟨d1, d2, d3⟩, c8, c9⟩, c10, c11, ⟨s1, s2, s3, s4⟩, si⟩ := c
  refine ⟨⟨⟨by rw [eI _ _ (by omega)]; exact p1, fun i hi => by rw [eI _ _ (by omega)]; exact p2 i hi⟩, fun z => stc (by decide) (c2 z), ⟨by rw [eI _ _ (by omega)]; exact c3, by rw [eI _ _ (by omega)]; exact c4, by rw [eI _ _ (by omega)]; exact c5, by rw [eI _ _ (by omega)]; exact c6⟩, ⟨d1, fun p h1 h2 => by rw [(H3 22 (kn 22 (by omega))).2.1]; exact d2 p h1 h2, Nat.zero_le _⟩, Nat.zero_le _, Nat.zero_le _⟩, stc (by decide) c10, net c11, ⟨H2, fun s hs => by rw [eI _ _ (by omega)]; exact s2 s hs, by rw [eK _ (by omega)]; exact s3, fun j hj => Nat.zero_le _⟩, fun z => ?_⟩
  obtain ⟨q1, q2, q3, q4, ⟨q5, q6⟩, q7, q8⟩ := si z
  refine ⟨H2, net q2, fun q hq => by rw [eI _ _ (by omega)]; exact q3 q hq, fun q hq => by rw [eI _ _ (by omega)]; exact q4 q hq, ⟨by rw [eK _ (by omega)]; exact q5, fun j hj => Nat.zero_le _⟩, fun w F C hw hv => ?_, ?_⟩
  · unfold ow
    rw [eL _ _ (by omega)]
    exact q7 w F C hw hv
  · unfold WtC
    rw [eI _ _ (by omega)]
    rcases q8 with z | ⟨tk, a, b, c⟩
    · exact Or.inl z
    · refine Or.inr ⟨tk, a, b, fun how F C w h3 hw hv he => ?_⟩
      unfold wt
      rw [eL _ _ (by omega)]
      exact c how F C w h3 hw hv he
theorem LX.hn {Ls : Nat} {h h' : AH} {w : WD} {F C c : Nat} (V : LX Ls h w F C c) (H : HN h h') (hN : AN h' = AN h + 3) (hT : AT h' = AT h + 36) : LX Ls h' w F C (c + 1) := by
  obtain ⟨v1, v2, v3, ⟨l1, l2, l3⟩, ⟨r1, r2⟩, v6, ⟨q1, q2⟩, v8, v9, b1, b2⟩ := V
  have kn : ∀ i, i < 27 → sgi i < AN h := fun i hi => by
    unfold sgi
    repeat' split
    all_goals omega
  have eI : ∀ i j, i < 27 → AI h' i j = AI h i j := fun i j hi => ((H.2.2 i (kn i hi)).2.2 j).1
  have eK : ∀ i, i < 27 → AK h' i = AK h i := fun i hi => (H.2.2 i (kn i hi)).1
  refine ⟨v1.hn H (by omega), v2, v3, ⟨fun i hi => ?_, by rw [eI _ _ (by decide)]; exact l2, by rw [eI _ _ (by decide)]; exact l3⟩, ⟨by rw [eK _ (by decide)]; exact r1, fun i hi => by rw [eI _ _ (by decide)]; exact r2 i hi⟩, fun k hk => by rw [eI _ _ (by decide)]; exact v6 k hk, ⟨by rw [eK _ (by decide)]; exact q1, fun j hj => by rw [eI _ _ (by decide)]; exact q2 j hj⟩, by rw [eK _ (by decide)]; exact v8, by omega, by omega, by omega⟩
  rw [eI _ _ (by decide), eI _ _ (by decide)]
  exact l1 i hi
theorem WdOK.wT {w : WD} (ok : WdOK w) {t : ST} (ht : TOK w.g t) : WdOK (wT w t) := by
  obtain ⟨o1, o2, o3, o4, o5, o6, o7, o8⟩ := ok
  exact ⟨o1, o2, o3, ht, o5, o6, o7, o8⟩
theorem useP {d m : Nat} {args : List Value} {w w' : WD} {p : Int32 × WD} {ans : Int32} (f : CFp d m args w p) (e : p = (ans, w')) : CFs d m args w ans w' := by
  rw [e] at f
  exact f
theorem lnQ_j {n j : Nat} (hj : j < n) (hn : n ≤ 10) : lnQ n (nI j) = some j := by
  unfold lnQ
  rw [if_neg (nI_pos (by omega)), tnI (by omega), if_pos hj]
theorem lnQ_n {n : Nat} (hn : n ≤ 10) : lnQ n (nI n) = none := by
  unfold lnQ
  rw [if_neg (nI_pos (by omega)), tnI (by omega), if_neg (Nat.lt_irrefl _)]
theorem sdQ_w {u : Nat} (hu : u < 2) : sdQ (nI u) = some u := by
  match u, hu with
  | 0, _ => rfl
  | 1, _ => rfl
section LAW
variable {Ls : Nat} {w : WD} {t : Nat} {Q : Option Value → AH → Prop}
/-- the law's own search, called -/
theorem jh {h : AH} {F C c who : Nat} (V : LX Ls h w F C c) (hs : VS w.g.n F C) (hw : who < 2) (K : ∀ h', LX Ls h' w F C (c + 1) → Sh h' → Q (some (.int (b01 (hv w.g F C who)))) h') : Cl 999 134 [.int (nI w.g.n), .ref 23, .ref 24, .int (nI who)] h Q :=
  c134 (d := 996) V.1.Sh V.2.1.2.1 V.2.2.1.2 hw hs V.2.2.2.1 V.2.2.2.2.1 (fun h' H n2 t2 => K h' (V.hn H n2 t2) H.2.1)
theorem sj {h : AH} {F C c : Nat} (V : LX Ls h w F C c) (hs : VS w.g.n F C) (K : Q (some (.int (nI (outc w.g F C)))) h) : Cl 999 132 [.int (nI w.g.n), .ref 23, .ref 24] h Q :=
  c132 (d := 998) V.1.Sh V.2.1.2.1 V.2.2.1.2 hs V.2.2.2.1 V.2.2.2.2.1 K
theorem LX.vs {h : AH} {F C c : Nat} (V : LX Ls h w F C c) : VS w.g.n w.t.F w.t.C := V.2.1.2.2.2.1.1
theorem LX.n0 {h : AH} {F C c : Nat} (V : LX Ls h w F C c) : ¬ w.g.n = 0 := by have := V.2.2.1.1; omega

/-- every lane compared -/
theorem w148 {c : Nat} (K : ∀ h, LX Ls h w w.t.F w.t.C c → Wp 1000 204 229 [.ref 0, .ref 2, .ref 23, .ref 24, .ref 25, .int (nI w.g.n), .int (nI w.t.w), .int (nI (outc w.g w.t.F w.t.C)), .int (nI w.t.k), .int (lsA w.g w.t), .ref 26, .int (nI t), .int 0, mk0, mk0, mk0, mk0] [] h Q) : ∀ m l h, l + m = w.g.n → LX Ls h w w.t.F w.t.C c → Wp 1000 204 148 [.ref 0, .ref 2, .ref 23, .ref 24, .ref 25, .int (nI w.g.n), .int (nI w.t.w), .int (nI (outc w.g w.t.F w.t.C)), .int (nI w.t.k), .int (lsA w.g w.t), .ref 26, .int (nI t), .int (nI l), mk0, mk0, mk0, mk0] [] h Q
  | 0, l, h, hl, V => by
    have hn := V.2.2.1
    refine g204_148 999 _ _ _ _ _ _ _ h V.1.Sh Q ⟨fun z => ?_, fun _ => K h V⟩
    rw [nI_ltI (by omega) (by omega)] at z
    omega
  | m + 1, l, h, hl, V => by
    have hn := V.2.2.1
    have hlt : l < w.g.n := by omega
    have ok := V.2.1
    have e0 : lnR w (nI l) 0 = (nI (w.g.a l), w) := by
      unfold lnR
      rw [lnQ_j hlt (by omega)]
      exact if_pos rfl
    have e1 : lnR w (nI l) 1 = (nI (w.g.b l), w) := by
      unfold lnR
      rw [lnQ_j hlt (by omega)]
      exact (if_neg (by decide)).trans (if_pos rfl)
    have e2 : lnR w (nI l) 2 = (nI (sta w.t.F w.t.C l), w) := by
      unfold lnR
      rw [lnQ_j hlt (by omega)]
      exact (if_neg (by decide)).trans ((if_neg (by decide)).trans (if_pos rfl))
    have e3 : lnR w (nI l) 3 = (nI (w.g.c l), w) := by
      unfold lnR
      rw [lnQ_j hlt (by omega)]
      exact (if_neg (by decide)).trans ((if_neg (by decide)).trans ((if_neg (by decide)).trans (if_pos rfl)))
    refine g204_148 999 _ _ _ _ _ _ _ h V.1.Sh Q ⟨fun _ => ?_, fun z => absurd ((nI_ltI (by omega) (by omega)).mpr hlt) z⟩
    have e2l : (2 : Int32) * nI l = nI (2 * l) := by rw [fa_lit 2, pk_mul]
    rw [e2l, nI_1 (2 * l), nI_1 l]
    refine useP (fC93 (d := 959) ok (nI l) 0) e0 h _ V.1 (fun h1 C1 f1 => ⟨_, rfl, f1.1, ixR_nI (by omega) (by decide), ?_⟩)
    have V1 := V.frC C1 f1
    rw [tnI (by omega), (V1.2.2.2.1.1 l hlt).1]
    refine ⟨fun _ => ?_, fun z => absurd rfl z⟩
    refine useP (fC93 (d := 959) ok (nI l) 1) e1 h1 _ V1.1 (fun h2 C2 f2 => ⟨_, rfl, f2.1, ixR_nI (by omega) (by decide), ?_⟩)
    have V2 := V1.frC C2 f2
    rw [tnI (by omega), (V2.2.2.2.1.1 l hlt).2]
    refine ⟨fun _ => ?_, fun z => absurd rfl z⟩
    refine useP (fC93 (d := 959) ok (nI l) 2) e2 h2 _ V2.1 (fun h3 C3 f3 => ⟨_, rfl, f3.1, ixR_nI (by omega) (by decide), ?_⟩)
    have V3 := V2.frC C3 f3
    rw [tnI (by omega), V3.2.2.2.2.1.2 l hlt]
    refine ⟨fun _ => ?_, fun z => absurd rfl z⟩
    refine useP (fC93 (d := 959) ok (nI l) 3) e3 h3 _ V3.1 (fun h4 C4 f4 => ⟨_, rfl, f4.1, ixR_nI (by omega) (by decide), ?_⟩)
    have V4 := V3.frC C4 f4
    rw [V4.2.2.2.2.2.1 l hlt]
    refine ⟨fun _ => ?_, fun z => absurd rfl z⟩
    exact w148 K m (l + 1) h4 (by omega) V4
/-- by which lane: the law's own answer -/
theorem w255 {u : Nat} (hu : u < 2) (h0c : outc w.g w.t.F w.t.C = 0) {c : Nat} (K : ∀ h, LX Ls h w w.t.F w.t.C (c + w.g.n) → Wp 1000 204 324 [.ref 0, .ref 2, .ref 23, .ref 24, .ref 25, .int (nI w.g.n), .int (nI w.t.w), .int (nI (outc w.g w.t.F w.t.C)), .int (nI w.t.k), .int (lsA w.g w.t), .ref 26, .int (nI t), .int (nI u), .int (b01 (hv w.g w.t.F w.t.C u)), .int (fsI (goo w.g w.t.F w.t.C u) w.g.n), mk0, mk0] [] h Q) : ∀ r h, r ≤ w.g.n → LX Ls h w w.t.F w.t.C (c + (w.g.n - r)) → Wp 1000 204 255 [.ref 0, .ref 2, .ref 23, .ref 24, .ref 25, .int (nI w.g.n), .int (nI w.t.w), .int (nI (outc w.g w.t.F w.t.C)), .int (nI w.t.k), .int (lsA w.g w.t), .ref 26, .int (nI t), .int (nI u), .int (b01 (hv w.g w.t.F w.t.C u)), .int (bvF (goo w.g w.t.F w.t.C u) w.g.n (w.g.n - r)), .int (lI r), mk0] [] h Q
  | 0, h, hr, V => by
    refine g204_255 999 _ _ _ _ _ _ _ _ _ _ h V.1.Sh Q ⟨fun _ => ?_, fun z => absurd (by decide : (lI 0) < (0 : Int32)) z⟩
    have kk := K h V
    rw [← bvF_all] at kk
    exact kk
  | l + 1, h, hr, V => by
    have hn := V.2.2.1
    have hlt : l < w.g.n := by omega
    have hst := sta_lt w.t.F w.t.C l
    have k24 : AK h 24 = (20, 12) := V.2.2.2.2.1.1
    rw [show lI (l + 1) = nI l from rfl]
    refine g204_255 999 _ _ _ _ _ _ _ _ _ _ h V.1.Sh Q ⟨fun z => absurd z (nI_pos (by omega)), fun _ => ⟨fun _ => ⟨ixR_nI (j := l) (by omega) (by decide), ?_⟩, fun z => absurd (by rw [h0c]; rfl) z⟩⟩
    show (AI h 24 (nI l).toNatClampNeg = 0 → _) ∧ (¬ AI h 24 (nI l).toNatClampNeg = 0 → Wp 1000 204 255 [.ref 0, .ref 2, .ref 23, .ref 24, .ref 25, _, _, _, _, _, .ref 26, _, _, _, _, .int (nI l + (-1)), mk0] [] h Q)
    rw [lI_p, tnI (by omega), V.2.2.2.2.1.2 l hlt, nI_eq0 (by omega), sta_opb]
    have bst := bvF_st (goo w.g w.t.F w.t.C u) hlt
    refine ⟨fun z => ?_, fun z => ?_⟩
    · have hgo := goo_ch (g := w.g) hu z
      have V1 : LX Ls (stI h 24 l (nI (1 + u))) w (kdF w.t.F u l) (kdC w.t.C u l) (c + (w.g.n - (l + 1))) := V.st24 (fun i => ch_sta hu z i)
      have e1 : (1 : Int32) + nI u = nI (1 + u) := by rw [fa_lit 1, nI_add]
      have e2 : (1 : Int32) - nI u = nI (1 - u) := by rw [fa_lit 1, pk_sub (by omega)]
      show Cl 999 134 [.int (nI w.g.n), .ref 23, .ref 24, .int ((1 : Int32) - nI u)] (stI h 24 l ((1 : Int32) + nI u)) _
      rw [e1, e2]
      refine jh V1 (ch_vs V.vs hlt z) (by omega) (fun h2 V2 HS2 => ⟨_, rfl, HS2, ?_⟩)
      have emv : mvw w.g (kdF w.t.F u l) (kdC w.t.C u l) (1 - u) = (hv w.g (kdF w.t.F u l) (kdC w.t.C u l) (1 - u) == decide (1 - u = 0)) := rfl
      have at301 : ∀ (s0 : Int32) (b : Bool), (b01 (hv w.g (kdF w.t.F u l) (kdC w.t.C u l) (1 - u)) = s0 ↔ b = true) → goo w.g w.t.F w.t.C u l = b → Wp 1000 204 301 [.ref 0, .ref 2, .ref 23, .ref 24, .ref 25, .int (nI w.g.n), .int (nI w.t.w), .int (nI (outc w.g w.t.F w.t.C)), .int (nI w.t.k), .int (lsA w.g w.t), .ref 26, .int (nI t), .int (nI u), .int (b01 (hv w.g w.t.F w.t.C u)), .int (bvF (goo w.g w.t.F w.t.C u) w.g.n (w.g.n - (l + 1))), .int (nI l), mk0] [.int s0, .int (b01 (hv w.g (kdF w.t.F u l) (kdC w.t.C u l) (1 - u)))] h2 Q := by
        intro s0 b hb hg
        have V3 : LX Ls (stI h2 24 l (nI 0)) w w.t.F w.t.C (c + (w.g.n - l)) := (V2.st24 (F' := w.t.F) (C' := w.t.C) (l := l) (v := 0) (fun i => by
          rw [ch_sta hu z i]
          by_cases e : i = l
          · rw [if_pos e, e, sta_opb.mpr z]
          · rw [if_neg e, if_neg e])).up (by omega)
        have nx := w255 hu h0c K l _ (by omega) V3
        rw [bst, hg] at nx
        refine g204_301 1000 _ _ _ _ _ _ _ _ _ _ _ _ h2 HS2 Q ⟨fun y => ⟨ixR_nI (by omega) (by decide), ?_⟩, fun y => ⟨ixR_nI (by omega) (by decide), ?_⟩⟩
        · rw [if_pos (hb.mp y)] at nx
          rw [lI_p, tnI (by omega)]
          exact nx
        · rw [if_neg (fun q => y (hb.mpr q))] at nx
          rw [lI_p, tnI (by omega)]
          exact nx
      rw [hgo] at at301
      have ub : nI u = 0 ↔ u = 0 := nI_eq0 (by omega)
      show (nI u = 0 → _) ∧ (¬ nI u = 0 → _)
      rw [ub]
      refine ⟨fun y => ?_, fun y => ?_⟩
      · refine at301 1 (!mvw w.g (kdF w.t.F u l) (kdC w.t.C u l) (1 - u)) ?_ rfl
        rw [emv, decide_eq_false (show ¬ 1 - u = 0 by omega)]
        cases hv w.g (kdF w.t.F u l) (kdC w.t.C u l) (1 - u) <;> decide
      · refine at301 0 (!mvw w.g (kdF w.t.F u l) (kdC w.t.C u l) (1 - u)) ?_ rfl
        rw [emv, decide_eq_true (show 1 - u = 0 by omega)]
        cases hv w.g (kdF w.t.F u l) (kdC w.t.C u l) (1 - u) <;> decide
    · have hg : goo w.g w.t.F w.t.C u l = false := by
        unfold goo
        rw [ts_nt z]
        rfl
      have nx := w255 hu h0c K l h (by omega) (V.up (by omega))
      rw [bst, hg, if_neg (by decide)] at nx
      exact nx
/-- who has it and by which lane, of both -/
theorem w229 {c : Nat} (K : ∀ h, LX Ls h w w.t.F w.t.C (c + 14) → Wp 1000 204 365 [.ref 0, .ref 2, .ref 23, .ref 24, .ref 25, .int (nI w.g.n), .int (nI w.t.w), .int (nI (outc w.g w.t.F w.t.C)), .int (nI w.t.k), .int (lsA w.g w.t), .ref 26, .int (nI t), .int 0, mk0, mk0, mk0, mk0] [] h Q) : ∀ m u h, u + m = 2 → LX Ls h w w.t.F w.t.C (c + 7 * u) → Wp 1000 204 229 [.ref 0, .ref 2, .ref 23, .ref 24, .ref 25, .int (nI w.g.n), .int (nI w.t.w), .int (nI (outc w.g w.t.F w.t.C)), .int (nI w.t.k), .int (lsA w.g w.t), .ref 26, .int (nI t), .int (nI u), mk0, mk0, mk0, mk0] [] h Q
  | 0, u, h, hu, V => by
    have e : u = 2 := by omega
    subst e
    exact g204_229 999 _ _ _ _ _ _ _ h V.1.Sh Q ⟨fun z => absurd z (by decide), fun _ => K h V⟩
  | m + 1, u, h, hu, V => by
    have hu2 : u < 2 := by omega
    have hn := V.2.2.1
    refine g204_229 999 _ _ _ _ _ _ _ h V.1.Sh Q ⟨fun _ => ?_, fun z => absurd ((ltC (y := 2) (b := 2) rfl rfl (by omega) (by omega)).mpr hu2) z⟩
    refine jh V V.vs hu2 (fun h1 V1 HS1 => ⟨_, rfl, HS1, ?_⟩)
    rw [lI_n hn.1]
    have at324 : ∀ h2, LX Ls h2 w w.t.F w.t.C (c + 7 * (u + 1)) → Wp 1000 204 324 [.ref 0, .ref 2, .ref 23, .ref 24, .ref 25, .int (nI w.g.n), .int (nI w.t.w), .int (nI (outc w.g w.t.F w.t.C)), .int (nI w.t.k), .int (lsA w.g w.t), .ref 26, .int (nI t), .int (nI u), .int (b01 (hv w.g w.t.F w.t.C u)), .int (lsg w.g w.t.F w.t.C u), mk0, mk0] [] h2 Q := by
      intro h2 V2
      have ok := V2.2.1
      have e1 : whR w (nI u) = (whA w.g w.t.F w.t.C u, w) := by
        unfold whR
        rw [sdQ_w hu2]
        exact if_neg V2.n0
      have e2 : byR w (nI u) = (lsg w.g w.t.F w.t.C u, w) := by
        unfold byR
        rw [sdQ_w hu2]
        exact if_neg V2.n0
      refine g204_324 999 _ _ _ _ _ _ _ _ _ h2 V2.1.Sh Q ?_
      refine useP (fC98 (d := 959) ok (nI u)) e1 h2 _ V2.1 (fun h3 C3 f3 => ⟨_, rfl, f3.1, ?_⟩)
      have V3 := V2.frC C3 f3
      have by99 : Cl 999 99 [.ref 2, .int (nI u)] h3 (fun r h6 => ∃ x8 : Int32, r = some (.int x8) ∧ Sh h6 ∧ ((x8 = lsg w.g w.t.F w.t.C u → Wp 1000 204 229 [.ref 0, .ref 2, .ref 23, .ref 24, .ref 25, .int (nI w.g.n), .int (nI w.t.w), .int (nI (outc w.g w.t.F w.t.C)), .int (nI w.t.k), .int (lsA w.g w.t), .ref 26, .int (nI t), .int (nI u + (1 : Int32)), mk0, mk0, mk0, mk0] [] h6 Q) ∧ (¬ x8 = lsg w.g w.t.F w.t.C u → Q (some (.int (0 : Int32))) h6))) := by
        refine useP (fC99 (d := 959) ok (nI u)) e2 h3 _ V3.1 (fun h4 C4 f4 => ⟨_, rfl, f4.1, fun _ => ?_, fun z => absurd rfl z⟩)
        rw [nI_1]
        exact w229 K m (u + 1) h4 (by omega) (V3.frC C4 f4)
      rw [b01_0]
      unfold whA
      cases hb : hv w.g w.t.F w.t.C u with
      | true => exact ⟨fun z => (by cases z), fun _ => ⟨fun _ => by99, fun z => absurd rfl z⟩⟩
      | false => exact ⟨fun _ => ⟨fun _ => by99, fun z => absurd rfl z⟩, fun z => absurd rfl z⟩
    by_cases h0c : outc w.g w.t.F w.t.C = 0
    · have := w255 (t := t) (Q := Q) hu2 h0c (c := c + 7 * u + 1) (Ls := Ls) (fun h2 V2 => by
        have q := at324 h2 (V2.up (by omega))
        rw [lsg_fs, if_pos h0c] at q
        exact q) w.g.n h1 (Nat.le_refl _) (V1.up (by omega))
      rw [Nat.sub_self] at this
      exact this
    · have q := at324 h1 (V1.up (by omega))
      rw [lsg_fs, if_neg h0c] at q
      obtain ⟨n', en⟩ : ∃ n', w.g.n = n' + 1 := ⟨w.g.n - 1, by omega⟩
      rw [show lI w.g.n = nI n' from by rw [en]; rfl]
      have ho := outc_lt w.g w.t.F w.t.C
      exact g204_255 999 _ _ _ _ _ _ _ _ _ _ h1 HS1 Q ⟨fun z => absurd z (nI_pos (by omega)), fun _ => ⟨fun z => absurd ((nI_eq0 (by omega)).mp z) h0c, fun _ => q⟩⟩
/-- the answer to a lane that is cut: the law's own -/
theorem w402 {l : Nat} (hl : l < w.g.n) (hol : opb w.t.F w.t.C l = true) (h0c : outc w.g w.t.F w.t.C = 0) {c : Nat} (K : ∀ h, LX Ls h w w.t.F w.t.C (c + w.g.n) → Wp 1000 204 365 [.ref 0, .ref 2, .ref 23, .ref 24, .ref 25, .int (nI w.g.n), .int (nI w.t.w), .int (nI (outc w.g w.t.F w.t.C)), .int (nI w.t.k), .int (lsA w.g w.t), .ref 26, .int (nI t), .int (nI (l + 1)), mk0, mk0, mk0, mk0] [] h Q) : ∀ r h, r ≤ w.g.n → LX Ls h w w.t.F (w.t.C ||| 2 ^ l) (c + (w.g.n - r)) → (r < w.g.n → outc w.g w.t.F (w.t.C ||| 2 ^ l) = 0) → Wp 1000 204 402 [.ref 0, .ref 2, .ref 23, .ref 24, .ref 25, .int (nI w.g.n), .int (nI w.t.w), .int (nI (outc w.g w.t.F w.t.C)), .int (nI w.t.k), .int (lsA w.g w.t), .ref 26, .int (nI t), .int (nI l), .int (bvF (goo w.g w.t.F (w.t.C ||| 2 ^ l) 0) w.g.n (w.g.n - r)), .int (lI r), mk0, mk0] [] h Q := by
  have hn0 : ∀ {h : AH} {F C c : Nat}, LX Ls h w F C c → w.g.n ≤ 6 := fun V => V.2.2.1.2
  have fin : ∀ h r (x : Int32), r ≤ w.g.n → LX Ls h w w.t.F (w.t.C ||| 2 ^ l) (c + (w.g.n - r)) → x = lsg w.g w.t.F (w.t.C ||| 2 ^ l) 0 → ixR (nI l) 12 ∧ (Cl 999 100 [.ref 2, .int (nI l)] (stI h 24 (nI l).toNatClampNeg 0) (fun r h3 => ∃ x5 : Int32, r = some (.int x5) ∧ Sh h3 ∧ ((x5 = x → Wp 1000 204 365 [.ref 0, .ref 2, .ref 23, .ref 24, .ref 25, .int (nI w.g.n), .int (nI w.t.w), .int (nI (outc w.g w.t.F w.t.C)), .int (nI w.t.k), .int (lsA w.g w.t), .ref 26, .int (nI t), .int (nI l + (1 : Int32)), mk0, mk0, mk0, mk0] [] h3 Q) ∧ (¬ x5 = x → Q (some (.int (0 : Int32))) h3)))) := by
    intro h r x hr V ex
    have hn := hn0 V
    have ok := V.2.1
    refine ⟨ixR_nI (by omega) (by decide), ?_⟩
    rw [tnI (by omega)]
    have V1 : LX Ls (stI h 24 l (nI 0)) w w.t.F w.t.C (c + w.g.n) := (V.st24 (F' := w.t.F) (C' := w.t.C) (l := l) (v := 0) (fun i => by
      rw [sta_C hol i]
      by_cases e : i = l
      · rw [if_pos e, e, sta_opb.mpr hol]
      · rw [if_neg e, if_neg e])).up (by omega)
    have e1 : anR w (nI l) = (lsg w.g w.t.F (w.t.C ||| 2 ^ l) 0, w) := by
      unfold anR
      rw [lnQ_j hl (by omega)]
      exact if_pos ⟨h0c, hol⟩
    refine useP (fC100 (d := 959) ok (nI l)) e1 _ _ V1.1 (fun h2 C2 f2 => ⟨_, rfl, f2.1, fun _ => ?_, fun z => absurd ex.symm z⟩)
    rw [nI_1]
    exact K h2 (V1.frC C2 f2)
  intro r
  induction r with
  | zero =>
    intro h hr V hz
    have hn := V.2.2.1
    refine g204_402 999 _ _ _ _ _ _ _ _ _ h V.1.Sh Q ⟨fun _ => ?_, fun z => absurd (by decide : (lI 0) < (0 : Int32)) z⟩
    refine fin h 0 _ (Nat.zero_le _) V ?_
    rw [Nat.sub_zero, bvF_all, lsg_fs, if_pos (hz (by omega))]
  | succ k ih =>
    intro h hr V hz
    have hn := V.2.2.1
    have hlt : k < w.g.n := by omega
    have hvs : VS w.g.n w.t.F (w.t.C ||| 2 ^ l) := V.vs.C hl hol
    have ho := outc_lt w.g w.t.F (w.t.C ||| 2 ^ l)
    rw [show lI (k + 1) = nI k from rfl]
    refine g204_402 999 _ _ _ _ _ _ _ _ _ h V.1.Sh Q ⟨fun z => absurd z (nI_pos (by omega)), fun _ => ?_⟩
    refine sj V hvs ⟨_, rfl, V.1.Sh, ?_⟩
    rw [nI_eq0 (by omega)]
    refine ⟨fun z0 => ⟨ixR_nI (j := k) (by omega) (by decide), ?_⟩, fun z0 => ?_⟩
    · show (AI h 24 (nI k).toNatClampNeg = 0 → _) ∧ (¬ AI h 24 (nI k).toNatClampNeg = 0 → Wp 1000 204 402 [.ref 0, .ref 2, .ref 23, .ref 24, .ref 25, _, _, _, _, _, .ref 26, _, _, _, .int (nI k + (-1)), mk0, mk0] [] h Q)
      have hst := sta_lt w.t.F (w.t.C ||| 2 ^ l) k
      rw [lI_p, tnI (by omega), V.2.2.2.2.1.2 k hlt, nI_eq0 (by omega), sta_opb]
      have bst := bvF_st (goo w.g w.t.F (w.t.C ||| 2 ^ l) 0) hlt
      refine ⟨fun z => ?_, fun z => ?_⟩
      · have V1 : LX Ls (stI h 24 k (nI 1)) w (w.t.F ||| 2 ^ k) (w.t.C ||| 2 ^ l) (c + (w.g.n - (k + 1))) := V.st24 (fun i => sta_F i)
        refine jh (who := 1) V1 (hvs.F hlt z) (by decide) (fun h2 V2 HS2 => ⟨_, rfl, HS2, ?_⟩)
        have V3 : LX Ls (stI h2 24 k (nI 0)) w w.t.F (w.t.C ||| 2 ^ l) (c + (w.g.n - k)) := (V2.st24 (F' := w.t.F) (C' := w.t.C ||| 2 ^ l) (l := k) (v := 0) (fun i => by
          rw [sta_F i]
          by_cases e : i = k
          · rw [if_pos e, e, sta_opb.mpr z]
          · rw [if_neg e, if_neg e])).up (by omega)
        have nx := ih _ (by omega) V3 (fun _ => z0)
        have hg : goo w.g w.t.F (w.t.C ||| 2 ^ l) 0 k = hv w.g (w.t.F ||| 2 ^ k) (w.t.C ||| 2 ^ l) 1 := by
          unfold goo
          rw [z]
          rfl
        rw [bst, hg] at nx
        rw [b01_0]
        refine ⟨fun y => ⟨ixR_nI (j := k) (by omega) (by decide), ?_⟩, fun y => ⟨ixR_nI (j := k) (by omega) (by decide), ?_⟩⟩
        · rw [if_neg (by rw [y]; decide)] at nx
          exact nx
        · rw [if_pos (ts_nf y)] at nx
          exact nx
      · have hg : goo w.g w.t.F (w.t.C ||| 2 ^ l) 0 k = false := by
          unfold goo
          rw [ts_nt z]
          rfl
        have nx := ih h (by omega) (V.up (by omega)) (fun _ => z0)
        rw [bst, hg, if_neg (by decide)] at nx
        exact nx
    · have hk : k + 1 = w.g.n := by
        rcases Nat.lt_or_ge (k + 1) w.g.n with q | q
        · exact absurd (hz q) z0
        · omega
      refine fin h (k + 1) _ hr V ?_
      rw [hk, Nat.sub_self, lsg_fs, if_neg z0]
      rfl
theorem w365 {c : Nat} (K : ∀ h, LX Ls h w w.t.F w.t.C (c + 36) → Wp 1000 204 365 [.ref 0, .ref 2, .ref 23, .ref 24, .ref 25, .int (nI w.g.n), .int (nI w.t.w), .int (nI (outc w.g w.t.F w.t.C)), .int (nI w.t.k), .int (lsA w.g w.t), .ref 26, .int (nI t), .int (nI w.g.n), mk0, mk0, mk0, mk0] [] h Q) : ∀ m l h, l + m = w.g.n → LX Ls h w w.t.F w.t.C (c + 6 * l) → Wp 1000 204 365 [.ref 0, .ref 2, .ref 23, .ref 24, .ref 25, .int (nI w.g.n), .int (nI w.t.w), .int (nI (outc w.g w.t.F w.t.C)), .int (nI w.t.k), .int (lsA w.g w.t), .ref 26, .int (nI t), .int (nI l), mk0, mk0, mk0, mk0] [] h Q
  | 0, l, h, hl, V => by
    have hn := V.2.2.1
    have e : l = w.g.n := by omega
    rw [e]
    exact K h (V.up (by omega))
  | m + 1, l, h, hl, V => by
    have hn := V.2.2.1
    have hlt : l < w.g.n := by omega
    have ok := V.2.1
    have ho := outc_lt w.g w.t.F w.t.C
    have hst := sta_lt w.t.F w.t.C l
    have no : (¬ (outc w.g w.t.F w.t.C = 0 ∧ opb w.t.F w.t.C l = true)) → Cl 999 100 [.ref 2, .int (nI l)] h (fun r h5 => ∃ x7 : Int32, r = some (.int x7) ∧ Sh h5 ∧ ((x7 = (-103 : Int32) → Wp 1000 204 365 [.ref 0, .ref 2, .ref 23, .ref 24, .ref 25, .int (nI w.g.n), .int (nI w.t.w), .int (nI (outc w.g w.t.F w.t.C)), .int (nI w.t.k), .int (lsA w.g w.t), .ref 26, .int (nI t), .int (nI l + (1 : Int32)), mk0, mk0, mk0, mk0] [] h5 Q) ∧ (¬ x7 = (-103 : Int32) → Q (some (.int (0 : Int32))) h5))) := fun hno => by
      have e1 : anR w (nI l) = (-103, w) := by
        unfold anR
        rw [lnQ_j hlt (by omega)]
        exact if_neg hno
      refine useP (fC100 (d := 959) ok (nI l)) e1 h _ V.1 (fun h2 C2 f2 => ⟨_, rfl, f2.1, fun _ => ?_, fun z => absurd rfl z⟩)
      rw [nI_1]
      exact w365 K m (l + 1) h2 (by omega) ((V.frC C2 f2).up (by omega))
    refine g204_365 999 _ _ _ _ _ _ _ h V.1.Sh Q ⟨fun _ => ?_, fun z => absurd ((nI_ltI (by omega) (by omega)).mpr hlt) z⟩
    rw [nI_eq0 (by omega)]
    refine ⟨fun z0 => ⟨ixR_nI (by omega) (by decide), ?_⟩, fun z0 => no (fun q => z0 q.1)⟩
    rw [tnI (by omega), V.2.2.2.2.1.2 l hlt, nI_eq0 (by omega), sta_opb]
    refine ⟨fun z => ?_, fun z => no (fun q => z q.2)⟩
    rw [lI_n hn.1]
    have V1 : LX Ls (stI h 24 l (nI 2)) w w.t.F (w.t.C ||| 2 ^ l) (c + 6 * l) := V.st24 (fun i => sta_C z i)
    have := w402 (t := t) (Q := Q) hlt z z0 (c := c + 6 * l) (Ls := Ls) (fun h2 V2 => w365 K m (l + 1) h2 (by omega) (V2.up (by omega))) w.g.n _ (Nat.le_refl _) (V1.up (by omega)) (fun q => absurd q (Nat.lt_irrefl _))
    rw [Nat.sub_self] at this
    exact this
end LAW
