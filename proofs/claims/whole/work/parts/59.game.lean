/-! a game to its end -/
def gpl (g : G) (kj kc : Nat) : Nat → ST → Int64 → ST × Int64 × Nat
  | 0, t, s => (t, s, 0)
  | f + 1, t, s => if outc g t.F t.C = 0 then
      ((gpl g kj kc f (plyT t (tkA g t.F t.C t.w (if t.w = 0 then kj else kc) s).toNatClampNeg) (sdA (if t.w = 0 then kj else kc) s)).1,
       (gpl g kj kc f (plyT t (tkA g t.F t.C t.w (if t.w = 0 then kj else kc) s).toNatClampNeg) (sdA (if t.w = 0 then kj else kc) s)).2.1,
       (gpl g kj kc f (plyT t (tkA g t.F t.C t.w (if t.w = 0 then kj else kc) s).toNatClampNeg) (sdA (if t.w = 0 then kj else kc) s)).2.2 + 1)
    else (t, s, 0)
theorem gpl_end {g : G} {kj kc f : Nat} {t : ST} {s : Int64} (h : ¬ outc g t.F t.C = 0) : gpl g kj kc f t s = (t, s, 0) := by
  cases f with
  | zero => rfl
  | succ f =>
    show (if outc g t.F t.C = 0 then _ else _) = _
    rw [if_neg h]
theorem gpl_go {g : G} {kj kc f : Nat} {t : ST} {s : Int64} (h : outc g t.F t.C = 0) {l : Nat} (hl : (tkA g t.F t.C t.w (if t.w = 0 then kj else kc) s).toNatClampNeg = l) : gpl g kj kc (f + 1) t s = ((gpl g kj kc f (plyT t l) (sdA (if t.w = 0 then kj else kc) s)).1, (gpl g kj kc f (plyT t l) (sdA (if t.w = 0 then kj else kc) s)).2.1, (gpl g kj kc f (plyT t l) (sdA (if t.w = 0 then kj else kc) s)).2.2 + 1) := by
  subst hl
  show (if outc g t.F t.C = 0 then _ else _) = _
  rw [if_pos h]
theorem oc_ply {g : G} {t : ST} {l : Nat} (hl : l < g.n) (ho : opb t.F t.C l = true) : oc g.n t.F t.C = oc g.n (plyT t l).F (plyT t l).C + 1 := by
  show _ = oc g.n (if t.w = 0 then t.F ||| 2 ^ l else t.F) (if t.w = 0 then t.C else t.C ||| 2 ^ l) + 1
  by_cases e : t.w = 0
  · rw [if_pos e, if_pos e]
    exact oc_F hl ho
  · rw [if_neg e, if_neg e]
    exact oc_C hl ho
/-- what the game comes to -/
theorem gpl_fin {g : G} (ho : GOK g) {kj kc : Nat} : ∀ {f t s}, TOK g t → oc g.n t.F t.C ≤ f → TOK g (gpl g kj kc f t s).1 ∧ ¬ outc g (gpl g kj kc f t s).1.F (gpl g kj kc f t s).1.C = 0 ∧ (gpl g kj kc f t s).2.2 ≤ f
  | 0, t, s, ht, hf => by
    refine ⟨ht, fun z => ?_, Nat.le_refl _⟩
    have hz : outc g t.F t.C = 0 := z
    have := oc_pos ht.1 hz
    omega
  | f + 1, t, s, ht, hf => by
    by_cases z : outc g t.F t.C = 0
    · obtain ⟨l, hl, hop, e⟩ := tkA_ok (w := t.w) (kd := if t.w = 0 then kj else kc) (s := s) ho ht.1 z
      have el : (tkA g t.F t.C t.w (if t.w = 0 then kj else kc) s).toNatClampNeg = l := by
        rw [e]
        exact tnI (by have := ho.1; omega)
      rw [gpl_go z el]
      have := oc_ply hl hop
      obtain ⟨a, b, c⟩ := gpl_fin ho (kj := kj) (kc := kc) (s := sdA (if t.w = 0 then kj else kc) s) (ht.ply hl hop) (by omega : _ ≤ f)
      exact ⟨a, b, by show _ + 1 ≤ f + 1; omega⟩
    · rw [gpl_end z]
      exact ⟨ht, z, Nat.zero_le _⟩
theorem w123 {d : Nat} {g : G} (ho : GOK g) (hn9 : g.n ≤ 9) {kj kc ij ic : Nat} (hkj : kj < 5) (hkc : kc < 5) {h0 : AH} {Q : Option Value → AH → Prop} : ∀ f m t h, m + f = 9 → oc g.n t.F t.C ≤ f → TOK g t → SI h g → Fr csP h0 h → StC h 15 t → PlK h ij kj → PlK h ic kc → (∀ h', SI h' g → Fr csP h0 h' → StC h' 15 (gpl g kj kc f t (AL h 21 0)).1 → AL h' 21 0 = (gpl g kj kc f t (AL h 21 0)).2.1 → Q (some (.int (nI (m + (gpl g kj kc f t (AL h 21 0)).2.2)))) h') → Wp (d + 30) 123 13 [.ref 2, .ref ij, .ref ic, .int (nI m), mk0] [] h Q
  | 0, m, t, h, hm, hoc, ht, S, hf, sv, pj, pc, K => by
    have e : m = 9 := hm
    subst e
    refine g123_13 (d + 28) _ _ _ h S.1 Q ⟨fun z => absurd z (by decide), fun _ => ?_⟩
    exact K h S hf sv rfl
  | f + 1, m, t, h, hm, hoc, ht, S, hf, sv, pj, pc, K => by
    have HS := S.1
    refine g123_13 (d + 28) _ _ _ h HS Q ⟨fun _ => ?_, fun z => absurd ((ltC (y := 9) (b := 9) rfl rfl (by omega) (by omega)).mpr (by omega)) z⟩
    rw [sv.2.1, sv.2.2.1]
    refine c37 (d := d + 26) HS S.2.1 S.2.2.1 ho ht.1.1 ⟨_, rfl, HS, ?_⟩
    have := outc_lt g t.F t.C
    rw [nI_eq0 (by omega), sv.2.2.2.1, nI_eq0 (by have := ht.2.1; omega)]
    refine ⟨fun z => ?_, fun z => ?_⟩
    · obtain ⟨l, hl, hop, e⟩ := tkA_ok (w := t.w) (kd := if t.w = 0 then kj else kc) (s := AL h 21 0) ho ht.1 z
      have el : (tkA g t.F t.C t.w (if t.w = 0 then kj else kc) (AL h 21 0)).toNatClampNeg = l := by
        rw [e]
        exact tnI (by omega)
      rw [gpl_go z el] at K
      have hoc2 := oc_ply hl hop
      have hkl := ht.k_lt hl hop
      have go : ∀ id, PlK h id (if t.w = 0 then kj else kc) → ∃ j, ([(7, 53), (0, 2), (1, 5), (2, 15), (4, 15)] : List (Nat × Nat)).lookup (AK h id).1 = some j ∧ (exL [.ref id, .ref 15, .ref 17, .ref 21]).length ≤ mMax j ∧ Cl (d + 29) j [.ref id, .ref 15, .ref 17, .ref 21] h (fun r h10 => ∃ x12 : Int32, r = some (.int x12) ∧ Sh h10 ∧ (Cl (d + 29) 74 [.ref 15, .int x12] h10 (fun r h13 => r = none ∧ Sh h13 ∧ Wp (d + 30) 123 13 [.ref 2, .ref ij, .ref ic, .int (nI m + 1), mk0] [] h13 Q))) := by
        intro id pk
        refine cCh (d := d + 3) S ho hn9 ht (v := 15) (Or.inr (Or.inr rfl)) sv z (by split; exact hkj; exact hkc) pk (fun h' f' S' s' => ⟨_, rfl, S'.1, ?_⟩)
        rw [e]
        have sv' : StC h' 15 t := sv.fr f' (fun j => ⟨by unfold chP; omega, by unfold chP; omega⟩)
        refine c74 (d := d + 28) S'.1 (Or.inr (Or.inr rfl)) sv' (by omega) ht.2.1 (by omega) (fun h2 f2 s2 => ⟨rfl, f2.Sh S'.1, ?_⟩)
        have S2 : SI h2 g := S'.fr f2 (fun i j a z => by unfold stP at z; omega)
        have e21 : AL h2 21 0 = sdA (if t.w = 0 then kj else kc) (AL h 21 0) := by rw [f2.L (by unfold stP; omega), s']
        rw [nI_1]
        refine w123 ho hn9 hkj hkc f (m + 1) (plyT t l) h2 (by omega) (by omega) (ht.ply hl hop) S2 ((hf.trans (f'.weak (fun i j z => by unfold chP at z; unfold csP; omega))).trans (f2.weak (fun i j z => by unfold stP at z; unfold csP; omega))) s2 ((pj.fr f').fr f2) ((pc.fr f').fr f2) (fun h3 S3 f3 s3 l3 => ?_)
        rw [e21] at s3 l3 ⊢
        have := K h3 S3 f3 s3 l3
        rw [show m + ((gpl g kj kc f (plyT t l) (sdA (if t.w = 0 then kj else kc) (AL h 21 0))).2.2 + 1) = m + 1 + (gpl g kj kc f (plyT t l) (sdA (if t.w = 0 then kj else kc) (AL h 21 0))).2.2 by omega] at this
        exact this
      refine ⟨fun z2 => go ij (by rw [if_pos z2]; exact pj), fun z2 => go ic (by rw [if_neg z2]; exact pc)⟩
    · rw [gpl_end z] at K
      exact K h S hf sv rfl
def gmA (g : G) (r : ST × Int64 × Nat) (k : Nat) : Int32 := if k = 0 then (if outc g r.1.F r.1.C = 1 then 0 else 1) else if k = 1 then nI r.2.2 else if k = 2 then nI r.1.F else r.2.1.toInt32
def gmR (w : WD) (xj xc xs xw : Int32) : Int32 × WD := match lnQ w.np xj with
  | none => (-101, w)
  | some p => match lnQ w.np xc with
    | none => (-101, w)
    | some q => if w.g.n = 0 then (-103, w) else if xs < 0 then (-102, w) else match whQ 3 xw with
      | none => (-102, w)
      | some k => (gmA w.g (gpl w.g (w.kf p) (w.kf q) 9 w.t xs.toInt64) k, w)
theorem fC110 {d : Nat} {w : WD} (ok : WdOK w) (xj xc xs xw : Int32) : CFp (d + 40) 110 [.ref 2, .int xj, .int xc, .int xs, .int xw] w (gmR w xj xc xs xw) := by
  intro h Q c K
  have HS := c.Sh
  have hT := ok.2.2.2.1
  unfold gmR at K
  refine Cl.enter rfl (g110_0 (d + 38) _ _ _ _ h HS Q ?_)
  refine c120 ok c xj (fun e => Or.inr ⟨rfl, HS, ?_⟩) (fun p ij hp ex e pj => Or.inl ⟨ij, rfl, HS, ?_⟩)
  · rw [e] at K
    have K' := K h c (FrC.rfl HS)
    exact c120 ok c xc (fun e => Or.inr ⟨rfl, HS, K'⟩) (fun q id hq ey e2 pq => Or.inl ⟨id, rfl, HS, K'⟩)
  rw [e] at K
  dsimp only at K
  refine c120 ok c xc (fun e => Or.inr ⟨rfl, HS, ?_⟩) (fun q ic hq ey e2 pq => Or.inl ⟨ic, rfl, HS, ?_⟩)
  · rw [e] at K
    exact K h c (FrC.rfl HS)
  rw [e2] at K
  dsimp only at K
  rw [c.NP ok]
  refine ⟨fun z => ?_, fun z => ?_⟩
  · rw [if_neg (by omega)] at K
    have S := c.si z
    refine ⟨fun y0 => ?_, fun y0 => ⟨fun a => ?_, fun a => ⟨fun a2 => ?_, fun a2 => ?_⟩⟩⟩
    · rw [if_pos y0] at K
      exact K h c (FrC.rfl HS)
    · rw [if_neg y0, whQ_neg a] at K
      exact K h c (FrC.rfl HS)
    · rw [if_neg y0, whQ_big a a2] at K
      exact K h c (FrC.rfl HS)
    · obtain ⟨k, hk, rfl, e3⟩ := whQ_in (m := 3) (by decide) a a2
      rw [if_neg y0, e3] at K
      dsimp only at K
      have f1 : Fr csP h (stL h 21 0 xs.toInt64) := Fr.stL (by unfold csP; omega)
      have f1' : Fr (fun i _ => i = 21) h (stL h 21 0 xs.toInt64) := Fr.stL rfl
      have S1 : SI (stL h 21 0 xs.toInt64) w.g := S.fr f1' (fun i j a z => by omega)
      have l1 : AL (stL h 21 0 xs.toInt64) 21 0 = xs.toInt64 := by rw [AL_stL, if_pos ⟨rfl, rfl⟩]
      have h9 := ok.2.2.1
      have hkl := hT.k_le
      refine Cl.enter rfl (g123_0 (d + 38) _ _ _ S1.1 _ ?_)
      refine c73 (d := d + 37) S1.1 (v := 15) (u := 11) (Or.inr (Or.inr rfl)) (Or.inl rfl) (by decide) (by omega) (c.2.1.fr f1' (fun j => ⟨by omega, by omega⟩)) (fun h2 f2 s2 => ⟨rfl, f2.Sh S1.1, ?_⟩)
      have S2 : SI h2 w.g := S1.fr f2 (fun i j a z => by unfold stP at z; omega)
      have l2 : AL h2 21 0 = xs.toInt64 := by rw [f2.L (by unfold stP; omega), l1]
      have ff2 : Fr csP h h2 := f1.trans (f2.weak (fun i j z => by unfold stP at z; unfold csP; omega))
      have hoc : oc w.g.n w.t.F w.t.C ≤ 9 := Nat.le_trans (oc_le _ _ _) h9
      refine w123 (d := d + 9) ok.2.1 h9 (ok.2.2.2.2.2.2.1 p hp) (ok.2.2.2.2.2.2.1 q hq) 9 0 w.t h2 rfl hoc hT S2 ff2 s2 (pj.fr ff2) (pq.fr ff2) (fun h3 S3 f3 s3 l3 => ⟨_, rfl, S3.1, ?_⟩)
      rw [l2] at s3 l3 ⊢
      obtain ⟨ft, fo, fc⟩ := gpl_fin ok.2.1 (kj := w.kf p) (kc := w.kf q) (s := xs.toInt64) hT hoc
      have c3 : CI h3 w := c.sch f3 (fun i j z => z) S3
      have K' := K h3 c3 (FrC.sch c f3 (fun i j z => z))
      generalize gpl w.g (w.kf p) (w.kf q) 9 w.t xs.toInt64 = r at s3 l3 ft fo fc K' ⊢
      have es : ∀ q, q < 8 → (nI k = Int32.ofNat q ↔ k = q) := fun q hq => eqN (by omega) (by omega)
      unfold gmA at K'
      rw [es 0 (by decide), es 1 (by decide), es 2 (by decide), s3.2.1, s3.2.2.1, l3, Nat.zero_add]
      refine ⟨fun b => ?_, fun b => ⟨fun b1 => ?_, fun b1 => ⟨fun b2 => ?_, fun b2 => ?_⟩⟩⟩
      · rw [if_pos b] at K'
        refine c37 S3.1 S3.2.1 S3.2.2.1 ok.2.1 ft.1.1 ⟨_, rfl, S3.1, ?_⟩
        have := outc_lt w.g r.1.F r.1.C
        rw [show (1 : Int32) = nI 1 from rfl, nI_eq (by omega) (by omega)]
        refine ⟨fun y => ?_, fun y => ?_⟩
        · rwa [if_pos y] at K'
        · rwa [if_neg y] at K'
      · rwa [if_neg b, if_pos b1] at K'
      · rwa [if_neg b, if_neg b1, if_pos b2] at K'
      · rwa [if_neg b, if_neg b1, if_neg b2] at K'
  · rw [if_pos (by omega)] at K
    exact K h c (FrC.rfl HS)
