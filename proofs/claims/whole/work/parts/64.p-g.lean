/-! shelves get scales and rows -/
def upS (v : AS) (d : Nat) (s : ASh) : AS := (v.1, v.2.1, fun e => if e = d then s else v.2.2 e)
theorem upS_s (v : AS) (d : Nat) (s : ASh) : (upS v d s).2.2 d = s := if_pos rfl
theorem upS_n (v : AS) {d e : Nat} (s : ASh) (h : e ≠ d) : (upS v d s).2.2 e = v.2.2 e := if_neg h
theorem AOk.up {v : AS} {d : Nat} {s : ASh} (h : AOk v) (hs : ShOk s) : AOk (upS v d s) := ⟨h.1, h.2.1, fun e he => by
  by_cases e2 : e = d
  · subst e2; rw [upS_s]; exact hs
  · rw [upS_n v s e2]; exact h.2.2 e he⟩
theorem MOk.up {v : AS} {d : Nat} {s : ASh} (h : MOk v) (hs : ShOk s) : MOk (upS v d s) := ⟨h.1, h.2.1, fun e he => by
  by_cases e2 : e = d
  · subst e2; rw [upS_s]; exact hs
  · rw [upS_n v s e2]; exact h.2.2 e he⟩
theorem fr_ne {S : Hp} {q b k : Nat} (hq : fr S q) (hb : kd S b = k) (h0 : 0 < k) (h1 : k < 12) : b ≠ q := fun z => by
  subst z
  rcases hq with h | h <;> omega
theorem nfr {S : Hp} {b k : Nat} (hb : kd S b = k) (h0 : 0 < k) (h1 : k < 12) : ¬ fr S b := fun z => by
  rcases z with h | h <;> omega
/-- a shelf gets something new -/
theorem XI.shelf {a : Nat → Nat} {v : AS} {S S' : Hp} {d : Nat} {s : ASh} (h : XI a v S) (hd : d < 8) (hs : ShOk s) (hN : ∀ b, ¬ fr S b → kd S' b = kd S b ∧ (∀ i, gI S' i b = gI S i b) ∧ (∀ i, gR S' i b = gR S i b) ∧ ln S' b = ln S b ∧ gA S' b = gA S b)
    (hq0 : ∀ j, j ≠ d → gQ S' (a 20) j = gQ S (a 20) j) (hq1 : ∀ j, j ≠ d → gQ S' (a 21) j = gQ S (a 21) j) (hsh : XSh a S' d s) (hsep : ∀ z c, gQ S' (a 21) d = some z → gR S' 11 z = some c → fr S c) : XI a (upS v d s) S' := by
  have xk : ∀ i, i < 30 → ¬ fr S (a i) := fun i hi => nfr (h.1.1 i hi) (by
    have : ∀ i, i < 30 → 0 < xK i := by decide
    exact this i hi) (by
    have : ∀ i, i < 30 → xK i < 12 := by decide
    exact this i hi)
  have e1 : ∀ i, i < 30 → kd S' (a i) = kd S (a i) := fun i hi => (hN _ (xk i hi)).1
  have e2 : ∀ i, i < 30 → ∀ j, gI S' j (a i) = gI S j (a i) := fun i hi => (hN _ (xk i hi)).2.1
  have e3 : ∀ i, i < 30 → ∀ j, gR S' j (a i) = gR S j (a i) := fun i hi => (hN _ (xk i hi)).2.2.1
  have e4 : ∀ i, i < 30 → ln S' (a i) = ln S (a i) := fun i hi => (hN _ (xk i hi)).2.2.2.1
  have e5 : ∀ i, i < 30 → gA S' (a i) = gA S (a i) := fun i hi => (hN _ (xk i hi)).2.2.2.2
  refine ⟨?_, h.2.1.up hs, ?_, ?_, ?_, ?_, ?_, ?_⟩
  · have h1 := h.1
    unfold XS at h1 ⊢
    refine ⟨fun i hi => (e1 i hi).trans (h1.1 i hi), h1.2.1, ?_, ?_, ?_, ?_⟩
    · simp only [e3 0 (by decide), e3 1 (by decide), e3 4 (by decide), e3 9 (by decide), e3 12 (by decide), e3 15 (by decide), e3 23 (by decide), e3 24 (by decide)]
      exact h1.2.2.1
    · simp only [e4 2 (by decide), e4 3 (by decide), e4 10 (by decide), e4 11 (by decide), e4 13 (by decide), e4 14 (by decide), e4 25 (by decide), e4 26 (by decide), e4 5 (by decide), e4 6 (by decide), e4 7 (by decide), e4 8 (by decide), e4 16 (by decide), e4 17 (by decide), e4 18 (by decide), e4 19 (by decide), e4 20 (by decide), e4 21 (by decide), e4 27 (by decide), e4 28 (by decide), e4 29 (by decide)]
      exact h1.2.2.2.1
    · rw [e2 22 (by decide)]; exact h1.2.2.2.2.1
    · rw [e2 22 (by decide)]; exact h1.2.2.2.2.2
  · have h1 := h.2.2.1
    unfold StR at h1 ⊢
    rw [e2 1 (by decide), e5 2 (by decide), e5 3 (by decide)]
    exact h1
  · have h1 := h.2.2.2.1
    unfold LyD at h1 ⊢
    rw [e2 4 (by decide), e5 5 (by decide), e5 6 (by decide), e5 7 (by decide), e5 8 (by decide)]
    exact h1
  · rw [e2 0 (by decide)]; exact h.2.2.2.2.1
  · intro t ht
    have h1 := h.2.2.2.2.2.1 t ht
    unfold StR at h1 ⊢
    rw [e2 0 (by decide), e2 9 (by decide), e5 10 (by decide), e5 11 (by decide)]
    exact h1
  · intro e he
    by_cases e6 : e = d
    · subst e6; rw [upS_s]; exact hsh
    · rw [upS_n v s e6]
      have h1 := h.2.2.2.2.2.2.1 e he
      unfold XSh ScS at h1 ⊢
      rw [hq0 e e6, hq1 e e6]
      refine ⟨h1.1, fun z => ?_, fun z => ?_⟩
      · obtain ⟨⟨y, g1, g2, g3, g4⟩, g5⟩ := h1.2.1 z
        have gy := hN y (nfr g2 (by decide) (by decide))
        exact ⟨⟨y, g1, gy.1.trans g2, (gy.2.1 _).trans g3, (gy.2.1 _).trans g4⟩, g5⟩
      · obtain ⟨g1, y, c, g2, g3, g4, g5, g6, g7, g8, g9⟩ := h1.2.2 z
        have gy := hN y (nfr g3 (by decide) (by decide))
        have gc := hN c (nfr g6 (by decide) (by decide))
        exact ⟨g1, y, c, g2, gy.1.trans g3, (gy.2.1 _).trans g4, (gy.2.2.1 _).trans g5, gc.1.trans g6, gc.2.2.2.1.trans g7, fun j hj => by rw [gc.2.2.2.2]; exact g8 j hj, g9⟩
  · have old : ∀ e, e < 8 → e ≠ d → ∀ z c, gQ S' (a 21) e = some z → gR S' 11 z = some c → gQ S (a 21) e = some z ∧ gR S 11 z = some c ∧ ¬ fr S c := by
      intro e he hed z c hz hc
      rw [hq1 e hed] at hz
      have h1 := h.2.2.2.2.2.2.1 e he
      have hle := (h.2.1.2.2 e he).1
      unfold XSh at h1
      rcases (by omega : (v.2.2 e).1 = 0 ∨ (v.2.2 e).1 = 1 ∨ (v.2.2 e).1 = 2) with g | g | g
      · rw [(h1.1 g).2] at hz; cases hz
      · rw [(h1.2.1 g).2] at hz; cases hz
      · obtain ⟨-, y, c', g2, g3, g4, g5, g6, -⟩ := h1.2.2 g
        have hyz := Option.some.inj (g2.symm.trans hz)
        subst hyz
        have gy := hN y (nfr g3 (by decide) (by decide))
        rw [gy.2.2.1] at hc
        have hcc := Option.some.inj (g5.symm.trans hc)
        subst hcc
        exact ⟨g2, g5, nfr g6 (by decide) (by decide)⟩
    refine ⟨?_, by
      have hz := h.2.2.2.2.2.2.2.2
      unfold XZ at hz ⊢
      rw [e5 16 (by decide), e5 17 (by decide), e5 18 (by decide), e5 19 (by decide)]
      exact hz⟩
    intro d1 d2 h1 h2 hne z z' c c' hz hz' hc hc'
    by_cases g1 : d1 = d
    · subst g1
      obtain ⟨-, -, o3⟩ := old d2 h2 (Ne.symm hne) z' c' hz' hc'
      exact fun zz => o3 (zz ▸ hsep z c hz hc)
    · obtain ⟨o1, o2, o3⟩ := old d1 h1 g1 z c hz hc
      by_cases g2 : d2 = d
      · subst g2
        exact fun zz => o3 (zz ▸ hsep z' c' hz' hc')
      · obtain ⟨p1, p2, p3⟩ := old d2 h2 g2 z' c' hz' hc'
        exact h.2.2.2.2.2.2.2.1 d1 d2 h1 h2 hne z z' c c' o1 p1 o2 p2
abbrev kpOk (d w k f : Int32) : Prop := isSh d ∧ isW2 w ∧ (w = 1 → (0 ≤ k.toInt ∧ k.toInt ≤ 7) ∧ (0 ≤ f.toInt ∧ f.toInt ≤ 9))
def kpS (w k f : Int32) : ASh := if w = 1 then (1, k, f, 0, 0, fun _ => 0) else (0, 0, 0, 0, 0, fun _ => 0)
def sp_keep (d w k f : Int32) : Int32 := if kpOk d w k f then 0 else -1
def ef_keep (v : AS) (d w k f : Int32) : AS := if kpOk d w k f then upS v (ix d) (kpS w k f) else v
theorem gQ_sQ (S : Hp) (b j : Nat) (o : Option Nat) : gQ (sQ S b j o) b = va_up (gQ S b) j o := (h_gQ_sQ _ _ _ _ _).trans (if_pos rfl)
theorem gQ_sQn (S : Hp) {b c : Nat} (j : Nat) (o : Option Nat) (h : c ≠ b) : gQ (sQ S b j o) c = gQ S c := (h_gQ_sQ _ _ _ _ _).trans (if_neg h)
theorem x_keep {a : Nat → Nat} {v : AS} {S : Hp} {d w k f : Int32} {Q : Int32 → Hp → Prop} (hX : XI a v S) (hQ : ∀ S', XI a (ef_keep v d w k f) S' → Q (sp_keep d w k f) S') : wp_X5_keep (a 0) d w k f S Q := by
  unfold ef_keep sp_keep at hQ
  unfold wp_X5_keep
  rw [e_xSh]
  have w1 : w = 1 ↔ w.toInt = 1 := p_eq _ _
  refine br0 (fun hd => ?_) (fun hd => ?_)
  · have go : kpOk d w k f → J_X5_keep_47 Q (a 0) d w k f S := by
      intro hok
      rw [if_pos hok] at hQ
      obtain ⟨h8, hdI⟩ := isSh_nI hd
      obtain ⟨i1, i2, i3, i4⟩ := x_in hX.1 hd
      have hcl : d.toNatClampNeg = ix d := rfl
      have n20 : a 20 ≠ a 21 := hX.1.ne (by decide) (by decide) (by decide)
      unfold J_X5_keep_47
      refine ⟨hX.1.k0, _, hX.1.r56_0, fun e => ⟨i1, i3, fun S2 e2 => ?_⟩, fun e q hq S6 e6 => ?_⟩
      · subst e2
        refine ⟨hX.1.k0, _, hX.1.r57_0, i2, i4, fun S4 e4 => ?_⟩
        subst e4
        rw [if_pos hok] at hQ
        refine hQ _ (hX.shelf h8 ?_ (fun b hb => ⟨rfl, fun _ => rfl, fun _ => rfl, rfl, rfl⟩) (fun j hj => ?_) (fun j hj => ?_) ?_ (fun z c hz hc => ?_))
        · unfold kpS; rw [if_neg e]; exact ⟨by decide, fun z => absurd z (by decide), fun z => absurd z (by decide)⟩
        · rw [gQ_sQn _ _ _ n20, gQ_sQ]; exact if_neg (by rw [hcl]; exact hj)
        · rw [gQ_sQ, gQ_sQn _ _ _ (Ne.symm n20)]; exact if_neg (by rw [hcl]; exact hj)
        · unfold kpS XSh; rw [if_neg e]
          refine ⟨fun _ => ⟨?_, ?_⟩, fun z => absurd z (by decide), fun z => absurd z (by decide)⟩
          · rw [gQ_sQn _ _ _ n20, gQ_sQ]; exact if_pos (by rw [hcl])
          · rw [gQ_sQ]; exact if_pos (by rw [hcl])
        · rw [gQ_sQ] at hz
          rw [show va_up (gQ (sQ S (a 20) d.toNatClampNeg none) (a 21)) d.toNatClampNeg none (ix d) = none from if_pos (by rw [hcl])] at hz
          cases hz
      · subst e6
        have hk := hok.2.2 e
        have kq : kd (nO S q 3) q = 3 := (h_kd_nO _ _ _ _).trans (if_pos rfl)
        have kn : ∀ b, b ≠ q → kd (nO S q 3) b = kd S b := fun b hb => (h_kd_nO _ _ _ _).trans (if_neg hb)
        have nq : ∀ i, i < 30 → a i ≠ q := fun i hi => fr_ne hq (hX.1.1 i hi) (by
          have : ∀ i, i < 30 → 0 < xK i := by decide
          exact this i hi) (by
          have : ∀ i, i < 30 → xK i < 12 := by decide
          exact this i hi)
        unfold wp_X2_init
        refine ⟨kq, fun S1 e1 => ?_⟩
        subst e1
        refine ⟨kq, fun S2 e2 => ?_⟩
        subst e2
        refine ⟨i1, Or.inr ⟨(kn _ (nq 20 (by decide))).trans hX.1.k20, kq⟩, fun S8 e8 => ?_⟩
        subst e8
        refine ⟨(kn _ (nq 0 (by decide))).trans hX.1.k0, _, ?_, i2, Or.inl ((kn _ (nq 21 (by decide))).trans hX.1.k21), fun S10 e10 => ?_⟩
        · show gR (nO S q 3) 57 (a 0) = _
          rw [h_gR_nO, if_neg (nq 0 (by decide))]
          exact hX.1.r57_0
        subst e10
        rw [if_pos hok] at hQ
        refine hQ _ (hX.shelf h8 ?_ (fun b hb => ?_) (fun j hj => ?_) (fun j hj => ?_) ?_ (fun z c hz hc => ?_))
        · unfold kpS; rw [if_pos e]; exact ⟨show (1 : Nat) ≤ 2 by decide, fun _ => ⟨hk.1.1, hk.1.2, hk.2.1, hk.2.2⟩, fun z => absurd (show (1 : Nat) = 2 from z) (by decide)⟩
        · have hbq : b ≠ q := fun z => hb (z ▸ hq)
          refine ⟨kn b hbq, fun i => ?_, fun i => ?_, rfl, rfl⟩
          · show gI (sI (sI (nO S q 3) 20 q k) 21 q f) i b = _
            rw [h_gI_sI, if_neg (fun z => hbq z.2), h_gI_sI, if_neg (fun z => hbq z.2), h_gI_nO, if_neg hbq]
          · show gR (nO S q 3) i b = _
            rw [h_gR_nO, if_neg hbq]
        · rw [gQ_sQn _ _ _ n20, gQ_sQ]; exact if_neg (by rw [hcl]; exact hj)
        · rw [gQ_sQ, gQ_sQn _ _ _ (Ne.symm n20)]; exact if_neg (by rw [hcl]; exact hj)
        · unfold kpS XSh; rw [if_pos e]
          refine ⟨fun z => absurd (show (1 : Nat) = 0 from z) (by decide), fun _ => ⟨⟨q, ?_, kq, ?_, ?_⟩, ?_⟩, fun z => absurd (show (1 : Nat) = 2 from z) (by decide)⟩
          · rw [gQ_sQn _ _ _ n20, gQ_sQ]; exact if_pos (by rw [hcl])
          · show gI (sI (sI (nO S q 3) 20 q k) 21 q f) 20 q = k
            rw [h_gI_sI, if_neg (fun z => absurd z.1 (by decide)), h_gI_sI, if_pos ⟨rfl, rfl⟩]
          · show gI (sI (sI (nO S q 3) 20 q k) 21 q f) 21 q = f
            rw [h_gI_sI, if_pos ⟨rfl, rfl⟩]
          · rw [gQ_sQ]; exact if_pos (by rw [hcl])
        · rw [gQ_sQ] at hz
          rw [show ∀ g : Nat → Option Nat, va_up g d.toNatClampNeg none (ix d) = none from fun g => if_pos (by rw [hcl])] at hz
          cases hz
    rw [p_lt, p_le, p_lt, p_lt, p_lt, p_le, show (0 : Int32).toInt = 0 from rfl, show (1 : Int32).toInt = 1 from rfl, show (7 : Int32).toInt = 7 from rfl, show (9 : Int32).toInt = 9 from rfl]
    have bad : ¬ kpOk d w k f → Q (-1) S := fun z => by
      rw [if_neg z, if_neg z] at hQ
      exact hQ S hX
    refine ⟨fun h1 => bad (fun z => ?_), fun h1 => ⟨fun h2 => ⟨fun h3 => go ⟨hd, ⟨by omega, by omega⟩, fun z => absurd z h3⟩, fun h3 => ⟨fun h4 => bad (fun z => ?_), fun h4 => ⟨fun h5 => bad (fun z => ?_), fun h5 => ⟨fun h6 => bad (fun z => ?_), fun h6 => ⟨fun h7 => go ⟨hd, ⟨by omega, by omega⟩, fun _ => ⟨⟨by omega, by omega⟩, by omega, h7⟩⟩, fun h7 => bad (fun z => ?_)⟩⟩⟩⟩⟩, fun h2 => bad (fun z => ?_)⟩⟩
    · have := z.2.1.1; omega
    · have := (z.2.2 h3).1.1; omega
    · have := (z.2.2 h3).1.2; omega
    · have := (z.2.2 h3).2.1; omega
    · have := (z.2.2 h3).2.2; omega
    · have := z.2.1.2; omega
  · have z : ¬ kpOk d w k f := fun z => hd z.1
    rw [if_neg z, if_neg z] at hQ
    exact hQ S hX
/-- rows of the reference that are written by shelves -/
theorem MI.shelf {a : Nat → Nat} {v : AS} {S S' : Hp} {d : Nat} {s : ASh} (h : MI a v S) (hs : ShOk s) (hk : kd S' = kd S) (hg : gI S' = gI S) (hr : gR S' = gR S) (hl : ln S' = ln S) (hA : ∀ i, i < 15 → i < 8 → gA S' (a i) = gA S (a i)) (hB : ∀ i, 8 ≤ i → i ≤ 12 → ∀ j, j ≠ d → gA S' (a i) j = gA S (a i) j) (hC : ∀ j, (j < 100 * d ∨ 100 * d + 100 ≤ j) → gA S' (a 13) j = gA S (a 13) j) (hsh : MSh a S' d s) : MI a (upS v d s) S' := by
  refine ⟨?_, h.2.1.up hs, ?_⟩
  · have h1 := h.1
    unfold MS at h1 ⊢
    rw [hk, hr, hl]
    exact h1
  · have hd := h.2.2
    refine ⟨?_, ?_, ?_, ?_, ?_, fun e he => ?_⟩
    · rw [hg]; exact hd.1
    · rw [hA 1 (by decide) (by decide)]; exact hd.2.1
    · rw [hA 2 (by decide) (by decide)]; exact hd.2.2.1
    · rw [hg]; exact hd.2.2.2.1
    · rw [hg, hA 3 (by decide) (by decide), hA 4 (by decide) (by decide)]; exact hd.2.2.2.2.1
    · by_cases e6 : e = d
      · subst e6; rw [upS_s]; exact hsh
      · rw [upS_n v s e6]
        have h1 := hd.2.2.2.2.2 e he
        have hle := (h.2.1.2.2 e he).2.2
        unfold MSh at h1 ⊢
        rw [hB 8 (by decide) (by decide) e e6, hB 9 (by decide) (by decide) e e6, hB 10 (by decide) (by decide) e e6, hB 11 (by decide) (by decide) e e6, hB 12 (by decide) (by decide) e e6]
        refine ⟨h1.1, h1.2.1, fun z => ⟨(h1.2.2 z).1, (h1.2.2 z).2.1, fun j hj => ?_⟩⟩
        have := (hle z).2.2
        rw [hC (100 * e + j) (by omega)]
        exact (h1.2.2 z).2.2 j hj
theorem upd_n (f : Nat → Int32) {k j : Nat} (x : Int32) (h : j ≠ k) : upd f k x j = f j := if_neg h
theorem upd_s (f : Nat → Int32) (k : Nat) (x : Int32) : upd f k x k = x := if_pos rfl
theorem gA_sAn (S : Hp) {b c : Nat} (j : Nat) (x : Int32) (h : c ≠ b) : gA (sA S b j x) c = gA S c := (h_gA_sF _ _ _ _).trans (if_neg h)
theorem m_keep {a : Nat → Nat} {v : AS} {S : Hp} {d w k f : Int32} {Q : Int32 → Hp → Prop} (hM : MI a v S) (hQ : ∀ S', MI a (ef_keep v d w k f) S' → Q (sp_keep d w k f) S') : wp_X6_keep (a 0) d w k f S Q := by
  obtain ⟨k0, k1, k2, k3, k4, k5, k6, k7, k8, k9, k10, k11, k12, k13, k14, r1, r2, r3, r4, r5, r6, r7, r8, r9, r10, r11, r12, r13, r14, l1, l2, l3, l4, l5, l6, l7, l8, l9, l10, l11, l12, l13, l14⟩ := hM.1.all
  unfold ef_keep sp_keep at hQ
  unfold wp_X6_keep
  rw [e_mSh]
  have bad : ¬ kpOk d w k f → Q (-1) S := fun z => by
    rw [if_neg z, if_neg z] at hQ
    exact hQ S hM
  refine br0 (fun hd => ?_) (fun hd => bad (fun z => hd z.1))
  have go : kpOk d w k f → J_X6_keep_44 Q (a 0) d w k f S := by
    intro hok
    rw [if_pos hok, if_pos hok] at hQ
    obtain ⟨h8, hdI⟩ := isSh_nI hd
    have hin : vp_in d 8 := by rw [hdI]; exact vp_in_nI h8 (by decide)
    have hcl : d.toNatClampNeg = ix d := rfl
    have n89 : a 9 ≠ a 8 := hM.1.ne (by decide) (by decide) (by decide)
    have n810 : a 10 ≠ a 8 := hM.1.ne (by decide) (by decide) (by decide)
    have n910 : a 10 ≠ a 9 := hM.1.ne (by decide) (by decide) (by decide)
    have fin : ∀ x y : Int32, (w = 1 → x = k ∧ y = f) → Q 0 (sA (sA (sA S (a 8) (ix d) w) (a 9) (ix d) x) (a 10) (ix d) y) := by
      intro x y hxy
      have oth : ∀ i, i < 15 → i ≠ 8 → i ≠ 9 → i ≠ 10 → gA (sA (sA (sA S (a 8) (ix d) w) (a 9) (ix d) x) (a 10) (ix d) y) (a i) = gA S (a i) := fun i hi g8 g9 g10 => by
        rw [gA_sAn _ _ _ (hM.1.ne hi (by decide) g10), gA_sAn _ _ _ (hM.1.ne hi (by decide) g9), gA_sAn _ _ _ (hM.1.ne hi (by decide) g8)]
      have e8 : gA (sA (sA (sA S (a 8) (ix d) w) (a 9) (ix d) x) (a 10) (ix d) y) (a 8) = upd (gA S (a 8)) (ix d) w := by
        rw [gA_sAn _ _ _ (Ne.symm n810), gA_sAn _ _ _ (Ne.symm n89), gA_sA]
      have e9 : gA (sA (sA (sA S (a 8) (ix d) w) (a 9) (ix d) x) (a 10) (ix d) y) (a 9) = upd (gA S (a 9)) (ix d) x := by
        rw [gA_sAn _ _ _ (Ne.symm n910), gA_sA, gA_sAn _ _ _ n89]
      have e10 : gA (sA (sA (sA S (a 8) (ix d) w) (a 9) (ix d) x) (a 10) (ix d) y) (a 10) = upd (gA S (a 10)) (ix d) y := by
        rw [gA_sA, gA_sAn _ _ _ n910, gA_sAn _ _ _ n810]
      refine hQ _ (hM.shelf ?_ rfl rfl rfl rfl (fun i h1 h2 => oth i h1 (by omega) (by omega) (by omega)) (fun i h1 h2 j hj => ?_) (fun j hj => by rw [oth 13 (by decide) (by decide) (by decide) (by decide)]) ?_)
      · unfold kpS
        by_cases e : w = 1
        · rw [if_pos e]; exact ⟨show (1 : Nat) ≤ 2 by decide, fun _ => ⟨(hok.2.2 e).1.1, (hok.2.2 e).1.2, (hok.2.2 e).2.1, (hok.2.2 e).2.2⟩, fun z => absurd (show (1 : Nat) = 2 from z) (by decide)⟩
        · rw [if_neg e]; exact ⟨by decide, fun z => absurd z (by decide), fun z => absurd z (by decide)⟩
      · rcases (by omega : i = 8 ∨ i = 9 ∨ i = 10 ∨ i = 11 ∨ i = 12) with rfl | rfl | rfl | rfl | rfl
        · rw [e8, upd_n _ _ hj]
        · rw [e9, upd_n _ _ hj]
        · rw [e10, upd_n _ _ hj]
        · rw [oth 11 (by decide) (by decide) (by decide) (by decide)]
        · rw [oth 12 (by decide) (by decide) (by decide) (by decide)]
      · unfold kpS MSh
        rw [e8, e9, e10, upd_s, upd_s, upd_s]
        by_cases e : w = 1
        · rw [if_pos e]; exact ⟨e, fun _ => hxy e, fun z => absurd (show (1 : Nat) = 2 from z) (by decide)⟩
        · rw [if_neg e]
          refine ⟨?_, fun z => absurd z (by decide), fun z => absurd z (by decide)⟩
          have h2 := hok.2.1
          have w1 : w = 1 ↔ w.toInt = 1 := p_eq _ _
          rw [w1] at e
          have h3 := h2.1
          have h4 := h2.2
          rw [p_eq]
          show w.toInt = 0
          omega
    have kk : ∀ (T : Hp), kd T = kd S → gR T = gR S → ln T = ln S → ∀ x : Int32, (w = 1 → x = k) → T = sA S (a 8) (ix d) w → J_X6_keep_66 Q (a 0) d w f (a 9) d x T := by
      intro T t1 t2 t3 x hx hT
      unfold J_X6_keep_66
      rw [hcl]
      refine ⟨by rw [t1]; exact k9, by rw [t3, l9]; exact hin, fun S1 e1 => ?_⟩
      subst e1
      refine ⟨by show kd T (a 0) = 7; rw [t1]; exact k0, a 10, by show gR T 96 (a 0) = _; rw [t2]; exact r10, fun e => ⟨by show kd T (a 10) = 8; rw [t1]; exact k10, by show vp_in d (ln T (a 10)); rw [t3, l10]; exact hin, fun S3 e3 => ?_⟩, fun e => ⟨by show kd T (a 10) = 8; rw [t1]; exact k10, by show vp_in d (ln T (a 10)); rw [t3, l10]; exact hin, fun S3 e3 => ?_⟩⟩
      · subst e3; subst hT; exact fin x 0 (fun z => absurd z e)
      · subst e3; subst hT; exact fin x f (fun z => ⟨hx z, rfl⟩)
    unfold J_X6_keep_44
    refine ⟨k0, _, r8, k8, by rw [l8]; exact hin, fun S2 e2 => ?_⟩
    rw [hcl] at e2
    subst e2
    exact ⟨k0, _, r9, fun e => kk (sA S (a 8) (ix d) w) rfl rfl rfl 0 (fun z => absurd z e) rfl, fun e => kk (sA S (a 8) (ix d) w) rfl rfl rfl k (fun _ => rfl) rfl⟩
  rw [e_isInL (lo := 0) (hi := 1) rfl rfl]
  refine br0 (fun hw => ⟨fun e => go ⟨hd, hw, fun z => absurd z e⟩, fun e => ?_⟩) (fun hw => bad (fun z => hw z.2.1))
  rw [e_isInL (lo := 0) (hi := 7) rfl rfl]
  refine br0 (fun hk => ?_) (fun hk => bad (fun z => hk (z.2.2 e).1))
  rw [e_isInL (lo := 0) (hi := 9) rfl rfl]
  exact br1 (fun hf => go ⟨hd, hw, fun _ => ⟨hk, hf⟩⟩) (fun hf => bad (fun z => hf (z.2.2 e).2))
