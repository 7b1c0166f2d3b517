/-! sets of weights by which all is had: the reference -/
def RJ (m0 : Nat) (i x : Nat) : Prop := (i = 84 ∨ i = 85) ∧ x = m0
def FR (m b : Nat) (S S' : Hp) : Prop := FW (fun c => c = b) (RJ m) S S'
def MF (S : Hp) (m b : Nat) : Prop := kd S m = 7 ∧ gR S 86 m = some b ∧ kd S b = 8 ∧ ln S b = 3
theorem MF.fr {S S' : Hp} {m b : Nat} (h : MF S m b) (f : FR m b S S') : MF S' m b := by
  unfold MF at h ⊢
  rw [f.1, f.2.1, f.2.2.1]
  exact h
def TT (m : Nat) (s : ST) (S : Hp) : Prop := gI S 84 m = nI s.1 ∧ (s.2 = none → s.1 = 0 ∧ gI S 85 m = -4) ∧ ∀ x, s.2 = some x → 0 < s.1 ∧ gI S 85 m = nI x
def cdN (g : Nat → Nat) : Nat → Nat
  | 0 => 0
  | k + 1 => 100 * cdN g k + g k
theorem fo_gr {F : Nat → ST → ST} {G : Nat} (h : ∀ w s, (F w s).1 ≤ s.1 + G) (s : ST) : ∀ n, (fo F n s).1 ≤ s.1 + n * G
  | 0 => by rw [Nat.zero_mul]; exact Nat.le_refl _
  | n + 1 => by
    have h1 := fo_gr h s n
    have h2 := h n (fo F n s)
    rw [Nat.succ_mul]
    show (F n (fo F n s)).1 ≤ _
    omega
theorem stp_gr (p : Bool) (x : Nat) (s : ST) : (stp p x s).1 ≤ s.1 + 1 := by
  unfold stp
  split
  · exact Nat.le_refl _
  · omega
def lp (F : Nat → ST → ST) (lo : Nat) : Nat → ST → ST := fun w s => if lo < w then F w s else s
theorem lp_gr {F : Nat → ST → ST} {G : Nat} (h : ∀ w s, (F w s).1 ≤ s.1 + G) (lo w : Nat) (s : ST) : (lp F lo w s).1 ≤ s.1 + G := by
  unfold lp
  split
  · exact h w s
  · omega
theorem lv_gr {F : Nat → ST → ST} {G : Nat} (h : ∀ w s, (F w s).1 ≤ s.1 + G) (lo : Nat) {m : Nat} (hm : m ≤ 30) (s : ST) : (fo (lp F lo) (m + 1) s).1 ≤ s.1 + 31 * G := by
  have h1 := fo_gr (lp_gr h lo) s (m + 1)
  have h2 : (m + 1) * G ≤ 31 * G := Nat.mul_le_mul_right _ (by omega)
  omega
theorem t_leaf_0 {S : Hp} {m b k n : Nat} {s : ST} {x3 : Int32} {g : Nat → Nat} {Q : Hp → Prop} (h : MF S m b) (hk : k ≤ 3) (hn : n ≤ 13) (hT : TT m s S) (hg : ∀ j, j < k → gA S b j = nI (g j)) (hs : s.1 < 2 ^ 30) (hQ : ∀ S', FR m b S S' → gA S' b = gA S b → TT m (stp (rhP (fun j => nI (g j)) k n) (cdN g k) s) S' → Q S') : wp_X6_choose_0 m (nI k) (nI k) x3 (nI n) S Q := by
  obtain ⟨k0, r6, k6, l6⟩ := h
  unfold wp_X6_choose_0
  refine ⟨fun z => absurd rfl z, fun _ => ⟨k0, t_isAllHad hk hn k0 r6 k6 l6 hg (br0 (fun y => ⟨k0, ?_⟩) (fun y => ?_))⟩⟩
  · unfold stp at hQ
    rw [if_pos y] at hQ
    rw [hT.1, show (0 : Int32) = nI 0 from rfl, nI_eq (by omega) (by decide)]
    refine ⟨fun e => ⟨k0, k0, fun S4 e4 => ?_⟩, fun e => ⟨k0, fun S5 e5 => ?_⟩⟩
    · cases hv : s.2 with
      | none => exact absurd (hT.2.1 hv).1 e
      | some x =>
        have hx := hT.2.2 x hv
        refine hQ S4 ?_ (by rw [e4]; rfl) ⟨?_, fun z => (by cases z), fun x' hx' => ⟨Nat.succ_pos _, ?_⟩⟩
        · rw [e4]; exact (FW.rf _ _ S).i ⟨Or.inl rfl, rfl⟩ _
        · rw [e4, h_gI_sI, if_pos ⟨rfl, rfl⟩, nI_1]
        · have hx2 : s.2.getD (cdN g k) = x' := Option.some.inj hx'
          rw [hv] at hx2
          rw [e4, h_gI_sI, if_neg (fun z => absurd z.1 (by decide)), hx.2, ← hx2]
          rfl
    · have hv : s.2 = none := by
        cases hv : s.2 with
        | none => rfl
        | some x => have := (hT.2.2 x hv).1; omega
      have f5 : FR m b S S5 := by rw [e5]; exact (FW.rf _ _ S).i ⟨Or.inr rfl, rfl⟩ _
      have g5 : gI S5 85 m = nI (cdN g 0) := by rw [e5, h_gI_sI, if_pos ⟨rfl, rfl⟩]; rfl
      have c5 : gI S5 84 m = nI 0 := by rw [e5, h_gI_sI, if_neg (fun z => absurd z.1 (by decide)), hT.1, e]
      have a5 : gA S5 b = gA S b := by rw [e5]; rfl
      clear e5
      refine it_up k (fun j x => ∃ S', x = (m, nI k, nI j, S') ∧ FR m b S S' ∧ gI S' 85 m = nI (cdN g j) ∧ gI S' 84 m = nI 0 ∧ gA S' b = gA S b) ?_ _ ⟨S5, rfl, f5, g5, c5, a5⟩
      rintro C j x hj ⟨S', rfl, f, g85, g84, ga⟩ hC
      simp only [L_X6_choose_0_30, forall_eq]
      rw [f.1, f.2.1, f.2.2.1, nI_leI (by omega) (by omega)]
      refine ⟨fun e2 => ⟨k0, k0, ?_⟩, fun e2 => ⟨k0, k0, b, r6, k6, by rw [l6]; exact vp_in_nI (by omega) (by decide), k0, ?_⟩⟩
      · have hjk : j = k := by omega
        subst hjk
        refine hQ _ (f.i ⟨Or.inl rfl, rfl⟩ _) ga ⟨?_, fun z => (by cases z), fun x' hx' => ⟨Nat.succ_pos _, ?_⟩⟩
        · rw [h_gI_sI, if_pos ⟨rfl, rfl⟩, g84, nI_1, e]
        · have hx2 : s.2.getD (cdN g j) = x' := Option.some.inj hx'
          rw [hv] at hx2
          rw [h_gI_sI, if_neg (fun z => absurd z.1 (by decide)), g85, ← hx2]
          rfl
      · refine hC (by omega) _ ⟨_, by rw [nI_1], f.i ⟨Or.inr rfl, rfl⟩ _, ?_, ?_, ga⟩
        · rw [h_gI_sI, if_pos ⟨rfl, rfl⟩, g85, ga, nI_clamp (by omega), hg j (by omega), show (100 : Int32) = nI 100 from rfl, pk_mul, nI_add]; rfl
        · rw [h_gI_sI, if_neg (fun z => absurd z.1 (by decide))]; exact g84
  · unfold stp at hQ
    rw [if_neg y] at hQ
    exact hQ S (FW.rf _ _ S) rfl hT
theorem t_leaf_1 {S : Hp} {m b k n : Nat} {s : ST} {x3 : Int32} {g : Nat → Nat} {Q : Hp → Prop} (h : MF S m b) (hk : k ≤ 3) (hn : n ≤ 13) (hT : TT m s S) (hg : ∀ j, j < k → gA S b j = nI (g j)) (hs : s.1 < 2 ^ 30) (hQ : ∀ S', FR m b S S' → gA S' b = gA S b → TT m (stp (rhP (fun j => nI (g j)) k n) (cdN g k) s) S' → Q S') : wp_X6_choose_1 m (nI k) (nI k) x3 (nI n) S Q := by
  obtain ⟨k0, r6, k6, l6⟩ := h
  unfold wp_X6_choose_1
  refine ⟨fun z => absurd rfl z, fun _ => ⟨k0, t_isAllHad hk hn k0 r6 k6 l6 hg (br0 (fun y => ⟨k0, ?_⟩) (fun y => ?_))⟩⟩
  · unfold stp at hQ
    rw [if_pos y] at hQ
    rw [hT.1, show (0 : Int32) = nI 0 from rfl, nI_eq (by omega) (by decide)]
    refine ⟨fun e => ⟨k0, k0, fun S4 e4 => ?_⟩, fun e => ⟨k0, fun S5 e5 => ?_⟩⟩
    · cases hv : s.2 with
      | none => exact absurd (hT.2.1 hv).1 e
      | some x =>
        have hx := hT.2.2 x hv
        refine hQ S4 ?_ (by rw [e4]; rfl) ⟨?_, fun z => (by cases z), fun x' hx' => ⟨Nat.succ_pos _, ?_⟩⟩
        · rw [e4]; exact (FW.rf _ _ S).i ⟨Or.inl rfl, rfl⟩ _
        · rw [e4, h_gI_sI, if_pos ⟨rfl, rfl⟩, nI_1]
        · have hx2 : s.2.getD (cdN g k) = x' := Option.some.inj hx'
          rw [hv] at hx2
          rw [e4, h_gI_sI, if_neg (fun z => absurd z.1 (by decide)), hx.2, ← hx2]
          rfl
    · have hv : s.2 = none := by
        cases hv : s.2 with
        | none => rfl
        | some x => have := (hT.2.2 x hv).1; omega
      have f5 : FR m b S S5 := by rw [e5]; exact (FW.rf _ _ S).i ⟨Or.inr rfl, rfl⟩ _
      have g5 : gI S5 85 m = nI (cdN g 0) := by rw [e5, h_gI_sI, if_pos ⟨rfl, rfl⟩]; rfl
      have c5 : gI S5 84 m = nI 0 := by rw [e5, h_gI_sI, if_neg (fun z => absurd z.1 (by decide)), hT.1, e]
      have a5 : gA S5 b = gA S b := by rw [e5]; rfl
      clear e5
      refine it_up k (fun j x => ∃ S', x = (m, nI k, nI j, S') ∧ FR m b S S' ∧ gI S' 85 m = nI (cdN g j) ∧ gI S' 84 m = nI 0 ∧ gA S' b = gA S b) ?_ _ ⟨S5, rfl, f5, g5, c5, a5⟩
      rintro C j x hj ⟨S', rfl, f, g85, g84, ga⟩ hC
      simp only [L_X6_choose_1_30, forall_eq]
      rw [f.1, f.2.1, f.2.2.1, nI_leI (by omega) (by omega)]
      refine ⟨fun e2 => ⟨k0, k0, ?_⟩, fun e2 => ⟨k0, k0, b, r6, k6, by rw [l6]; exact vp_in_nI (by omega) (by decide), k0, ?_⟩⟩
      · have hjk : j = k := by omega
        subst hjk
        refine hQ _ (f.i ⟨Or.inl rfl, rfl⟩ _) ga ⟨?_, fun z => (by cases z), fun x' hx' => ⟨Nat.succ_pos _, ?_⟩⟩
        · rw [h_gI_sI, if_pos ⟨rfl, rfl⟩, g84, nI_1, e]
        · have hx2 : s.2.getD (cdN g j) = x' := Option.some.inj hx'
          rw [hv] at hx2
          rw [h_gI_sI, if_neg (fun z => absurd z.1 (by decide)), g85, ← hx2]
          rfl
      · refine hC (by omega) _ ⟨_, by rw [nI_1], f.i ⟨Or.inr rfl, rfl⟩ _, ?_, ?_, ga⟩
        · rw [h_gI_sI, if_pos ⟨rfl, rfl⟩, g85, ga, nI_clamp (by omega), hg j (by omega), show (100 : Int32) = nI 100 from rfl, pk_mul, nI_add]; rfl
        · rw [h_gI_sI, if_neg (fun z => absurd z.1 (by decide))]; exact g84
  · unfold stp at hQ
    rw [if_neg y] at hQ
    exact hQ S (FW.rf _ _ S) rfl hT
theorem t_leaf_2 {S : Hp} {m b k n : Nat} {s : ST} {x3 : Int32} {g : Nat → Nat} {Q : Hp → Prop} (h : MF S m b) (hk : k ≤ 3) (hn : n ≤ 13) (hT : TT m s S) (hg : ∀ j, j < k → gA S b j = nI (g j)) (hs : s.1 < 2 ^ 30) (hQ : ∀ S', FR m b S S' → gA S' b = gA S b → TT m (stp (rhP (fun j => nI (g j)) k n) (cdN g k) s) S' → Q S') : wp_X6_choose_2 m (nI k) (nI k) x3 (nI n) S Q := by
  obtain ⟨k0, r6, k6, l6⟩ := h
  unfold wp_X6_choose_2
  refine ⟨fun z => absurd rfl z, fun _ => ⟨k0, t_isAllHad hk hn k0 r6 k6 l6 hg (br0 (fun y => ⟨k0, ?_⟩) (fun y => ?_))⟩⟩
  · unfold stp at hQ
    rw [if_pos y] at hQ
    rw [hT.1, show (0 : Int32) = nI 0 from rfl, nI_eq (by omega) (by decide)]
    refine ⟨fun e => ⟨k0, k0, fun S4 e4 => ?_⟩, fun e => ⟨k0, fun S5 e5 => ?_⟩⟩
    · cases hv : s.2 with
      | none => exact absurd (hT.2.1 hv).1 e
      | some x =>
        have hx := hT.2.2 x hv
        refine hQ S4 ?_ (by rw [e4]; rfl) ⟨?_, fun z => (by cases z), fun x' hx' => ⟨Nat.succ_pos _, ?_⟩⟩
        · rw [e4]; exact (FW.rf _ _ S).i ⟨Or.inl rfl, rfl⟩ _
        · rw [e4, h_gI_sI, if_pos ⟨rfl, rfl⟩, nI_1]
        · have hx2 : s.2.getD (cdN g k) = x' := Option.some.inj hx'
          rw [hv] at hx2
          rw [e4, h_gI_sI, if_neg (fun z => absurd z.1 (by decide)), hx.2, ← hx2]
          rfl
    · have hv : s.2 = none := by
        cases hv : s.2 with
        | none => rfl
        | some x => have := (hT.2.2 x hv).1; omega
      have f5 : FR m b S S5 := by rw [e5]; exact (FW.rf _ _ S).i ⟨Or.inr rfl, rfl⟩ _
      have g5 : gI S5 85 m = nI (cdN g 0) := by rw [e5, h_gI_sI, if_pos ⟨rfl, rfl⟩]; rfl
      have c5 : gI S5 84 m = nI 0 := by rw [e5, h_gI_sI, if_neg (fun z => absurd z.1 (by decide)), hT.1, e]
      have a5 : gA S5 b = gA S b := by rw [e5]; rfl
      clear e5
      refine it_up k (fun j x => ∃ S', x = (m, nI k, nI j, S') ∧ FR m b S S' ∧ gI S' 85 m = nI (cdN g j) ∧ gI S' 84 m = nI 0 ∧ gA S' b = gA S b) ?_ _ ⟨S5, rfl, f5, g5, c5, a5⟩
      rintro C j x hj ⟨S', rfl, f, g85, g84, ga⟩ hC
      simp only [L_X6_choose_2_30, forall_eq]
      rw [f.1, f.2.1, f.2.2.1, nI_leI (by omega) (by omega)]
      refine ⟨fun e2 => ⟨k0, k0, ?_⟩, fun e2 => ⟨k0, k0, b, r6, k6, by rw [l6]; exact vp_in_nI (by omega) (by decide), k0, ?_⟩⟩
      · have hjk : j = k := by omega
        subst hjk
        refine hQ _ (f.i ⟨Or.inl rfl, rfl⟩ _) ga ⟨?_, fun z => (by cases z), fun x' hx' => ⟨Nat.succ_pos _, ?_⟩⟩
        · rw [h_gI_sI, if_pos ⟨rfl, rfl⟩, g84, nI_1, e]
        · have hx2 : s.2.getD (cdN g j) = x' := Option.some.inj hx'
          rw [hv] at hx2
          rw [h_gI_sI, if_neg (fun z => absurd z.1 (by decide)), g85, ← hx2]
          rfl
      · refine hC (by omega) _ ⟨_, by rw [nI_1], f.i ⟨Or.inr rfl, rfl⟩ _, ?_, ?_, ga⟩
        · rw [h_gI_sI, if_pos ⟨rfl, rfl⟩, g85, ga, nI_clamp (by omega), hg j (by omega), show (100 : Int32) = nI 100 from rfl, pk_mul, nI_add]; rfl
        · rw [h_gI_sI, if_neg (fun z => absurd z.1 (by decide))]; exact g84
  · unfold stp at hQ
    rw [if_neg y] at hQ
    exact hQ S (FW.rf _ _ S) rfl hT
theorem t_lp_1 {S : Hp} {m b k n at' mm lo G : Nat} {s : ST} {F : Nat → ST → ST} {Q : Hp → Prop} (h : MF S m b) (hat : at' < k) (hk : k ≤ 3) (hmm : mm ≤ 30) (hlo : (at' = 0 ∧ lo = 0) ∨ (0 < at' ∧ gA S b (at' - 1) = nI lo)) (hl3 : lo ≤ mm) (hT : TT m s S) (hG : ∀ w s, (F w s).1 ≤ s.1 + G) (hs : s.1 + 31 * G ≤ 2 ^ 30)
    (step : ∀ (w : Nat) (s' : ST) (S' : Hp) (Q' : Hp → Prop), lo < w → w ≤ mm → s'.1 + G ≤ 2 ^ 30 → FR m b S S' → TT m s' S' → (∀ j, j < at' → gA S' b j = gA S b j) → gA S' b at' = nI w → (∀ S'', FR m b S' S'' → TT m (F w s') S'' → (∀ j, j < at' → gA S'' b j = gA S' b j) → Q' S'') → wp_X6_choose_0 m (nI (at' + 1)) (nI k) (nI mm) (nI n) S' Q')
    (hQ : ∀ S', FR m b S S' → TT m (fo (lp F lo) (mm + 1) s) S' → (∀ j, j < at' → gA S' b j = gA S b j) → Q S') : wp_X6_choose_1 m (nI at') (nI k) (nI mm) (nI n) S Q := by
  obtain ⟨k0, r6, k6, l6⟩ := h
  have main : J_X6_choose_1_90 Q m (nI at') (nI k) (nI mm) (nI n) (nI (lo + 1)) S := by
    have hskip : fo (lp F lo) (lo + 1) s = s := fo_skip (fun i hi => if_neg (by omega))
    unfold J_X6_choose_1_90
    refine it_up (mm - lo) (fun j x => ∃ S', x = (m, nI at', nI k, nI mm, nI n, nI (lo + 1 + j), S') ∧ FR m b S S' ∧ TT m (fo (lp F lo) (lo + 1 + j) s) S' ∧ ∀ i, i < at' → gA S' b i = gA S b i) ?_ _ ⟨S, rfl, FW.rf _ _ S, by rw [Nat.add_zero, hskip]; exact hT, fun _ _ => rfl⟩
    rintro C j x hj ⟨S', rfl, f, hT', hb⟩ hC
    simp only [L_X6_choose_1_92, forall_eq]
    rw [nI_ltI (by omega) (by omega)]
    refine ⟨fun e => ?_, fun e => ⟨by rw [f.1]; exact k0, b, by rw [f.2.1]; exact r6, by rw [f.1]; exact k6, by rw [f.2.2.1, l6]; exact vp_in_nI (by omega) (by decide), by show kd S' m = 7; rw [f.1]; exact k0, ?_⟩⟩
    · rw [show lo + 1 + j = mm + 1 by omega] at hT'
      exact hQ S' f hT' hb
    · have hst := hC (by omega)
      rw [nI_1, nI_clamp (show at' < 2 ^ 31 by omega)]
      have hgr := fo_gr (lp_gr hG lo) s (lo + 1 + j)
      have hgm : (lo + 1 + j + 1) * G ≤ 31 * G := Nat.mul_le_mul_right _ (by omega)
      rw [Nat.succ_mul] at hgm
      have f2 : FR m b S (sA S' b at' (nI (lo + 1 + j))) := f.a rfl _ _
      have hs2 : fo (lp F lo) (lo + 1 + j + 1) s = F (lo + 1 + j) (fo (lp F lo) (lo + 1 + j) s) := if_pos (by omega)
      refine step (lo + 1 + j) _ _ _ (by omega) (by omega) (by omega) f2 hT' (fun i hi => ?_) ?_ (fun S3 f3 hT3 hb3 => hst _ ⟨S3, by rw [nI_1]; rfl, f2.tr f3, ?_, fun i hi => ?_⟩)
      · rw [gA_sA, upd_n _ _ (by omega)]; exact hb i hi
      · rw [gA_sA, upd_s]
      · rw [show lo + 1 + (j + 1) = lo + 1 + j + 1 from rfl, hs2]; exact hT3
      · rw [hb3 i hi, gA_sA, upd_n _ _ (by omega)]; exact hb i hi
  unfold wp_X6_choose_1
  rw [nI_eq (by omega) (by omega)]
  refine ⟨fun _ => ⟨fun e => ?_, fun e => ?_⟩, fun e => by omega⟩
  · rcases hlo with hlo | hlo
    · exact absurd (by rw [hlo.1]; rfl) e
    · rw [nI_sub1 hlo.1, nI_clamp (by omega)]
      refine ⟨k0, b, r6, k6, by rw [l6]; exact vp_in_nI (by omega) (by decide), ?_⟩
      rw [hlo.2, nI_1]
      exact main
  · rw [show (0 : Int32) = nI 0 from rfl, nI_eq (by omega) (by decide)] at e
    have hl0 : lo = 0 := by omega
    rw [hl0] at main
    exact main
theorem t_lp_2 {S : Hp} {m b k n at' mm lo G : Nat} {s : ST} {F : Nat → ST → ST} {Q : Hp → Prop} (h : MF S m b) (hat : at' < k) (hk : k ≤ 3) (hmm : mm ≤ 30) (hlo : (at' = 0 ∧ lo = 0) ∨ (0 < at' ∧ gA S b (at' - 1) = nI lo)) (hl3 : lo ≤ mm) (hT : TT m s S) (hG : ∀ w s, (F w s).1 ≤ s.1 + G) (hs : s.1 + 31 * G ≤ 2 ^ 30)
    (step : ∀ (w : Nat) (s' : ST) (S' : Hp) (Q' : Hp → Prop), lo < w → w ≤ mm → s'.1 + G ≤ 2 ^ 30 → FR m b S S' → TT m s' S' → (∀ j, j < at' → gA S' b j = gA S b j) → gA S' b at' = nI w → (∀ S'', FR m b S' S'' → TT m (F w s') S'' → (∀ j, j < at' → gA S'' b j = gA S' b j) → Q' S'') → wp_X6_choose_1 m (nI (at' + 1)) (nI k) (nI mm) (nI n) S' Q')
    (hQ : ∀ S', FR m b S S' → TT m (fo (lp F lo) (mm + 1) s) S' → (∀ j, j < at' → gA S' b j = gA S b j) → Q S') : wp_X6_choose_2 m (nI at') (nI k) (nI mm) (nI n) S Q := by
  obtain ⟨k0, r6, k6, l6⟩ := h
  have main : J_X6_choose_2_90 Q m (nI at') (nI k) (nI mm) (nI n) (nI (lo + 1)) S := by
    have hskip : fo (lp F lo) (lo + 1) s = s := fo_skip (fun i hi => if_neg (by omega))
    unfold J_X6_choose_2_90
    refine it_up (mm - lo) (fun j x => ∃ S', x = (m, nI at', nI k, nI mm, nI n, nI (lo + 1 + j), S') ∧ FR m b S S' ∧ TT m (fo (lp F lo) (lo + 1 + j) s) S' ∧ ∀ i, i < at' → gA S' b i = gA S b i) ?_ _ ⟨S, rfl, FW.rf _ _ S, by rw [Nat.add_zero, hskip]; exact hT, fun _ _ => rfl⟩
    rintro C j x hj ⟨S', rfl, f, hT', hb⟩ hC
    simp only [L_X6_choose_2_92, forall_eq]
    rw [nI_ltI (by omega) (by omega)]
    refine ⟨fun e => ?_, fun e => ⟨by rw [f.1]; exact k0, b, by rw [f.2.1]; exact r6, by rw [f.1]; exact k6, by rw [f.2.2.1, l6]; exact vp_in_nI (by omega) (by decide), by show kd S' m = 7; rw [f.1]; exact k0, ?_⟩⟩
    · rw [show lo + 1 + j = mm + 1 by omega] at hT'
      exact hQ S' f hT' hb
    · have hst := hC (by omega)
      rw [nI_1, nI_clamp (show at' < 2 ^ 31 by omega)]
      have hgr := fo_gr (lp_gr hG lo) s (lo + 1 + j)
      have hgm : (lo + 1 + j + 1) * G ≤ 31 * G := Nat.mul_le_mul_right _ (by omega)
      rw [Nat.succ_mul] at hgm
      have f2 : FR m b S (sA S' b at' (nI (lo + 1 + j))) := f.a rfl _ _
      have hs2 : fo (lp F lo) (lo + 1 + j + 1) s = F (lo + 1 + j) (fo (lp F lo) (lo + 1 + j) s) := if_pos (by omega)
      refine step (lo + 1 + j) _ _ _ (by omega) (by omega) (by omega) f2 hT' (fun i hi => ?_) ?_ (fun S3 f3 hT3 hb3 => hst _ ⟨S3, by rw [nI_1]; rfl, f2.tr f3, ?_, fun i hi => ?_⟩)
      · rw [gA_sA, upd_n _ _ (by omega)]; exact hb i hi
      · rw [gA_sA, upd_s]
      · rw [show lo + 1 + (j + 1) = lo + 1 + j + 1 from rfl, hs2]; exact hT3
      · rw [hb3 i hi, gA_sA, upd_n _ _ (by omega)]; exact hb i hi
  unfold wp_X6_choose_2
  rw [nI_eq (by omega) (by omega)]
  refine ⟨fun _ => ⟨fun e => ?_, fun e => ?_⟩, fun e => by omega⟩
  · rcases hlo with hlo | hlo
    · exact absurd (by rw [hlo.1]; rfl) e
    · rw [nI_sub1 hlo.1, nI_clamp (by omega)]
      refine ⟨k0, b, r6, k6, by rw [l6]; exact vp_in_nI (by omega) (by decide), ?_⟩
      rw [hlo.2, nI_1]
      exact main
  · rw [show (0 : Int32) = nI 0 from rfl, nI_eq (by omega) (by decide)] at e
    have hl0 : lo = 0 := by omega
    rw [hl0] at main
    exact main
theorem t_lp_3 {S : Hp} {m b k n at' mm lo G : Nat} {s : ST} {F : Nat → ST → ST} {Q : Hp → Prop} (h : MF S m b) (hat : at' < k) (hk : k ≤ 3) (hmm : mm ≤ 30) (hlo : (at' = 0 ∧ lo = 0) ∨ (0 < at' ∧ gA S b (at' - 1) = nI lo)) (hl3 : lo ≤ mm) (hT : TT m s S) (hG : ∀ w s, (F w s).1 ≤ s.1 + G) (hs : s.1 + 31 * G ≤ 2 ^ 30)
    (step : ∀ (w : Nat) (s' : ST) (S' : Hp) (Q' : Hp → Prop), lo < w → w ≤ mm → s'.1 + G ≤ 2 ^ 30 → FR m b S S' → TT m s' S' → (∀ j, j < at' → gA S' b j = gA S b j) → gA S' b at' = nI w → (∀ S'', FR m b S' S'' → TT m (F w s') S'' → (∀ j, j < at' → gA S'' b j = gA S' b j) → Q' S'') → wp_X6_choose_2 m (nI (at' + 1)) (nI k) (nI mm) (nI n) S' Q')
    (hQ : ∀ S', FR m b S S' → TT m (fo (lp F lo) (mm + 1) s) S' → (∀ j, j < at' → gA S' b j = gA S b j) → Q S') : wp_X6_choose_3 m (nI at') (nI k) (nI mm) (nI n) S Q := by
  obtain ⟨k0, r6, k6, l6⟩ := h
  have main : J_X6_choose_3_90 Q m (nI at') (nI k) (nI mm) (nI n) (nI (lo + 1)) S := by
    have hskip : fo (lp F lo) (lo + 1) s = s := fo_skip (fun i hi => if_neg (by omega))
    unfold J_X6_choose_3_90
    refine it_up (mm - lo) (fun j x => ∃ S', x = (m, nI at', nI k, nI mm, nI n, nI (lo + 1 + j), S') ∧ FR m b S S' ∧ TT m (fo (lp F lo) (lo + 1 + j) s) S' ∧ ∀ i, i < at' → gA S' b i = gA S b i) ?_ _ ⟨S, rfl, FW.rf _ _ S, by rw [Nat.add_zero, hskip]; exact hT, fun _ _ => rfl⟩
    rintro C j x hj ⟨S', rfl, f, hT', hb⟩ hC
    simp only [L_X6_choose_3_92, forall_eq]
    rw [nI_ltI (by omega) (by omega)]
    refine ⟨fun e => ?_, fun e => ⟨by rw [f.1]; exact k0, b, by rw [f.2.1]; exact r6, by rw [f.1]; exact k6, by rw [f.2.2.1, l6]; exact vp_in_nI (by omega) (by decide), by show kd S' m = 7; rw [f.1]; exact k0, ?_⟩⟩
    · rw [show lo + 1 + j = mm + 1 by omega] at hT'
      exact hQ S' f hT' hb
    · have hst := hC (by omega)
      rw [nI_1, nI_clamp (show at' < 2 ^ 31 by omega)]
      have hgr := fo_gr (lp_gr hG lo) s (lo + 1 + j)
      have hgm : (lo + 1 + j + 1) * G ≤ 31 * G := Nat.mul_le_mul_right _ (by omega)
      rw [Nat.succ_mul] at hgm
      have f2 : FR m b S (sA S' b at' (nI (lo + 1 + j))) := f.a rfl _ _
      have hs2 : fo (lp F lo) (lo + 1 + j + 1) s = F (lo + 1 + j) (fo (lp F lo) (lo + 1 + j) s) := if_pos (by omega)
      refine step (lo + 1 + j) _ _ _ (by omega) (by omega) (by omega) f2 hT' (fun i hi => ?_) ?_ (fun S3 f3 hT3 hb3 => hst _ ⟨S3, by rw [nI_1]; rfl, f2.tr f3, ?_, fun i hi => ?_⟩)
      · rw [gA_sA, upd_n _ _ (by omega)]; exact hb i hi
      · rw [gA_sA, upd_s]
      · rw [show lo + 1 + (j + 1) = lo + 1 + j + 1 from rfl, hs2]; exact hT3
      · rw [hb3 i hi, gA_sA, upd_n _ _ (by omega)]; exact hb i hi
  unfold wp_X6_choose_3
  rw [nI_eq (by omega) (by omega)]
  refine ⟨fun _ => ⟨fun e => ?_, fun e => ?_⟩, fun e => by omega⟩
  · rcases hlo with hlo | hlo
    · exact absurd (by rw [hlo.1]; rfl) e
    · rw [nI_sub1 hlo.1, nI_clamp (by omega)]
      refine ⟨k0, b, r6, k6, by rw [l6]; exact vp_in_nI (by omega) (by decide), ?_⟩
      rw [hlo.2, nI_1]
      exact main
  · rw [show (0 : Int32) = nI 0 from rfl, nI_eq (by omega) (by decide)] at e
    have hl0 : lo = 0 := by omega
    rw [hl0] at main
    exact main
theorem rh3 {g : Nat → Nat} {a b c n : Nat} (ea : g 0 = a) (eb : g 1 = b) (ec : g 2 = c) (h1 : a ≤ b) (h2 : b ≤ c) (h3 : c ≤ 30) (hn : n ≤ 13) : rhP (fun j => nI (g j)) 3 n = PP n a b c ∧ cdN g 3 = CD a b c := by
  have hg : ∀ j, j < 3 → g j ≤ 30 := fun j hj => by
    rcases (by omega : j = 0 ∨ j = 1 ∨ j = 2) with rfl | rfl | rfl <;> omega
  refine ⟨?_, ?_⟩
  · have h := rh_3 (g := g) (by omega) hg hn
    rw [ea, eb, ec] at h
    exact h
  · unfold cdN cdN cdN cdN CD
    rw [ea, eb, ec]; omega
theorem rh2 {g : Nat → Nat} {b c n : Nat} (eb : g 0 = b) (ec : g 1 = c) (h2 : b ≤ c) (h3 : c ≤ 30) (hn : n ≤ 13) : rhP (fun j => nI (g j)) 2 n = PP n 0 b c ∧ cdN g 2 = CD 0 b c := by
  have hg : ∀ j, j < 2 → g j ≤ 30 := fun j hj => by
    rcases (by omega : j = 0 ∨ j = 1) with rfl | rfl <;> omega
  refine ⟨?_, ?_⟩
  · have h := rh_2 (g := g) hg hn
    rw [eb, ec] at h
    exact h
  · unfold cdN cdN cdN CD
    rw [eb, ec]; omega
theorem rh1 {g : Nat → Nat} {c n : Nat} (ec : g 0 = c) (h3 : c ≤ 30) (hn : n ≤ 13) : rhP (fun j => nI (g j)) 1 n = PP n 0 0 c ∧ cdN g 1 = CD 0 0 c := by
  have hg : ∀ j, j < 1 → g j ≤ 30 := fun j hj => by
    rcases (by omega : j = 0) with rfl; omega
  refine ⟨?_, ?_⟩
  · have h := rh_1 (g := g) hg hn
    rw [ec] at h
    exact h
  · unfold cdN cdN CD
    rw [ec]
def g3 (a b c : Nat) (j : Nat) : Nat := if j = 0 then a else if j = 1 then b else c
theorem t_choose {S : Hp} {m b k mm n : Nat} {Q : Hp → Prop} (h : MF S m b) (hk : 1 ≤ k ∧ k ≤ 3) (hmm : mm ≤ 30) (hn : n ≤ 13) (hT : TT m (0, none) S) (hQ : ∀ S', FR m b S S' → TT m (setsR k mm n) S' → Q S') : wp_X6_choose_3 m 0 (nI k) (nI mm) (nI n) S Q := by
  have gG : ∀ (P : Nat → Bool) (cd : Nat → Nat) lo s, (lvG P cd lo mm s).1 ≤ s.1 + 31 * 1 := fun P cd lo s => lv_gr (F := fun w s => stp (P w) (cd w) s) (fun w s => stp_gr _ _ _) lo hmm s
  have gB : ∀ (P : Nat → Nat → Bool) (cd : Nat → Nat → Nat) lo s, (lvB P cd lo mm s).1 ≤ s.1 + 31 * (31 * 1) := fun P cd lo s => lv_gr (F := fun w s => lvG (P w) (cd w) w mm s) (fun w s => gG _ _ _ _) lo hmm s
  rcases (by omega : k = 1 ∨ k = 2 ∨ k = 3) with e | e | e
  · subst e
    refine t_lp_3 (at' := 0) (lo := 0) (G := 1) (F := fun c s => stp (PP n 0 0 c) (CD 0 0 c) s) h (by decide) (by decide) hmm (Or.inl ⟨rfl, rfl⟩) (Nat.zero_le _) hT (fun w s => stp_gr _ _ _) (by decide) (fun c s' S' Q' h1 h2 h3 f hT' hb hc hQ' => ?_) (fun S' f hT' _ => hQ S' f hT')
    obtain ⟨q1, q2⟩ := rh1 (g := g3 c 0 0) (c := c) (n := n) rfl (by omega) hn
    refine t_leaf_2 (k := 1) (g := g3 c 0 0) (h.fr f) (by decide) hn hT' (fun j hj => ?_) (by omega) (fun S2 f2 ga hT2 => hQ' S2 f2 (by rw [q1, q2] at hT2; exact hT2) (fun j _ => by rw [ga]))
    rw [show j = 0 by omega]; exact hc
  · subst e
    refine t_lp_3 (at' := 0) (lo := 0) (G := 31 * 1) (F := fun b' s => lvG (PP n 0 b') (CD 0 b') b' mm s) h (by decide) (by decide) hmm (Or.inl ⟨rfl, rfl⟩) (Nat.zero_le _) hT (fun w s => gG _ _ _ _) (by decide) (fun b' s' S' Q' h1 h2 h3 f hT' hb hc hQ' => ?_) (fun S' f hT' _ => hQ S' f hT')
    refine t_lp_2 (at' := 1) (lo := b') (G := 1) (F := fun c s => stp (PP n 0 b' c) (CD 0 b' c) s) (h.fr f) (by decide) (by decide) hmm (Or.inr ⟨by decide, hc⟩) h2 hT' (fun w s => stp_gr _ _ _) h3 (fun c s2 S2 Q2 i1 i2 i3 f2 hT2 hb2 hc2 hQ2 => ?_) (fun S2 f2 hT2 hb2 => hQ' S2 f2 hT2 (fun j hj => absurd hj (Nat.not_lt_zero j)))
    obtain ⟨q1, q2⟩ := rh2 (g := g3 b' c 0) (b := b') (c := c) (n := n) rfl rfl (by omega) (by omega) hn
    refine t_leaf_1 (k := 2) (g := g3 b' c 0) ((h.fr f).fr f2) (by decide) hn hT2 (fun j hj => ?_) (by omega) (fun S3 f3 ga hT3 => hQ2 S3 f3 (by rw [q1, q2] at hT3; exact hT3) (fun j _ => by rw [ga]))
    rcases (by omega : j = 0 ∨ j = 1) with rfl | rfl
    · rw [hb2 0 (by decide)]; exact hc
    · exact hc2
  · subst e
    refine t_lp_3 (at' := 0) (lo := 0) (G := 31 * (31 * 1)) (F := fun a s => lvB (PP n a) (CD a) a mm s) h (by decide) (by decide) hmm (Or.inl ⟨rfl, rfl⟩) (Nat.zero_le _) hT (fun w s => gB _ _ _ _) (by decide) (fun a s' S' Q' h1 h2 h3 f hT' hb hc hQ' => ?_) (fun S' f hT' _ => hQ S' f hT')
    refine t_lp_2 (at' := 1) (lo := a) (G := 31 * 1) (F := fun b' s => lvG (PP n a b') (CD a b') b' mm s) (h.fr f) (by decide) (by decide) hmm (Or.inr ⟨by decide, hc⟩) h2 hT' (fun w s => gG _ _ _ _) h3 (fun b' s2 S2 Q2 i1 i2 i3 f2 hT2 hb2 hc2 hQ2 => ?_) (fun S2 f2 hT2 hb2 => hQ' S2 f2 hT2 (fun j hj => absurd hj (Nat.not_lt_zero j)))
    have ha2 : gA S2 b 0 = nI a := by rw [hb2 0 (by decide)]; exact hc
    refine t_lp_1 (at' := 2) (lo := b') (G := 1) (F := fun c s => stp (PP n a b' c) (CD a b' c) s) ((h.fr f).fr f2) (by decide) (by decide) hmm (Or.inr ⟨by decide, hc2⟩) i2 hT2 (fun w s => stp_gr _ _ _) i3 (fun c s3 S3 Q3 j1 j2 j3 f3 hT3 hb3 hc3 hQ3 => ?_) (fun S3 f3 hT3 hb3 => hQ2 S3 f3 hT3 (fun j hj => hb3 j (by omega)))
    obtain ⟨q1, q2⟩ := rh3 (g := g3 a b' c) (a := a) (b := b') (c := c) (n := n) rfl rfl rfl (by omega) (by omega) (by omega) hn
    refine t_leaf_0 (k := 3) (g := g3 a b' c) (((h.fr f).fr f2).fr f3) (by decide) hn hT3 (fun j hj => ?_) (by omega) (fun S4 f4 ga hT4 => hQ3 S4 f4 (by rw [q1, q2] at hT4; exact hT4) (fun j _ => by rw [ga]))
    rcases (by omega : j = 0 ∨ j = 1 ∨ j = 2) with rfl | rfl | rfl
    · rw [hb3 0 (by decide)]; exact ha2
    · rw [hb3 1 (by decide)]; exact hc2
    · exact hc3
theorem m_sets {a : Nat → Nat} {v : AS} {S : Hp} {k m n w : Int32} {Q : Int32 → Hp → Prop} (hM : MI a v S) (hQ : ∀ S', MI a v S' → Q (sp_sets k m n w) S') : wp_X6_sets (a 0) k m n w S Q := by
  obtain ⟨k0, k1, k2, k3, k4, k5, k6, k7, k8, k9, k10, k11, k12, k13, k14, r1, r2, r3, r4, r5, r6, r7, r8, r9, r10, r11, r12, r13, r14, l1, l2, l3, l4, l5, l6, l7, l8, l9, l10, l11, l12, l13, l14⟩ := hM.1.all
  have no : ¬ okS k m n w → Q (-1) S := fun h => by
    have := hQ S hM
    unfold sp_sets at this
    rw [if_neg h] at this; exact this
  unfold wp_X6_sets
  rw [e_isInL (lo := 1) (hi := 3) rfl rfl]
  refine br0 (fun hk => ?_) (fun hk => no (fun z => hk z.1))
  rw [e_isInL (lo := 1) (hi := 30) rfl rfl]
  refine br0 (fun hm => ?_) (fun hm => no (fun z => hm z.2.1))
  rw [e_isInL (lo := 1) (hi := 13) rfl rfl]
  refine br0 (fun hn => ?_) (fun hn => no (fun z => hn z.2.2.1))
  rw [e_isInL (lo := 0) (hi := 1) rfl rfl]
  refine br1 (fun hw => ⟨k0, fun S9 e9 => ⟨by rw [e9]; exact k0, fun S10 e10 => ?_⟩⟩) (fun hw => no (fun z => hw z.2.2.2))
  have f10 : FR (a 0) (a 6) S S10 := by rw [e10, e9]; exact ((FW.rf _ _ S).i ⟨Or.inl rfl, rfl⟩ _).i ⟨Or.inr rfl, rfl⟩ _
  have hT : TT (a 0) (0, none) S10 := by
    rw [e10, e9]
    refine ⟨?_, fun _ => ⟨rfl, ?_⟩, fun x hx => by cases hx⟩
    · rw [h_gI_sI, if_neg (fun z => absurd z.1 (by decide)), h_gI_sI, if_pos ⟨rfl, rfl⟩]; rfl
    · rw [h_gI_sI, if_pos ⟨rfl, rfl⟩]
  clear e9 e10
  have hF : MF S (a 0) (a 6) := ⟨k0, r6, k6, l6⟩
  have ekI : k = nI (ix k) := p_nat (by omega)
  have emI : m = nI (ix m) := p_nat (by omega)
  have enI : n = nI (ix n) := p_nat (by omega)
  have b1k : 1 ≤ ix k ∧ ix k ≤ 3 := by unfold ix; omega
  have b1m : 1 ≤ ix m ∧ ix m ≤ 30 := by unfold ix; omega
  have b1n : ix n ≤ 13 := by unfold ix; omega
  unfold sp_sets at hQ
  rw [if_pos ⟨hk, hm, hn, hw⟩] at hQ
  rw [ekI, emI, enI]
  refine ⟨by rw [f10.1]; exact k0, t_choose (hF.fr f10) b1k b1m.2 b1n hT (fun S' f hT' => ?_)⟩
  have f1 : FR (a 0) (a 6) S S' := f10.tr f
  have hM' : MI a v S' := by
    have ne : ∀ j, j < 15 → j ≠ 6 → ¬ (a j = a 6) := fun j hj h6 => hM.1.ne hj (by decide) h6
    have hg : ∀ i, i ≠ 84 → i ≠ 85 → gI S' i (a 0) = gI S i (a 0) := fun i h1 h2 => f1.2.2.2.2.1 _ _ (fun z => by rcases z.1 with z | z <;> omega)
    refine hM.fw f1 (fun c z => ⟨6, by decide, by decide, z⟩) hM.2.1 rfl ?_ ?_ ?_ ?_ ?_
    · rw [hg 70 (by decide) (by decide)]; exact hM.2.2.1
    · rw [f1.2.2.2.2.2 _ (ne 1 (by decide) (by decide))]; exact hM.2.2.2.1
    · rw [f1.2.2.2.2.2 _ (ne 2 (by decide) (by decide))]; exact hM.2.2.2.2.1
    · rw [hg 73 (by decide) (by decide)]; exact hM.2.2.2.2.2.1
    · rw [hg 73 (by decide) (by decide), hg 74 (by decide) (by decide), f1.2.2.2.2.2 _ (ne 3 (by decide) (by decide)), f1.2.2.2.2.2 _ (ne 4 (by decide) (by decide))]; exact hM.2.2.2.2.2.2.1
  have h1 := hQ S' hM'
  unfold stR at h1
  have w1 : w = 1 ↔ w.toInt = 1 := p_eq _ _
  have w0 : w = 0 ↔ w.toInt = 0 := p_eq _ _
  refine ⟨fun e => ⟨hM'.1.1, ?_⟩, fun e => ⟨hM'.1.1, ?_⟩⟩
  · have ew : w = 1 := by rw [w1]; rw [w0] at e; omega
    rw [if_pos (decide_eq_true ew)] at h1
    cases hv : (setsR (ix k) (ix m) (ix n)).2 with
    | none => rw [(hT'.2.1 hv).2]; rw [hv] at h1; exact h1
    | some x => rw [(hT'.2.2 x hv).2]; rw [hv] at h1; exact h1
  · have ew : ¬ (decide (w = 1) = true) := fun z => by
      have := of_decide_eq_true z
      rw [this] at e; exact absurd e (by decide)
    rw [if_neg ew] at h1
    rw [hT'.1]; exact h1
