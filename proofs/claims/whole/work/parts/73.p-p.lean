/-! shops by seeds -/
theorem e_isWt (x : Int32) (S : Hp) (Q : Int32 → Hp → Prop) : wp_X4_isWeight x S Q ↔ Q (b2 (1 ≤ x.toInt ∧ x.toInt ≤ 99)) S := by
  unfold wp_X4_isWeight
  rw [p_lt, p_lt, show (1 : Int32).toInt = 1 from rfl, show (99 : Int32).toInt = 99 from rfl]
  by_cases h1 : x.toInt < 1
  · rw [b2_f (by omega)]; simp [h1]
  · by_cases h2 : 99 < x.toInt
    · rw [b2_f (by omega)]; simp [h1, h2]
    · rw [b2_t (by omega)]; simp [h1, h2]
theorem e_isPr (x : Int32) (S : Hp) (Q : Int32 → Hp → Prop) : wp_X4_isPrice x S Q ↔ Q (b2 (0 ≤ x.toInt ∧ x.toInt ≤ 99)) S := by
  unfold wp_X4_isPrice
  rw [p_lt, p_lt, show (0 : Int32).toInt = 0 from rfl, show (99 : Int32).toInt = 99 from rfl]
  by_cases h1 : x.toInt < 0
  · rw [b2_f (by omega)]; simp [h1]
  · by_cases h2 : 99 < x.toInt
    · rw [b2_f (by omega)]; simp [h1, h2]
    · rw [b2_t (by omega)]; simp [h1, h2]
abbrev isWt (x : Int32) : Prop := 1 ≤ x.toInt ∧ x.toInt ≤ 99
abbrev isPr (x : Int32) : Prop := 0 ≤ x.toInt ∧ x.toInt ≤ 99
def adT (t : ASt) (x y : Int32) : ASt := (t.1 + 1, upd t.2.1 t.1 x, upd t.2.2 t.1 y)
/-- where stones lie -/
def StS (S : Hp) (c w p : Nat) : Prop := kd S c = 5 ∧ gR S 40 c = some w ∧ gR S 41 c = some p ∧ kd S w = 8 ∧ kd S p = 8 ∧ ln S w = 6 ∧ ln S p = 6 ∧ w ≠ p
abbrev inS (w p : Nat) (b : Nat) : Prop := b = w ∨ b = p
abbrev inC (c : Nat) (i x : Nat) : Prop := i = 42 ∧ x = c
theorem StS.fw {P : Nat → Prop} {J : Nat → Nat → Prop} {S S' : Hp} {c w p : Nat} (h : StS S c w p) (f : FW P J S S') : StS S' c w p := by
  unfold StS at h ⊢
  rw [f.1, f.2.1, f.2.2.1]
  exact h
theorem x_add {S : Hp} {c w p : Nat} {t : ASt} {x y : Int32} {Q : Int32 → Hp → Prop} (hS : StS S c w p) (hD : StR S c w p t) (ht : t.1 ≤ 6) (h0 : ¬ (t.1 < 6 ∧ isWt x ∧ isPr y) → Q 0 S) (h1 : t.1 < 6 → isWt x → isPr y → ∀ S', FW (inS w p) (inC c) S S' → StR S' c w p (adT t x y) → Q 1 S') : wp_X4_add c x y S Q := by
  obtain ⟨hc, r1, r2, kw, kp, lw, lp, nwp⟩ := hS
  unfold wp_X4_add
  rw [hD.1, show (6 : Int32) = nI 6 from rfl, nI_leI (by decide) (by omega)]
  refine ⟨hc, fun e => h0 (fun z => by omega), fun e => ?_⟩
  rw [e_isWt]
  refine br0 (fun hw => ?_) (fun hw => h0 (fun z => hw z.2.1))
  rw [e_isPr]
  refine br1 (fun hp => ?_) (fun hp => h0 (fun z => hp z.2.2))
  refine ⟨hc, w, r1, hc, kw, by rw [hD.1, lw]; exact vp_in_nI (by omega) (by decide), fun S6 e6 => ?_⟩
  have g6 : gI S6 42 c = nI t.1 := by rw [e6]; exact hD.1
  have f6 : FW (inS w p) (inC c) S S6 := by rw [e6]; exact (FW.rf _ _ S).a (Or.inl rfl) _ _
  refine ⟨by rw [f6.1]; exact hc, p, by rw [f6.2.1]; exact r2, by rw [f6.1]; exact hc, by rw [f6.1]; exact kp, by rw [f6.2.2.1, lp, g6]; exact vp_in_nI (by omega) (by decide), fun S8 e8 => ?_⟩
  have g8 : gI S8 42 c = nI t.1 := by rw [e8]; exact g6
  have f8 : FW (inS w p) (inC c) S S8 := by rw [e8]; exact f6.a (Or.inr rfl) _ _
  refine ⟨by rw [f8.1]; exact hc, by rw [f8.1]; exact hc, fun S9 e9 => ?_⟩
  have f9 : FW (inS w p) (inC c) S S9 := by rw [e9]; exact f8.i ⟨rfl, rfl⟩ _
  refine h1 (by omega) hw hp S9 f9 ⟨?_, fun j hj => ?_, fun j hj => ?_⟩
  · rw [e9, h_gI_sI, if_pos ⟨rfl, rfl⟩, g8]; exact nI_1 _
  · have e10 : gA S9 w = upd (gA S w) t.1 x := by
      rw [e9, h_gA_sI, e8, gA_sAn _ _ _ nwp, e6, gA_sA, hD.1, nI_clamp (by omega)]
    rw [e10]
    show upd (gA S w) t.1 x j = upd t.2.1 t.1 x j
    have hj : j < t.1 + 1 := hj
    by_cases e11 : j = t.1
    · rw [e11, upd_s, upd_s]
    · rw [upd_n _ _ e11, upd_n _ _ e11]; exact hD.2.1 j (by omega)
  · have e10 : gA S9 p = upd (gA S p) t.1 y := by
      rw [e9, h_gA_sI, e8, gA_sA, g6, nI_clamp (by omega), e6, gA_sAn _ _ _ (Ne.symm nwp)]
    rw [e10]
    show upd (gA S p) t.1 y j = upd t.2.2 t.1 y j
    have hj : j < t.1 + 1 := hj
    by_cases e11 : j = t.1
    · rw [e11, upd_s, upd_s]
    · rw [upd_n _ _ e11, upd_n _ _ e11]; exact hD.2.2 j (by omega)
def sdN (z : Int32) : Nat → Int32
  | 0 => z
  | k + 1 => sdN z k * (1103515245 : Int32) + (12345 : Int32)
def sdD (y : Int32) : Int32 := (1 : Int32) + (((y &&& (2147483647 : Int32)) / (65536 : Int32)) - ((y &&& (2147483647 : Int32)) / (65536 : Int32)) / (40 : Int32) * (40 : Int32))
def sdW (z : Int32) (k : Nat) : Int32 := sdD (sdN z (k + 1))
def sdT (z : Int32) (n : Nat) : ASt := (n, sdW z, fun _ => 0)
theorem sdD_ok (y : Int32) : ∃ m, m < 40 ∧ sdD y = nI (1 + m) := by
  have h0 : 0 ≤ (y &&& (2147483647 : Int32)).toInt := by
    have e : (y &&& (2147483647 : Int32)).toBitVec.msb = false := by
      rw [Int32.toBitVec_and, BitVec.msb_and, show (2147483647 : Int32).toBitVec.msb = false from rfl, Bool.and_false]
    rw [BitVec.msb_eq_toInt] at e
    have e2 := of_decide_eq_false e
    have e3 : (y &&& (2147483647 : Int32)).toBitVec.toInt = (y &&& (2147483647 : Int32)).toInt := rfl
    omega
  have hh := p_hi (y &&& (2147483647 : Int32))
  have e1 := p_nat h0
  have hk : (y &&& (2147483647 : Int32)).toInt.toNat < 2 ^ 31 := by omega
  generalize (y &&& (2147483647 : Int32)).toInt.toNat = k at e1 hk
  refine ⟨k / 65536 % 40, Nat.mod_lt _ (by decide), ?_⟩
  unfold sdD
  rw [e1, show (65536 : Int32) = nI 65536 from rfl, show (40 : Int32) = nI 40 from rfl, pk_div hk (by decide) (by decide), pk_rem (Nat.lt_of_le_of_lt (Nat.div_le_self _ _) hk) (by decide) (by decide), show (1 : Int32) = nI 1 from rfl, nI_add]
theorem sdW_wt (z : Int32) (k : Nat) : isWt (sdW z k) := by
  obtain ⟨m, hm, e⟩ := sdD_ok (sdN z (k + 1))
  unfold isWt sdW
  rw [e, nI_toInt (by omega)]
  omega
theorem sdT_ok (z : Int32) {n : Nat} (hn : n ≤ 6) : StOk (sdT z n) := ⟨hn, fun j _ => sdW_wt z j, fun j _ => ⟨(by decide : (0 : Int) ≤ (0 : Int32).toInt), (by decide : (0 : Int32).toInt ≤ (99 : Int))⟩⟩
theorem hadB_pr (s : ASh) (n : Nat) (f g g' : Nat → Int32) (w0 : Nat) : ∀ m w, hadB s (n, f, g) w0 m w = hadB s (n, f, g') w0 m w
  | 0, _ => rfl
  | m + 1, w => by rw [hadB_s, hadB_s, hadB_pr s n f g g' w0 m w]; rfl
theorem had_pr (s : ASh) (n : Nat) (f g g' : Nat → Int32) (w0 : Nat) : had s (n, f, g) w0 = had s (n, f, g') w0 := by
  funext w
  exact hadB_pr s n f g g' w0 _ w
def sp_seeded (v : AS) (d n z : Int32) : Int32 := if isSh d then (if 1 ≤ n.toInt ∧ n.toInt ≤ 6 then onSc (v.2.2 (ix d)) (nI (rch (had (v.2.2 (ix d)) (sdT z (ix n)) 0))) else -1) else -1
theorem x_seeded {a : Nat → Nat} {v : AS} {S : Hp} {d n z : Int32} {Q : Int32 → Hp → Prop} (hX : XI a v S) (hQ : ∀ S', XI a v S' → Q (sp_seeded v d n z) S') : wp_X5_seeded (a 0) d n z S Q := by
  have ne : ∀ i j, i < 30 → j < 30 → i ≠ j → a i ≠ a j := fun i j h1 h2 h3 => hX.1.ne h1 h2 h3
  unfold sp_seeded onSc at hQ
  unfold wp_X5_seeded
  rw [e_xSh]
  refine br0 (fun hd => ?_) (fun hd => ?_)
  · rw [if_pos hd] at hQ
    obtain ⟨i1, i2, i3, i4⟩ := x_in hX.1 hd
    rw [p_lt, p_le, show (1 : Int32).toInt = 1 from rfl, show (6 : Int32).toInt = 6 from rfl]
    refine ⟨fun h1 => ?_, fun h1 => ⟨fun h2 => ⟨hX.1.k0, _, hX.1.r56_0, i3, i1, x_scale hX hd (fun h1 he => ⟨hX.1.k0, x_notHeld hX hd ?_⟩) (fun zz h1 hz => ⟨hX.1.k0, _, hX.1.r54_0, hX.1.k12, fun S1 e1 => ?_⟩)⟩, fun h2 => ?_⟩⟩
    · rw [if_neg (by omega)] at hQ; exact hQ S hX
    · rw [if_pos (by omega), if_pos h1] at hQ; rw [he]; exact hQ S hX
    · rename_i hn1
      rw [if_pos (by omega), if_neg (by omega)] at hQ
      have hnI : n = nI (ix n) := p_nat (by omega)
      have hn6 : ix n ≤ 6 := by unfold ix; omega
      have hn0 : 1 ≤ ix n := by unfold ix; omega
      rw [hnI]
      have hSt : StS S (a 12) (a 13) (a 14) := ⟨hX.1.k12, hX.1.r40_12, hX.1.r41_12, hX.1.k13, hX.1.k14, hX.1.l13, hX.1.l14, ne 13 14 (by decide) (by decide) (by decide)⟩
      have hf1 : FW (inS (a 13) (a 14)) (inC (a 12)) S S1 := by rw [e1]; exact (FW.rf _ _ S).i ⟨rfl, rfl⟩ _
      have hD1 : StR S1 (a 12) (a 13) (a 14) (sdT z 0) := ⟨by rw [e1, h_gI_sI, if_pos ⟨rfl, rfl⟩]; rfl, fun j hj => absurd hj (Nat.not_lt_zero j), fun j hj => absurd hj (Nat.not_lt_zero j)⟩
      clear e1
      refine it_up (ix n) (fun k x => ∃ S', x = (a 0, nI (ix n), zz, sdN z k, nI k, S') ∧ FW (inS (a 13) (a 14)) (inC (a 12)) S S' ∧ StR S' (a 12) (a 13) (a 14) (sdT z k)) ?_ _ ⟨S1, rfl, hf1, hD1⟩
      rintro C k x hk ⟨S2, rfl, f2, hD2⟩ hC
      have hX2 := hX.1.fw f2 (fun i x z => ⟨by omega, by omega⟩)
      have hSt2 := hSt.fw f2
      simp only [L_X5_seeded_53, forall_eq]
      rw [nI_leI (by omega) (by omega)]
      refine ⟨fun e => ?_, fun e => ⟨hX2.k0, _, hX2.r54_0, hX2.k12, ?_⟩⟩
      · have hkn : k = ix n := by omega
        subst hkn
        have noS : ∀ i, i < 30 → i ≠ 13 → i ≠ 14 → ¬ inS (a 13) (a 14) (a i) := fun i hi h1 h2 z => by
          rcases z with z | z
          · exact ne i 13 hi (by decide) h1 z
          · exact ne i 14 hi (by decide) h2 z
        have noL : ∀ i, i < 30 → (i < 16 ∨ 19 < i) → ¬ inL (a 16) (a 17) (a 18) (a 19) (a i) := fun i hi h5 z => by
          rcases z with z | z | z | z
          · exact ne i 16 hi (by decide) (by omega) z
          · exact ne i 17 hi (by decide) (by omega) z
          · exact ne i 18 hi (by decide) (by omega) z
          · exact ne i 19 hi (by decide) (by omega) z
        have hS15 : LyS S2 (a 15) (a 16) (a 17) (a 18) (a 19) := ⟨hX2.k15, hX2.r0_15, hX2.r1_15, hX2.r2_15, hX2.r3_15, hX2.k16, hX2.k17, hX2.k18, hX2.k19, hX2.l16, hX2.l17, hX2.l18, hX2.l19, ne 16 17 (by decide) (by decide) (by decide), ne 16 18 (by decide) (by decide) (by decide), ne 16 19 (by decide) (by decide) (by decide), ne 17 18 (by decide) (by decide) (by decide), ne 17 19 (by decide) (by decide) (by decide), ne 18 19 (by decide) (by decide) (by decide)⟩
        have hz2 : XZ a S2 := hX.2.2.2.2.2.2.2.2.fw f2 (fun i h1 h2 => noS i (by omega) (by omega) (by omega))
        refine ⟨hX2.k0, _, hX2.r55_0, hX2.k0, _, hX2.r54_0, hX2.k15, x_layOut hS15 hX2.k12 hX2.r40_12 hX2.k13 hX2.l13 hD2 hn6 (noL 13 (by decide) (by decide)) hz2 ?_⟩
        intro S3 f3 hL3 hz3
        have f23 : FW (fun b => inS (a 13) (a 14) b ∨ inL (a 16) (a 17) (a 18) (a 19) b ∨ b = a 27) (fun i x => inC (a 12) i x ∨ (i = 4 ∧ x = a 15)) S S3 := (f2.mono (fun _ z => Or.inl z) (fun _ _ z => Or.inl z)).tr (f3.mono (fun _ z => Or.inr (Or.inl z)) (fun _ _ z => Or.inr z))
        have hX3 := hX2.fw f3 (fun i x z => ⟨by omega, by omega⟩)
        have hz' : ScS S3 zz (v.2.2 (ix d)) := hz.fw f23 (fun w => by rcases w with w | w <;> omega) (fun w => by rcases w with w | w <;> omega)
        refine ⟨hX3.k0, _, hX3.r55_0, hX3.k0, x_firstNotHad hX3.k0 hX3.r60_0 hX3.k27 hX3.l27 (hS15.fw f3) hL3 (ne 16 27 (by decide) (by decide) (by decide)) (ne 17 27 (by decide) (by decide) (by decide)) (ne 18 27 (by decide) (by decide) (by decide)) (ne 19 27 (by decide) (by decide) (by decide)) hz' (sdT_ok z hn6) ?_⟩
        intro S4 f4
        rw [nI_pred]
        have f24 := f23.tr (f4.w (P := fun b => inS (a 13) (a 14) b ∨ inL (a 16) (a 17) (a 18) (a 19) b ∨ b = a 27) (J := fun i x => inC (a 12) i x ∨ (i = 4 ∧ x = a 15)) (Or.inr (Or.inr rfl)))
        have noP : ∀ i, i < 30 → (i < 13 ∨ i = 15 ∨ (19 < i ∧ i ≠ 27)) → ¬ (inS (a 13) (a 14) (a i) ∨ inL (a 16) (a 17) (a 18) (a 19) (a i) ∨ a i = a 27) := fun i hi h5 z => by
          rcases z with z | z | z
          · exact noS i hi (by omega) (by omega) z
          · exact noL i hi (by omega) z
          · exact ne i 27 hi (by decide) (by omega) z
        have noJ : ∀ i, i < 30 → i ≠ 12 → i ≠ 15 → ∀ j, ¬ (inC (a 12) j (a i) ∨ (j = 4 ∧ a i = a 15)) := fun i hi h1 h2 j z => by
          rcases z with z | z
          · exact ne i 12 hi (by decide) h1 z.2
          · exact ne i 15 hi (by decide) h2 z.2
        refine hQ S4 (hX.fw f24 (fun i x z => by rcases z with z | z <;> exact ⟨by omega, by omega, by omega⟩) (fun c z => ?_) hX.2.1 rfl (hX.2.2.1.fw f24 (noJ 1 (by decide) (by decide) (by decide) _) (noP 2 (by decide) (by decide)) (noP 3 (by decide) (by decide))) (hX.2.2.2.1.fw f24 (noJ 4 (by decide) (by decide) (by decide) _) (noP 5 (by decide) (by decide)) (noP 6 (by decide) (by decide)) (noP 7 (by decide) (by decide)) (noP 8 (by decide) (by decide))) (fun hv => ?_) (fun t hv => ?_) ?_)
        · rcases z with (z | z) | (z | z | z | z) | z
          · exact ⟨13, by decide, z⟩
          · exact ⟨14, by decide, z⟩
          · exact ⟨16, by decide, z⟩
          · exact ⟨17, by decide, z⟩
          · exact ⟨18, by decide, z⟩
          · exact ⟨19, by decide, z⟩
          · exact ⟨27, by decide, z⟩
        · rw [f24.2.2.2.2.1 53 _ (noJ 0 (by decide) (by decide) (by decide) _)]; exact hX.2.2.2.2.1 hv
        · have := hX.2.2.2.2.2.1 t hv
          rw [f24.2.2.2.2.1 53 _ (noJ 0 (by decide) (by decide) (by decide) _)]
          exact ⟨this.1, this.2.fw f24 (noJ 9 (by decide) (by decide) (by decide) _) (noP 10 (by decide) (by decide)) (noP 11 (by decide) (by decide))⟩
        · unfold XZ
          rw [f4.2.2.2.2.2 _ (ne 16 27 (by decide) (by decide) (by decide)), f4.2.2.2.2.2 _ (ne 17 27 (by decide) (by decide) (by decide)), f4.2.2.2.2.2 _ (ne 18 27 (by decide) (by decide) (by decide)), f4.2.2.2.2.2 _ (ne 19 27 (by decide) (by decide) (by decide))]
          exact hz3
      · have hst := hC (by omega)
        have hk6 : k < 6 := by omega
        refine x_add hSt2 hD2 (Nat.le_of_lt hk6) (fun w => absurd ⟨hk6, sdW_wt z k, by decide, by decide⟩ w) (fun _ _ _ S3 f3 hD3 => ?_)
        refine hst _ ⟨S3, by rw [nI_1]; rfl, f2.tr f3, hD3.1, fun j hj => ?_, fun j hj => ?_⟩
        · rw [hD3.2.1 j hj]
          show upd (sdW z) k _ j = sdW z j
          by_cases e5 : j = k
          · subst e5; rw [upd_s]; rfl
          · rw [upd_n _ _ e5]
        · rw [hD3.2.2 j hj]
          show upd (fun _ => 0) k 0 j = 0
          unfold upd
          split <;> rfl
    · rw [if_neg (by omega)] at hQ; exact hQ S hX
  · rw [if_neg hd] at hQ; exact hQ S hX
theorem FB.w {P : Nat → Prop} {J : Nat → Nat → Prop} {b : Nat} {S S' : Hp} (h : FB b S S') (hb : P b) (hJ : ∀ i x, 77 ≤ i → i ≤ 82 → J i x) : FW P J S S' := ⟨h.1, h.2.1, h.2.2.1, h.2.2.2.1, fun i x z => h.2.2.2.2.1 i x (by
  by_cases e : 77 ≤ i ∧ i ≤ 82
  · exact absurd (hJ i x e.1 e.2) z
  · omega), fun c z => h.2.2.2.2.2 c (fun w => z (w ▸ hb))⟩
theorem m_seeded {a : Nat → Nat} {v : AS} {S : Hp} {d n z : Int32} {Q : Int32 → Hp → Prop} (hM : MI a v S) (hQ : ∀ S', MI a v S' → Q (sp_seeded v d n z) S') : wp_X6_seeded (a 0) d n z S Q := by
  obtain ⟨k0, k1, k2, k3, k4, k5, k6, k7, k8, k9, k10, k11, k12, k13, k14, r1, r2, r3, r4, r5, r6, r7, r8, r9, r10, r11, r12, r13, r14, l1, l2, l3, l4, l5, l6, l7, l8, l9, l10, l11, l12, l13, l14⟩ := hM.1.all
  have ne : ∀ i j, i < 15 → j < 15 → i ≠ j → a i ≠ a j := fun i j h1 h2 h3 => hM.1.ne h1 h2 h3
  unfold sp_seeded onSc at hQ
  unfold wp_X6_seeded
  rw [e_mSh]
  refine br0 (fun hd => ?_) (fun hd => ?_)
  · rw [if_pos hd] at hQ
    obtain ⟨h8, hdI⟩ := isSh_nI hd
    rw [e_isInL (lo := 1) (hi := 6) rfl rfl]
    refine br1 (fun hn => ⟨k0, t_noScale hM hd (bz0 (scN_0 (hM.2.1.2.2 _ h8).1) (fun h1 => ⟨k0, ?_⟩) (fun h1 => ⟨k0, fun y18 e18 => ⟨k0, _, r1, k0, _, r7, ?_⟩⟩))⟩) (fun hn => ?_)
    · rw [if_pos hn, if_pos h1] at hQ
      exact t_noScale hM hd (hQ _ hM)
    · rw [if_pos hn, if_neg h1] at hQ
      have h11 := Decidable.not_not.mp h1
      have hnI : n = nI (ix n) := p_nat (by omega)
      have hn6 : ix n ≤ 6 := by unfold ix; omega
      rw [hM.2.2.1] at e18
      subst e18
      refine t_move (L := 6) k1 k7 l1 l7 (by decide) (ne 1 7 (by decide) (by decide) (by decide)) ?_
      intro S2 f2 c2
      refine ⟨by rw [f2.1]; exact k0, fun S3 e3 => ?_⟩
      let PP : Nat → Prop := fun b => b = a 1 ∨ b = a 5 ∨ b = a 7
      let JJ : Nat → Nat → Prop := fun i x => (i = 70 ∧ x = a 0) ∨ (77 ≤ i ∧ i ≤ 82)
      have noP : ∀ i, i < 15 → i ≠ 1 → i ≠ 5 → i ≠ 7 → ¬ PP (a i) := fun i hi h1 h5 h7 z => by
        rcases z with z | z | z
        · exact ne i 1 hi (by decide) h1 z
        · exact ne i 5 hi (by decide) h5 z
        · exact ne i 7 hi (by decide) h7 z
      have f3 : FW PP JJ S S3 := by rw [e3]; exact (f2.w (P := PP) (J := JJ) (Or.inr (Or.inr rfl))).i (Or.inl ⟨rfl, rfl⟩) _
      have g3 : gI S3 70 (a 0) = nI (ix n) := by rw [e3, h_gI_sI, if_pos ⟨rfl, rfl⟩]; exact hnI
      have c3 : ∀ j, j < 6 → gA S3 (a 7) j = gA S (a 1) j := fun j hj => by rw [e3, h_gA_sI]; exact c2 j hj
      clear e3
      rw [hnI]
      refine it_up (ix n) (fun k x => ∃ S', x = (a 0, d, nI (ix n), nI v.1.1, sdN z k, nI k, S') ∧ FW PP JJ S S' ∧ gI S' 70 (a 0) = nI (ix n) ∧ (∀ j, j < 6 → gA S' (a 7) j = gA S (a 1) j) ∧ ∀ j, j < k → gA S' (a 1) j = sdW z j) ?_ _ ⟨S3, rfl, f3, g3, c3, fun j hj => absurd hj (Nat.not_lt_zero j)⟩
      rintro C k x hk ⟨S4, rfl, f4, g4, c4, w4⟩ hC
      simp only [L_X6_seeded_61, forall_eq]
      rw [nI_leI (by omega) (by omega)]
      refine ⟨fun e => ⟨by rw [f4.1]; exact k0, ?_⟩, fun e => ⟨by rw [f4.1]; exact k0, _, by rw [f4.2.1]; exact r1, by rw [f4.1]; exact k1, by rw [f4.2.2.1, l1]; exact vp_in_nI (by omega) (by decide), ?_⟩⟩
      · have hkn : k = ix n := by omega
        subst hkn
        let v' : AS := ((ix n, sdW z, gA S4 (a 2)), v.2.1, v.2.2)
        have gg73 : gI S4 73 (a 0) = gI S 73 (a 0) := f4.2.2.2.2.1 _ _ (fun z => by rcases z with z | z <;> omega)
        have gg74 : gI S4 74 (a 0) = gI S 74 (a 0) := f4.2.2.2.2.1 _ _ (fun z => by rcases z with z | z <;> omega)
        have ga3 : gA S4 (a 3) = gA S (a 3) := f4.2.2.2.2.2 _ (noP 3 (by decide) (by decide) (by decide) (by decide))
        have ga4 : gA S4 (a 4) = gA S (a 4) := f4.2.2.2.2.2 _ (noP 4 (by decide) (by decide) (by decide) (by decide))
        have hM4 : MI a v' S4 := hM.fw f4 (fun c z => by
          rcases z with z | z | z
          · exact ⟨1, by decide, by decide, z⟩
          · exact ⟨5, by decide, by decide, z⟩
          · exact ⟨7, by decide, by decide, z⟩) ⟨⟨hn6, trivial⟩, hM.2.1.2.1, hM.2.1.2.2⟩ rfl g4 w4 (fun j _ => rfl) (fun hv => by rw [gg73]; exact hM.2.2.2.2.2.1 hv) (fun t hv => by rw [gg73, gg74, ga3, ga4]; exact hM.2.2.2.2.2.2.1 t hv)
        refine t_haveF (v := v') (m := 63) hM4 hd h11 (by decide) (fun S5 hM5 hH5 f5 => ?_)
        have f45 : FW PP JJ S S5 := f4.tr (f5.w (P := PP) (J := JJ) (Or.inr (Or.inl rfl)) (fun i x h1 h2 => Or.inr ⟨h1, h2⟩))
        refine ⟨by rw [f45.1]; exact k0, ?_⟩
        have f46 : FW PP JJ S (sI S5 70 (a 0) (nI v.1.1)) := f45.i (Or.inl ⟨rfl, rfl⟩) _
        refine ⟨by rw [f46.1]; exact k0, _, by rw [f46.2.1]; exact r7, by rw [f46.1]; exact k0, _, by rw [f46.2.1]; exact r1, t_move (L := 6) (by rw [f46.1]; exact k7) (by rw [f46.1]; exact k1) (by rw [f46.2.2.1]; exact l7) (by rw [f46.2.2.1]; exact l1) (by decide) (ne 7 1 (by decide) (by decide) (by decide)) ?_⟩
        intro S7 f7 c7
        have f47 : FW PP JJ S S7 := f46.tr (f7.w (P := PP) (J := JJ) (Or.inl rfl))
        have hg : ∀ i x, ¬ JJ i x → gI S7 i x = gI S i x := f47.2.2.2.2.1
        have hM7 : MI a v S7 := hM.fw f47 (fun c z => by
          rcases z with z | z | z
          · exact ⟨1, by decide, by decide, z⟩
          · exact ⟨5, by decide, by decide, z⟩
          · exact ⟨7, by decide, by decide, z⟩) hM.2.1 rfl (by rw [f7.2.1, h_gI_sI, if_pos ⟨rfl, rfl⟩]) (fun j hj => by
            have h6 := hM.2.1.1.1
            rw [c7 j (by omega), h_gA_sI, f5.2.2.2.2.2 _ (ne 7 5 (by decide) (by decide) (by decide)), c4 j (by omega)]
            exact hM.2.2.2.1 j hj) (fun j hj => by
            rw [f47.2.2.2.2.2 _ (noP 2 (by decide) (by decide) (by decide) (by decide))]
            exact hM.2.2.2.2.1 j hj) (fun hv => by
            rw [hg 73 _ (fun z => by rcases z with z | z <;> omega)]
            exact hM.2.2.2.2.2.1 hv) (fun t hv => by
            rw [hg 73 _ (fun z => by rcases z with z | z <;> omega), hg 74 _ (fun z => by rcases z with z | z <;> omega), f47.2.2.2.2.2 _ (noP 3 (by decide) (by decide) (by decide) (by decide)), f47.2.2.2.2.2 _ (noP 4 (by decide) (by decide) (by decide) (by decide))]
            exact hM.2.2.2.2.2.2.1 t hv)
        have hH7 : HdM S7 (a 5) (had (v.2.2 (ix d)) (sdT z (ix n)) 0) := by
          have e5 : gA S7 (a 5) = gA S5 (a 5) := (f7.2.2.2.2.2 _ (ne 5 1 (by decide) (by decide) (by decide))).trans (h_gA_sI _ _ _ _ _)
          have e6 : had (v.2.2 (ix d)) (sdT z (ix n)) 0 = had (v'.2.2 (ix d)) v'.1 (63 ^^^ 63) := had_pr _ _ _ _ _ _
          rw [e6]
          unfold HdM HdA at hH5 ⊢
          rw [e5]
          exact hH5
        exact ⟨hM7.1.1, t_reached hM7 hH7 (hQ S7 hM7)⟩
      · have hst := hC (by omega)
        refine hst _ ⟨_, by rw [nI_1]; rfl, f4.a (Or.inl rfl) _ _, g4, fun j hj => ?_, fun j hj => ?_⟩
        · rw [gA_sAn _ _ _ (ne 7 1 (by decide) (by decide) (by decide))]; exact c4 j hj
        · rw [gA_sA, nI_clamp (by omega)]
          by_cases e5 : j = k
          · subst e5; rw [upd_s]; rfl
          · rw [upd_n _ _ e5]; exact w4 j (by omega)
    · rw [if_neg hn] at hQ; exact hQ S hM
  · rw [if_neg hd] at hQ; exact hQ S hM
