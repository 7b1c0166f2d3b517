/-! shops as texts: the reference's call -/
def MSt (S : Hp) (m w pp : Nat) (t : ASt) : Prop := gI S 70 m = nI t.1 ∧ (∀ j, j < t.1 → gA S w j = t.2.1 j) ∧ ∀ j, j < t.1 → gA S pp j = t.2.2 j
def MW (S : Hp) (m w pp : Nat) : Prop := kd S m = 7 ∧ gR S 71 m = some w ∧ gR S 72 m = some pp ∧ kd S w = 8 ∧ kd S pp = 8 ∧ ln S w = 6 ∧ ln S pp = 6 ∧ w ≠ pp
abbrev rK (m i z : Nat) : Prop := ((90 ≤ i ∧ i ≤ 93) ∨ i = 70) ∧ z = m
theorem MW.fw {S S' : Hp} {m w pp : Nat} {P : Nat → Prop} {J : Nat → Nat → Prop} (h : MW S m w pp) (f : FW P J S S') : MW S' m w pp := by
  unfold MW at h ⊢
  rw [f.1, f.2.1, f.2.2.1]
  exact h
theorem MSt.f9 {S S' : Hp} {m w pp : Nat} {t : ASt} (h : MSt S m w pp t) (f : F9 m S S') : MSt S' m w pp t := by
  unfold MSt at h ⊢
  rw [f.2.2.2.2.1 70 m (fun z => by omega), f.2.2.2.2.2 w (fun z => z), f.2.2.2.2.2 pp (fun z => z)]
  exact h
theorem apS_6 {t t' : ASt} {l : Int32} {x y : Nat} (h : t.1 ≤ 6) (e : apS t l x y = some t') : t'.1 ≤ 6 := by
  unfold apS at e
  split at e
  · split at e
    · cases e; show t.1 + 1 ≤ 6; omega
    · cases e
  · split at e
    · split at e
      · cases e; exact h
      · cases e
    · split at e
      · split at e
        · cases e; exact h
        · cases e
      · split at e
        · cases e; show t.1 - 1 ≤ 6; omega
        · cases e
theorem t_come {S : Hp} {m w pp x y : Nat} {l : Int32} {t t' : ASt} {Q : Hp → Prop} (h : MW S m w pp) (hT : MSt S m w pp t) (ht : t.1 ≤ 6) (hx : x ≤ 99) (hy : y ≤ 99) (hl : l = 115 ∨ l = 119 ∨ l = 112 ∨ l = 120) (h12 : l ≠ 120 → gI S 92 m = nI x ∧ gI S 93 m = nI y) (hap : apS t l x y = some t') (hQ : ∀ S', FW (inS w pp) (rK m) S S' → gI S' 90 m = gI S 90 m → gI S' 91 m = gI S 91 m → MSt S' m w pp t' → Q S') : wp_X6_come m l S Q := by
  obtain ⟨k0, r71, r72, kw, kp, lw, lp, nwp⟩ := h
  obtain ⟨g70, hw, hp⟩ := hT
  have g90 : ∀ x, gI (sI S 70 m x) 90 m = gI S 90 m := fun x => by rw [h_gI_sI, if_neg (fun z => absurd z.1 (by decide))]
  unfold apS at hap
  unfold wp_X6_come
  rcases hl with rfl | rfl | rfl | rfl
  · obtain ⟨e1, e2⟩ := h12 (by decide)
    simp only [if_true] at hap
    by_cases c : 1 ≤ x ∧ t.1 < 6
    · rw [if_pos c] at hap
      cases hap
      refine ⟨fun z => absurd z (by decide), fun _ => ⟨k0, w, r71, k0, k0, kw, by rw [g70, lw]; exact vp_in_nI (by omega) (by decide), fun S4 e4 => ?_⟩, fun z => absurd z (by decide), fun z => absurd rfl z.2.1⟩
      have f4 : FW (inS w pp) (rK m) S S4 := by rw [e4]; exact (FW.rf _ _ S).a (Or.inl rfl) _ _
      have i4 : gI S4 = gI S := by rw [e4]; rfl
      have a4 : gA S4 w = upd (gA S w) t.1 (nI x) := by rw [e4, gA_sA, g70, nI_clamp (by omega), e1]
      have b4 : gA S4 pp = gA S pp := by rw [e4, gA_sAn _ _ _ (Ne.symm nwp)]
      clear e4
      refine ⟨by rw [f4.1]; exact k0, pp, by rw [f4.2.1]; exact r72, by rw [f4.1]; exact k0, by rw [f4.1]; exact k0, by rw [f4.1]; exact kp, by rw [i4, g70, f4.2.2.1, lp]; exact vp_in_nI (by omega) (by decide), fun S6 e6 => ?_⟩
      have f6 : FW (inS w pp) (rK m) S S6 := by rw [e6]; exact f4.a (Or.inr rfl) _ _
      have i6 : gI S6 = gI S := by rw [e6]; exact i4
      have a6 : gA S6 w = upd (gA S w) t.1 (nI x) := by rw [e6, gA_sAn _ _ _ nwp, a4]
      have b6 : gA S6 pp = upd (gA S pp) t.1 (nI y) := by rw [e6, gA_sA, b4, i4, g70, nI_clamp (by omega), e2]
      clear e6
      refine ⟨by rw [f6.1]; exact k0, by rw [f6.1]; exact k0, fun S7 e7 => ?_⟩
      subst e7
      refine hQ _ (f6.i ⟨Or.inr rfl, rfl⟩ _) ?_ ?_ ⟨?_, fun j hj => ?_, fun j hj => ?_⟩
      · rw [h_gI_sI, if_neg (fun z => absurd z.1 (by decide)), i6]
      · rw [h_gI_sI, if_neg (fun z => absurd z.1 (by decide)), i6]
      · rw [h_gI_sI, if_pos ⟨rfl, rfl⟩, i6, g70, nI_1]; rfl
      · rw [h_gA_sI, a6]
        show upd (gA S w) t.1 (nI x) j = upd t.2.1 t.1 (nI x) j
        have hj : j < t.1 + 1 := hj
        by_cases c3 : j = t.1
        · rw [c3, upd_s, upd_s]
        · rw [upd_n _ _ c3, upd_n _ _ c3]; exact hw j (by omega)
      · rw [h_gA_sI, b6]
        show upd (gA S pp) t.1 (nI y) j = upd t.2.2 t.1 (nI y) j
        have hj : j < t.1 + 1 := hj
        by_cases c3 : j = t.1
        · rw [c3, upd_s, upd_s]
        · rw [upd_n _ _ c3, upd_n _ _ c3]; exact hp j (by omega)
    · rw [if_neg c] at hap; cases hap
  · obtain ⟨e1, e2⟩ := h12 (by decide)
    simp only [show ¬ ((119 : Int32) = 115) by decide, if_true, if_false] at hap
    by_cases c : x < t.1 ∧ 1 ≤ y
    · rw [if_pos c] at hap
      cases hap
      refine ⟨fun z => absurd z (by decide), fun z => absurd z (by decide), fun _ => ⟨k0, w, r71, k0, k0, kw, by rw [e1, lw]; exact vp_in_nI (by omega) (by decide), fun S9 e9 => ?_⟩, fun z => absurd rfl z.2.2⟩
      rw [e1, e2, nI_clamp (by omega)] at e9
      subst e9
      refine hQ _ ((FW.rf _ _ S).a (Or.inl rfl) _ _) rfl rfl ⟨g70, fun j hj => ?_, fun j hj => ?_⟩
      · rw [gA_sA]
        show upd (gA S w) x (nI y) j = upd t.2.1 x (nI y) j
        by_cases c3 : j = x
        · rw [c3, upd_s, upd_s]
        · rw [upd_n _ _ c3, upd_n _ _ c3]; exact hw j hj
      · rw [gA_sAn _ _ _ (Ne.symm nwp)]; exact hp j hj
    · rw [if_neg c] at hap; cases hap
  · obtain ⟨e1, e2⟩ := h12 (by decide)
    simp only [show ¬ ((112 : Int32) = 115) by decide, show ¬ ((112 : Int32) = 119) by decide, if_true, if_false] at hap
    by_cases c : x < t.1
    · rw [if_pos c] at hap
      cases hap
      refine ⟨fun _ => ⟨k0, pp, r72, k0, k0, kp, by rw [e1, lp]; exact vp_in_nI (by omega) (by decide), fun S9 e9 => ?_⟩, fun z => absurd z (by decide), fun z => absurd z (by decide), fun z => absurd rfl z.1⟩
      rw [e1, e2, nI_clamp (by omega)] at e9
      subst e9
      refine hQ _ ((FW.rf _ _ S).a (Or.inr rfl) _ _) rfl rfl ⟨g70, fun j hj => ?_, fun j hj => ?_⟩
      · rw [gA_sAn _ _ _ nwp]; exact hw j hj
      · rw [gA_sA]
        show upd (gA S pp) x (nI y) j = upd t.2.2 x (nI y) j
        by_cases c3 : j = x
        · rw [c3, upd_s, upd_s]
        · rw [upd_n _ _ c3, upd_n _ _ c3]; exact hp j hj
    · rw [if_neg c] at hap; cases hap
  · simp only [show ¬ ((120 : Int32) = 115) by decide, show ¬ ((120 : Int32) = 119) by decide, show ¬ ((120 : Int32) = 112) by decide, if_false] at hap
    by_cases c : 0 < t.1
    · rw [if_pos c] at hap
      cases hap
      refine ⟨fun z => absurd z (by decide), fun z => absurd z (by decide), fun z => absurd z (by decide), fun _ => ⟨k0, k0, fun S9 e9 => ?_⟩⟩
      subst e9
      refine hQ _ ((FW.rf _ _ S).i ⟨Or.inr rfl, rfl⟩ _) ?_ ?_ ⟨?_, fun j hj => hw j (by have : j < t.1 - 1 := hj; omega), fun j hj => hp j (by have : j < t.1 - 1 := hj; omega)⟩
      · rw [h_gI_sI, if_neg (fun z => absurd z.1 (by decide))]
      · rw [h_gI_sI, if_neg (fun z => absurd z.1 (by decide))]
      · rw [h_gI_sI, if_pos ⟨rfl, rfl⟩, g70, nI_sub1 c]
    · rw [if_neg c] at hap; cases hap
theorem rd_6 {T : Nat → Int32} {L : Nat} : ∀ {f p k : Nat} {u : Option Nat} {t t' : ASt}, t.1 ≤ 6 → (rd T L f p k u t).2 = some t' → t'.1 ≤ 6
  | 0, _, _, _, _, _, _, h => by cases h
  | f + 1, p, k, u, t, t', ht, h => by
    cases hs : scS T L p with
    | mk q o =>
      cases o with
      | none => rw [rd_no hs] at h; cases h
      | some lxy =>
        obtain ⟨l, x, y⟩ := lxy
        have hN : (nT u t (apS t l x y)).1 ≤ 6 := by
          unfold nT
          cases u with
          | some p0 => exact ht
          | none =>
            cases hap : apS t l x y with
            | none => exact ht
            | some t1 => exact apS_6 ht hap
        rw [rd_yes hs] at h
        by_cases c : q < L
        · rw [if_pos c] at h; exact rd_6 hN h
        · rw [if_neg c] at h
          unfold fin at h
          cases hu : nU p u (apS t l x y) with
          | some p0 => rw [hu] at h; cases h
          | none => rw [hu] at h; cases h; exact hN
theorem t_read {S : Hp} {m b dd L w pp : Nat} {T : Nat → Int32} {t : ASt} {Q : Int32 → Hp → Prop} (h : MC m b dd L T S) (hm : MW S m w pp) (nb : ¬ inS w pp b) (hT : MSt S m w pp t) (ht : t.1 ≤ 6) (hQ : ∀ S', FW (inS w pp) (rK m) S S' → MSt S' m w pp ((rd T L 101 0 0 none t).2.getD t) → Q (rd T L 101 0 0 none t).1 S') : wp_X6_read m S Q := by
  have up : ∀ {S1 S2}, F9 m S1 S2 → FW (inS w pp) (rK m) S1 S2 := fun f => f.mono (fun _ z => z.elim) (fun _ _ z => ⟨Or.inl z.1, z.2⟩)
  have hL := h.2.2.2.2.2
  -- the passes behind the first
  have pass2 : ∀ K S2, F9 m S S2 → P1 T L 101 0 0 = (K, true) → gI S2 91 m = 1 → J_X6_read_38 Q m (nI K) S2 := fun K S2 f12 hK g91' => by
    have hrd := rd_none (t := t) hK
    have h2 := h.f9 f12
    unfold J_X6_read_38
    rw [g91']
    refine ⟨h2.1.1, fun _ => ⟨h2.1.1, fun y1 e1 => ⟨h2.1.1, fun S3 e3 => ?_⟩⟩, fun z => absurd z (by decide)⟩
    have hT2 := hT.f9 f12
    rw [hT2.1] at e1
    subst e1
    have f3 : F9 m S S3 := by rw [e3]; exact F9.set f12 (by decide) (by decide) _
    have c90 : gI S3 90 m = nI 0 := by rw [e3, h_gI_sI, if_pos ⟨rfl, rfl⟩]; rfl
    have c91 : gI S3 91 m = 1 := by rw [e3, h_gI_sI, if_neg (fun z => absurd z.1 (by decide))]; exact g91'
    clear e3
    refine it_i (fun F x => ∃ p n S', x = (m, nI K, nI n, S') ∧ F9 m S S' ∧ gI S' 90 m = nI p ∧ gI S' 91 m = 1 ∧ p ≤ L ∧ gd T L p ∧ L - p < F ∧ n ≤ 6 ∧ P2 T L F p n = P2 T L 101 0 t.1) ?_ 101 _ ⟨0, t.1, S3, rfl, f3, c90, c91, Nat.zero_le _, fun _ => ⟨101, 0, K, hK⟩, by omega, ht, rfl⟩
    rintro C2 F2 x ⟨p, n, S4, rfl, f4, d90, d91, hp2, hg, hF2, hn6, hP2⟩ hC2
    obtain ⟨F', rfl⟩ : ∃ F', F2 = F' + 1 := ⟨F2 - 1, by omega⟩
    have h4 := h.f9 f4
    simp only [L_X6_read_64, J_X6_read_133, forall_eq]
    rw [d90, h4.2.2.1, nI_leI (by omega) (by omega)]
    refine ⟨h4.1.1, h4.1.1, fun e => ⟨h4.1.1, ?_⟩, fun e => ⟨h4.1.1, h4.1.1, ?_⟩⟩
    · -- the second pass has found nothing
      rw [P2_end (by omega)] at hP2
      rw [← hP2] at hrd
      rw [hrd] at hQ
      have f5 : F9 m S (sI S4 90 m 0) := F9.set f4 (by decide) (by decide) _
      refine it_i (fun F x => ∃ p t1 S', x = (m, nI K, S') ∧ FW (inS w pp) (rK m) S S' ∧ gI S' 90 m = nI p ∧ gI S' 91 m = 1 ∧ p ≤ L ∧ gd T L p ∧ L - p < F ∧ t1.1 ≤ 6 ∧ MSt S' m w pp t1 ∧ P2 T L F p t1.1 = none ∧ P3 T L F p t1 = P3 T L 101 0 t) ?_ 101 _ ⟨0, t, _, rfl, up f5, ?_, ?_, Nat.zero_le _, fun _ => ⟨101, 0, K, hK⟩, by omega, ht, hT.f9 f5, hP2.symm, rfl⟩
      · rintro C3 F3 x ⟨p3, t1, S6, rfl, f6, q90, q91, hp3, hg3, hF3, ht1, hT1, hn2, hP3⟩ hC3
        obtain ⟨F', rfl⟩ : ∃ F', F3 = F' + 1 := ⟨F3 - 1, by omega⟩
        have h6 : MC m b dd L T S6 := h.fw f6 nb (fun z => by omega) (fun z => by omega)
        simp only [L_X6_read_143]
        rw [q90, h6.2.2.1, nI_leI (by omega) (by omega)]
        refine ⟨h6.1.1, h6.1.1, fun e2 => ?_, fun e2 => ⟨h6.1.1, ?_⟩⟩
        · rw [P3_end (by omega)] at hP3
          refine hQ S6 f6 ?_
          show MSt S6 m w pp (P3 T L 101 0 t)
          rw [← hP3]; exact hT1
        · have hpl : p3 < L := by omega
          obtain ⟨q, l, x, y, hs, hgq⟩ := gd_go hg3 hpl
          have hk := scS_ok hs
          have hn := apS_n (t := t1) (x := x) (y := y) hk.2.2.2.2
          rw [P2_yes hpl hs] at hn2
          rw [P3_yes hpl hs] at hP3
          have ho : okN t1.1 l x y = true := by
            by_cases c : okN t1.1 l x y = true
            · exact c
            · rw [if_neg c] at hn2; cases hn2
          obtain ⟨t2, ht2, hn'⟩ := hn.1 ho
          rw [if_pos ho, ← hn'] at hn2
          rw [ht2] at hP3
          refine t_statement h6 q90 q91 hp3 (fun S7 f7 => ⟨fun q' z hs' _ _ => (by rw [hs] at hs'; cases hs'), fun q' l' x' y' hs' r90 r91 r12 => ?_⟩)
          rw [hs] at hs'
          cases hs'
          have f67 := f6.tr (up f7)
          refine ⟨by rw [f67.1]; exact h.1.1, t_come (hm.fw f67) (hT1.f9 f7) ht1 hk.2.2.1 hk.2.2.2.1 hk.2.2.2.2 r12 ht2 (fun S8 f8 s90 s91 hT8 => ?_)⟩
          exact hC3 F' _ (by omega) ⟨q, t2, S8, rfl, f67.tr f8, by rw [s90]; exact r90, by rw [s91]; exact r91, hk.2.1, hgq, by omega, apS_6 ht1 ht2, hT8, hn2, hP3⟩
      · rw [h_gI_sI, if_pos ⟨rfl, rfl⟩]; rfl
      · rw [h_gI_sI, if_neg (fun z => absurd z.1 (by decide))]; exact d91
    · have hpl : p < L := by omega
      obtain ⟨q, l, x, y, hs, hgq⟩ := gd_go hg hpl
      have hk := scS_ok hs
      rw [P2_yes hpl hs] at hP2
      refine t_statement h4 d90 d91 hp2 (fun S5 f5 => ⟨fun q' z hs' _ _ => (by rw [hs] at hs'; cases hs'), fun q' l' x' y' hs' r90 r91 r12 => ?_⟩)
      rw [hs] at hs'
      cases hs'
      have f45 := FW.tr f4 f5
      have h5 := h.f9 f45
      refine ⟨h5.1.1, h5.1.1, t_told (by omega) hk.2.2.1 hk.2.2.2.1 hk.2.2.2.2 r12 (br1 (fun ho => ?_) (fun ho => ?_))⟩
      · rw [if_pos ho] at hP2
        have go : ∀ n', n' = nxN n l → n' ≤ 6 → C2 (m, nI K, nI n', S5) := fun n' e1 e2 => by
          subst e1
          exact hC2 F' _ (by omega) ⟨q, _, S5, rfl, f45, r90, r91, hk.2.1, hgq, by omega, e2, hP2⟩
        have ho2 := ho
        unfold okN at ho2
        rcases hk.2.2.2.2 with rfl | rfl | rfl | rfl
        · simp only [if_true, decide_eq_true_iff] at ho2
          refine ⟨fun z => absurd rfl z, fun _ => ?_⟩
          rw [show nI n + (1 : Int32) = nI (n + 1) from nI_1 n]
          exact go _ rfl (by omega)
        · refine ⟨fun _ => ⟨fun _ => ?_, fun z => absurd z (by decide)⟩, fun z => absurd z (by decide)⟩
          rw [Int32.add_zero]
          exact go _ rfl hn6
        · refine ⟨fun _ => ⟨fun _ => ?_, fun z => absurd z (by decide)⟩, fun z => absurd z (by decide)⟩
          rw [Int32.add_zero]
          exact go _ rfl hn6
        · simp only [show ¬ ((120 : Int32) = 115) by decide, show ¬ ((120 : Int32) = 119) by decide, show ¬ ((120 : Int32) = 112) by decide, if_false, decide_eq_true_iff] at ho2
          refine ⟨fun _ => ⟨fun z => absurd rfl z, fun _ => ?_⟩, fun z => absurd z (by decide)⟩
          have e1 : nI n + (-1 : Int32) = nI (n - 1) := by
            rw [← nI_sub1 ho2, Int32.sub_eq_add_neg]
          rw [e1]
          exact go _ rfl (by omega)
      · rw [if_neg ho] at hP2
        rw [← hP2] at hrd
        rw [hrd] at hQ
        exact hQ S5 (up f45) (hT.f9 f45)
  unfold wp_X6_read
  simp only [forall_eq]
  have f0 : F9 m S (sI (sI S 90 m 0) 91 m 1) := F9.set (F9.st m S (by decide) (by decide) _) (by decide) (by decide) _
  refine ⟨h.1.1, h.1.1, ?_⟩
  refine it_i (fun F x => ∃ p k S', x = (m, nI k, S') ∧ F9 m S S' ∧ gI S' 90 m = nI p ∧ gI S' 91 m = 1 ∧ p ≤ L ∧ L - p < F ∧ P1 T L F p k = P1 T L 101 0 0) ?_ 101 _ ⟨0, 0, _, rfl, f0, ?_, ?_, Nat.zero_le _, by omega, rfl⟩
  · rintro C F x ⟨p, k, S1, rfl, f1, g90, g91, hp, hF, hP⟩ hC
    obtain ⟨F', rfl⟩ : ∃ F', F = F' + 1 := ⟨F - 1, by omega⟩
    have h1 := h.f9 f1
    simp only [L_X6_read_12, forall_eq]
    refine ⟨h1.1.1, t_statement h1 g90 g91 hp (fun S2 f2 => ⟨fun q z hs a90 a91 => ?_, fun q l x y hs a90 a91 a12 => ?_⟩)⟩
    · have f12 : F9 m S S2 := FW.tr f1 f2
      have h2 := h.f9 f12
      rw [P1_no hs] at hP
      have hrd := rd_fail (u := none) (t := t) (show L - 0 < 101 by omega) hP.symm
      rw [hrd] at hQ
      simp only []
      rw [a91]
      refine ⟨h2.1.1, fun _ => ?_, fun z => absurd rfl z⟩
      unfold J_X6_read_38
      rw [a91, a90]
      exact ⟨h2.1.1, fun z => absurd rfl z, fun _ => ⟨h2.1.1, hQ S2 (up f12) (hT.f9 f12)⟩⟩
    · have f12 : F9 m S S2 := FW.tr f1 f2
      have h2 := h.f9 f12
      have hk := scS_ok hs
      rw [P1_yes hs] at hP
      simp only []
      rw [a91, a90, h2.2.2.1, nI_ltI (by omega) (by omega), nI_1]
      refine ⟨h2.1.1, fun z => absurd z (by decide), fun _ => ⟨h2.1.1, h2.1.1, fun e => ?_, fun e => ?_⟩⟩
      · rw [if_pos e] at hP
        exact hC F' _ (by omega) ⟨q, k + 1, S2, rfl, f12, a90, a91, hk.2.1, by omega, hP⟩
      · rw [if_neg e] at hP
        exact pass2 (k + 1) S2 f12 hP.symm a91
  · rw [h_gI_sI, if_neg (fun z => absurd z.1 (by decide)), h_gI_sI, if_pos ⟨rfl, rfl⟩]; rfl
  · rw [h_gI_sI, if_pos ⟨rfl, rfl⟩]
theorem m_shop {a : Nat → Nat} {v : AS} {S : Hp} {d : Int32} {Q : Int32 → Hp → Prop} (hM : MI a v S) (hQ : ∀ S', MI a (ef_shop v d) S' → Q (sp_shop v d) S') : wp_X6_shop (a 0) d S Q := by
  obtain ⟨k0, k1, k2, k3, k4, k5, k6, k7, k8, k9, k10, k11, k12, k13, k14, r1, r2, r3, r4, r5, r6, r7, r8, r9, r10, r11, r12, r13, r14, l1, l2, l3, l4, l5, l6, l7, l8, l9, l10, l11, l12, l13, l14⟩ := hM.1.all
  have ne : ∀ i j, i < 15 → j < 15 → i ≠ j → a i ≠ a j := fun i j h1 h2 h3 => hM.1.ne h1 h2 h3
  unfold sp_shop ef_shop at hQ
  unfold wp_X6_shop
  rw [e_mSh]
  refine br1 (fun hd => m_rowHd hM hd (fun hyes => ⟨k0, fun S6 e6 => ?_⟩) (fun hno hh => ?_) (fun hno hh => ?_)) (fun hd => ?_)
  · obtain ⟨h8, hdI⟩ := isSh_nI hd
    have hle := ((hM.2.1.2.2 (ix d) h8).2.2 hyes.1).2.2
    rw [if_pos hd, if_pos ⟨hd, hyes⟩, if_pos hyes] at hQ
    obtain ⟨_, _, _, i12, g12⟩ := m_size hM hd hyes.1
    have hcell := ((hM.2.2.2.2.2.2.2 (ix d) h8).2.2 hyes.1).2.2
    have e88 : (100 : Int32) * d = nI (100 * ix d) := by
      conv => lhs; rw [hdI]
      rw [show (100 : Int32) = nI 100 from rfl, pk_mul]
    rw [e88] at e6
    have f6 : FW (fun _ => False) (fun i x => (i = 88 ∨ i = 89) ∧ x = a 0) S S6 := by rw [e6]; exact (FW.rf _ _ S).i ⟨Or.inl rfl, rfl⟩ _
    refine ⟨by rw [f6.1]; exact k0, _, by rw [f6.2.1]; exact r12, by rw [f6.1]; exact k12, by rw [f6.2.2.1]; exact i12, by rw [f6.1]; exact k0, fun S8 e8 => ?_⟩
    have g12' : gA S6 (a 12) d.toNatClampNeg = nI (v.2.2 (ix d)).2.2.2.2.1 := by rw [e6]; exact g12
    rw [g12'] at e8
    have f8 : FW (fun _ => False) (fun i x => (i = 88 ∨ i = 89) ∧ x = a 0) S S8 := by rw [e8]; exact f6.i ⟨Or.inr rfl, rfl⟩ _
    have hC : MC (a 0) (a 13) (ix d) (v.2.2 (ix d)).2.2.2.2.1 (v.2.2 (ix d)).2.2.2.2.2 S8 := by
      refine ⟨⟨by rw [f8.1]; exact k0, by rw [f8.2.1]; exact r13, by rw [f8.1]; exact k13, by rw [f8.2.2.1]; exact l13⟩, ?_, ?_, fun j hj => ?_, h8, hle⟩
      · rw [e8, h_gI_sI, if_neg (fun z => absurd z.1 (by decide)), e6, h_gI_sI, if_pos ⟨rfl, rfl⟩]
      · rw [e8, h_gI_sI, if_pos ⟨rfl, rfl⟩]
      · rw [f8.2.2.2.2.2 _ (fun z => z)]; exact hcell j hj
    have hW : MW S8 (a 0) (a 1) (a 2) := ⟨by rw [f8.1]; exact k0, by rw [f8.2.1]; exact r1, by rw [f8.2.1]; exact r2, by rw [f8.1]; exact k1, by rw [f8.1]; exact k2, by rw [f8.2.2.1]; exact l1, by rw [f8.2.2.1]; exact l2, ne 1 2 (by decide) (by decide) (by decide)⟩
    have hT : MSt S8 (a 0) (a 1) (a 2) v.1 := by
      refine ⟨?_, ?_, ?_⟩
      · rw [f8.2.2.2.2.1 70 _ (fun z => by omega)]; exact hM.2.2.1
      · rw [f8.2.2.2.2.2 _ (fun z => z)]; exact hM.2.2.2.1
      · rw [f8.2.2.2.2.2 _ (fun z => z)]; exact hM.2.2.2.2.1
    refine ⟨by rw [f8.1]; exact k0, t_read hC hW (fun z => by
      rcases z with z | z
      · exact ne 13 1 (by decide) (by decide) (by decide) z
      · exact ne 13 2 (by decide) (by decide) (by decide) z) hT hM.2.1.1.1 (fun S9 f9 hT9 => ?_)⟩
    have f : FW (inS (a 1) (a 2)) (fun i x => ((i = 88 ∨ i = 89) ∨ (90 ≤ i ∧ i ≤ 93) ∨ i = 70) ∧ x = a 0) S S9 := (f8.mono (fun _ z => z.elim) (fun _ _ z => ⟨Or.inl z.1, z.2⟩)).tr (f9.mono (fun _ z => z) (fun _ _ z => ⟨Or.inr z.1, z.2⟩))
    have noP : ∀ i, i < 15 → i ≠ 1 → i ≠ 2 → ¬ inS (a 1) (a 2) (a i) := fun i hi h1 h2 z => by
      rcases z with z | z
      · exact ne i 1 hi (by decide) h1 z
      · exact ne i 2 hi (by decide) h2 z
    refine hQ S9 (hM.fw f (fun c z => ?_) ⟨⟨?_, trivial⟩, hM.2.1.2.1, hM.2.1.2.2⟩ rfl hT9.1 hT9.2.1 hT9.2.2 (fun z => ?_) (fun t z => ?_))
    · rcases z with z | z
      · exact ⟨1, by decide, by decide, z⟩
      · exact ⟨2, by decide, by decide, z⟩
    · show ((rdR (v.2.2 (ix d)) v.1).2.getD v.1).1 ≤ 6
      cases hr : (rdR (v.2.2 (ix d)) v.1).2 with
      | none => exact hM.2.1.1.1
      | some t' => exact rd_6 hM.2.1.1.1 hr
    · rw [f.2.2.2.2.1 73 _ (fun z => by omega)]; exact hM.2.2.2.2.2.1 z
    · rw [f.2.2.2.2.1 73 _ (fun z => by omega), f.2.2.2.2.1 74 _ (fun z => by omega), f.2.2.2.2.2 _ (noP 3 (by decide) (by decide) (by decide)), f.2.2.2.2.2 _ (noP 4 (by decide) (by decide) (by decide))]
      exact hM.2.2.2.2.2.2.1 t z
  · rw [if_pos hd, if_neg (fun w => hno w.2), if_neg hno, hh] at hQ; exact hQ S hM
  · rw [if_pos hd, if_neg (fun w => hno w.2), if_neg hno, hh] at hQ; exact hQ S hM
  · rw [if_neg hd, if_neg (fun w => hd w.1)] at hQ; exact hQ S hM
