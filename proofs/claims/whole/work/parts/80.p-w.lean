/-! shops as texts: the class's call -/
def nU (p : Nat) (u : Option Nat) (o : Option ASt) : Option Nat := match u with
  | some p0 => some p0
  | none => match o with
    | some _ => none
    | none => some p
def nT (u : Option Nat) (t : ASt) (o : Option ASt) : ASt := match u with
  | some _ => t
  | none => o.getD t
def fin (u : Option Nat) (k : Nat) (t : ASt) : Int32 × Option ASt := match u with
  | some p0 => (-2000 - nI p0, none)
  | none => (nI k, some t)
def rd (T : Nat → Int32) (L : Nat) : Nat → Nat → Nat → Option Nat → ASt → Int32 × Option ASt
  | 0, _, _, _, _ => (0, none)
  | f + 1, p, k, u, t => match scS T L p with
    | (q, none) => (-1000 - nI q, none)
    | (q, some (l, x, y)) => if q < L then rd T L f q (k + 1) (nU p u (apS t l x y)) (nT u t (apS t l x y)) else fin (nU p u (apS t l x y)) (k + 1) (nT u t (apS t l x y))
theorem rd_no {T : Nat → Int32} {L f p k q : Nat} {u : Option Nat} {t : ASt} (h : scS T L p = (q, none)) : rd T L (f + 1) p k u t = (-1000 - nI q, none) := by
  rw [rd, h]
theorem rd_yes {T : Nat → Int32} {L f p k q x y : Nat} {l : Int32} {u : Option Nat} {t : ASt} (h : scS T L p = (q, some (l, x, y))) : rd T L (f + 1) p k u t = if q < L then rd T L f q (k + 1) (nU p u (apS t l x y)) (nT u t (apS t l x y)) else fin (nU p u (apS t l x y)) (k + 1) (nT u t (apS t l x y)) := by
  rw [rd, h]
def rdR (e : ASh) (t : ASt) : Int32 × Option ASt := rd e.2.2.2.2.2 e.2.2.2.2.1 101 0 0 none t
abbrev isTx (v : AS) (d : Int32) : Prop := (v.2.2 (ix d)).1 = 2 ∧ (v.2.2 (ix d)).2.2.2.1 = 0
def sp_shop (v : AS) (d : Int32) : Int32 := if isSh d then (if isTx v d then (rdR (v.2.2 (ix d)) v.1).1 else rwN (v.2.2 (ix d)).1) else -1
def ef_shop (v : AS) (d : Int32) : AS := if isSh d ∧ isTx v d then ((rdR (v.2.2 (ix d)) v.1).2.getD v.1, v.2.1, v.2.2) else v
theorem stA_self {S : Hp} {m p : Nat} (h : gI S 31 m = nI p) : stA S m p = S := by
  have e : (fun x b => if x = 31 ∧ b = m then nI p else S.2.1 x b) = S.2.1 := by
    funext x b
    by_cases c : x = 31 ∧ b = m
    · rw [if_pos c, ← h, c.1, c.2]; rfl
    · rw [if_neg c]
  unfold stA sI
  rw [e]
def uI (u : Option Nat) : Int32 := match u with
  | some p => nI p
  | none => -1
abbrev rP (a : Nat → Nat) (c : Nat) : Prop := c = a 25 ∨ c = a 26
abbrev rJ (a : Nat → Nat) (i x : Nat) : Prop := ((i = 31 ∨ i = 32) ∧ x = a 23) ∨ (i = 42 ∧ x = a 24)
abbrev rP2 (a : Nat → Nat) (c : Nat) : Prop := rP a c ∨ inS (a 2) (a 3) c
abbrev rJ2 (a : Nat → Nat) (i x : Nat) : Prop := rJ a i x ∨ inC (a 1) i x
theorem RwS.fw {P : Nat → Prop} {J : Nat → Nat → Prop} {S S' : Hp} {y c : Nat} {e : ASh} (h : RwS S y c e) (f : FW P J S S') (h1 : ¬ J 10 y) (h2 : ¬ P c) : RwS S' y c e := by
  unfold RwS at h ⊢
  rw [f.1, f.2.1, f.2.2.1, f.2.2.2.2.1 _ _ h1, f.2.2.2.2.2 _ h2]
  exact h
theorem x_read {a : Nat → Nat} {v : AS} {S : Hp} {y c : Nat} {e : ASh} {Q : Int32 → Hp → Prop} (hX : XI a v S) (hR : RwS S y c e) (hs : e.2.2.2.2.1 ≤ 100) (hc : ∀ i, i < 30 → c ≠ a i) (hQ : ∀ S', FW (rP2 a) (rJ2 a) S S' → StR S' (a 1) (a 2) (a 3) ((rdR e v.1).2.getD v.1) → Q (rdR e v.1).1 S') : wp_X3_read (a 23) y (a 1) S Q := by
  have ne : ∀ i j, i < 30 → j < 30 → i ≠ j → a i ≠ a j := fun i j h1 h2 h3 => hX.1.ne h1 h2 h3
  have hSt1 : StS S (a 1) (a 2) (a 3) := ⟨hX.1.k1, hX.1.r40_1, hX.1.r41_1, hX.1.k2, hX.1.k3, hX.1.l2, hX.1.l3, ne 2 3 (by decide) (by decide) (by decide)⟩
  have hSt2 : StS S (a 24) (a 25) (a 26) := ⟨hX.1.k24, hX.1.r40_24, hX.1.r41_24, hX.1.k25, hX.1.k26, hX.1.l25, hX.1.l26, ne 25 26 (by decide) (by decide) (by decide)⟩
  have cJ : ∀ z, ¬ rJ a 10 z := fun z w => by rcases w with w | w <;> omega
  have cP : ¬ rP a c := fun w => by
    rcases w with w | w
    · exact hc 25 (by decide) w
    · exact hc 26 (by decide) w
  have noP : ∀ i, i < 30 → i ≠ 25 → i ≠ 26 → ¬ rP a (a i) := fun i hi h1 h2 z => by
    rcases z with z | z
    · exact ne i 25 hi (by decide) h1 z
    · exact ne i 26 hi (by decide) h2 z
  have hv := hX.2.1.1
  unfold wp_X3_read
  refine ⟨hX.1.k23, _, hX.1.r30_23, hX.1.k24, x_takeFrom hSt2.1 hSt1.1 hSt2.2.1 hSt2.2.2.1 hSt1.2.1 hSt1.2.2.1 hSt2.2.2.2.1 hSt2.2.2.2.2.1 hSt1.2.2.2.1 hSt1.2.2.2.2.1 hSt2.2.2.2.2.2.1 hSt2.2.2.2.2.2.2.1 hSt1.2.2.2.2.2.1 hSt1.2.2.2.2.2.2.1 hSt2.2.2.2.2.2.2.2 (ne 3 25 (by decide) (by decide) (by decide)) hX.2.2.1 hv.1 ?_⟩
  intro S6 f6 hD6
  have g6 : FW (rP a) (rJ a) S S6 := f6.mono (fun _ z => z) (fun _ _ z => Or.inr z)
  refine ⟨by rw [g6.1]; exact hX.1.k23, fun S7 e7 => ⟨by rw [e7]; show kd S6 (a 23) = 4; rw [g6.1]; exact hX.1.k23, fun S8 e8 => ?_⟩⟩
  have f8 : FW (rP a) (rJ a) S S8 := by rw [e8, e7]; exact (g6.i (Or.inl ⟨Or.inl rfl, rfl⟩) _).i (Or.inl ⟨Or.inr rfl, rfl⟩) _
  have a8 : gI S8 31 (a 23) = nI 0 := by rw [e8, e7, h_gI_sI, if_neg (fun z => absurd z.1 (by decide)), h_gI_sI, if_pos ⟨rfl, rfl⟩]; rfl
  have u8 : gI S8 32 (a 23) = uI none := by rw [e8, h_gI_sI, if_pos ⟨rfl, rfl⟩]; rfl
  have hD8 : StR S8 (a 24) (a 25) (a 26) v.1 := by
    rw [e8, e7]
    unfold StR at hD6 ⊢
    rw [h_gI_sI, if_neg (fun z => absurd z.1 (by decide)), h_gI_sI, if_neg (fun z => absurd z.1 (by decide))]
    exact hD6
  clear e8 e7
  refine it_i (fun F x => ∃ p k u t S', x = (a 23, y, a 1, nI k, S') ∧ FW (rP a) (rJ a) S S' ∧ gI S' 31 (a 23) = nI p ∧ gI S' 32 (a 23) = uI u ∧ (∀ p0, u = some p0 → p0 ≤ 100) ∧ StR S' (a 24) (a 25) (a 26) t ∧ StOk t ∧ p ≤ e.2.2.2.2.1 ∧ 2 * k ≤ p ∧ e.2.2.2.2.1 - p < F ∧ rd e.2.2.2.2.2 e.2.2.2.2.1 F p k u t = rdR e v.1) ?_ 101 _ ⟨0, 0, none, v.1, S8, rfl, f8, a8, u8, (fun p0 z => by cases z), hD8, hv, Nat.zero_le _, Nat.zero_le _, by omega, rfl⟩
  rintro C F x ⟨p, k, u, t, S1, rfl, f, ha, hu, hu100, hD, ht, hp, hkp, hF, hrd⟩ hC
  obtain ⟨F', rfl⟩ : ∃ F', F = F' + 1 := ⟨F - 1, by omega⟩
  have hR1 := hR.fw f (cJ y) cP
  have hSt2' := hSt2.fw f
  have hX1 := hX.1.fw f (fun i x z => by rcases z with z | z <;> exact ⟨by omega, by omega⟩)
  have hD1 : StR S1 (a 1) (a 2) (a 3) v.1 := hX.2.2.1.fw f (fun z => by
    rcases z with z | z
    · omega
    · exact ne 1 24 (by decide) (by decide) (by decide) z.2) (noP 2 (by decide) (by decide) (by decide)) (noP 3 (by decide) (by decide) (by decide))
  have hself := stA_self ha
  -- behind a statement
  have cont : ∀ q u' t' S2, FW (rP a) (rJ a) S S2 → gI S2 31 (a 23) = nI q → gI S2 32 (a 23) = uI u' → (∀ p0, u' = some p0 → p0 ≤ 100) → StR S2 (a 24) (a 25) (a 26) t' → StOk t' → p + 2 ≤ q → q ≤ e.2.2.2.2.1 → (if q < e.2.2.2.2.1 then rd e.2.2.2.2.2 e.2.2.2.2.1 F' q (k + 1) u' t' else fin u' (k + 1) t') = rdR e v.1 → ((kd S2 (a 23) = 4) ∧ (kd S2 y = 2) ∧ ∃ r4, gR S2 11 y = some r4 ∧ (kd S2 r4 = 8) ∧ (((Int32.ofNat (ln S2 r4)) ≤ (gI S2 31 (a 23)) → (J_X3_read_58 Q (a 23) (a 1) (nI (k + 1)) S2)) ∧ (¬ ((Int32.ofNat (ln S2 r4)) ≤ (gI S2 31 (a 23))) → ((nI (k + 1) < (100 : Int32) → (C (a 23, y, a 1, nI (k + 1), S2))) ∧ (¬ (nI (k + 1) < (100 : Int32)) → (J_X3_read_58 Q (a 23) (a 1) (nI (k + 1)) S2)))))) := fun q u' t' S2 f2 a2 u2 u100 hD2 ht2 hq1 hq2 hres => by
    have hR2 := hR.fw f2 (cJ y) cP
    have hX2 := hX.1.fw f2 (fun i x z => by rcases z with z | z <;> exact ⟨by omega, by omega⟩)
    refine ⟨hX2.k23, hR2.1, c, hR2.2.2.1, hR2.2.2.2.1, ?_⟩
    rw [hR2.2.2.2.2.1, a2, show Int32.ofNat e.2.2.2.2.1 = nI e.2.2.2.2.1 from rfl, nI_leI (by omega) (by omega)]
    refine ⟨fun e1 => ?_, fun e1 => ?_⟩
    · rw [if_neg (by omega)] at hres
      unfold J_X3_read_58
      rw [u2]
      cases u' with
      | some p0 =>
        have h100 := u100 p0 rfl
        refine ⟨hX2.k23, fun z => absurd z (nI_pos (n := p0) (by omega)), fun _ => ⟨hX2.k23, ?_⟩⟩
        have hD12 : StR S2 (a 1) (a 2) (a 3) v.1 := hX.2.2.1.fw f2 (fun z => by
          rcases z with z | z
          · omega
          · exact ne 1 24 (by decide) (by decide) (by decide) z.2) (noP 2 (by decide) (by decide) (by decide)) (noP 3 (by decide) (by decide) (by decide))
        have := hQ S2 (f2.mono (fun _ z => Or.inl z) (fun _ _ z => Or.inl z)) (by rw [← hres]; exact hD12)
        rw [← hres] at this
        exact this
      | none =>
        have hs1 := hSt1.fw f2
        have hs2 := hSt2.fw f2
        refine ⟨hX2.k23, fun _ => ⟨hX2.k23, _, hX2.r30_23, hX2.k1, x_takeFrom hs1.1 hs2.1 hs1.2.1 hs1.2.2.1 hs2.2.1 hs2.2.2.1 hs1.2.2.2.1 hs1.2.2.2.2.1 hs2.2.2.2.1 hs2.2.2.2.2.1 hs1.2.2.2.2.2.1 hs1.2.2.2.2.2.2.1 hs2.2.2.2.2.2.1 hs2.2.2.2.2.2.2.1 hs1.2.2.2.2.2.2.2 (ne 26 2 (by decide) (by decide) (by decide)) hD2 ht2.1 (fun S3 f3 hD3 => ?_)⟩, fun z => absurd (by decide) z⟩
        have := hQ S3 ((f2.mono (fun _ z => Or.inl z) (fun _ _ z => Or.inl z)).tr (f3.mono (fun _ z => Or.inr z) (fun _ _ z => Or.inr z))) (by rw [← hres]; exact hD3)
        rw [← hres] at this
        exact this
    · rw [if_pos (by omega)] at hres
      rw [show (100 : Int32) = nI 100 from rfl, nI_ltI (by omega) (by decide)]
      refine ⟨fun _ => hC F' _ (by omega) ⟨q, k + 1, u', t', S2, rfl, f2, a2, u2, u100, hD2, ht2, hq2, by omega, by omega, hres⟩, fun z => absurd (by omega) z⟩
  simp only [L_X3_read_20, forall_eq]
  refine ⟨hX1.k23, ?_⟩
  have frA : ∀ q, FW (rP a) (rJ a) S (stA S1 (a 23) q) := fun q => f.i (Or.inl ⟨Or.inl rfl, rfl⟩) _
  conv => arg 3; rw [← hself]
  refine x_readStatement hX1.k23 hR1 hs hX1.r30_23 hSt2' hD ht.1 hp (fun q h => ?_) (fun q l x z h hun => ?_) (fun q l x z h hun t' hap S2 f2 hD2 => ?_) (fun q l x z h hun hap => ?_)
  · rw [rd_no h] at hrd
    refine ⟨fun w => absurd rfl w, fun _ => ⟨hX1.k23, ?_⟩⟩
    rw [stA_at]
    have := hQ (stA S1 (a 23) q) ((frA q).mono (fun _ z => Or.inl z) (fun _ _ z => Or.inl z)) (by rw [← hrd]; exact stA_D hD1)
    rw [← hrd] at this
    exact this
  · obtain ⟨q1, q2, q3, q4, q5⟩ := scS_ok h
    rw [rd_yes h] at hrd
    refine ⟨fun _ => ?_, fun w => absurd w (by decide)⟩
    rw [nI_1]
    cases u with
    | none => rw [hu] at hun; exact absurd hun (by decide)
    | some p0 => exact cont q (some p0) t (stA S1 (a 23) q) (frA q) (stA_at _ _ _) (by rw [stA_u]; exact hu) hu100 (stA_D hD) ht q1 q2 hrd
  · obtain ⟨q1, q2, q3, q4, q5⟩ := scS_ok h
    rw [rd_yes h, hap] at hrd
    refine ⟨fun _ => ?_, fun w => absurd w (by decide)⟩
    rw [nI_1]
    cases u with
    | some p0 => rw [hu] at hun; exact absurd (nI_le (Nat.zero_le _) (by have := hu100 p0 rfl; omega)) hun
    | none =>
      have f12 : FW (rP a) (rJ a) S S2 := (frA q).tr (f2.mono (fun _ z => z) (fun _ _ z => Or.inr z))
      refine cont q none t' S2 f12 ?_ ?_ hu100 hD2 (apS_ok ht q3 q4 hap) q1 q2 hrd
      · rw [f2.2.2.2.2.1 31 _ (fun z => absurd z.1 (by decide))]; exact stA_at _ _ _
      · rw [f2.2.2.2.2.1 32 _ (fun z => absurd z.1 (by decide)), stA_u]; exact hu
  · obtain ⟨q1, q2, q3, q4, q5⟩ := scS_ok h
    rw [rd_yes h, hap] at hrd
    refine ⟨fun _ => ?_, fun w => absurd w (by decide)⟩
    rw [nI_1]
    cases u with
    | some p0 => rw [hu] at hun; exact absurd (nI_le (Nat.zero_le _) (by have := hu100 p0 rfl; omega)) hun
    | none =>
      refine cont q (some p) t (sI (stA S1 (a 23) q) 32 (a 23) (nI p)) ((frA q).i (Or.inl ⟨Or.inr rfl, rfl⟩) _) ?_ ?_ (fun p0 z => by cases z; omega) ?_ ht q1 q2 hrd
      · rw [h_gI_sI, if_neg (fun z => absurd z.1 (by decide))]; exact stA_at _ _ _
      · rw [h_gI_sI, if_pos ⟨rfl, rfl⟩]; rfl
      · have hh := stA_D (q := q) (m := a 23) hD
        unfold StR at hh ⊢
        rw [h_gI_sI, if_neg (fun z => absurd z.1 (by decide))]
        exact hh
theorem rd_ok {T : Nat → Int32} {L : Nat} : ∀ {f p k : Nat} {u : Option Nat} {t t' : ASt}, StOk t → (rd T L f p k u t).2 = some t' → StOk t'
  | 0, _, _, _, _, _, _, h => by cases h
  | f + 1, p, k, u, t, t', ht, h => by
    cases hs : scS T L p with
    | mk q o =>
      cases o with
      | none => rw [rd_no hs] at h; cases h
      | some lxy =>
        obtain ⟨l, x, y⟩ := lxy
        obtain ⟨q1, q2, q3, q4, q5⟩ := scS_ok hs
        have hN : StOk (nT u t (apS t l x y)) := by
          unfold nT
          cases u with
          | some p0 => exact ht
          | none =>
            cases hap : apS t l x y with
            | none => exact ht
            | some t1 => exact apS_ok ht q3 q4 hap
        rw [rd_yes hs] at h
        by_cases c : q < L
        · rw [if_pos c] at h; exact rd_ok hN h
        · rw [if_neg c] at h
          unfold fin at h
          cases hu : nU p u (apS t l x y) with
          | some p0 => rw [hu] at h; cases h
          | none => rw [hu] at h; cases h; exact hN
theorem rdR_ok {e : ASh} {t : ASt} (h : StOk t) : StOk ((rdR e t).2.getD t) := by
  cases hr : (rdR e t).2 with
  | none => exact h
  | some t' => exact rd_ok h hr
theorem x_shop {a : Nat → Nat} {v : AS} {S : Hp} {d : Int32} {Q : Int32 → Hp → Prop} (hX : XI a v S) (hQ : ∀ S', XI a (ef_shop v d) S' → Q (sp_shop v d) S') : wp_X5_shop (a 0) d S Q := by
  have ne : ∀ i j, i < 30 → j < 30 → i ≠ j → a i ≠ a j := fun i j h1 h2 h3 => hX.1.ne h1 h2 h3
  unfold sp_shop ef_shop at hQ
  unfold wp_X5_shop
  rw [e_xSh]
  refine br1 (fun hd => ⟨hX.1.k0, x_rowOfSort hX hd (fun hno => ⟨fun _ => ⟨hX.1.k0, x_notHeld hX hd ?_⟩, fun r hr => (by cases hr)⟩) (fun y c hyes hR hc hy => ⟨fun hr => (by cases hr), fun r hr => ?_⟩)⟩) (fun hd => ?_)
  · rw [if_pos hd, if_neg (fun w => hno w.2), if_neg hno] at hQ; exact hQ S hX
  · have hrr := Option.some.inj hr
    subst hrr
    obtain ⟨h8, hdI⟩ := isSh_nI hd
    have hle := ((hX.2.1.2.2 (ix d) h8).2.2 hyes.1).2.2
    rw [if_pos hd, if_pos ⟨hd, hyes⟩, if_pos hyes] at hQ
    have hok := rdR_ok (e := v.2.2 (ix d)) hX.2.1.1
    refine ⟨hX.1.k0, _, hX.1.r59_0, hX.1.k0, _, hX.1.r50_0, hX.1.k23, x_read hX hR hle hc (fun S1 f1 hD1 => ?_)⟩
    have hX1 := hX.1.fw f1 (fun i x z => by rcases z with (z | z) | z <;> exact ⟨by omega, by omega⟩)
    have noP : ∀ i, i < 30 → i ≠ 25 → i ≠ 26 → i ≠ 2 → i ≠ 3 → ¬ rP2 a (a i) := fun i hi h1 h2 h3 h4 z => by
      rcases z with (z | z) | z | z
      · exact ne i 25 hi (by decide) h1 z
      · exact ne i 26 hi (by decide) h2 z
      · exact ne i 2 hi (by decide) h3 z
      · exact ne i 3 hi (by decide) h4 z
    have noL : ∀ i, i < 30 → i ≠ 5 → i ≠ 6 → i ≠ 7 → i ≠ 8 → ¬ inL (a 5) (a 6) (a 7) (a 8) (a i) := fun i hi h5 h6 h7 h8 z => by
      rcases z with z | z | z | z
      · exact ne i 5 hi (by decide) h5 z
      · exact ne i 6 hi (by decide) h6 z
      · exact ne i 7 hi (by decide) h7 z
      · exact ne i 8 hi (by decide) h8 z
    have no4 : ∀ i, ¬ rJ2 a 4 (a i) := fun i z => by rcases z with (z | z) | z <;> omega
    have hLz := (hX.2.2.2.1.fw f1 (no4 4) (noP 5 (by decide) (by decide) (by decide) (by decide) (by decide)) (noP 6 (by decide) (by decide) (by decide) (by decide) (by decide)) (noP 7 (by decide) (by decide) (by decide) (by decide) (by decide)) (noP 8 (by decide) (by decide) (by decide) (by decide) (by decide))).z
    refine ⟨hX1.k0, _, hX1.r51_0, hX1.k0, _, hX1.r50_0, hX1.k4, x_layOut hX1.ly hX1.k1 hX1.r40_1 hX1.k2 hX1.l2 hD1 hok.1 (noL 2 (by decide) (by decide) (by decide) (by decide) (by decide)) hLz ?_⟩
    intro S6 f6 hL6 _
    have f2 : FW (fun b => rP2 a b ∨ inL (a 5) (a 6) (a 7) (a 8) b) (fun i x => rJ2 a i x ∨ (i = 4 ∧ x = a 4)) S S6 := (f1.mono (fun _ z => Or.inl z) (fun _ _ z => Or.inl z)).tr (f6.mono (fun _ z => Or.inr z) (fun _ _ z => Or.inr z))
    have hS6 : StR S6 (a 1) (a 2) (a 3) ((rdR (v.2.2 (ix d)) v.1).2.getD v.1) := hD1.fw f6 (fun z => by omega) (noL 2 (by decide) (by decide) (by decide) (by decide) (by decide)) (noL 3 (by decide) (by decide) (by decide) (by decide) (by decide))
    have noQ : ∀ i, i < 30 → (i < 2 ∨ 8 < i) → i ≠ 25 → i ≠ 26 → ¬ (rP2 a (a i) ∨ inL (a 5) (a 6) (a 7) (a 8) (a i)) := fun i hi h1 h2 h3 z => by
      rcases z with z | z
      · exact noP i hi h2 h3 (by omega) (by omega) z
      · exact noL i hi (by omega) (by omega) (by omega) (by omega) z
    have g53 : gI S6 53 (a 0) = gI S 53 (a 0) := f2.2.2.2.2.1 _ _ (fun z => by rcases z with ((z | z) | z) | z <;> omega)
    refine hQ S6 (hX.fw f2 (fun i x z => by rcases z with ((z | z) | z) | z <;> exact ⟨by omega, by omega, by omega⟩) (fun c z => ?_) ⟨hok, hX.2.1.2.1, hX.2.1.2.2⟩ rfl hS6 hL6 (fun z => by rw [g53]; exact hX.2.2.2.2.1 z) (fun t' ht' => ?_) ?_)
    · rcases z with ((z | z) | z | z) | z | z | z | z
      · exact ⟨25, by decide, z⟩
      · exact ⟨26, by decide, z⟩
      · exact ⟨2, by decide, z⟩
      · exact ⟨3, by decide, z⟩
      · exact ⟨5, by decide, z⟩
      · exact ⟨6, by decide, z⟩
      · exact ⟨7, by decide, z⟩
      · exact ⟨8, by decide, z⟩
    · have := hX.2.2.2.2.2.1 t' ht'
      rw [g53]
      refine ⟨this.1, this.2.fw f2 (fun z => ?_) (noQ 10 (by decide) (by decide) (by decide) (by decide)) (noQ 11 (by decide) (by decide) (by decide) (by decide))⟩
      rcases z with ((z | z) | z) | z
      · omega
      · exact ne 9 24 (by decide) (by decide) (by decide) z.2
      · exact ne 9 1 (by decide) (by decide) (by decide) z.2
      · omega
    · exact hX.2.2.2.2.2.2.2.2.fw f2 (fun i h1 h2 => noQ i (by omega) (by omega) (by omega) (by omega))
  · rw [if_neg hd, if_neg (fun w => hd w.1)] at hQ; exact hQ S hX
