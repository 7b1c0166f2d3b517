/-! trials; what told trials leave open -/
theorem e_bc (x : Int32) : ∃ y, (∀ S Q, wp_J6_bitCount_0f7a4 x S Q ↔ Q y S) ∧ ∀ m, m < 64 → x = nI m → y = nI (pcn m) := by
  refine ⟨_, fun S Q => by unfold wp_J6_bitCount_0f7a4; simp only [forall_eq]; exact Iff.rfl, fun m hm e => ?_⟩
  subst e
  have h := (e_bitCount hm ((fun _ => 0, fun _ _ => 0, fun _ _ => none, fun _ => 0, fun _ _ => 0, fun _ _ => none) : Hp) (fun z _ => z = nI (pcn m))).mpr rfl
  unfold wp_J6_bitCount_0f7a4 at h
  simp only [forall_eq] at h
  exact h
theorem shl0 : ∀ n, n < 7 → ((1 : Int32) <<< (nI n &&& 31)) = nI (2 ^ n) := by decide +kernel
theorem pcn_le (m : Nat) : pcn m ≤ 6 := cnt_le _ _
theorem t_bits {m : Nat} {S : Hp} {Q : Int32 → Hp → Prop} (hm : m < 64) (h : Q (nI (pcn m)) S) : wp_X6_bits (nI m) S Q := by
  unfold wp_X6_bits
  refine it_up 6 (fun k x => x = (nI m, nI (cnt (fun i => m.testBit i) k), nI k, S)) ?_ _ rfl
  rintro C k x hk rfl hC
  simp only [L_X6_bits_4, forall_eq]
  rw [show (6 : Int32) = nI 6 from rfl, nI_leI (by decide) (by omega)]
  refine ⟨fun e => ?_, fun e => ?_⟩
  · rw [show k = 6 by omega]; exact h
  · refine hC (by omega) _ ?_
    rw [bit1 m hm k (by omega), nI_1, cnt]
    by_cases e2 : m.testBit k = true
    · rw [if_pos e2, if_pos e2, nI_1]
    · rw [if_neg e2, if_neg e2, show (0 : Int32) = nI 0 from rfl, nI_add]
theorem ix_nI {m : Nat} (h : m < 2 ^ 31) : ix (nI m) = m := by unfold ix; rw [nI_toInt h]; omega
def trN (t : Nat) : Nat := if t ≤ 3 then 1 else 2
abbrev trOk (n : Nat) (x : Int32) : Prop := 0 ≤ x.toInt ∧ x.toInt < ((2 ^ n : Nat) : Int) ∧ 2 ≤ pcn (ix x)
def sp_trials (v : AS) (x : Int32) : Int32 := if trOk v.1.1 x then nI (trN (pcn (ix x))) else -1
theorem x_areStones {S : Hp} {c w p : Nat} {t : ASt} {x : Int32} {Q : Int32 → Hp → Prop} (hk : kd S c = 5) (hD : StR S c w p t) (hn : t.1 ≤ 6) (h : ∀ z, (z = 0 ↔ ¬ (0 ≤ x.toInt ∧ x.toInt < ((2 ^ t.1 : Nat) : Int))) → Q z S) : wp_X4_areStones c x S Q := by
  have h2 := p2_6 hn
  have hp : 0 < 2 ^ t.1 := Nat.two_pow_pos _
  unfold wp_X4_areStones wp_X4_all
  rw [hD.1, shl1 _ (by omega)]
  simp only [p_lt, show (0 : Int32).toInt = 0 from rfl, nI_toInt (show 2 ^ t.1 - 1 < 2 ^ 31 by omega)]
  refine ⟨fun e => h 0 ⟨fun _ w => by omega, fun _ => rfl⟩, fun e => ⟨hk, hk, fun e2 => h 0 ⟨fun _ w => by omega, fun _ => rfl⟩, fun e2 => h 1 ⟨fun w => absurd w (by decide), fun w => absurd ⟨by omega, by omega⟩ w⟩⟩⟩
theorem x_trials {a : Nat → Nat} {v : AS} {S : Hp} {x : Int32} {Q : Int32 → Hp → Prop} (hX : XI a v S) (hQ : Q (sp_trials v x) S) : wp_X5_trials (a 0) x S Q := by
  have hn := hX.2.1.1.1
  have h2 := p2_6 hn
  obtain ⟨y, hy, hy2⟩ := e_bc x
  unfold sp_trials at hQ
  unfold wp_X5_trials
  rw [hy]
  refine ⟨hX.1.k0, _, hX.1.r50_0, hX.1.k1, x_areStones hX.1.k1 hX.2.2.1 hn fun z hz => bz0 hz (fun hx => ?_) (fun hx => ?_)⟩
  · have hm : ix x < 64 := by unfold ix; omega
    have hp := pcn_le (ix x)
    rw [hy2 (ix x) hm (p_nat hx.1), show (2 : Int32) = nI 2 from rfl, nI_leI (by decide) (by omega)]
    refine ⟨fun e => ?_, fun e => ?_⟩
    · rw [if_pos ⟨hx.1, hx.2, e⟩] at hQ
      refine it_up 2 (fun k u => u = (nI (pcn (ix x)), nI k, nI (3 ^ k), S) ∧ (k = 2 → 3 < pcn (ix x))) ?_ _ ⟨rfl, fun w => absurd w (by decide)⟩
      rintro C k u hk ⟨rfl, h3⟩ hC
      simp only [L_X5_trials_28, forall_eq]
      rw [nI_1, show (3 : Int32) = nI 3 from rfl, pk_mul]
      rcases (by omega : k = 0 ∨ k = 1 ∨ k = 2) with rfl | rfl | rfl
      · rw [nI_leI (by omega) (by decide)]
        exact ⟨fun w => by omega, fun w => hC (by decide) _ ⟨rfl, fun z => absurd z (by decide)⟩⟩
      · rw [nI_leI (by omega) (by decide)]
        refine ⟨fun w => ?_, fun w => hC (by decide) _ ⟨rfl, fun _ => by omega⟩⟩
        unfold trN at hQ; rw [if_pos (by omega)] at hQ; exact hQ
      · have := h3 rfl
        rw [nI_leI (by omega) (by decide)]
        refine ⟨fun w => ?_, fun w => by omega⟩
        unfold trN at hQ; rw [if_neg (by omega)] at hQ; exact hQ
    · rw [if_neg (fun w => e w.2.2)] at hQ; exact hQ
  · rw [if_neg (fun w => hx ⟨w.1, w.2.1⟩)] at hQ; exact hQ
theorem m_trials {a : Nat → Nat} {v : AS} {S : Hp} {x : Int32} {Q : Int32 → Hp → Prop} (hM : MI a v S) (hQ : ∀ S', MI a v S' → Q (sp_trials v x) S') : wp_X6_trials (a 0) x S Q := by
  have hn := hM.2.1.1.1
  have h2 := p2_6 hn
  replace hQ := hQ S hM
  unfold sp_trials at hQ
  unfold wp_X6_trials
  rw [hM.2.2.1, shl0 _ (by omega), p_lt, p_le, show (0 : Int32).toInt = 0 from rfl, nI_toInt (by omega)]
  refine ⟨fun e => ?_, fun e => ⟨hM.1.1, fun e2 => ?_, fun e2 => ?_⟩⟩
  · rw [if_neg (fun w => by have := w.1; omega)] at hQ; exact hQ
  · rw [if_neg (fun w => by have := w.2.1; omega)] at hQ; exact hQ
  · obtain ⟨m, hm, hI⟩ : ∃ m, m < 64 ∧ x = nI m := ⟨ix x, by unfold ix; omega, p_nat (by omega)⟩
    subst hI
    have hj : ix (nI m) = m := ix_nI (by omega)
    have hp := pcn_le m
    simp only [hj] at hQ
    refine t_bits hm ?_
    rw [show (2 : Int32) = nI 2 from rfl, nI_leI (by decide) (by omega)]
    refine ⟨fun e3 => ?_, fun e3 => ?_⟩
    · rw [if_pos ⟨by omega, by omega, by rw [hj]; exact e3⟩] at hQ
      refine it_up 2 (fun k u => u = (nI m, nI (k + 1), S) ∧ (k = 1 → 3 < pcn m) ∧ (k = 2 → False)) ?_ _ ⟨rfl, fun w => absurd w (by decide), fun w => absurd w (by decide)⟩
      rintro C k u hk ⟨rfl, h3, h4⟩ hC
      simp only [L_X6_trials_26, forall_eq]
      refine t_power (by omega) (t_bits hm ?_)
      rw [nI_1]
      rcases (by omega : k = 0 ∨ k = 1 ∨ k = 2) with rfl | rfl | rfl
      · rw [nI_leI (by omega) (by decide)]
        refine ⟨fun w => ?_, fun w => hC (by decide) _ ⟨rfl, fun z => by omega, fun z => absurd z (by decide)⟩⟩
        unfold trN at hQ; rw [if_pos (by omega)] at hQ; exact hQ
      · have := h3 rfl
        rw [nI_leI (by omega) (by decide)]
        refine ⟨fun w => ?_, fun w => by omega⟩
        unfold trN at hQ; rw [if_neg (by omega)] at hQ; exact hQ
      · exact (h4 rfl).elim
    · rw [if_neg (fun w => e3 (by have h5 := w.2.2; rw [hj] at h5; exact h5))] at hQ; exact hQ
