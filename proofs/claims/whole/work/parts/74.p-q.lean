/-! lists: the best set of stones -/
theorem hadB_iff {s : ASh} {t : ASt} {w0 w : Nat} : ∀ {m : Nat}, hadB s t w0 m w = true ↔ ∃ q, q < m ∧ usd t.1 q &&& w0 = 0 ∧ mayQ s t.1 q = true ∧ wgQ s t q = nI w
  | 0 => ⟨fun z => (by cases z), fun ⟨q, hq, _⟩ => absurd hq (Nat.not_lt_zero q)⟩
  | m + 1 => by
    rw [hadB_s, Bool.or_eq_true, hadB_iff, Bool.and_eq_true, Bool.and_eq_true, decide_eq_true_iff, decide_eq_true_iff]
    refine ⟨fun h => ?_, fun ⟨q, hq, h⟩ => ?_⟩
    · rcases h with ⟨q, hq, h⟩ | h
      · exact ⟨q, by omega, h⟩
      · exact ⟨m, by omega, h.1.1, h.1.2, h.2⟩
    · by_cases e : q = m
      · subst e; exact Or.inr ⟨⟨h.1, h.2.1⟩, h.2.2⟩
      · exact Or.inl ⟨q, by omega, h⟩
def lsP (e : ASh) (j : Nat) : Bool := decide (1 ≤ (e.2.2.2.2.2 j).toInt ∧ (e.2.2.2.2.2 j).toInt ≤ 999)
abbrev isLs (e : ASh) : Prop := (1 ≤ e.2.2.2.2.1 ∧ e.2.2.2.2.1 ≤ 8) ∧ allB (lsP e) e.2.2.2.2.1 = true
def hsP (s : ASh) (t : ASt) (e : ASh) (m : Nat) : Bool := allB (fun j => had s t (63 ^^^ m) (ix (e.2.2.2.2.2 j))) e.2.2.2.2.1
def bsP (s : ASh) (t : ASt) (e : ASh) (th m : Nat) : Bool := decide (m &&& th = th) && hsP s t e m
def prN (t : ASt) (m : Nat) : Nat := (sumB t.2.2 m t.1).toInt.toNat
def rkN (t : ASt) (th : Nat) (f : Bool) (m : Nat) : Nat := if f = true then pcn m * 1000 + prN t (m &&& (63 ^^^ th)) else prN t (m &&& (63 ^^^ th)) * 1000 + pcn m
def bstS (s : ASh) (t : ASt) (e : ASh) (th : Nat) (f : Bool) : Option Nat := (bsq (bsP s t e th) (rkN t th f) (2 ^ t.1)).map (fun y => y.2)
def lsN (e : ASh) : Int32 := if e.1 = 2 ∧ e.2.2.2.1 = 1 then (if isLs e then 0 else -13) else rwN e.1
theorem sumB_bd {t : ASt} (h : StOk t) (m : Nat) : ∀ k, k ≤ t.1 → 0 ≤ (sumB t.2.2 m k).toInt ∧ (sumB t.2.2 m k).toInt ≤ 99 * k
  | 0, _ => ⟨(by decide : (0 : Int) ≤ (0 : Int32).toInt), (by decide : (0 : Int32).toInt ≤ 99 * ((0 : Nat) : Int))⟩
  | k + 1, hk => by
    obtain ⟨h1, h2⟩ := sumB_bd h m k (by omega)
    have h6 := h.1
    have hw := h.2.2 k (by omega)
    unfold sumB
    have z0 : (0 : Int32).toInt = 0 := rfl
    by_cases e : m.testBit k = true
    · rw [if_pos e, p_add (by omega) (by omega)]; omega
    · rw [if_neg e, p_add (by omega) (by omega)]; omega
theorem prN_I {t : ASt} (h : StOk t) (m : Nat) : sumB t.2.2 m t.1 = nI (prN t m) ∧ prN t m < 1000 := by
  have h1 := sumB_bd h m t.1 (Nat.le_refl _)
  have h6 := h.1
  exact ⟨p_nat h1.1, by unfold prN; omega⟩
theorem orB_bit {F : Nat → Bool} {j : Nat} : ∀ {n : Nat}, (orB F n).testBit j = true ↔ j < n ∧ F j = true
  | 0 => ⟨fun z => (by rw [orB, Nat.zero_testBit] at z; cases z), fun z => absurd z.1 (Nat.not_lt_zero j)⟩
  | n + 1 => by
    unfold orB
    rw [Nat.testBit_or, Bool.or_eq_true, orB_bit]
    refine ⟨fun h => ?_, fun h => ?_⟩
    · rcases h with h | h
      · exact ⟨by omega, h.2⟩
      · by_cases e : F n = true
        · rw [if_pos e, Nat.testBit_two_pow] at h
          have := of_decide_eq_true h
          subst this
          exact ⟨by omega, e⟩
        · rw [if_neg e, Nat.zero_testBit] at h; cases h
    · by_cases e : j = n
      · subst e
        rw [if_pos h.2, Nat.testBit_two_pow]
        exact Or.inr (decide_eq_true rfl)
      · exact Or.inl ⟨by omega, h.2⟩
def plB (e : ASh) (w : Int32) : Nat := orB (fun j => decide (e.2.2.2.2.2 j = w)) e.2.2.2.2.1
def lsB (s : ASh) (t : ASt) (e : ASh) : Nat → Nat → Nat
  | 0, _ => 0
  | k + 1, m => lsB s t e k m ||| (if mayQ s t.1 k = true ∧ usd t.1 k = m then plB e (wgQ s t k) else 0)
def lwB (L : Nat → Nat) (w0 : Nat) : Nat → Nat
  | 0 => 0
  | p + 1 => lwB L w0 p ||| (if p &&& w0 = 0 then L p else 0)
theorem lsB_bit {s : ASh} {t : ASt} {e : ASh} {m j : Nat} : ∀ {k : Nat}, (lsB s t e k m).testBit j = true ↔ ∃ q, q < k ∧ mayQ s t.1 q = true ∧ usd t.1 q = m ∧ j < e.2.2.2.2.1 ∧ e.2.2.2.2.2 j = wgQ s t q
  | 0 => ⟨fun z => (by rw [lsB, Nat.zero_testBit] at z; cases z), fun ⟨q, hq, _⟩ => absurd hq (Nat.not_lt_zero q)⟩
  | k + 1 => by
    unfold lsB
    rw [Nat.testBit_or, Bool.or_eq_true, lsB_bit]
    refine ⟨fun h => ?_, fun ⟨q, hq, h⟩ => ?_⟩
    · rcases h with ⟨q, hq, h⟩ | h
      · exact ⟨q, by omega, h⟩
      · by_cases c : mayQ s t.1 k = true ∧ usd t.1 k = m
        · rw [if_pos c] at h
          unfold plB at h
          rw [orB_bit] at h
          exact ⟨k, by omega, c.1, c.2, h.1, of_decide_eq_true h.2⟩
        · rw [if_neg c, Nat.zero_testBit] at h; cases h
    · by_cases c : q = k
      · subst c
        refine Or.inr ?_
        rw [if_pos ⟨h.1, h.2.1⟩]
        unfold plB
        rw [orB_bit]
        exact ⟨h.2.2.1, decide_eq_true h.2.2.2⟩
      · exact Or.inl ⟨q, by omega, h⟩
theorem lwB_bit {L : Nat → Nat} {w0 j : Nat} : ∀ {p : Nat}, (lwB L w0 p).testBit j = true ↔ ∃ r, r < p ∧ r &&& w0 = 0 ∧ (L r).testBit j = true
  | 0 => ⟨fun z => (by rw [lwB, Nat.zero_testBit] at z; cases z), fun ⟨q, hq, _⟩ => absurd hq (Nat.not_lt_zero q)⟩
  | p + 1 => by
    unfold lwB
    rw [Nat.testBit_or, Bool.or_eq_true, lwB_bit]
    refine ⟨fun h => ?_, fun ⟨q, hq, h⟩ => ?_⟩
    · rcases h with ⟨q, hq, h⟩ | h
      · exact ⟨q, by omega, h⟩
      · by_cases c : p &&& w0 = 0
        · rw [if_pos c] at h
          exact ⟨p, by omega, c, h⟩
        · rw [if_neg c, Nat.zero_testBit] at h; cases h
    · by_cases c : q = p
      · subst c
        refine Or.inr ?_
        rw [if_pos h.1]
        exact h.2
      · exact Or.inl ⟨q, by omega, h⟩
theorem sub_le : ∀ u, u < 64 → ∀ m, m < 64 → u &&& (63 ^^^ m) = 0 → u ≤ m := by decide +kernel
theorem lw_all {s : ASh} {t : ASt} {e : ASh} {m : Nat} (hn : t.1 ≤ 6) (hm : m < 64) (hl : isLs e) : lwB (lsB s t e (3 ^ t.1)) (63 ^^^ m) (m + 1) = 2 ^ e.2.2.2.2.1 - 1 ↔ hsP s t e m = true := by
  have hc : ∀ j, j < e.2.2.2.2.1 → nI (ix (e.2.2.2.2.2 j)) = e.2.2.2.2.2 j := fun j hj => by
    have := of_decide_eq_true (allB_iff.mp hl.2 j hj)
    exact (p_nat (by omega)).symm
  refine ⟨fun h => ?_, fun h => ?_⟩
  · refine allB_iff.mpr (fun j hj => ?_)
    have hb : (lwB (lsB s t e (3 ^ t.1)) (63 ^^^ m) (m + 1)).testBit j = true := by
      rw [h, Nat.testBit_two_pow_sub_one]; exact decide_eq_true hj
    obtain ⟨r, hr, h0, hb⟩ := lwB_bit.mp hb
    obtain ⟨q, hq, h1, h2, h3, h4⟩ := lsB_bit.mp hb
    exact hadB_iff.mpr ⟨q, hq, by rw [h2]; exact h0, h1, by rw [hc j hj, h4]⟩
  · refine Nat.eq_of_testBit_eq (fun j => ?_)
    rw [Nat.testBit_two_pow_sub_one]
    by_cases hj : j < e.2.2.2.2.1
    · rw [decide_eq_true hj]
      obtain ⟨q, hq, h0, h1, h2⟩ := hadB_iff.mp (allB_iff.mp h j hj)
      have hu := usd_64 (n := t.1) (q := q) hn
      exact lwB_bit.mpr ⟨usd t.1 q, by have := sub_le _ hu _ hm h0; omega, h0, lsB_bit.mpr ⟨q, hq, h1, rfl, hj, by rw [h2, hc j hj]⟩⟩
    · rw [decide_eq_false hj, ← Bool.not_eq_true]
      intro z
      obtain ⟨r, hr, h0, hb⟩ := lwB_bit.mp z
      obtain ⟨q, hq, h1, h2, h3, h4⟩ := lsB_bit.mp hb
      exact hj h3
theorem orB_lt (F : Nat → Bool) : ∀ n, orB F n < 2 ^ n
  | 0 => Nat.lt_of_lt_of_eq Nat.zero_lt_one (by rfl)
  | n + 1 => by
    have := orB_lt F n
    have h2 : 2 ^ (n + 1) = 2 * 2 ^ n := by rw [Nat.pow_succ, Nat.mul_comm]
    unfold orB
    refine Nat.or_lt_two_pow (by omega) ?_
    split
    · omega
    · exact Nat.two_pow_pos _
theorem plB_lt {e : ASh} (h : e.2.2.2.2.1 ≤ 8) (w : Int32) : plB e w < 2 ^ 8 := Nat.lt_of_lt_of_le (orB_lt _ _) (Nat.pow_le_pow_right (by decide) h)
theorem lsB_lt {s : ASh} {t : ASt} {e : ASh} (h : e.2.2.2.2.1 ≤ 8) (m : Nat) : ∀ k, lsB s t e k m < 2 ^ 8
  | 0 => Nat.two_pow_pos _
  | k + 1 => by
    unfold lsB
    refine Nat.or_lt_two_pow (lsB_lt h m k) ?_
    split
    · exact plB_lt h _
    · exact Nat.two_pow_pos _
theorem lwB_lt {L : Nat → Nat} (h : ∀ p, L p < 2 ^ 8) (w0 : Nat) : ∀ k, lwB L w0 k < 2 ^ 8
  | 0 => Nat.two_pow_pos _
  | k + 1 => by
    unfold lwB
    refine Nat.or_lt_two_pow (lwB_lt h w0 k) ?_
    split
    · exact h _
    · exact Nat.two_pow_pos _
theorem sh8 : ∀ k, k < 9 → ((1 : Int32) <<< (nI k &&& 31)) = nI (2 ^ k) := by decide +kernel
theorem x_placesOf {S : Hp} {z c : Nat} {e : ASh} {w : Int32} {Q : Int32 → Hp → Prop} (hR : RwS S z c e) (hs : e.2.2.2.2.1 ≤ 8) (h : Q (nI (plB e w)) S) : wp_X1_placesOf z w S Q := by
  unfold wp_X1_placesOf
  refine it_up e.2.2.2.2.1 (fun k x => x = (z, w, nI (orB (fun j => decide (e.2.2.2.2.2 j = w)) k), nI k, S)) ?_ _ rfl
  rintro C k x hk rfl hC
  simp only [L_X1_placesOf_4, J_X1_placesOf_29, forall_eq]
  refine ⟨hR.1, c, hR.2.2.1, hR.2.2.2.1, ?_⟩
  rw [hR.2.2.2.2.1, show Int32.ofNat e.2.2.2.2.1 = nI e.2.2.2.2.1 from rfl, nI_leI (by omega) (by omega)]
  refine ⟨fun e1 => ?_, fun e1 => ?_⟩
  · rw [show k = e.2.2.2.2.1 by omega]; exact h
  · obtain ⟨i1, g1⟩ := hR.at (by omega) (j := k) (by omega)
    have hst := hC (by omega)
    refine ⟨hR.1, c, hR.2.2.1, hR.2.2.2.1, i1, ?_⟩
    rw [g1, nI_1, sh8 k (by omega), nI_or]
    refine ⟨fun e2 => hst _ ?_, fun e2 => hst _ ?_⟩
    · rw [orB, if_neg (by simpa using e2), Nat.or_zero]
    · rw [orB, if_pos (by simpa using e2)]
theorem RwS.fa {S S' : Hp} {z c b : Nat} {e : ASh} (h : RwS S z c e) (f : FA b S S') (hc : c ≠ b) : RwS S' z c e := by
  unfold RwS at h ⊢
  rw [f.1, f.2.1, f.2.2.1, f.2.2.2.1, f.2.2.2.2.2 c hc]
  exact h
theorem x_markListed {a : Nat → Nat} {v : AS} {S : Hp} {z y c : Nat} {s e : ASh} {Q : Hp → Prop} (hX : XI a v S) (hz : ScS S z s) (hR : RwS S y c e) (hc : c ≠ a 28) (hs : e.2.2.2.2.1 ≤ 8) (h : ∀ S', FA (a 28) S S' → (∀ m, m < 64 → gA S' (a 28) m = nI (lsB s v.1 e (3 ^ v.1.1) m)) → Q S') : wp_X5_markListed (a 0) z y S Q := by
  have hn := hX.2.1.1
  have h3 := p3_6 hn.1
  unfold wp_X5_markListed
  refine ⟨hX.1.k0, _, hX.1.r61_0, t_fill hX.1.k28 hX.1.l28 (by decide) ?_⟩
  intro S1 f1 h1
  refine it_up (3 ^ v.1.1) (fun k x => ∃ S', x = (a 0, z, y, nI k, S') ∧ FA (a 28) S S' ∧ ∀ m, m < 64 → gA S' (a 28) m = nI (lsB s v.1 e k m)) ?_ _ ⟨S1, rfl, f1, h1⟩
  rintro C k x hk ⟨S', rfl, f, hL⟩ hC
  have hX' := hX.fa (by decide) (by decide) f
  have hz' := hz.fa f
  have hR' := hR.fa f hc
  simp only [L_X5_markListed_10, J_X5_markListed_66, forall_eq]
  refine ⟨hX'.1.k0, _, hX'.1.r51_0, hX'.1.k4, ?_⟩
  rw [hX'.2.2.2.1.1, nI_leI (by omega) (by omega)]
  refine ⟨fun e1 => ?_, fun e1 => ⟨hX'.1.k0, _, hX'.1.r51_0, hz'.1, x_allows hX'.1.ly hX'.2.2.2.1 hz' hn.1 (by omega) (br0 (fun hm => ⟨hX'.1.k0, _, hX'.1.r51_0, hz'.1, x_weightOf hX'.1.ly hX'.2.2.2.1 hz' hn (by omega) ⟨hR'.1, x_placesOf hR' hs ⟨hX'.1.k0, _, hX'.1.r61_0, hX'.1.k0, _, hX'.1.r51_0, hX'.1.k4, x_notOff hX'.1.ly hX'.2.2.2.1 hn.1 (by omega) ?_⟩⟩⟩) (fun hm => ?_))⟩⟩
  · have hkk : k = 3 ^ v.1.1 := by omega
    subst hkk
    exact h S' f hL
  · have hu := usd_64 (n := v.1.1) (q := k) hn.1
    have hin : vp_in (nI (usd v.1.1 k)) (ln S' (a 28)) := by rw [hX'.1.l28]; exact vp_in_nI hu (by decide)
    rw [nI_clamp (by omega), hL _ hu, nI_or, nI_1]
    refine ⟨hX'.1.k28, hin, hX'.1.k28, hin, hC (by omega) _ ⟨_, rfl, f.set _ _, fun m hm2 => ?_⟩⟩
    rw [gA_sA, lsB]
    by_cases e2 : m = usd v.1.1 k
    · subst e2
      rw [upd_s, if_pos ⟨hm, rfl⟩]
    · rw [upd_n _ _ e2, hL m hm2, if_neg (fun w => e2 w.2.symm), Nat.or_zero]
  · rw [nI_1]
    refine hC (by omega) _ ⟨S', rfl, f, fun m hm2 => ?_⟩
    rw [hL m hm2, lsB, if_neg (fun w => hm w.1), Nat.or_zero]
theorem x_listedWithin {a : Nat → Nat} {S : Hp} {m : Nat} {L : Nat → Nat} {Q : Int32 → Hp → Prop} (hX : XS a S) (hm : m < 64) (hL : ∀ m, m < 64 → gA S (a 28) m = nI (L m)) (h : Q (nI (lwB L (63 ^^^ m) (m + 1))) S) : wp_X5_listedWithin (a 0) (nI m) S Q := by
  unfold wp_X5_listedWithin
  refine it_up (m + 1) (fun k x => x = (a 0, nI m, nI (lwB L (63 ^^^ m) k), nI k, S)) ?_ _ rfl
  rintro C k x hk rfl hC
  simp only [L_X5_listedWithin_4, J_X5_listedWithin_26, forall_eq]
  rw [nI_ltI (by omega) (by omega)]
  refine ⟨fun e => ?_, fun e => ?_⟩
  · rw [show k = m + 1 by omega]; exact h
  · have hst := hC (by omega)
    have hx := xor63 m hm
    have hk64 : k < 64 := by omega
    have hand : k &&& (63 ^^^ m) < 64 := Nat.lt_of_le_of_lt Nat.and_le_left hk64
    rw [nI_andnot k hk64 m hm, show (0 : Int32) = nI 0 from rfl, nI_eq (by omega) (by decide), nI_1]
    refine ⟨fun e2 => hst _ ?_, fun e2 => ⟨hX.k0, _, hX.r61_0, hX.k28, by rw [hX.l28]; exact vp_in_nI hk64 (by decide), hst _ ?_⟩⟩
    · rw [lwB, if_neg e2, Nat.or_zero]
    · rw [nI_clamp (by omega), hL k hk64, nI_or, lwB, if_pos e2]
theorem x_isList {S : Hp} {z c : Nat} {e : ASh} {Q : Int32 → Hp → Prop} (hR : RwS S z c e) (hs : e.2.2.2.2.1 ≤ 100) (h : ∀ y, (y = 0 ↔ ¬ isLs e) → Q y S) : wp_X5_isList z S Q := by
  have yes : isLs e → Q 1 S := fun w => h 1 ⟨fun y => absurd y (by decide), fun y => absurd w y⟩
  have no : ¬ isLs e → Q 0 S := fun w => h 0 ⟨fun _ => w, fun _ => rfl⟩
  unfold wp_X5_isList
  refine ⟨hR.1, c, hR.2.2.1, hR.2.2.2.1, ?_⟩
  rw [hR.2.2.2.2.1, show Int32.ofNat e.2.2.2.2.1 = nI e.2.2.2.2.1 from rfl]
  simp only [forall_eq]
  rw [show (1 : Int32) = nI 1 from rfl, show (8 : Int32) = nI 8 from rfl, nI_ltI (by omega) (by decide), nI_leI (by omega) (by decide)]
  refine ⟨fun e1 => no (fun w => by have := w.1.1; omega), fun e1 => ⟨fun e2 => ?_, fun e2 => no (fun w => by have := w.1.2; omega)⟩⟩
  refine it_up e.2.2.2.2.1 (fun k x => x = (z, nI e.2.2.2.2.1, nI k, S) ∧ ∀ j, j < k → lsP e j = true) ?_ _ ⟨rfl, fun j hj => absurd hj (Nat.not_lt_zero j)⟩
  rintro C k x hk ⟨rfl, hj⟩ hC
  simp only [L_X5_isList_21, forall_eq]
  rw [nI_leI (by omega) (by omega)]
  refine ⟨fun e3 => yes ⟨⟨by omega, e2⟩, allB_iff.mpr (fun j hj2 => hj j (by omega))⟩, fun e3 => ?_⟩
  obtain ⟨i1, g1⟩ := hR.at hs (j := k) (by omega)
  refine ⟨hR.1, c, hR.2.2.1, hR.2.2.2.1, i1, ?_⟩
  rw [g1, e_canBeHad]
  refine br1 (fun hp => hC (by omega) _ ⟨by rw [nI_1], fun j hj2 => ?_⟩) (fun hp => no (fun w => ?_))
  · by_cases e5 : j = k
    · subst e5; exact decide_eq_true hp
    · exact hj j (by omega)
  · exact hp (of_decide_eq_true (allB_iff.mp w.2 k (by omega)))
def b1 (f : Bool) : Int32 := if f = true then 1 else 0
theorem x_rankOf {a : Nat → Nat} {v : AS} {S : Hp} {m th : Nat} {f : Bool} {Q : Int32 → Hp → Prop} (hX : XI a v S) (hm : m < 64) (hth : th < 64) (h : Q (nI (rkN v.1 th f m)) S) : wp_X5_rankOf (a 0) (nI m) (nI th) (b1 f) S Q := by
  have hn := hX.2.1.1
  have hx := xor63 th hth
  have hand : m &&& (63 ^^^ th) < 64 := Nat.lt_of_le_of_lt Nat.and_le_left hm
  unfold wp_X5_rankOf
  rw [e_bitCount hm]
  refine ⟨hX.1.k0, _, hX.1.r50_0, hX.1.k1, ?_⟩
  rw [nI_andnot m hm th hth]
  refine x_pricesOf hX.1.k1 hX.1.r41_1 hX.1.k3 hX.1.l3 hX.2.2.1 hn.1 hand ?_
  obtain ⟨p1, p2⟩ := prN_I hn (m &&& (63 ^^^ th))
  rw [p1, show (1000 : Int32) = nI 1000 from rfl, pk_mul, pk_mul, nI_add, nI_add]
  unfold rkN at h
  cases f with
  | true => exact ⟨fun z => absurd z (by decide), fun _ => h⟩
  | false => exact ⟨fun _ => h, fun z => absurd rfl z⟩
theorem rkN_lt {t : ASt} (h : StOk t) (th : Nat) (f : Bool) (m : Nat) : rkN t th f m < 1000000 := by
  have h1 := (prN_I h (m &&& (63 ^^^ th))).2
  have h2 := pcn_le m
  unfold rkN
  split <;> omega
theorem x_bestSet {a : Nat → Nat} {v : AS} {S : Hp} {d e : Int32} {th : Nat} {f : Bool} {Q : Int32 → Hp → Prop} (hX : XI a v S) (hd : isSh d) (he : isSh e) (hth : th < 64) (hQ : ∀ S', XI a v S' → Q (onSc (v.2.2 (ix d)) (if lsN (v.2.2 (ix e)) = 0 then oN (bstS (v.2.2 (ix d)) v.1 (v.2.2 (ix e)) th f) else lsN (v.2.2 (ix e)))) S') : wp_X5_bestSet (a 0) d e (nI th) (b1 f) S Q := by
  have hn := hX.2.1.1
  have hn6 : v.1.1 ≤ 6 := hn.1
  have h2 := p2_6 hn.1
  have h2p := p2_pos v.1.1
  obtain ⟨i1, i2, i3, i4⟩ := x_in hX.1 hd
  obtain ⟨he8, heI⟩ := isSh_nI he
  unfold onSc at hQ
  unfold wp_X5_bestSet
  refine ⟨hX.1.k0, _, hX.1.r56_0, i3, i1, x_scale hX hd (fun h1 hh => ⟨hX.1.k0, x_notHeld hX hd ?_⟩) (fun z h1 hz => ⟨hX.1.k0, x_rowOfSort hX he (fun hno => ⟨fun _ => ⟨hX.1.k0, x_notHeld hX he ?_⟩, fun r hr => by cases hr⟩) (fun y c hyes hR hc hy => ⟨fun hr => (by cases hr), fun r hr => ?_⟩)⟩)⟩
  · rw [if_pos h1] at hQ; rw [hh]; exact hQ S hX
  · rw [if_neg (by omega)] at hQ
    have hh : lsN (v.2.2 (ix e)) = rwN (v.2.2 (ix e)).1 := if_neg hno
    have h0 : rwN (v.2.2 (ix e)).1 ≠ 0 := by unfold rwN; split <;> decide
    rw [hh, if_neg h0] at hQ
    exact hQ S hX
  · have hrr := Option.some.inj hr
    subst hrr
    rw [if_neg (by omega)] at hQ
    have hs := ((hX.2.1.2.2 (ix e) he8).2.2 hyes.1).2.2
    have hh : lsN (v.2.2 (ix e)) = if isLs (v.2.2 (ix e)) then 0 else -13 := if_pos hyes
    rw [hh] at hQ
    refine x_isList hR hs (fun y2 hy2 => bz1 hy2 (fun hl => ⟨hX.1.k0, x_markListed hX hz hR (hc 28 (by decide)) hl.1.2 ?_⟩) (fun hl => ?_))
    · intro S1 f1 hL
      rw [if_pos hl, if_pos rfl] at hQ
      have hX1 := hX.fa (by decide) (by decide) f1
      have hR1 := hR.fa f1 (hc 28 (by decide))
      refine ⟨hR1.1, c, hR1.2.2.1, hR1.2.2.2.1, ?_⟩
      rw [hR1.2.2.2.2.1, show Int32.ofNat (v.2.2 (ix e)).2.2.2.2.1 = nI (v.2.2 (ix e)).2.2.2.2.1 from rfl, sh8 _ (by omega), nI_sub1 (Nat.two_pow_pos _)]
      simp only [forall_eq]
      unfold bstS at hQ
      have h28 : 2 ^ (v.2.2 (ix e)).2.2.2.2.1 ≤ 2 ^ 8 := Nat.pow_le_pow_right (by decide) hl.1.2
      have hkeep : ∀ {k : Nat}, k < 64 → ¬ bsP (v.2.2 (ix d)) v.1 (v.2.2 (ix e)) th k = true → bsq (bsP (v.2.2 (ix d)) v.1 (v.2.2 (ix e)) th) (rkN v.1 th f) (k + 1) = bsq (bsP (v.2.2 (ix d)) v.1 (v.2.2 (ix e)) th) (rkN v.1 th f) k := fun _ h => bsq_f h
      refine it_up (2 ^ v.1.1) (fun k x => ∃ g, x = (a 0, nI th, b1 f, nI (2 ^ (v.2.2 (ix e)).2.2.2.2.1 - 1), oN ((bsq (bsP (v.2.2 (ix d)) v.1 (v.2.2 (ix e)) th) (rkN v.1 th f) k).map (fun y => y.2)), g, nI k, S1) ∧ ∀ y, bsq (bsP (v.2.2 (ix d)) v.1 (v.2.2 (ix e)) th) (rkN v.1 th f) k = some y → g = nI y.1) ?_ _ ⟨0, rfl, fun y hy => by cases hy⟩
      rintro C k x hk ⟨g, rfl, hg⟩ hC
      simp only [L_X5_bestSet_79, J_X5_bestSet_133, J_X5_bestSet_141, wp_X4_all, forall_eq]
      refine ⟨hX1.1.k0, _, hX1.1.r50_0, hX1.1.k1, hX1.1.k1, ?_⟩
      rw [hX1.2.2.1.1, shl1 _ (by omega), nI_ltI (by omega) (by omega)]
      refine ⟨fun e1 => ?_, fun e1 => ?_⟩
      · rw [show 2 ^ v.1.1 = k by omega] at hQ; exact hQ S1 hX1
      · have hst := hC (by omega)
        have hk64 : k < 64 := by omega
        have hand : k &&& th < 64 := Nat.lt_of_le_of_lt Nat.and_le_left hk64
        rw [nI_and, nI_eq (by omega) (by omega), nI_1]
        refine ⟨fun e2 => hst _ ⟨g, ?_, fun y hy => hg y ?_⟩, fun e2 => ⟨hX1.1.k0, x_listedWithin hX1.1 hk64 hL ?_⟩⟩
        · rw [hkeep hk64 (fun w => e2 (of_decide_eq_true ((Bool.and_eq_true _ _).mp w).1))]
        · rw [← hkeep hk64 (fun w => e2 (of_decide_eq_true ((Bool.and_eq_true _ _).mp w).1))]; exact hy
        · have hlt := lwB_lt (L := lsB (v.2.2 (ix d)) v.1 (v.2.2 (ix e)) (3 ^ v.1.1)) (fun p => lsB_lt hl.1.2 p _) (63 ^^^ k) (k + 1)
          rw [nI_eq (by omega) (by omega), lw_all hn.1 hk64 hl]
          refine ⟨fun e3 => hst _ ⟨g, ?_, fun y hy => hg y ?_⟩, fun e3 => ⟨hX1.1.k0, x_rankOf hX1 hk64 hth ?_⟩⟩
          · rw [hkeep hk64 (fun w => e3 ((Bool.and_eq_true _ _).mp w).2)]
          · rw [← hkeep hk64 (fun w => e3 ((Bool.and_eq_true _ _).mp w).2)]; exact hy
          · have hP : bsP (v.2.2 (ix d)) v.1 (v.2.2 (ix e)) th k = true := (Bool.and_eq_true _ _).mpr ⟨decide_eq_true e2, e3⟩
            have hrk := rkN_lt hn th f k
            cases hb : bsq (bsP (v.2.2 (ix d)) v.1 (v.2.2 (ix e)) th) (rkN v.1 th f) k with
            | none =>
              refine ⟨fun _ => hst _ ⟨_, by rw [bsq_t0 hP hb]; rfl, fun y' hy' => ?_⟩, fun zz => absurd (by decide : (-4 : Int32) < 0) zz⟩
              rw [bsq_t0 hP hb] at hy'; cases hy'; rfl
            | some y0 =>
              have hy0 := bsq_lt hb
              have hrk0 := rkN_lt hn th f y0.2
              rw [hg y0 hb]
              show (nI y0.2 < 0 → _) ∧ (¬ nI y0.2 < 0 → _)
              refine ⟨fun zz => absurd zz (nI_pos (by omega)), fun _ => ?_⟩
              rw [nI_leI (by omega) (by omega)]
              refine ⟨fun zz => hst _ ⟨nI y0.1, ?_, fun y' hy' => ?_⟩, fun zz => hst _ ⟨nI (rkN v.1 th f k), ?_, fun y' hy' => ?_⟩⟩
              · rw [bsq_t2 hP hb (by omega)]; try rfl
              · rw [bsq_t2 hP hb (by omega)] at hy'; cases hy'; rfl
              · rw [bsq_t1 hP hb (by omega)]; rfl
              · rw [bsq_t1 hP hb (by omega)] at hy'; cases hy'; rfl
    · rw [if_neg hl, if_neg (by decide)] at hQ; exact hQ S hX
def sp_list (v : AS) (d e : Int32) : Int32 := if isSh d then (if isSh e then onSc (v.2.2 (ix d)) (if lsN (v.2.2 (ix e)) = 0 then oN (bstS (v.2.2 (ix d)) v.1 (v.2.2 (ix e)) 0 true) else lsN (v.2.2 (ix e))) else -1) else -1
theorem x_list {a : Nat → Nat} {v : AS} {S : Hp} {d e : Int32} {Q : Int32 → Hp → Prop} (hX : XI a v S) (hQ : ∀ S', XI a v S' → Q (sp_list v d e) S') : wp_X5_list (a 0) d e S Q := by
  unfold sp_list at hQ
  unfold wp_X5_list
  rw [e_xSh]
  refine br0 (fun hd => ?_) (fun hd => ?_)
  · rw [if_pos hd] at hQ
    rw [e_xSh]
    refine br1 (fun he => ⟨hX.1.k0, ?_⟩) (fun he => ?_)
    · rw [if_pos he] at hQ
      exact x_bestSet (th := 0) (f := true) hX hd he (by decide) hQ
    · rw [if_neg he] at hQ; exact hQ S hX
  · rw [if_neg hd] at hQ; exact hQ S hX
/-- bits of stones, as told -/
abbrev isBt (n : Nat) (x : Int32) : Prop := 0 ≤ x.toInt ∧ x.toInt < ((2 ^ n : Nat) : Int)
def chN (t : ASt) (th : Nat) (w : Int32) (o : Option Nat) : Int32 := match o with
  | none => -4
  | some m => if w = 0 then nI m else sumB t.2.2 (m &&& (63 ^^^ th)) t.1
def sp_cheap (v : AS) (d e x w : Int32) : Int32 := if isSh d then (if isSh e then (if isBt v.1.1 x then (if isW2 w then onSc (v.2.2 (ix d)) (if lsN (v.2.2 (ix e)) = 0 then chN v.1 (ix x) w (bstS (v.2.2 (ix d)) v.1 (v.2.2 (ix e)) (ix x) false) else lsN (v.2.2 (ix e))) else -1) else -1) else -1) else -1
theorem bstS_lt {s : ASh} {t : ASt} {e : ASh} {th : Nat} {f : Bool} {m : Nat} (h : bstS s t e th f = some m) : m < 2 ^ t.1 := by
  unfold bstS at h
  cases hb : bsq (bsP s t e th) (rkN t th f) (2 ^ t.1) with
  | none => rw [hb] at h; cases h
  | some y => rw [hb] at h; cases h; exact (bsq_lt hb).1
theorem lsN_neg (e : ASh) (h : lsN e ≠ 0) : lsN e < 0 := by
  revert h
  unfold lsN rwN
  split
  · split
    · exact fun h => absurd rfl h
    · exact fun _ => by decide
  · split <;> exact fun _ => by decide
theorem x_cheapest {a : Nat → Nat} {v : AS} {S : Hp} {d e x w : Int32} {Q : Int32 → Hp → Prop} (hX : XI a v S) (hQ : ∀ S', XI a v S' → Q (sp_cheap v d e x w) S') : wp_X5_cheapest (a 0) d e x w S Q := by
  have hn := hX.2.1.1
  have h2 := p2_6 hn.1
  unfold sp_cheap at hQ
  unfold wp_X5_cheapest
  rw [e_xSh]
  refine br0 (fun hd => ?_) (fun hd => ?_)
  · rw [if_pos hd] at hQ
    rw [e_xSh]
    refine br0 (fun he => ⟨hX.1.k0, _, hX.1.r50_0, hX.1.k1, x_areStones hX.1.k1 hX.2.2.1 hn.1 fun z hz => bz0 hz (fun hx => ?_) (fun hx => ?_)⟩) (fun he => ?_)
    · rw [if_pos he, if_pos hx] at hQ
      rw [p_lt, p_le, show (0 : Int32).toInt = 0 from rfl, show (1 : Int32).toInt = 1 from rfl]
      refine ⟨fun e1 => ?_, fun e1 => ⟨fun e2 => ⟨hX.1.k0, ?_⟩, fun e2 => ?_⟩⟩
      · rw [if_neg (by omega)] at hQ; exact hQ S hX
      · rw [if_pos ⟨by omega, by omega⟩] at hQ
        have hxI : x = nI (ix x) := p_nat hx.1
        have hx64 : ix x < 64 := by unfold ix; omega
        rw [hxI]
        refine x_bestSet (th := ix x) (f := false) hX hd he hx64 (fun S' hX' => ?_)
        replace hQ := hQ S' hX'
        unfold onSc at hQ ⊢
        have hle := (hX.2.1.2.2 (ix d) (isSh_nI hd).1).1
        by_cases h1 : (v.2.2 (ix d)).1 ≠ 1
        · rw [if_pos h1] at hQ ⊢
          have hneg : scN (v.2.2 (ix d)).1 < 0 := by
            unfold scN
            rcases (by omega : (v.2.2 (ix d)).1 = 0 ∨ (v.2.2 (ix d)).1 = 2) with e3 | e3 <;> rw [e3] <;> decide
          exact ⟨fun _ => hQ, fun zz => absurd hneg zz⟩
        · rw [if_neg h1] at hQ ⊢
          by_cases hl : lsN (v.2.2 (ix e)) = 0
          · rw [if_pos hl] at hQ ⊢
            cases hb : bstS (v.2.2 (ix d)) v.1 (v.2.2 (ix e)) (ix x) false with
            | none =>
              rw [hb] at hQ
              exact ⟨fun _ => hQ, fun zz => absurd (by decide : (-4 : Int32) < 0) zz⟩
            | some m =>
              rw [hb] at hQ
              have hm := bstS_lt hb
              show (nI m < 0 → _) ∧ (¬ nI m < 0 → _)
              refine ⟨fun zz => absurd zz (nI_pos (by omega)), fun _ => ⟨fun e3 => ⟨hX'.1.k0, _, hX'.1.r50_0, hX'.1.k1, ?_⟩, fun e3 => ?_⟩⟩
              · have hand : m &&& (63 ^^^ ix x) < 64 := Nat.lt_of_le_of_lt Nat.and_le_left (by omega)
                show wp_X4_pricesOf (a 1) (nI m &&& (nI (ix x) ^^^ (-1 : Int32))) S' _
                rw [nI_andnot m (by omega) _ hx64]
                refine x_pricesOf hX'.1.k1 hX'.1.r41_1 hX'.1.k3 hX'.1.l3 hX'.2.2.1 hn.1 hand ?_
                unfold chN at hQ
                simp only [if_neg e3] at hQ
                exact hQ
              · unfold chN at hQ
                simp only [if_pos e3] at hQ
                exact hQ
          · rw [if_neg hl] at hQ ⊢
            exact ⟨fun _ => hQ, fun zz => absurd (lsN_neg _ hl) zz⟩
      · rw [if_neg (by omega)] at hQ; exact hQ S hX
    · rw [if_pos he, if_neg hx] at hQ; exact hQ S hX
    · rw [if_neg he] at hQ; exact hQ S hX
  · rw [if_neg hd] at hQ; exact hQ S hX
theorem m_noList {a : Nat → Nat} {v : AS} {S : Hp} {e : Int32} {Q : Int32 → Hp → Prop} (hM : MI a v S) (he : isSh e) (hQ : Q (lsN (v.2.2 (ix e))) S) : wp_X6_noList (a 0) e S Q := by
  have k0 := hM.1.1
  have k13 : kd S (a 13) = 8 := hM.1.2.2.1 13 (by decide) (by decide) (by decide)
  have r13 : gR S 99 (a 0) = some (a 13) := hM.1.2.2.2.2.1 13 (by decide) (by decide)
  obtain ⟨he8, heI⟩ := isSh_nI he
  unfold lsN at hQ
  unfold wp_X6_noList
  refine m_rowHd hM he (fun hyes => ?_) (fun hno hh => ?_) (fun hno hh => ?_)
  · rw [if_pos hyes] at hQ
    have hs := ((hM.2.1.2.2 (ix e) he8).2.2 hyes.1).2.2
    obtain ⟨k, r12, k12, i12, g12⟩ := m_size hM he hyes.1
    refine ⟨k, _, r12, k12, i12, ?_⟩
    rw [g12, e_isInL (lo := 1) (hi := 8) rfl rfl]
    have hfin : ∀ (p : Prop) (_ : Decidable p), (p ↔ isLs (v.2.2 (ix e))) → J_X6_noList_89 Q (b2 p) S := fun p _ hp => by
      unfold J_X6_noList_89
      refine br0 (fun y => ?_) (fun y => ?_)
      · rw [if_pos (hp.mp y)] at hQ; exact hQ
      · rw [if_neg (fun w => y (hp.mpr w))] at hQ; exact hQ
    have h18 : (1 ≤ (nI (v.2.2 (ix e)).2.2.2.2.1).toInt ∧ (nI (v.2.2 (ix e)).2.2.2.2.1).toInt ≤ 8) ↔ (1 ≤ (v.2.2 (ix e)).2.2.2.2.1 ∧ (v.2.2 (ix e)).2.2.2.2.1 ≤ 8) := by rw [nI_toInt (by omega)]; omega
    refine it_up (v.2.2 (ix e)).2.2.2.2.1 (fun k x => x = (a 0, e, b2 ((1 ≤ (v.2.2 (ix e)).2.2.2.2.1 ∧ (v.2.2 (ix e)).2.2.2.2.1 ≤ 8) ∧ allB (lsP (v.2.2 (ix e))) k = true), nI k, S)) ?_ _ ?_
    · rintro C k x hk rfl hC
      simp only [L_X6_noList_50, forall_eq]
      refine ⟨k0, _, r12, k12, i12, ?_⟩
      rw [g12, nI_leI (by omega) (by omega)]
      refine ⟨fun e1 => ?_, fun e1 => ?_⟩
      · rw [show k = (v.2.2 (ix e)).2.2.2.2.1 by omega]
        exact hfin _ _ Iff.rfl
      · refine br0 (fun y => ⟨k0, _, r13, k13, ?_⟩) (fun y => ?_)
        · obtain ⟨c1, c2, c3⟩ := m_cell hM he hyes.1 (j := k) (by omega)
          rw [c1, c3, e_isInL (lo := 1) (hi := 999) rfl rfl, nI_1]
          refine ⟨c2, hC (by omega) _ ?_⟩
          have : (1 ≤ ((v.2.2 (ix e)).2.2.2.2.2 k).toInt ∧ ((v.2.2 (ix e)).2.2.2.2.2 k).toInt ≤ 999) ↔ ((1 ≤ (v.2.2 (ix e)).2.2.2.2.1 ∧ (v.2.2 (ix e)).2.2.2.2.1 ≤ 8) ∧ allB (lsP (v.2.2 (ix e))) (k + 1) = true) := by
            unfold allB
            rw [Bool.and_eq_true]
            unfold lsP
            rw [decide_eq_true_iff]
            exact ⟨fun w => ⟨y.1, y.2, w⟩, fun w => w.2.2⟩
          rw [b2_congr this]
        · refine hfin _ _ ⟨fun w => absurd w y, fun w => absurd ⟨w.1, allB_iff.mpr (fun j hj => allB_iff.mp w.2 j (by omega))⟩ y⟩
    · rw [b2_congr (q := (1 ≤ (v.2.2 (ix e)).2.2.2.2.1 ∧ (v.2.2 (ix e)).2.2.2.2.1 ≤ 8) ∧ allB (lsP (v.2.2 (ix e))) 0 = true) ⟨fun w => ⟨h18.mp w, rfl⟩, fun w => h18.mpr w.1⟩]
      rfl
  · rw [if_neg hno, hh] at hQ; exact hQ
  · rw [if_neg hno, hh] at hQ; exact hQ
theorem m_hasAll {a : Nat → Nat} {v : AS} {S : Hp} {d e : Int32} {m : Nat} {Q : Int32 → Hp → Prop} (hM : MI a v S) (hd : isSh d) (he : isSh e) (h1 : (v.2.2 (ix d)).1 = 1) (h2 : (v.2.2 (ix e)).1 = 2) (hl : isLs (v.2.2 (ix e))) (hm : m < 64) (hQ : ∀ S', MI a v S' → Q (b2 (hsP (v.2.2 (ix d)) v.1 (v.2.2 (ix e)) m = true)) S') : wp_X6_hasAll (a 0) d e (nI m) S Q := by
  unfold wp_X6_hasAll
  refine ⟨hM.1.1, t_have hM hd h1 hm (fun S1 hM1 hH => ?_)⟩
  obtain ⟨k0, k1, k2, k3, k4, k5, k6, k7, k8, k9, k10, k11, k12, k13, k14, r1, r2, r3, r4, r5, r6, r7, r8, r9, r10, r11, r12, r13, r14, l1, l2, l3, l4, l5, l6, l7, l8, l9, l10, l11, l12, l13, l14⟩ := hM1.1.all
  obtain ⟨_, _, _, i12, g12⟩ := m_size hM1 he h2
  have hs := hl.1.2
  unfold hsP at hQ
  refine it_up (v.2.2 (ix e)).2.2.2.2.1 (fun k x => x = (a 0, e, b2 (allB (fun j => had (v.2.2 (ix d)) v.1 (63 ^^^ m) (ix ((v.2.2 (ix e)).2.2.2.2.2 j))) k = true), nI k, S1)) ?_ _ rfl
  rintro C k x hk rfl hC
  simp only [L_X6_hasAll_12, J_X6_hasAll_52, J_X6_hasAll_53, forall_eq]
  refine ⟨k0, _, r12, k12, i12, ?_⟩
  rw [g12, nI_leI (by omega) (by omega)]
  refine ⟨fun e1 => ⟨b2_nar _, ?_⟩, fun e1 => ?_⟩
  · rw [show k = (v.2.2 (ix e)).2.2.2.2.1 by omega]
    exact hQ S1 hM1
  · have hst := hC (by omega)
    have hno : ¬ allB (fun j => had (v.2.2 (ix d)) v.1 (63 ^^^ m) (ix ((v.2.2 (ix e)).2.2.2.2.2 j))) (k + 1) = true → C (a 0, e, 0, nI (k + 1), S1) := fun w => hst _ (by rw [b2_f w])
    rw [nI_1]
    refine br0 (fun y => ⟨k0, _, r5, k0, _, r13, k13, ?_⟩) (fun y => hno (fun w => y (allB_iff.mpr (fun j hj => allB_iff.mp w j (by omega)))))
    obtain ⟨c1, c2, c3⟩ := m_cell hM1 he h2 (j := k) (by omega)
    have hr := of_decide_eq_true (allB_iff.mp hl.2 k (by omega))
    have hcI : (v.2.2 (ix e)).2.2.2.2.2 k = nI (ix ((v.2.2 (ix e)).2.2.2.2.2 k)) := p_nat (by omega)
    have ixb : ∀ x : Int32, 1 ≤ x.toInt ∧ x.toInt ≤ 999 → 1 ≤ ix x ∧ ix x ≤ 999 := fun x h => by unfold ix; omega
    have hb := ixb _ hr
    rw [c1, c3, l5]
    refine ⟨c2, k5, ?_, ?_⟩
    · rw [hcI]; exact vp_in_nI (by omega) (by decide)
    · rw [show ((v.2.2 (ix e)).2.2.2.2.2 k).toNatClampNeg = ix ((v.2.2 (ix e)).2.2.2.2.2 k) from rfl, hH.1 _ hb.1 hb.2]
      by_cases e3 : had (v.2.2 (ix d)) v.1 (63 ^^^ m) (ix ((v.2.2 (ix e)).2.2.2.2.2 k)) = true
      · rw [if_pos e3]
        have hA : allB (fun j => had (v.2.2 (ix d)) v.1 (63 ^^^ m) (ix ((v.2.2 (ix e)).2.2.2.2.2 j))) (k + 1) = true := (Bool.and_eq_true _ _).mpr ⟨y, e3⟩
        exact ⟨fun z => absurd z (by decide), fun _ => hst _ (by rw [b2_t hA])⟩
      · rw [if_neg e3]
        exact ⟨fun _ => hno (fun w => e3 ((Bool.and_eq_true _ _).mp w).2), fun z => absurd rfl z⟩
theorem m_bs104 {a : Nat → Nat} {v : AS} {S : Hp} {d e fi se bp : Int32} {k A B th : Nat} {o : Option Nat} {b : Bool} {Q : Int32 → Hp → Prop} {C : Nat × Int32 × Int32 × Int32 × Int32 × Int32 × Int32 × Int32 × Int32 × Hp → Prop} (hM : MI a v S) (hd : isSh d) (he : isSh e) (h1 : (v.2.2 (ix d)).1 = 1) (h2 : (v.2.2 (ix e)).1 = 2) (hl : isLs (v.2.2 (ix e))) (hk : k < 64) (hth : th < 64) (keep : ∀ S', MI a v S' → ¬ (bsP (v.2.2 (ix d)) v.1 (v.2.2 (ix e)) th k = true ∧ b = true) → C (a 0, d, e, nI th, bp, oN o, fi, se, nI (k + 1), S')) (take : ∀ S', MI a v S' → bsP (v.2.2 (ix d)) v.1 (v.2.2 (ix e)) th k = true → b = true → C (a 0, d, e, nI th, bp, nI k, nI A, nI B, nI (k + 1), S')) : J_X6_bestSet_104 C Q (a 0) d e (nI th) bp (oN o) fi se (nI k) (nI A) (nI B) (b1 b) S := by
  have hand : k &&& th < 64 := Nat.lt_of_le_of_lt Nat.and_le_left hk
  simp only [J_X6_bestSet_104, J_X6_bestSet_142, forall_eq]
  rw [nI_and, nI_eq (by omega) (by omega), nI_1]
  unfold bsP at keep take
  refine ⟨fun e2 => keep S hM (fun w => e2 (of_decide_eq_true ((Bool.and_eq_true _ _).mp w.1).1)), fun e2 => ⟨fun e3 => keep S hM (fun w => ?_), fun e3 => ⟨hM.1.1, m_hasAll hM hd he h1 h2 hl hk (fun S' hM' => br0 (fun y => ?_) (fun y => ?_))⟩⟩⟩
  · rw [w.2] at e3; exact absurd e3 (by decide)
  · refine take S' hM' ((Bool.and_eq_true _ _).mpr ⟨decide_eq_true e2, y⟩) ?_
    cases b with
    | true => rfl
    | false => exact absurd rfl e3
  · exact keep S' hM' (fun w => y ((Bool.and_eq_true _ _).mp w.1).2)
theorem m_bestSet {a : Nat → Nat} {v : AS} {S : Hp} {d e : Int32} {th : Nat} {f : Bool} {Q : Int32 → Hp → Prop} (hM : MI a v S) (ok : StOk v.1) (hd : isSh d) (he : isSh e) (h1 : (v.2.2 (ix d)).1 = 1) (h2 : (v.2.2 (ix e)).1 = 2) (hl : isLs (v.2.2 (ix e))) (hth : th < 64) (hQ : ∀ S', MI a v S' → Q (oN (bstS (v.2.2 (ix d)) v.1 (v.2.2 (ix e)) th f)) S') : wp_X6_bestSet (a 0) d e (nI th) (b1 (!f)) S Q := by
  have hn := ok.1
  have hp2 := p2_6 hn
  unfold bstS at hQ
  unfold wp_X6_bestSet
  refine it_up (2 ^ v.1.1) (fun k x => ∃ fi se S', x = (a 0, d, e, nI th, b1 (!f), oN ((bsq (bsP (v.2.2 (ix d)) v.1 (v.2.2 (ix e)) th) (rkN v.1 th f) k).map (fun y => y.2)), fi, se, nI k, S') ∧ MI a v S' ∧ ∀ y, bsq (bsP (v.2.2 (ix d)) v.1 (v.2.2 (ix e)) th) (rkN v.1 th f) k = some y → ∃ A B, fi = nI A ∧ se = nI B ∧ B < 1000 ∧ A < 1000 ∧ A * 1000 + B = y.1) ?_ _ ⟨0, 0, S, rfl, hM, fun y hy => by cases hy⟩
  rintro C k x hk ⟨fi, se, S', rfl, hM', hy⟩ hC
  simp only [L_X6_bestSet_13]
  refine ⟨hM'.1.1, ?_⟩
  rw [hM'.2.2.1, shl0 _ (by omega), nI_leI (by omega) (by omega)]
  refine ⟨fun e1 => ?_, fun e1 => ?_⟩
  · rw [show 2 ^ v.1.1 = k by omega] at hQ; exact hQ S' hM'
  · have hst := hC (by omega)
    have hk64 : k < 64 := by omega
    have hx := xor63 th hth
    have hand : k &&& (63 ^^^ th) < 64 := Nat.lt_of_le_of_lt Nat.and_le_left hk64
    obtain ⟨p1, p2⟩ := prN_I ok (k &&& (63 ^^^ th))
    have hpc := pcn_le k
    refine t_bits hk64 ⟨hM'.1.1, ?_⟩
    rw [nI_andnot k hk64 th hth]
    refine m_priceOf hM' hand ?_
    rw [p1]
    have main : ∀ A B, A < 1000 → B < 1000 → A * 1000 + B = rkN v.1 th f k → J_X6_bestSet_69 C Q (a 0) d e (nI th) (b1 (!f)) (oN ((bsq (bsP (v.2.2 (ix d)) v.1 (v.2.2 (ix e)) th) (rkN v.1 th f) k).map (fun y => y.2))) fi se (nI k) (nI A) (nI B) S' := fun A B hA hB hAB => by
      have yes : (∀ y, bsq (bsP (v.2.2 (ix d)) v.1 (v.2.2 (ix e)) th) (rkN v.1 th f) k = some y → rkN v.1 th f k < y.1) → J_X6_bestSet_104 C Q (a 0) d e (nI th) (b1 (!f)) (oN ((bsq (bsP (v.2.2 (ix d)) v.1 (v.2.2 (ix e)) th) (rkN v.1 th f) k).map (fun y => y.2))) fi se (nI k) (nI A) (nI B) (b1 true) S' := fun hb => by
        refine m_bs104 hM' hd he h1 h2 hl hk64 hth (fun S2 hM2 hno => hst _ ⟨fi, se, S2, ?_, hM2, fun y hy2 => hy y ?_⟩) (fun S2 hM2 hP _ => hst _ ⟨nI A, nI B, S2, ?_, hM2, fun y hy2 => ⟨A, B, rfl, rfl, hB, hA, ?_⟩⟩)
        · rw [bsq_f (fun w => hno ⟨w, rfl⟩)]
        · rw [bsq_f (fun w => hno ⟨w, rfl⟩)] at hy2; exact hy2
        · cases hc : bsq (bsP (v.2.2 (ix d)) v.1 (v.2.2 (ix e)) th) (rkN v.1 th f) k with
          | none => rw [bsq_t0 hP hc]; rfl
          | some y0 => rw [bsq_t1 hP hc (hb y0 hc)]; rfl
        · cases hc : bsq (bsP (v.2.2 (ix d)) v.1 (v.2.2 (ix e)) th) (rkN v.1 th f) k with
          | none => rw [bsq_t0 hP hc] at hy2; cases hy2; exact hAB
          | some y0 => rw [bsq_t1 hP hc (hb y0 hc)] at hy2; cases hy2; exact hAB
      have no : ∀ y0, bsq (bsP (v.2.2 (ix d)) v.1 (v.2.2 (ix e)) th) (rkN v.1 th f) k = some y0 → ¬ rkN v.1 th f k < y0.1 → J_X6_bestSet_104 C Q (a 0) d e (nI th) (b1 (!f)) (oN ((bsq (bsP (v.2.2 (ix d)) v.1 (v.2.2 (ix e)) th) (rkN v.1 th f) k).map (fun y => y.2))) fi se (nI k) (nI A) (nI B) (b1 false) S' := fun y0 hc hb => by
        have same : bsq (bsP (v.2.2 (ix d)) v.1 (v.2.2 (ix e)) th) (rkN v.1 th f) (k + 1) = bsq (bsP (v.2.2 (ix d)) v.1 (v.2.2 (ix e)) th) (rkN v.1 th f) k := by
          by_cases hP : bsP (v.2.2 (ix d)) v.1 (v.2.2 (ix e)) th k = true
          · rw [bsq_t2 hP hc hb, hc]
          · exact bsq_f hP
        refine m_bs104 hM' hd he h1 h2 hl hk64 hth (fun S2 hM2 hno => hst _ ⟨fi, se, S2, ?_, hM2, fun y hy2 => hy y ?_⟩) (fun S2 hM2 hP z => by cases z)
        · rw [same]
        · rw [same] at hy2; exact hy2
      simp only [J_X6_bestSet_69, J_X6_bestSet_99, J_X6_bestSet_103]
      cases hc : bsq (bsP (v.2.2 (ix d)) v.1 (v.2.2 (ix e)) th) (rkN v.1 th f) k with
      | none =>
        rw [hc] at yes
        exact ⟨fun _ => yes (fun y z => by cases z), fun z => absurd rfl z⟩
      | some y0 =>
        rw [hc] at yes no
        have hy0 := bsq_lt hc
        obtain ⟨A0, B0, rfl, rfl, hB0, hA0, hAB0⟩ := hy y0 hc
        have hne : ¬ (oN (Option.map (fun y => y.2) (some y0)) = -4) := fun z => by
          have z2 : nI y0.2 = -4 := z
          have z3 : ¬ nI y0.2 < 0 := nI_pos (by omega)
          rw [z2] at z3
          exact z3 (by decide)
        refine ⟨fun z => absurd z hne, fun _ => ?_⟩
        rw [nI_ltI (by omega) (by omega), nI_eq (by omega) (by omega), nI_leI (by omega) (by omega)]
        refine ⟨fun c1 => yes (fun y z => by cases z; omega), fun c1 => ⟨fun c2 => no y0 rfl (by omega), fun c2 => ⟨fun c3 => no y0 rfl (by omega), fun c3 => yes (fun y z => by cases z; omega)⟩⟩⟩
    cases f with
    | true =>
      simp only [J_X6_bestSet_55]
      exact ⟨fun _ => ⟨fun _ => main _ _ (by omega) p2 rfl, fun z => absurd rfl z⟩, fun z => absurd rfl z⟩
    | false =>
      simp only [J_X6_bestSet_55]
      exact ⟨fun z => absurd z (by decide), fun _ => ⟨fun z => absurd z (by decide), fun _ => main _ _ p2 (by omega) rfl⟩⟩
theorem lsN_0 {e : ASh} (h : lsN e = 0) : e.1 = 2 ∧ isLs e := by
  unfold lsN rwN at h
  by_cases c : e.1 = 2 ∧ e.2.2.2.1 = 1
  · rw [if_pos c] at h
    by_cases c2 : isLs e
    · exact ⟨c.1, c2⟩
    · rw [if_neg c2] at h; exact absurd h (by decide)
  · rw [if_neg c] at h
    by_cases c2 : e.1 = 0
    · rw [if_pos c2] at h; exact absurd h (by decide)
    · rw [if_neg c2] at h; exact absurd h (by decide)
theorem m_list {a : Nat → Nat} {v : AS} {S : Hp} {d e : Int32} {Q : Int32 → Hp → Prop} (hM : MI a v S) (ok : AOk v) (hQ : ∀ S', MI a v S' → Q (sp_list v d e) S') : wp_X6_list (a 0) d e S Q := by
  have k0 := hM.1.1
  unfold sp_list onSc at hQ
  unfold wp_X6_list
  rw [e_mSh]
  refine br0 (fun hd => ?_) (fun hd => ?_)
  · rw [if_pos hd] at hQ
    obtain ⟨h8, hdI⟩ := isSh_nI hd
    rw [e_mSh]
    refine br1 (fun he => ⟨k0, ?_⟩) (fun he => ?_)
    · rw [if_pos he] at hQ
      refine t_noScale hM hd (bz0 (scN_0 (hM.2.1.2.2 _ h8).1) (fun h1 => ⟨k0, ?_⟩) (fun h1 => ⟨k0, ?_⟩))
      · rw [if_pos h1] at hQ
        exact t_noScale hM hd (hQ _ hM)
      · rw [if_neg h1] at hQ
        refine m_noList hM he ⟨fun z => ⟨k0, ?_⟩, fun z => ⟨k0, m_noList hM he ?_⟩⟩
        · rw [if_pos z] at hQ
          have hl := lsN_0 z
          exact m_bestSet (th := 0) (f := true) hM ok.1 hd he (Decidable.not_not.mp h1) hl.1 hl.2 (by decide) hQ
        · rw [if_neg z] at hQ; exact hQ S hM
    · rw [if_neg he] at hQ; exact hQ S hM
  · rw [if_neg hd] at hQ; exact hQ S hM
theorem m_cheapest {a : Nat → Nat} {v : AS} {S : Hp} {d e x w : Int32} {Q : Int32 → Hp → Prop} (hM : MI a v S) (ok : AOk v) (hQ : ∀ S', MI a v S' → Q (sp_cheap v d e x w) S') : wp_X6_cheapest (a 0) d e x w S Q := by
  have k0 := hM.1.1
  have hn := ok.1.1
  have h2 := p2_6 hn
  have h2p := p2_pos v.1.1
  unfold sp_cheap onSc at hQ
  unfold wp_X6_cheapest
  rw [e_mSh]
  refine br0 (fun hd => ?_) (fun hd => ?_)
  · rw [if_pos hd] at hQ
    obtain ⟨h8, hdI⟩ := isSh_nI hd
    rw [e_mSh]
    refine br0 (fun he => ⟨k0, ?_⟩) (fun he => ?_)
    · rw [if_pos he] at hQ
      rw [hM.2.2.1, shl1 _ (by omega), e_isInL (lo := 0) (hi := ((2 ^ v.1.1 - 1 : Nat) : Int)) rfl (nI_toInt (by omega))]
      refine br0 (fun hx => ?_) (fun hx => ?_)
      · rw [if_pos ⟨hx.1, by omega⟩] at hQ
        have hxI : x = nI (ix x) := p_nat hx.1
        have hx64 : ix x < 64 := by unfold ix; omega
        rw [e_isInL (lo := 0) (hi := 1) rfl rfl]
        refine br1 (fun hw => ⟨k0, ?_⟩) (fun hw => ?_)
        · rw [if_pos hw] at hQ
          refine t_noScale hM hd (bz0 (scN_0 (hM.2.1.2.2 _ h8).1) (fun h1 => ⟨k0, ?_⟩) (fun h1 => ⟨k0, ?_⟩))
          · rw [if_pos h1] at hQ
            exact t_noScale hM hd (hQ _ hM)
          · rw [if_neg h1] at hQ
            refine m_noList hM he ⟨fun z => ⟨k0, ?_⟩, fun z => ⟨k0, m_noList hM he ?_⟩⟩
            · rw [if_pos z] at hQ
              have hl := lsN_0 z
              rw [hxI]
              refine m_bestSet (th := ix x) (f := false) hM ok.1 hd he (Decidable.not_not.mp h1) hl.1 hl.2 hx64 (fun S' hM' => ?_)
              replace hQ := hQ S' hM'
              cases hb : bstS (v.2.2 (ix d)) v.1 (v.2.2 (ix e)) (ix x) false with
              | none =>
                rw [hb] at hQ
                exact ⟨fun _ => hQ, fun zz => absurd rfl zz⟩
              | some m =>
                rw [hb] at hQ
                have hm := bstS_lt hb
                have hne : ¬ (nI m = -4) := fun z2 => by
                  have z3 : ¬ nI m < 0 := nI_pos (by omega)
                  rw [z2] at z3
                  exact z3 (by decide)
                refine ⟨fun zz => absurd zz hne, fun _ => ⟨fun e3 => ⟨hM'.1.1, ?_⟩, fun e3 => ?_⟩⟩
                · have hand : m &&& (63 ^^^ ix x) < 64 := Nat.lt_of_le_of_lt Nat.and_le_left (by omega)
                  show wp_X6_priceOf (a 0) (nI m &&& (nI (ix x) ^^^ (-1 : Int32))) S' _
                  rw [nI_andnot m (by omega) _ hx64]
                  refine m_priceOf hM' hand ?_
                  unfold chN at hQ
                  simp only [if_neg e3] at hQ
                  exact hQ
                · unfold chN at hQ
                  simp only [if_pos e3] at hQ
                  exact hQ
            · rw [if_neg z] at hQ; exact hQ S hM
        · rw [if_neg hw] at hQ; exact hQ S hM
      · rw [if_neg (fun w => hx ⟨w.1, by have := w.2; omega⟩)] at hQ; exact hQ S hM
    · rw [if_neg he] at hQ; exact hQ S hM
  · rw [if_neg hd] at hQ; exact hQ S hM
