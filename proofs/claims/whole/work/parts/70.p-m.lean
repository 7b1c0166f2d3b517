/-! two customers -/
def cuP (t : ASt) (x y : Int32) (N m : Nat) : Bool := (hitQ plS t x (m / N) && hitQ plS t y (m % N)) && decide (usd t.1 (m / N) &&& usd t.1 (m % N) = 0)
def cuR (t : ASt) (x y w : Int32) (N : Nat) : Int32 := if w.toInt = 0 then nI (cnt (cuP t x y N) (N * N)) else oN ((fsq (cuP t x y N) (N * N)).map (fun m => if w.toInt = 1 then m / N else m % N))
def sp_customers (v : AS) (x y w : Int32) : Int32 := if 1 ≤ x.toInt ∧ x.toInt ≤ 999 then (if 1 ≤ y.toInt ∧ y.toInt ≤ 999 then (if 0 ≤ w.toInt ∧ w.toInt ≤ 2 then cuR v.1 x y w (3 ^ v.1.1) else -1) else -1) else -1
theorem cnt_skip {P : Nat → Bool} {k : Nat} : ∀ n, (∀ j, j < n → ¬ P (k + j) = true) → cnt P (k + n) = cnt P k
  | 0, _ => rfl
  | n + 1, h => by
    rw [← Nat.add_assoc, cnt, if_neg (h n (by omega)), cnt_skip n (fun j hj => h j (by omega))]
    rfl
theorem fsq_skip {P : Nat → Bool} {k : Nat} : ∀ n, (∀ j, j < n → ¬ P (k + j) = true) → fsq P (k + n) = fsq P k
  | 0, _ => rfl
  | n + 1, h => by
    rw [← Nat.add_assoc]
    conv => lhs; unfold fsq
    rw [fsq_skip n (fun j hj => h j (by omega))]
    cases hf : fsq P k with
    | none => exact if_neg (h n (by omega))
    | some r => rfl
theorem fsq_t {P : Nat → Bool} {n : Nat} (h : P n = true) (e : fsq P n = none) : fsq P (n + 1) = some n := by
  conv => lhs; unfold fsq
  rw [e]
  exact if_pos h
theorem fsq_f {P : Nat → Bool} {n : Nat} (h : ¬ P n = true) : fsq P (n + 1) = fsq P n := fsq_skip (k := n) 1 (fun j hj => by rw [show n + j = n by omega]; exact h)
theorem cnt_f {P : Nat → Bool} {n : Nat} (h : ¬ P n = true) : cnt P (n + 1) = cnt P n := cnt_skip (k := n) 1 (fun j hj => by rw [show n + j = n by omega]; exact h)
theorem cnt_t {P : Nat → Bool} {n : Nat} (h : P n = true) : cnt P (n + 1) = cnt P n + 1 := by rw [cnt, if_pos h]
theorem cnt_mono (P : Nat → Bool) {k : Nat} : ∀ n, cnt P k ≤ cnt P (k + n)
  | 0 => Nat.le_refl _
  | n + 1 => by
    have := cnt_mono P (k := k) n
    rw [← Nat.add_assoc]
    conv => rhs; unfold cnt
    omega
theorem cnt_same {P : Nat → Bool} {k m : Nat} (hkm : k ≤ m) (h : cnt P k = cnt P m) : ∀ j, k ≤ j → j < m → ¬ P j = true := by
  intro j h1 h2 hp
  have a1 := cnt_mono P (k := k) (j - k)
  have a2 := cnt_mono P (k := j + 1) (m - (j + 1))
  rw [show k + (j - k) = j by omega] at a1
  rw [show j + 1 + (m - (j + 1)) = m by omega, cnt_t hp] at a2
  omega
theorem dm_1 {N k j : Nat} (h : j < N) : (k * N + j) / N = k ∧ (k * N + j) % N = j := by
  refine ⟨?_, ?_⟩
  · rw [Nat.mul_comm, Nat.mul_add_div (by omega), Nat.div_eq_of_lt h, Nat.add_zero]
  · rw [Nat.mul_comm, Nat.mul_add_mod, Nat.mod_eq_of_lt h]
theorem sq_bd {k N : Nat} (h : k ≤ N) (h3 : N ≤ 729) : k * N ≤ 531441 := Nat.mul_le_mul (by omega : k ≤ 729) h3
theorem cuP_at {t : ASt} {x y : Int32} {N k j : Nat} (h : j < N) : cuP t x y N (k * N + j) = ((hitQ plS t x k && hitQ plS t y j) && decide (usd t.1 k &&& usd t.1 j = 0)) := by
  unfold cuP
  rw [(dm_1 h).1, (dm_1 h).2]
theorem hit_pl (t : ASt) (w : Int32) (q : Nat) : hitQ plS t w q = true ↔ rgt t.2.1 t.1 q - lft t.2.1 t.1 q = w := by
  unfold hitQ
  rw [wg_pl]
  unfold mayQ mayB plS
  simp
def hdr (P : Nat → Bool) (S : Hp) (b n : Nat) : Prop := ∀ j, j < n → P j = true → gA S b (cnt P j) = nI j
theorem x_collect {a : Nat → Nat} {v : AS} {S : Hp} {w : Int32} {Q : Int32 → Hp → Prop} (hX : XI a v S) (h : ∀ S', XI a v S' → hdr (hitQ plS v.1 w) S' (a 29) (3 ^ v.1.1) → Q (nI (cnt (hitQ plS v.1 w) (3 ^ v.1.1))) S') : wp_X5_collectOtherLyings (a 0) w S Q := by
  have hn6 := hX.2.1.1.1
  have h3 := p3_6 hn6
  unfold wp_X5_collectOtherLyings
  refine it_up (3 ^ v.1.1) (fun k x => ∃ S', x = (a 0, w, nI (cnt (hitQ plS v.1 w) k), nI k, S') ∧ XI a v S' ∧ hdr (hitQ plS v.1 w) S' (a 29) k) ?_ _ ⟨S, rfl, hX, fun j hj => absurd hj (Nat.not_lt_zero j)⟩
  rintro C k x hk ⟨S', rfl, hX', hT⟩ hC
  simp only [L_X5_collectOtherLyings_4, J_X5_collectOtherLyings_41, forall_eq]
  refine ⟨hX'.1.k0, _, hX'.1.r51_0, hX'.1.k4, ?_⟩
  rw [hX'.2.2.2.1.1, nI_leI (by omega) (by omega)]
  refine ⟨fun e => ?_, fun e => ⟨hX'.1.k0, _, hX'.1.r58_0, hX'.1.k0, _, hX'.1.r51_0, hX'.1.k22, x_hits hX'.1.ly hX'.2.2.2.1 hX'.1.pl hX'.2.1.1 (by omega) ?_⟩⟩
  · have hkk : k = 3 ^ v.1.1 := by omega
    subst hkk
    exact h S' hX' hT
  · have hc := cnt_le (hitQ plS v.1 w) k
    refine br0 (fun e2 => ⟨hX'.1.k0, _, hX'.1.r62_0, hX'.1.k29, by rw [hX'.1.l29]; exact vp_in_nI (by omega) (by decide), ?_⟩) (fun e2 => hC (by omega) _ ⟨S', ?_, hX', fun j hj hj2 => ?_⟩)
    · rw [nI_clamp (by omega)]
      refine hC (by omega) _ ⟨_, by rw [nI_1, nI_1, cnt_t e2], hX'.fa (i := 29) (by decide) (by decide) ((FA.rf _ _).set _ _), fun j hj hj2 => ?_⟩
      rw [gA_sA]
      by_cases e3 : j = k
      · subst e3; rw [upd_s]
      · have hm := cnt_mono (hitQ plS v.1 w) (k := j + 1) (k - (j + 1))
        rw [show j + 1 + (k - (j + 1)) = k by omega, cnt_t hj2] at hm
        rw [upd_n _ _ (by omega)]
        exact hT j (by omega) hj2
    · rw [nI_1, cnt_f e2]
    · by_cases e3 : j = k
      · subst e3; exact absurd hj2 e2
      · exact hT j (by omega) hj2
theorem cnt_find {P : Nat → Bool} {i : Nat} : ∀ n, i < cnt P n → ∃ j, j < n ∧ P j = true ∧ cnt P j = i
  | 0, h => absurd h (Nat.not_lt_zero i)
  | n + 1, h => by
    by_cases e : P n = true
    · rw [cnt_t e] at h
      by_cases e2 : i = cnt P n
      · exact ⟨n, by omega, e, e2.symm⟩
      · obtain ⟨j, h1, h2, h4⟩ := cnt_find (P := P) (i := i) n (by omega)
        exact ⟨j, by omega, h2, h4⟩
    · rw [cnt_f e] at h
      obtain ⟨j, h1, h2, h4⟩ := cnt_find n h
      exact ⟨j, by omega, h2, h4⟩
theorem x_customers {a : Nat → Nat} {v : AS} {S : Hp} {x y w : Int32} {Q : Int32 → Hp → Prop} (hX : XI a v S) (hQ : ∀ S', XI a v S' → Q (sp_customers v x y w) S') : wp_X5_customers (a 0) x y w S Q := by
  have hn6 := hX.2.1.1.1
  have h3 := p3_6 hn6
  have h3p := p3_pos v.1.1
  unfold sp_customers at hQ
  unfold wp_X5_customers
  rw [e_canBeHad]
  refine br0 (fun hx => ?_) (fun hx => ?_)
  · rw [if_pos hx] at hQ
    rw [e_canBeHad]
    refine br0 (fun hy => ?_) (fun hy => ?_)
    · rw [if_pos hy] at hQ
      rw [p_lt, p_le, show (0 : Int32).toInt = 0 from rfl, show (2 : Int32).toInt = 2 from rfl]
      refine ⟨fun h1 => ?_, fun h1 => ⟨fun h2 => ⟨hX.1.k0, x_collect hX ?_⟩, fun h2 => ?_⟩⟩
      · rw [if_neg (by omega)] at hQ; exact hQ S hX
      · intro S1 hX1 hT
        rw [if_pos (by omega)] at hQ
        unfold cuR at hQ
        have w0 : w = 0 ↔ w.toInt = 0 := p_eq _ _
        have w1 : w = 1 ↔ w.toInt = 1 := p_eq _ _
        generalize hN : 3 ^ v.1.1 = N at h3 h3p hQ hT
        have hXN : gI S1 4 (a 4) = nI N := by rw [hX1.2.2.2.1.1, hN]
        have hc := cnt_le (hitQ plS v.1 y) N
        refine it_up N (fun k u => u = (a 0, x, w, nI (cnt (hitQ plS v.1 y) N), nI (cnt (cuP v.1 x y N) (k * N)), nI k, S1) ∧ (0 < w.toInt → fsq (cuP v.1 x y N) (k * N) = none)) ?_ _ ⟨by rw [Nat.zero_mul]; rfl, fun _ => by rw [Nat.zero_mul]; rfl⟩
        rintro C k u hk ⟨rfl, hf⟩ hC
        have hkN := sq_bd hk h3
        simp only [L_X5_customers_38, J_X5_customers_141, forall_eq]
        refine ⟨hX1.1.k0, _, hX1.1.r51_0, hX1.1.k4, ?_⟩
        rw [hXN, nI_leI (by omega) (by omega)]
        refine ⟨fun e => ?_, fun e => ⟨hX1.1.k0, _, hX1.1.r58_0, hX1.1.k0, _, hX1.1.r51_0, hX1.1.k22, x_hits hX1.1.ly hX1.2.2.2.1 hX1.1.pl hX1.2.1.1 (by omega) ?_⟩⟩
        · have hkk : k = N := by omega
          subst hkk
          have h := hQ S1 hX1
          refine ⟨fun e2 => ?_, fun e2 => ?_⟩
          · rw [if_neg (fun z => e2 (w0.mpr z)), hf (by rw [w0] at e2; omega)] at h; exact h
          · rw [if_pos (w0.mp e2)] at h; exact h
        · have hst := hC (by omega)
          have hs1 : (k + 1) * N = k * N + N := Nat.succ_mul k N
          refine br1 (fun e2 => ?_) (fun e2 => ?_)
          · refine it_up (cnt (hitQ plS v.1 y) N) (fun i u => ∃ j, j ≤ N ∧ cnt (hitQ plS v.1 y) j = i ∧ u = (a 0, x, w, nI (cnt (hitQ plS v.1 y) N), nI (cnt (cuP v.1 x y N) (k * N + j)), nI k, nI i, S1) ∧ (0 < w.toInt → fsq (cuP v.1 x y N) (k * N + j) = none)) ?_ _ ⟨0, by omega, rfl, rfl, hf⟩
            rintro C2 i u hi ⟨j, hj, hji, rfl, hf2⟩ hC2
            have hkj : k * N + j ≤ 531441 + 729 := by omega
            simp only [L_X5_customers_73, J_X5_customers_135, J_X5_customers_141, forall_eq]
            rw [nI_leI (by omega) (by omega)]
            have skip : ∀ m, j ≤ m → m ≤ N → cnt (hitQ plS v.1 y) m = i → cnt (cuP v.1 x y N) (k * N + m) = cnt (cuP v.1 x y N) (k * N + j) ∧ fsq (cuP v.1 x y N) (k * N + m) = fsq (cuP v.1 x y N) (k * N + j) := by
              intro m h1 h2 h4
              have no : ∀ r, r < m - j → ¬ cuP v.1 x y N (k * N + j + r) = true := by
                intro r hr hp
                rw [Nat.add_assoc, cuP_at (by omega)] at hp
                have := cnt_same h1 (hji.trans h4.symm) (j + r) (by omega) (by omega)
                rw [Bool.and_eq_true, Bool.and_eq_true] at hp
                exact this hp.1.2
              have s1 := cnt_skip (P := cuP v.1 x y N) (k := k * N + j) (m - j) no
              have s2 := fsq_skip (P := cuP v.1 x y N) (k := k * N + j) (m - j) no
              rw [show k * N + j + (m - j) = k * N + m by omega] at s1 s2
              exact ⟨s1, s2⟩
            refine ⟨fun e3 => ?_, fun e3 => ?_⟩
            · obtain ⟨s1, s2⟩ := skip N hj (Nat.le_refl _) (by omega)
              refine hst _ ⟨?_, fun z => ?_⟩
              · rw [nI_1, hs1, s1]
              · rw [hs1, s2]; exact hf2 z
            · obtain ⟨m, m1, m2, m3⟩ := cnt_find (P := hitQ plS v.1 y) (i := i) N (by omega)
              have hjm : j ≤ m := by
                rcases Nat.lt_or_ge m j with hlt | hge
                · have hm := cnt_mono (hitQ plS v.1 y) (k := m + 1) (j - (m + 1))
                  rw [show m + 1 + (j - (m + 1)) = j by omega, cnt_t m2] at hm
                  omega
                · exact hge
              obtain ⟨s1, s2⟩ := skip m hjm (by omega) m3
              have hTm : gA S1 (a 29) (nI i).toNatClampNeg = nI m := by rw [nI_clamp (by omega), ← m3]; exact hT m m1 m2
              have i29 : vp_in (nI i) (ln S1 (a 29)) := by rw [hX1.1.l29]; exact vp_in_nI (by omega) (by decide)
              have hmq : m < 3 ^ v.1.1 := by omega
              have hkq : k < 3 ^ v.1.1 := by omega
              refine ⟨hX1.1.k0, _, hX1.1.r51_0, hX1.1.k4, x_notOff hX1.1.ly hX1.2.2.2.1 hn6 hkq ⟨hX1.1.k0, _, hX1.1.r51_0, hX1.1.k0, _, hX1.1.r62_0, hX1.1.k29, i29, hX1.1.k4, ?_⟩⟩
              rw [hTm]
              refine x_notOff hX1.1.ly hX1.2.2.2.1 hn6 hmq ?_
              have hu := usd_64 (n := v.1.1) (q := k) hn6
              have hua : usd v.1.1 k &&& usd v.1.1 m < 64 := Nat.lt_of_le_of_lt Nat.and_le_left hu
              have hP : cuP v.1 x y N (k * N + m) = decide (usd v.1.1 k &&& usd v.1.1 m = 0) := by
                rw [cuP_at (by omega), e2, m2]; rfl
              rw [nI_and, show (0 : Int32) = nI 0 from rfl, nI_eq (by omega) (by decide), p_le, show (nI 0).toInt = 0 from rfl]
              refine ⟨fun e4 => ⟨fun e5 => ?_, fun e5 => ⟨fun e6 => ⟨hX1.1.k0, _, hX1.1.r62_0, hX1.1.k29, i29, ?_⟩, fun e6 => ?_⟩⟩, fun e4 => ?_⟩
              · refine hC2 (by omega) _ ⟨m + 1, by omega, by rw [cnt_t m2, m3], ?_, fun z => absurd e5 (by omega)⟩
                rw [nI_1, nI_1, ← Nat.add_assoc, cnt_t (by rw [hP]; exact decide_eq_true e4), s1]
              · have h := hQ S1 hX1
                have hfs : fsq (cuP v.1 x y N) (N * N) = some (k * N + m) := by
                  refine fsq_up (k := k * N + m + 1) _ ?_ (fsq_t (by rw [hP]; exact decide_eq_true e4) (by rw [s2]; exact hf2 (by omega)))
                  have : (k + 1) * N ≤ N * N := Nat.mul_le_mul_right N (by omega)
                  omega
                rw [if_neg (by omega), hfs] at h
                rw [hTm]
                have h5 : (fun m => if w.toInt = 1 then m / N else m % N) (k * N + m) = m := by
                  show (if w.toInt = 1 then (k * N + m) / N else (k * N + m) % N) = m
                  rw [if_neg (fun z => e6 (w1.mpr z)), (dm_1 (by omega)).2]
                simp only [Option.map_some, oN, h5] at h
                exact h
              · have h := hQ S1 hX1
                have hfs : fsq (cuP v.1 x y N) (N * N) = some (k * N + m) := by
                  refine fsq_up (k := k * N + m + 1) _ ?_ (fsq_t (by rw [hP]; exact decide_eq_true e4) (by rw [s2]; exact hf2 (by omega)))
                  have : (k + 1) * N ≤ N * N := Nat.mul_le_mul_right N (by omega)
                  omega
                rw [if_neg (by omega), hfs] at h
                have h5 : (fun m => if w.toInt = 1 then m / N else m % N) (k * N + m) = k := by
                  show (if w.toInt = 1 then (k * N + m) / N else (k * N + m) % N) = k
                  rw [if_pos (w1.mp e6), (dm_1 (by omega)).1]
                simp only [Option.map_some, oN, h5] at h
                exact h
              · have no : ¬ cuP v.1 x y N (k * N + m) = true := by rw [hP]; exact fun z => e4 (of_decide_eq_true z)
                refine hC2 (by omega) _ ⟨m + 1, by omega, by rw [cnt_t m2, m3], ?_, fun z => ?_⟩
                · rw [nI_1, ← Nat.add_assoc, cnt_f no, s1]
                · rw [← Nat.add_assoc, fsq_f no, s2]; exact hf2 z
          · have no : ∀ j, j < N → ¬ cuP v.1 x y N (k * N + j) = true := fun j hj z => by
              rw [cuP_at hj, Bool.and_eq_true, Bool.and_eq_true] at z
              exact e2 z.1.1
            refine hst _ ⟨?_, fun z => ?_⟩
            · rw [nI_1, hs1, cnt_skip N no]
            · rw [hs1, fsq_skip N no]; exact hf z
      · rw [if_neg (by omega)] at hQ; exact hQ S hX
    · rw [if_neg hy] at hQ; exact hQ S hX
  · rw [if_neg hx] at hQ; exact hQ S hX
-- the reference
def ofD (w : Int32) (N : Nat) (m : Nat) : Nat := if w.toInt = 1 then m / N else m % N
theorem m_customers {a : Nat → Nat} {v : AS} {S : Hp} {x y w : Int32} {Q : Int32 → Hp → Prop} (hM : MI a v S) (hQ : ∀ S', MI a v S' → Q (sp_customers v x y w) S') : wp_X6_customers (a 0) x y w S Q := by
  have hn6 := hM.2.1.1.1
  have h3 := p3_6 hn6
  have h3p := p3_pos v.1.1
  unfold sp_customers at hQ
  unfold wp_X6_customers
  rw [e_isInL (lo := 1) (hi := 999) rfl rfl]
  refine br0 (fun hx => ?_) (fun hx => ?_)
  · rw [if_pos hx] at hQ
    rw [e_isInL (lo := 1) (hi := 999) rfl rfl]
    refine br0 (fun hy => ?_) (fun hy => ?_)
    · rw [if_pos hy] at hQ
      rw [e_isInL (lo := 0) (hi := 2) rfl rfl]
      refine br1 (fun hw => ?_) (fun hw => ?_)
      · rw [if_pos hw] at hQ
        unfold cuR at hQ
        have w0 : w = 0 ↔ w.toInt = 0 := p_eq _ _
        have w1 : w = 1 ↔ w.toInt = 1 := p_eq _ _
        generalize hN : 3 ^ v.1.1 = N at h3 h3p hQ
        have pw : ∀ {S' : Hp} {Q' : Int32 → Hp → Prop}, MI a v S' → Q' (nI N) S' → wp_X6_power (gI S' 70 (a 0)) S' Q' := fun hM' h => t_mpow hM' (by rw [hN]; exact h)
        refine it_up N (fun k u => ∃ S', u = (a 0, x, y, w, nI (cnt (cuP v.1 x y N) (k * N)), oN ((fsq (cuP v.1 x y N) (k * N)).map (fun m => m / N)), oN ((fsq (cuP v.1 x y N) (k * N)).map (fun m => m % N)), nI k, S') ∧ MI a v S') ?_ _ ⟨S, by rw [Nat.zero_mul]; rfl, hM⟩
        rintro C k u hk ⟨S', rfl, hM'⟩ hC
        have hkN := sq_bd hk h3
        simp only [L_X6_customers_47, J_X6_customers_165, forall_eq]
        refine ⟨hM'.1.1, pw hM' ?_⟩
        rw [nI_leI (by omega) (by omega)]
        refine ⟨fun e => ?_, fun e => ⟨hM'.1.1, t_mlook hM' (by omega) ?_⟩⟩
        · have hkk : k = N := by omega
          subst hkk
          have h := hQ S' hM'
          refine ⟨fun e2 => ?_, fun e2 => ?_⟩
          · rw [if_neg (fun z => e2 (w0.mpr z))] at h
            refine ⟨fun e3 => ?_, fun e3 => ?_⟩
            · rw [show (fun m => if w.toInt = 1 then m / k else m % k) = (fun m => m % k) from funext fun m => if_neg (fun z => e3 (w1.mpr z))] at h; exact h
            · rw [show (fun m => if w.toInt = 1 then m / k else m % k) = (fun m => m / k) from funext fun m => if_pos (w1.mp e3)] at h; exact h
          · rw [if_pos (w0.mp e2)] at h; exact h
        · intro S1 c g77 g78 g79 g80 g81 g82
          have hM1 := hM'.sc c
          have hst := hC (by omega)
          have hs1 : (k + 1) * N = k * N + N := Nat.succ_mul k N
          rw [g77, g78, g82]
          have hit : (rgt v.1.2.1 v.1.1 k - lft v.1.2.1 v.1.1 k = x) ↔ hitQ plS v.1 x k = true := (hit_pl v.1 x k).symm
          refine ⟨hM1.1.1, hM1.1.1, fun e2 => ?_, fun e2 => ⟨hM1.1.1, ?_⟩⟩
          · rw [hit] at e2
            have no : ∀ j, j < N → ¬ cuP v.1 x y N (k * N + j) = true := fun j hj z => by
              rw [cuP_at hj, Bool.and_eq_true, Bool.and_eq_true] at z
              exact e2 z.1.1
            exact hst _ ⟨S1, by rw [nI_1, hs1, cnt_skip N no, fsq_skip N no], hM1⟩
          · rw [hit] at e2
            refine it_up N (fun j u => ∃ S', u = (a 0, x, y, w, nI (cnt (cuP v.1 x y N) (k * N + j)), oN ((fsq (cuP v.1 x y N) (k * N + j)).map (fun m => m / N)), oN ((fsq (cuP v.1 x y N) (k * N + j)).map (fun m => m % N)), nI k, nI (usd v.1.1 k), nI j, S') ∧ MI a v S') ?_ _ ⟨S1, rfl, hM1⟩
            rintro C2 j u hj ⟨S2, rfl, hM2⟩ hC2
            simp only [L_X6_customers_87, J_X6_customers_140, J_X6_customers_154, J_X6_customers_159, J_X6_customers_165, forall_eq]
            refine ⟨hM2.1.1, pw hM2 ?_⟩
            rw [nI_leI (by omega) (by omega)]
            refine ⟨fun e3 => ?_, fun e3 => ⟨hM2.1.1, t_mlook hM2 (by omega) ?_⟩⟩
            · rw [show j = N by omega]
              exact hst _ ⟨S2, by rw [nI_1, hs1], hM2⟩
            · intro S3 c3 g77 g78 g79 g80 g81 g82
              have hM3 := hM2.sc c3
              have hst2 := hC2 (by omega)
              have hu := usd_64 (n := v.1.1) (q := j) hn6
              have hua : usd v.1.1 j &&& usd v.1.1 k < 64 := Nat.lt_of_le_of_lt Nat.and_le_left hu
              have hit2 : (rgt v.1.2.1 v.1.1 j - lft v.1.2.1 v.1.1 j = y) ↔ hitQ plS v.1 y j = true := (hit_pl v.1 y j).symm
              have hP : cuP v.1 x y N (k * N + j) = (hitQ plS v.1 y j && decide (usd v.1.1 j &&& usd v.1.1 k = 0)) := by
                rw [cuP_at (by omega), e2, Nat.and_comm (usd v.1.1 j)]; rfl
              have skip : ¬ cuP v.1 x y N (k * N + j) = true → C2 (a 0, x, y, w, nI (cnt (cuP v.1 x y N) (k * N + j)), oN ((fsq (cuP v.1 x y N) (k * N + j)).map (fun m => m / N)), oN ((fsq (cuP v.1 x y N) (k * N + j)).map (fun m => m % N)), nI k, nI (usd v.1.1 k), nI j + 1, S3) := fun z => hst2 _ ⟨S3, by rw [nI_1, ← Nat.add_assoc, cnt_f z, fsq_f z], hM3⟩
              rw [g77, g78, g82]
              refine ⟨hM3.1.1, hM3.1.1, fun e4 => skip (fun z => ?_), fun e4 => ⟨hM3.1.1, ?_⟩⟩
              · rw [hit2] at e4
                rw [hP, Bool.and_eq_true] at z; exact e4 z.1
              · rw [hit2] at e4
                rw [nI_and, show (0 : Int32) = nI 0 from rfl, nI_eq (by omega) (by decide)]
                refine ⟨fun e5 => skip (fun z => ?_), fun e5 => ?_⟩
                · rw [hP, Bool.and_eq_true] at z; exact e5 (of_decide_eq_true z.2)
                · have hc := cnt_le (cuP v.1 x y N) (k * N + j)
                  have hcf := cnt_fsq (cuP v.1 x y N) (k * N + j)
                  have hyes : cuP v.1 x y N (k * N + j) = true := by rw [hP, e4]; exact decide_eq_true e5
                  rw [nI_eq (by omega) (by decide), hcf]
                  cases hf : fsq (cuP v.1 x y N) (k * N + j) with
                  | none =>
                    refine ⟨fun z => absurd rfl z, fun _ => ⟨fun z => absurd rfl z, fun _ => hst2 _ ⟨S3, ?_, hM3⟩⟩⟩
                    rw [nI_1, nI_1, ← Nat.add_assoc, cnt_t hyes, fsq_t hyes hf]
                    simp only [Option.map_some, oN, (dm_1 (show j < N by omega)).1, (dm_1 (show j < N by omega)).2]
                  | some r =>
                    refine ⟨fun _ => ⟨fun _ => hst2 _ ⟨S3, ?_, hM3⟩, fun z => by cases z⟩, fun z => by cases z⟩
                    rw [nI_1, nI_1, ← Nat.add_assoc, cnt_t hyes, fsq_up (k := k * N + j) (q := r) (k * N + j + 1) (by omega) hf]
      · rw [if_neg hw] at hQ; exact hQ S hM
    · rw [if_neg hy] at hQ; exact hQ S hM
  · rw [if_neg hx] at hQ; exact hQ S hM
