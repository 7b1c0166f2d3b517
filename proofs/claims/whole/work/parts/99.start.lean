/-! the law, from its entry -/
def S00 : Hp := (fun _ => 0, fun _ _ => 0, fun _ _ => none, fun _ => 0, fun _ _ => 0, fun _ _ => none)
theorem GG.zero {D : va_G} {κ : Nat → ClassId} {A : Nat → Prop} {H : Heap} : GG D κ A S00 H := fun a e h => by
  have : cO κ S00 a = none := rfl
  rw [this] at h
  cases h
theorem A0.new (e q : Nat) : A0 e q (nO S00 q e) (fun _ => none) := ⟨if_pos rfl, fun _ => if_pos rfl, fun _ => if_pos rfl⟩
theorem GG.off2 {D : va_G} {κ : Nat → ClassId} {A B : Nat → Prop} {S : Hp} {H H1 : Heap} {locs : List Loc} (h : GG D κ A S H) (hS : va_S B H H1 locs) (hd : ∀ q e, cO κ S q = some e → ¬ B q) : GG D κ A S H1 := fun a e he => ⟨(h a e he).1.kept (hS.2.1 a (h a e he).1.lt (hd a e he)), (h a e he).2⟩
theorem va_S.step {A B : Nat → Prop} {H0 H H1 : Heap} (h : va_S A H0 H []) (h1 : va_S B H H1 []) (hB : ∀ q, B q → A q) : va_S A H0 H1 [] := ⟨Nat.le_trans h.1 h1.1, fun q z n => (h1.2.1 q (Nat.lt_of_lt_of_le z h.1) (fun w => n (hB q w))).trans (h.2.1 q z n), fun _ hl => nomatch hl⟩
theorem s_str {own tx : String} {k : Nat} {args : Array Value} {s : State} {cur : Nat} (hc : s.vm.findClass own = some cur) (h : (Cond.stringRef own k tx).before args s = true) : ∃ sa, vk_R own k tx sa s := by
  obtain ⟨kk, cf, i, a, -, -, -, -, -, hev⟩ := Cond.stringRef_spec hc h
  exact ⟨a, vk_R.of h hev⟩
set_option maxHeartbeats 4000000 in
set_option maxRecDepth 100000 in
theorem whole_start {p : Program} {e : Env} {s : State} {m : MethodId} {below : List Frame} {meth : Method} {c : Code} (l : Launch) (hflags : l.flags = flags0) {b L : Nat} {xs : Nat → Int32} (hL : L ≤ 3072) (C0 : lw_At p s m meth c b L xs) : W p l e room_1 s m #[Value.ref b] below meth c s.heap [] 0 0 (lw_Z below #[Value.ref b] s) (entryFrame m ([Value.ref b] : List Value).toArray 8) := by
  obtain ⟨hx, hb, hr, hml, hown, hts, hscr, hbl, hlocks, hgv⟩ := C0
  have hb : c.code = cL_law := hb
  have hown : s.vm.findClass RL = some m.cls := hown
  have hnt : l.stackTraces = false := by
    unfold Launch.stackTraces
    rw [hflags]
    decide +kernel
  have hfl := flat_of_before _ hgv
  have htl : ∀ w ∈ wsL_law, w.before #[Value.ref b] s = true := fun w h => hts w (wsL_law_in w h)
  obtain ⟨c0, iS0, hKn0⟩ := u_known (C := RX0) (T := TX0) (N := 5) (n := 5) hts inX0 (hts (.instantiable RX0 5) (by decide +kernel))
  obtain ⟨c1, iS1, hKn1⟩ := u_known (C := RX1) (T := TX1) (N := 2) (n := 2) hts inX1 (hts (.instantiable RX1 2) (by decide +kernel))
  obtain ⟨c2, iS2, hKn2⟩ := u_known (C := RX2) (T := TX2) (N := 2) (n := 2) hts inX2 (hts (.instantiable RX2 2) (by decide +kernel))
  obtain ⟨c3, iS3, hKn3⟩ := u_known (C := RX3) (T := TX3) (N := 3) (n := 3) hts inX3 (hts (.instantiable RX3 3) (by decide +kernel))
  obtain ⟨c4, iS4, hKn4⟩ := u_known (C := RX4) (T := TX4) (N := 3) (n := 3) hts inX4 (hts (.instantiable RX4 3) (by decide +kernel))
  obtain ⟨c5, iS5, hKn5⟩ := u_known (C := RX5) (T := TX5) (N := 13) (n := 13) hts inX5 (hts (.instantiable RX5 13) (by decide +kernel))
  obtain ⟨c6, iS6, hKn6⟩ := u_known (C := RX6) (T := TX6) (N := 32) (n := 32) hts inX6 (hts (.instantiable RX6 32) (by decide +kernel))
  obtain ⟨D, hKc⟩ : ∃ D : va_G, ∀ (k : Nat) (q : vw_C), vwCl[k]? = some q → u_Kn s q.1 q.2.1 q.2.2 (D.1 k) (D.2 k) := by
    refine ⟨(fun k => match k with | 0 => c0 | 1 => c1 | 2 => c2 | 3 => c3 | 4 => c4 | 5 => c5 | _ => c6, fun k => match k with | 0 => iS0 | 1 => iS1 | 2 => iS2 | 3 => iS3 | 4 => iS4 | 5 => iS5 | _ => iS6), ?_⟩
    intro k q hq
    match k, hq with
    | 0, hq => cases hq; exact hKn0
    | 1, hq => cases hq; exact hKn1
    | 2, hq => cases hq; exact hKn2
    | 3, hq => cases hq; exact hKn3
    | 4, hq => cases hq; exact hKn4
    | 5, hq => cases hq; exact hKn5
    | 6, hq => cases hq; exact hKn6
    | k + 7, hq => cases hq
  have a2 : va_AO "FourStones$Row" s := va_AO.of (hts (.arrayOver (.object "FourStones$Row")) (by decide +kernel))
  have a3 : va_AO "FourStones$Scale" s := va_AO.of (hts (.arrayOver (.object "FourStones$Scale")) (by decide +kernel))
  obtain ⟨κ, hKk⟩ : ∃ κ : Nat → ClassId, ∀ (k : Nat) (q : ClassId × FieldType), (TYS κ)[k]? = some q → ArrOfT s q.1 q.2 ∧ va_RA s q.1 q.2 := by
    obtain ⟨d0, k0, p0, u0, v0, w0⟩ := Cond.arrayClass_spec (hts (.arrayClass .int) (by decide +kernel))
    obtain ⟨d1, k1, p1, u1, v1, w1⟩ := Cond.arrayClass_spec (hts (.arrayClass .boolean) (by decide +kernel))
    obtain ⟨p2, d2, k2, u2, -, v2, w2, x2⟩ := Cond.arrayOver_spec (va_AO.use (A := #[Value.ref b]) a2)
    obtain ⟨p3, d3, k3, u3, -, v3, w3, x3⟩ := Cond.arrayOver_spec (va_AO.use (A := #[Value.ref b]) a3)
    refine ⟨fun k => match k with | 0 => d0 | 1 => d1 | 2 => d2 | _ => d3, ?_⟩
    intro k q hq
    match k, hq with
    | 0, hq => cases hq; exact ⟨fun n z => ⟨fun k h => (by cases h), k0, v0, p0, w0⟩, u0⟩
    | 1, hq => cases hq; exact ⟨fun n z => ⟨fun k h => (by cases h), k1, v1, p1, w1⟩, u1⟩
    | 2, hq => cases hq; exact ⟨fun n z => ⟨fun k h => (by cases h), k2, v2, p2, w2⟩, k2, p2, v2, w2, u2, x2⟩
    | 3, hq => cases hq; exact ⟨fun n z => ⟨fun k h => (by cases h), k3, v3, p3, w3⟩, k3, p3, v3, w3, u3, x3⟩
    | k + 4, hq => cases hq
  have hK : KK D κ s := ⟨hKc, hKk⟩
  have hXX : XX s := ⟨a2, a3, va_Nw.of rfl (hts (.methodLinkNest RX5 9 yX4_init RX5) (by decide +kernel)), va_Nw.of rfl (hts (.methodLinkNest RX5 18 yX0_init RX5) (by decide +kernel)), va_Nw.of rfl (hts (.methodLinkNest RX5 53 yX3_init RX5) (by decide +kernel)), va_Nw.of rfl (hts (.methodLinkNest RX3 11 yX4_init RX5) (by decide +kernel))⟩
  have hf5 : s.vm.findClass RX5 = some c5 := hKn5.2.1
  have hE : EV (fun q => s.heap.size ≤ q) s := by
    refine ⟨⟨vx_Zqof (hts (.laysStatic Bundle.tN "UNASSIGNED_STACK" Bundle.steD) (by decide +kernel)) (hts (.initialized Bundle.tN) (by decide +kernel)) (hfl (.isRef (.static Bundle.tN "UNASSIGNED_STACK" Bundle.steD)) (by decide +kernel)) (fun a h => Nat.not_le.mpr h), vx_Zqof (hts (.laysStatic Bundle.tN "SUPPRESSED_SENTINEL" Bundle.listD) (by decide +kernel)) (hts (.initialized Bundle.tN) (by decide +kernel)) (hfl (.isRef (.static Bundle.tN "SUPPRESSED_SENTINEL" Bundle.listD)) (by decide +kernel)) (fun a h => Nat.not_le.mpr h)⟩, ?_, ?_, ?_, ?_, ?_, ?_⟩
    · exact ⟨va_Nc.of (hfl (.not (.castable nIAE nUOE)) (by decide +kernel)), va_Nc.of (hfl (.not (.castable nISE nUOE)) (by decide +kernel)), va_Nc.of (hfl (.not (.castable nISE nIAE)) (by decide +kernel))⟩
    · exact ⟨xC.of (hts (.castable nUOE nUOE) (by decide +kernel)), xC.of (hts (.castable nIAE nIAE) (by decide +kernel)), xC.of (hts (.castable nISE nISE) (by decide +kernel))⟩
    · exact ⟨xD.of (hts (.declares (yI nRTE)) (by decide +kernel)), xD.of (hts (.declares (yI nEXC)) (by decide +kernel)), xD.of (hts (.declares (yI Bundle.tN)) (by decide +kernel))⟩
    · exact ⟨xD.of (hts (.declares (yS nRTE)) (by decide +kernel)), xD.of (hts (.declares (yS nEXC)) (by decide +kernel)), xD.of (hts (.declares (yS Bundle.tN)) (by decide +kernel))⟩
    · exact s_str hf5 (hts (.stringRef RX5 235 "no such shelf") (by decide +kernel))
    · exact s_str hf5 (hts (.stringRef RX5 242 "no row, or no such place") (by decide +kernel))
  have hA : ∀ q : Nat, s.heap.size ≤ q → (fun q : Nat => s.heap.size ≤ q) q := fun _ h => h
  have hS : va_S (fun q : Nat => s.heap.size ≤ q) s.heap s.heap [] := va_S.rf
  have hl := lv_entry ([.ref b]) (n := 8) (Nat.le_of_ble_eq_true rfl)
  rw [lg_entry_eq]
  generalize (lg_sl ([.ref b]) ++ List.replicate (8 - (lg_sl ([.ref b])).length) Slot.unset).toArray = ls at hl ⊢
  have hl : lv_has ls 8 [(0, .ref b)] := hl
  -- the class
  refine gg_new (S := S00) (κ := κ) (ci := 5) (C := RX5) (T := TX5) (N := 13) (k := 6) hx hb hts inX5 tyX5 tyX5_ok hown (hts (.classLink RL 8 RX5) (by decide +kernel)) (hts (.instantiable RX5 13) (by decide +kernel)) (hts (.initialized RX5) (by decide +kernel)) hK GG.zero hS hA rfl [.null, .null, .null, .int 0, .null, .null, .null, .null, .null, .null, .null, .null, .null] (by decide +kernel) (fun q => (kc_6 (S := nO _ q 6) ((h_kd_nO _ _ _ _).trans (if_pos rfl))).trans (by simp [h_gI_nO, h_gR_nO, va_rf])) (Nat.le_of_ble_eq_true rfl) (Nat.le_of_ble_eq_true rfl) dL_law_0 (fun q1 H _ hG hS => ?_)
  refine lv_dup hx hb dL_law_3 rfl ?_
  refine gc_v (va_runI (As := []) (rest := [.ref q1]) ⟨hx, hb, hml, hown, htl⟩ (c_X5_init l D κ _ (nO S00 q1 6) q1 (fun S9 => ∃ a : Nat → Nat, a 0 = q1 ∧ XI a v0 S9) (x_init (A0.new 6 q1) (fun a S9 h1 h2 => ⟨a, h1, h2⟩))) (cwI 0 htl gL_law_X5_init rfl rfl rfl (hts (.initialized RX5) (by decide +kernel)) (hts (.methodLink RL 17 yX5_init) (by decide +kernel)) (hts (.instanceMethod yX5_init) (by decide +kernel)) rfl (by decide +kernel) ⟨Nat.le_of_ble_eq_true rfl, Nat.le_of_ble_eq_true rfl⟩) (pg_S hK hXX hG (pg_A hA hS)) rfl rfl hl.1 rfl (lv_room (Nat.le_of_ble_eq_true rfl)) dL_law_4 ⟨Nat.le_of_ble_eq_true rfl, Nat.le_of_ble_eq_true rfl⟩) hS (fun S1 H locs h hG1 hS => ?_)
  obtain ⟨a, ha, hX⟩ := h
  refine lv_astore_n (lv' := [(1, .ref q1), (0, .ref b)]) hx hb dL_law_7 rfl hl (by decide) rfl (fun ls hl => ?_)
  refine va_forget (fun q hq => hS.2.2 q hq) ?_
  have hS : va_S (fun q : Nat => s.heap.size ≤ q) s.heap H [] := ⟨hS.1, hS.2.1, fun _ h => nomatch h⟩
  -- the reference
  obtain ⟨A2, hA2⟩ : ∃ A2 : Nat → Prop, A2 = fun q => s.heap.size ≤ q ∧ cO κ S1 q = none := ⟨_, rfl⟩
  have hA2s : ∀ q : Nat, H.size ≤ q → A2 q := fun q hq => by
    rw [hA2]
    refine ⟨Nat.le_trans hS.1 hq, ?_⟩
    cases e : cO κ S1 q with
    | none => rfl
    | some z => exact absurd (hG1 q z e).1.lt (Nat.not_lt.mpr hq)
  have hA2h : ∀ q, A2 q → s.heap.size ≤ q := fun q h => by
    rw [hA2] at h
    exact h.1
  have hA2c : ∀ q e, cO κ S1 q = some e → ¬ A2 q := fun q e h1 h2 => by
    rw [hA2] at h2
    rw [h2.2] at h1
    cases h1
  refine gg_new (S := S00) (κ := κ) (A := A2) (H0 := H) (ci := 6) (C := RX6) (T := TX6) (N := 32) (k := 7) hx hb hts inX6 tyX6 tyX6_ok hown (hts (.classLink RL 18 RX6) (by decide +kernel)) (hts (.instantiable RX6 32) (by decide +kernel)) (hts (.initialized RX6) (by decide +kernel)) hK GG.zero va_S.rf hA2s rfl [.int 0, .null, .null, .int 0, .int 0, .null, .null, .int 0, .int 0, .int 0, .int 0, .int 0, .int 0, .null, .int 0, .int 0, .null, .null, .int 0, .int 0, .int 0, .int 0, .int 0, .int 0, .null, .null, .null, .null, .null, .null, .null, .int 0] (by decide +kernel) (fun q => (kc_7 (S := nO _ q 7) ((h_kd_nO _ _ _ _).trans (if_pos rfl))).trans (by simp [h_gI_nO, h_gR_nO, va_rf])) (Nat.le_of_ble_eq_true rfl) (Nat.le_of_ble_eq_true rfl) dL_law_8 (fun q2 H2 _ hG hS2 => ?_)
  replace hG1 := hG1.off2 hS2 hA2c
  replace hS := hS.step hS2 hA2h
  replace hA2s : ∀ q : Nat, H2.size ≤ q → A2 q := fun q hq => hA2s q (Nat.le_trans hS2.1 hq)
  clear hS2
  refine lv_dup hx hb dL_law_11 rfl ?_
  refine va_callv (va_runI (As := []) (rest := [.ref q2]) ⟨hx, hb, hml, hown, htl⟩ (c_X6_init l D κ A2 (nO S00 q2 7) q2 (fun S9 => ∃ a : Nat → Nat, a 0 = q2 ∧ MI a v0 S9) (m_init (A0.new 7 q2) (fun a S9 h1 h2 => ⟨a, h1, h2⟩))) (cwI 0 htl gL_law_X6_init rfl rfl rfl (hts (.initialized RX6) (by decide +kernel)) (hts (.methodLink RL 20 yX6_init) (by decide +kernel)) (hts (.instanceMethod yX6_init) (by decide +kernel)) rfl (by decide +kernel) ⟨Nat.le_of_ble_eq_true rfl, Nat.le_of_ble_eq_true rfl⟩) (pg_S hK hXX hG hA2s) rfl rfl hl.1 rfl (lv_room (Nat.le_of_ble_eq_true rfl)) dL_law_12 ⟨Nat.le_of_ble_eq_true rfl, Nat.le_of_ble_eq_true rfl⟩) hS (fun q _ h => hA2h q h) hA2h (fun S2 t H3 locs ht _ h hB hz hk hS => ?_)
  obtain ⟨b', hb', hM⟩ := h
  have hG2 : GG D κ A2 S2 H3 := ht ▸ hB.1
  replace hG1 : GG D κ (fun q => s.heap.size ≤ q) S1 H3 := fun q e he => ⟨(hG1 q e he).1.kept (hk q (hG1 q e he).1.lt (hA2c q e he)), (hG1 q e he).2⟩
  clear hB hk ht hz
  refine lv_astore_n (lv' := [(2, .ref q2), (1, .ref q1), (0, .ref b)]) hx hb dL_law_15 rfl hl (by decide) rfl (fun ls hl => ?_)
  refine va_forget (fun q hq => hS.2.2 q hq) ?_
  have hS : va_S (fun q : Nat => s.heap.size ≤ q) s.heap H3 [] := ⟨hS.1, hS.2.1, fun _ h => nomatch h⟩
  -- the reader's cell
  refine lv_iconst (v := (1 : Int32)) hx hb dL_law_16 (by decide) ?_
  have hK0 : va_K D vwCl [] s := ⟨hKc, fun k q h => (by cases h)⟩
  have hP0 : va_P D vwCl [] H3 := fun k q h => by cases h
  have hD0 : va_D (fun q : Nat => H3.size ≤ q) [] := ⟨fun i j p q h => (by cases h), fun k q h => (by cases h)⟩
  refine va_newa (A := fun q : Nat => H3.size ≤ q) (H0 := H3) hx hb (atype := .long) (ty := .long) (hts (.arrayClass .long) (by decide +kernel)) rfl hK0 hP0 hD0 va_S.rf (fun _ h => h) (N' := 1) (a0 := (1, .inr (.inl (fun _ => 0)))) (fun cA => by rw [vp_cell_l]; rfl) (by decide) rfl (by decide) (Nat.le_of_ble_eq_true rfl) (Nat.le_of_ble_eq_true rfl) dL_law_17 (fun out cL H4 hKo hP4 hD4 hS4 => ?_)
  have hKo : OKL D cL s := hKo
  have hO : OW D cL out (fun _ => 0) H4 := hP4
  have hout : H3.size ≤ out := hD4.2 0 _ rfl
  have hne : ∀ q : Nat, q < H3.size → q ≠ out := fun q h1 h2 => by omega
  have hW : W2 D κ cL s.heap.size out (fun _ => 0) S1 S2 H4 := by
    refine ⟨fun q e he => ?_, fun q e he => ?_, hO, Nat.le_trans hS.1 hout⟩
    · have h1 := hG1 q e he
      refine ⟨h1.1.kept (hS4.2.1 q h1.1.lt (Nat.not_le.mpr h1.1.lt)), h1.2, ?_, hne q h1.1.lt⟩
      cases e2 : cO κ S2 q with
      | none => rfl
      | some z => exact absurd (hG2 q z e2).2 (hA2c q e he)
    · have h1 := hG2 q e he
      refine ⟨h1.1.kept (hS4.2.1 q h1.1.lt (Nat.not_le.mpr h1.1.lt)), hA2h q h1.2, ?_, hne q h1.1.lt⟩
      have h2 := h1.2
      rw [hA2] at h2
      exact h2.2
  replace hS := hS.step hS4 (fun q h => Nat.le_trans hS.1 h)
  refine lv_astore_n (lv' := [(3, .ref out), (2, .ref q2), (1, .ref q1), (0, .ref b)]) hx hb dL_law_19 rfl hl (by decide) rfl (fun ls hl => ?_)
  refine lv_iconst (v := (0 : Int32)) hx hb dL_law_20 (by decide) ?_
  refine lv_istore (lv' := [(4, .int 0), (3, .ref out), (2, .ref q2), (1, .ref q1), (0, .ref b)]) hx hb dL_law_21 hl (by decide) rfl (fun ls hl => ?_)
  refine W.widen (k := 60) (n := 20000) (by omega) (by omega) ?_
  exact law_loop ⟨hx, hb, hml, hown, htl, hscr, hbl, hK, hXX, hKo, hE, hnt, hL⟩ hr hlocks (L + 1) 0 (by omega) (by omega) a b' v0 S1 S2 _ H4 [] ls ⟨ha, hb', hX, hM, hW, hS⟩ (lv_sub hl [0, 4, 3, 2, 1] rfl)
