set_option maxHeartbeats 4000000 in
set_option maxRecDepth 100000 in
theorem c_X6_reach (l : Launch) (D : va_G) (κ : Nat → ClassId) (A : Nat → Prop) (S : Hp) (a0 : Nat) (x1 : Int32) (Q : Int32 → Hp → Prop) (h : wp_X6_reach a0 x1 S Q) : Met l yX6_reach wsX6_reach ({ frames := 4, cells := 0, slots := 0, locals := 192 } : Room) (PG D κ A S [.ref a0, .int x1]) (va_Qi Q (BG D κ A) A) 0 0 A := by
  refine Met.ofW (cc := cX6_reach) (maxL := 2) (ret := (some .int)) (by decide) rfl ?_
  intro p e s m args below meth c s₁ B hml hv
  obtain ⟨hargs, hA, hG, hK, hX⟩ := hv
  have hx := B.exec
  have hb := B.bytes
  have hr := B.returns
  have hts := atoms_spec (ws := wsX6_reach) B.pre
  have hown : s.vm.findClass RX6 = some m.cls := findClass_of_methodNamed B.named
  have hlocks := B.notSynchronized
  subst hargs
  clear B
  have hS : va_S A s.heap s.heap [] := va_S.rf
  have hl := lv_entry ([.ref a0, .int x1]) (n := 2) (Nat.le_of_ble_eq_true rfl)
  rw [lg_entry_eq]
  generalize (lg_sl ([.ref a0, .int x1]) ++ List.replicate (2 - (lg_sl ([.ref a0, .int x1])).length) Slot.unset).toArray = ls at hl ⊢
  have hl : lv_has ls 2 [(0, .ref a0), (1, .int x1)] := hl
  have hG : GG D κ A S s.heap := hG
  refine lv_iload_n hx hb dX6_reach_0 rfl (lv_at hl 1 rfl) ?_
  refine gc_i (va_runS (As := [.int x1]) (rest := []) ⟨hx, hb, hml, hown, hts⟩ (c_X6_isShelf l D κ A S x1 _ h) (va_cwS 1 hts gX6_reach_X6_isShelf rfl rfl rfl (by decide +kernel) ⟨Nat.le_of_ble_eq_true rfl, Nat.le_of_ble_eq_true rfl⟩) (pg_S hK hX hG (pg_A hA hS)) rfl rfl hl.1 rfl (lv_room (Nat.le_of_ble_eq_true rfl)) dX6_reach_1 ⟨Nat.le_of_ble_eq_true rfl, Nat.le_of_ble_eq_true rfl⟩) hS (fun z3 S2 H locs1 h hG hS => ?_)
  refine lv_if_ne (tgt := 9) hx hb dX6_reach_4 rfl (fun hc => ?_) (fun hc => ?_)
  · replace h := h.1 hc
    refine lv_aload_n hx hb dX6_reach_9 rfl (lv_at hl 0 rfl) ?_
    refine lv_iload_n hx hb dX6_reach_10 rfl (lv_at hl 1 rfl) ?_
    have hk := h.1
    replace h := h.2
    refine gc_i (va_runV (As := [.int x1]) (rest := []) ⟨hx, hb, hml, hown, hts⟩ (c_X6_noScale l D κ A S2 a0 x1 _ h) (cwV 1 hts gX6_reach_X6_noScale rfl rfl rfl (by decide +kernel) ⟨Nat.le_of_ble_eq_true rfl, Nat.le_of_ble_eq_true rfl⟩) (pg_V (q := (RX6, TX6, 32)) hK hX hG (pg_A hA hS) (kc_7 hk) rfl) rfl rfl hl.1 rfl (lv_room (Nat.le_of_ble_eq_true rfl)) dX6_reach_11 ⟨Nat.le_of_ble_eq_true rfl, Nat.le_of_ble_eq_true rfl⟩) hS (fun z6 S5 H locs4 h hG hS => ?_)
    refine lv_if_eq (tgt := 23) hx hb dX6_reach_14 rfl (fun hc => ?_) (fun hc => ?_)
    · replace h := h.1 hc
      refine lv_aload_n hx hb dX6_reach_23 rfl (lv_at hl 0 rfl) ?_
      refine lv_iload_n hx hb dX6_reach_24 rfl (lv_at hl 1 rfl) ?_
      refine lv_bipush (v := (63 : Int32)) hx hb dX6_reach_25 (by decide) ?_
      have hk := h.1
      replace h := h.2
      refine gc_v (va_runV (As := [.int x1, .int (63 : Int32)]) (rest := []) ⟨hx, hb, hml, hown, hts⟩ (c_X6_have l D κ A S5 a0 x1 (63 : Int32) _ h) (cwV 2 hts gX6_reach_X6_have rfl rfl rfl (by decide +kernel) ⟨Nat.le_of_ble_eq_true rfl, Nat.le_of_ble_eq_true rfl⟩) (pg_V (q := (RX6, TX6, 32)) hK hX hG (pg_A hA hS) (kc_7 hk) rfl) rfl rfl hl.1 rfl (lv_room (Nat.le_of_ble_eq_true rfl)) dX6_reach_27 ⟨Nat.le_of_ble_eq_true rfl, Nat.le_of_ble_eq_true rfl⟩) hS (fun S8 H locs7 h hG hS => ?_)
      refine lv_aload_n hx hb dX6_reach_30 rfl (lv_at hl 0 rfl) ?_
      have hk := h.1
      replace h := h.2
      refine gc_i (va_runV (As := []) (rest := []) ⟨hx, hb, hml, hown, hts⟩ (c_X6_reached l D κ A S8 a0 _ h) (cwV 0 hts gX6_reach_X6_reached rfl rfl rfl (by decide +kernel) ⟨Nat.le_of_ble_eq_true rfl, Nat.le_of_ble_eq_true rfl⟩) (pg_V (q := (RX6, TX6, 32)) hK hX hG (pg_A hA hS) (kc_7 hk) rfl) rfl rfl hl.1 rfl (lv_room (Nat.le_of_ble_eq_true rfl)) dX6_reach_31 ⟨Nat.le_of_ble_eq_true rfl, Nat.le_of_ble_eq_true rfl⟩) hS (fun z11 S10 H locs9 h hG hS => ?_)
      exact W.iret hx hb hr (gr_i h hG hK hX hS) hS.2.2 dX6_reach_34
    · replace h := h.2 hc
      refine lv_aload_n hx hb dX6_reach_17 rfl (lv_at hl 0 rfl) ?_
      refine lv_iload_n hx hb dX6_reach_18 rfl (lv_at hl 1 rfl) ?_
      have hk := h.1
      replace h := h.2
      refine gc_i (va_runV (As := [.int x1]) (rest := []) ⟨hx, hb, hml, hown, hts⟩ (c_X6_noScale l D κ A S5 a0 x1 _ h) (cwV 1 hts gX6_reach_X6_noScale rfl rfl rfl (by decide +kernel) ⟨Nat.le_of_ble_eq_true rfl, Nat.le_of_ble_eq_true rfl⟩) (pg_V (q := (RX6, TX6, 32)) hK hX hG (pg_A hA hS) (kc_7 hk) rfl) rfl rfl hl.1 rfl (lv_room (Nat.le_of_ble_eq_true rfl)) dX6_reach_19 ⟨Nat.le_of_ble_eq_true rfl, Nat.le_of_ble_eq_true rfl⟩) hS (fun z14 S13 H locs12 h hG hS => ?_)
      exact W.iret hx hb hr (gr_i h hG hK hX hS) hS.2.2 dX6_reach_22
  · replace h := h.2 hc
    refine lv_iconst (v := (-1 : Int32)) hx hb dX6_reach_7 (by decide) ?_
    exact W.iret hx hb hr (gr_i h hG hK hX hS) hS.2.2 dX6_reach_8
set_option maxHeartbeats 4000000 in
set_option maxRecDepth 100000 in
theorem c_X6_hole (l : Launch) (D : va_G) (κ : Nat → ClassId) (A : Nat → Prop) (S : Hp) (a0 : Nat) (x1 : Int32) (Q : Int32 → Hp → Prop) (h : wp_X6_hole a0 x1 S Q) : Met l yX6_hole wsX6_hole ({ frames := 4, cells := 0, slots := 0, locals := 192 } : Room) (PG D κ A S [.ref a0, .int x1]) (va_Qi Q (BG D κ A) A) 0 0 A := by
  refine Met.ofW (cc := cX6_hole) (maxL := 2) (ret := (some .int)) (by decide) rfl ?_
  intro p e s m args below meth c s₁ B hml hv
  obtain ⟨hargs, hA, hG, hK, hX⟩ := hv
  have hx := B.exec
  have hb := B.bytes
  have hr := B.returns
  have hts := atoms_spec (ws := wsX6_hole) B.pre
  have hown : s.vm.findClass RX6 = some m.cls := findClass_of_methodNamed B.named
  have hlocks := B.notSynchronized
  subst hargs
  clear B
  have hS : va_S A s.heap s.heap [] := va_S.rf
  have hl := lv_entry ([.ref a0, .int x1]) (n := 2) (Nat.le_of_ble_eq_true rfl)
  rw [lg_entry_eq]
  generalize (lg_sl ([.ref a0, .int x1]) ++ List.replicate (2 - (lg_sl ([.ref a0, .int x1])).length) Slot.unset).toArray = ls at hl ⊢
  have hl : lv_has ls 2 [(0, .ref a0), (1, .int x1)] := hl
  have hG : GG D κ A S s.heap := hG
  refine lv_iload_n hx hb dX6_hole_0 rfl (lv_at hl 1 rfl) ?_
  refine gc_i (va_runS (As := [.int x1]) (rest := []) ⟨hx, hb, hml, hown, hts⟩ (c_X6_isShelf l D κ A S x1 _ h) (va_cwS 1 hts gX6_hole_X6_isShelf rfl rfl rfl (by decide +kernel) ⟨Nat.le_of_ble_eq_true rfl, Nat.le_of_ble_eq_true rfl⟩) (pg_S hK hX hG (pg_A hA hS)) rfl rfl hl.1 rfl (lv_room (Nat.le_of_ble_eq_true rfl)) dX6_hole_1 ⟨Nat.le_of_ble_eq_true rfl, Nat.le_of_ble_eq_true rfl⟩) hS (fun z3 S2 H locs1 h hG hS => ?_)
  refine lv_if_ne (tgt := 9) hx hb dX6_hole_4 rfl (fun hc => ?_) (fun hc => ?_)
  · replace h := h.1 hc
    refine lv_aload_n hx hb dX6_hole_9 rfl (lv_at hl 0 rfl) ?_
    refine lv_iload_n hx hb dX6_hole_10 rfl (lv_at hl 1 rfl) ?_
    have hk := h.1
    replace h := h.2
    refine gc_i (va_runV (As := [.int x1]) (rest := []) ⟨hx, hb, hml, hown, hts⟩ (c_X6_noScale l D κ A S2 a0 x1 _ h) (cwV 1 hts gX6_hole_X6_noScale rfl rfl rfl (by decide +kernel) ⟨Nat.le_of_ble_eq_true rfl, Nat.le_of_ble_eq_true rfl⟩) (pg_V (q := (RX6, TX6, 32)) hK hX hG (pg_A hA hS) (kc_7 hk) rfl) rfl rfl hl.1 rfl (lv_room (Nat.le_of_ble_eq_true rfl)) dX6_hole_11 ⟨Nat.le_of_ble_eq_true rfl, Nat.le_of_ble_eq_true rfl⟩) hS (fun z6 S5 H locs4 h hG hS => ?_)
    refine lv_if_eq (tgt := 23) hx hb dX6_hole_14 rfl (fun hc => ?_) (fun hc => ?_)
    · replace h := h.1 hc
      refine lv_aload_n hx hb dX6_hole_23 rfl (lv_at hl 0 rfl) ?_
      refine lv_iload_n hx hb dX6_hole_24 rfl (lv_at hl 1 rfl) ?_
      refine lv_bipush (v := (63 : Int32)) hx hb dX6_hole_25 (by decide) ?_
      have hk := h.1
      replace h := h.2
      refine gc_v (va_runV (As := [.int x1, .int (63 : Int32)]) (rest := []) ⟨hx, hb, hml, hown, hts⟩ (c_X6_have l D κ A S5 a0 x1 (63 : Int32) _ h) (cwV 2 hts gX6_hole_X6_have rfl rfl rfl (by decide +kernel) ⟨Nat.le_of_ble_eq_true rfl, Nat.le_of_ble_eq_true rfl⟩) (pg_V (q := (RX6, TX6, 32)) hK hX hG (pg_A hA hS) (kc_7 hk) rfl) rfl rfl hl.1 rfl (lv_room (Nat.le_of_ble_eq_true rfl)) dX6_hole_27 ⟨Nat.le_of_ble_eq_true rfl, Nat.le_of_ble_eq_true rfl⟩) hS (fun S8 H locs7 h hG hS => ?_)
      refine lv_aload_n hx hb dX6_hole_30 rfl (lv_at hl 0 rfl) ?_
      have hk := h.1
      replace h := h.2
      refine gc_i (va_runV (As := []) (rest := []) ⟨hx, hb, hml, hown, hts⟩ (c_X6_reached l D κ A S8 a0 _ h) (cwV 0 hts gX6_hole_X6_reached rfl rfl rfl (by decide +kernel) ⟨Nat.le_of_ble_eq_true rfl, Nat.le_of_ble_eq_true rfl⟩) (pg_V (q := (RX6, TX6, 32)) hK hX hG (pg_A hA hS) (kc_7 hk) rfl) rfl rfl hl.1 rfl (lv_room (Nat.le_of_ble_eq_true rfl)) dX6_hole_31 ⟨Nat.le_of_ble_eq_true rfl, Nat.le_of_ble_eq_true rfl⟩) hS (fun z11 S10 H locs9 h hG hS => ?_)
      refine lv_sipush (v := (999 : Int32)) hx hb dX6_hole_34 (by decide) ?_
      refine lv_icmp_ne (tgt := 45) hx hb dX6_hole_37 rfl (fun hc => ?_) (fun hc => ?_)
      · replace h := h.1 hc
        refine lv_aload_n hx hb dX6_hole_45 rfl (lv_at hl 0 rfl) ?_
        have hk := h.1
        replace h := h.2
        refine gc_i (va_runV (As := []) (rest := []) ⟨hx, hb, hml, hown, hts⟩ (c_X6_reached l D κ A S10 a0 _ h) (cwV 0 hts gX6_hole_X6_reached rfl rfl rfl (by decide +kernel) ⟨Nat.le_of_ble_eq_true rfl, Nat.le_of_ble_eq_true rfl⟩) (pg_V (q := (RX6, TX6, 32)) hK hX hG (pg_A hA hS) (kc_7 hk) rfl) rfl rfl hl.1 rfl (lv_room (Nat.le_of_ble_eq_true rfl)) dX6_hole_46 ⟨Nat.le_of_ble_eq_true rfl, Nat.le_of_ble_eq_true rfl⟩) hS (fun z14 S13 H locs12 h hG hS => ?_)
        refine lv_iconst (v := (1 : Int32)) hx hb dX6_hole_49 (by decide) ?_
        refine lv_iadd hx hb dX6_hole_50 ?_
        exact W.iret hx hb hr (gr_i h hG hK hX hS) hS.2.2 dX6_hole_51
      · replace h := h.2 hc
        refine lv_bipush (v := (-4 : Int32)) hx hb dX6_hole_40 (by decide) ?_
        refine lv_goto (tgt := 51) hx hb dX6_hole_42 rfl ?_
        exact W.iret hx hb hr (gr_i h hG hK hX hS) hS.2.2 dX6_hole_51
    · replace h := h.2 hc
      refine lv_aload_n hx hb dX6_hole_17 rfl (lv_at hl 0 rfl) ?_
      refine lv_iload_n hx hb dX6_hole_18 rfl (lv_at hl 1 rfl) ?_
      have hk := h.1
      replace h := h.2
      refine gc_i (va_runV (As := [.int x1]) (rest := []) ⟨hx, hb, hml, hown, hts⟩ (c_X6_noScale l D κ A S5 a0 x1 _ h) (cwV 1 hts gX6_hole_X6_noScale rfl rfl rfl (by decide +kernel) ⟨Nat.le_of_ble_eq_true rfl, Nat.le_of_ble_eq_true rfl⟩) (pg_V (q := (RX6, TX6, 32)) hK hX hG (pg_A hA hS) (kc_7 hk) rfl) rfl rfl hl.1 rfl (lv_room (Nat.le_of_ble_eq_true rfl)) dX6_hole_19 ⟨Nat.le_of_ble_eq_true rfl, Nat.le_of_ble_eq_true rfl⟩) hS (fun z17 S16 H locs15 h hG hS => ?_)
      exact W.iret hx hb hr (gr_i h hG hK hX hS) hS.2.2 dX6_hole_22
  · replace h := h.2 hc
    refine lv_iconst (v := (-1 : Int32)) hx hb dX6_hole_7 (by decide) ?_
    exact W.iret hx hb hr (gr_i h hG hK hX hS) hS.2.2 dX6_hole_8
set_option maxHeartbeats 4000000 in
set_option maxRecDepth 100000 in
theorem c_X6_noList (l : Launch) (D : va_G) (κ : Nat → ClassId) (A : Nat → Prop) (S : Hp) (a0 : Nat) (x1 : Int32) (Q : Int32 → Hp → Prop) (h : wp_X6_noList a0 x1 S Q) : Met l yX6_noList wsX6_noList ({ frames := 2, cells := 0, slots := 0, locals := 96 } : Room) (PG D κ A S [.ref a0, .int x1]) (va_Qi Q (BG D κ A) A) 0 0 A := by
  refine Met.ofW (cc := cX6_noList) (maxL := 4) (ret := (some .int)) (by decide) rfl ?_
  intro p e s m args below meth c s₁ B hml hv
  obtain ⟨hargs, hA, hG, hK, hX⟩ := hv
  have hx := B.exec
  have hb := B.bytes
  have hr := B.returns
  have hts := atoms_spec (ws := wsX6_noList) B.pre
  have hown : s.vm.findClass RX6 = some m.cls := findClass_of_methodNamed B.named
  have hlocks := B.notSynchronized
  subst hargs
  clear B
  have hS : va_S A s.heap s.heap [] := va_S.rf
  have hl := lv_entry ([.ref a0, .int x1]) (n := 4) (Nat.le_of_ble_eq_true rfl)
  rw [lg_entry_eq]
  generalize (lg_sl ([.ref a0, .int x1]) ++ List.replicate (4 - (lg_sl ([.ref a0, .int x1])).length) Slot.unset).toArray = ls at hl ⊢
  have hl : lv_has ls 4 [(0, .ref a0), (1, .int x1)] := hl
  have hG : GG D κ A S s.heap := hG
  have j_89 : ∀  (v2 : Int32) (S : Hp) (ls : Array Slot) (H : Heap) (locs : List Loc), lv_has ls 4 [(2, .int v2)] → GG D κ A S H → va_S A s.heap H locs → J_X6_noList_89  Q v2 S → W p l e ({ frames := 2, cells := 0, slots := 0, locals := 96 } : Room) s m ([.ref a0, .int x1] : List Value).toArray below meth c H locs 0 0 (MQ below (va_Qi Q (BG D κ A) A) ([.ref a0, .int x1] : List Value).toArray s 0 0 A) (F0 m 89 ls []) := by
    intro  v2 S ls H locs hl hG hS h
    unfold J_X6_noList_89 at h
    refine lv_iload_n hx hb dX6_noList_89 rfl (lv_at hl 0 rfl) ?_
    refine lv_if_eq (tgt := 97) hx hb dX6_noList_90 rfl (fun hc => ?_) (fun hc => ?_)
    · replace h := h.1 hc
      refine lv_bipush (v := (-13 : Int32)) hx hb dX6_noList_97 (by decide) ?_
      exact W.iret hx hb hr (gr_i h hG hK hX hS) hS.2.2 dX6_noList_99
    · replace h := h.2 hc
      refine lv_iconst (v := (0 : Int32)) hx hb dX6_noList_93 (by decide) ?_
      refine lv_goto (tgt := 99) hx hb dX6_noList_94 rfl ?_
      exact W.iret hx hb hr (gr_i h hG hK hX hS) hS.2.2 dX6_noList_99
  have k_50 : ∀  (n : Nat), ∀ (v0 : Nat) (v1 : Int32) (v2 : Int32) (v3 : Int32) (S : Hp) (ls : Array Slot) (H : Heap) (locs : List Loc), lv_has ls 4 [(0, .ref v0), (1, .int v1), (2, .int v2), (3, .int v3)] → GG D κ A S H → va_S A s.heap H locs → it (L_X6_noList_50  Q) n (v0, v1, v2, v3, S) → W p l e ({ frames := 2, cells := 0, slots := 0, locals := 96 } : Room) s m ([.ref a0, .int x1] : List Value).toArray below meth c H locs 0 0 (MQ below (va_Qi Q (BG D κ A) A) ([.ref a0, .int x1] : List Value).toArray s 0 0 A) (F0 m 50 ls []) := by
    intro  n
    induction n with
    | zero => intro v0 v1 v2 v3 S ls H locs hl hG hS h; exact False.elim h
    | succ n hC50 =>
      intro v0 v1 v2 v3 S ls H locs hl hG hS h
      replace h : L_X6_noList_50  Q (it (L_X6_noList_50  Q) n) (v0, v1, v2, v3, S) := h
      simp only [L_X6_noList_50] at h
      refine lv_iload_n hx hb dX6_noList_50 rfl (lv_at hl 3 rfl) ?_
      refine lv_aload_n hx hb dX6_noList_51 rfl (lv_at hl 0 rfl) ?_
      have hk := h.1
      replace h := h.2
      obtain ⟨r1, hr1, h⟩ := h
      refine gg_get (v := .ref r1) (ci := 6) (C := RX6) (T := TX6) (N := 32) hx hb hts (fun _ h => List.mem_cons_of_mem _ (List.mem_append_right _ (h))) hown hK hG (kc_7 hk) rfl 28 (by decide) (hts (.fieldLink RX6 44 "FourStonesModel" "size" "[I") (List.mem_of_getElem? (i := 3) rfl)) (fun _ h9 => h9) (congrArg (fun z => some (va_rf z)) hr1) dX6_noList_52 ?_
      refine lv_iload_n hx hb dX6_noList_55 rfl (lv_at hl 1 rfl) ?_
      have hk := h.1
      replace h := h.2
      have hi := h.1
      replace h := h.2
      refine gg_iald hx hb hK hG hk hi dX6_noList_56 ?_
      refine lv_icmp_ge (tgt := 89) hx hb dX6_noList_57 rfl (fun hc => ?_) (fun hc => ?_)
      · replace h := h.1 hc
        exact j_89  v2 S ls _ _ (lv_sub hl [2] rfl) hG hS h
      · replace h := h.2 hc
        refine lv_iload_n hx hb dX6_noList_60 rfl (lv_at hl 2 rfl) ?_
        refine lv_if_eq (tgt := 89) hx hb dX6_noList_61 rfl (fun hc => ?_) (fun hc => ?_)
        · replace h := h.1 hc
          exact j_89  v2 S ls _ _ (lv_sub hl [2] rfl) hG hS h
        · replace h := h.2 hc
          refine lv_aload_n hx hb dX6_noList_64 rfl (lv_at hl 0 rfl) ?_
          have hk := h.1
          replace h := h.2
          obtain ⟨r2, hr2, h⟩ := h
          refine gg_get (v := .ref r2) (ci := 6) (C := RX6) (T := TX6) (N := 32) hx hb hts (fun _ h => List.mem_cons_of_mem _ (List.mem_append_right _ (h))) hown hK hG (kc_7 hk) rfl 29 (by decide) (hts (.fieldLink RX6 47 "FourStonesModel" "items" "[I") (List.mem_of_getElem? (i := 4) rfl)) (fun _ h9 => h9) (congrArg (fun z => some (va_rf z)) hr2) dX6_noList_65 ?_
          refine lv_bipush (v := (100 : Int32)) hx hb dX6_noList_68 (by decide) ?_
          refine lv_iload_n hx hb dX6_noList_70 rfl (lv_at hl 1 rfl) ?_
          refine lv_imul hx hb dX6_noList_71 ?_
          refine lv_iload_n hx hb dX6_noList_72 rfl (lv_at hl 3 rfl) ?_
          refine lv_iadd hx hb dX6_noList_73 ?_
          have hk := h.1
          replace h := h.2
          have hi := h.1
          replace h := h.2
          refine gg_iald hx hb hK hG hk hi dX6_noList_74 ?_
          refine lv_iconst (v := (1 : Int32)) hx hb dX6_noList_75 (by decide) ?_
          refine lv_sipush (v := (999 : Int32)) hx hb dX6_noList_76 (by decide) ?_
          refine gc_i (va_runS (As := [.int (gA S r2 ((((100 : Int32) * v1) + v3)).toNatClampNeg), .int (1 : Int32), .int (999 : Int32)]) (rest := []) ⟨hx, hb, hml, hown, hts⟩ (c_X6_isIn l D κ A S (gA S r2 ((((100 : Int32) * v1) + v3)).toNatClampNeg) (1 : Int32) (999 : Int32) _ h) (va_cwS 3 hts gX6_noList_X6_isIn rfl rfl rfl (by decide +kernel) ⟨Nat.le_of_ble_eq_true rfl, Nat.le_of_ble_eq_true rfl⟩) (pg_S hK hX hG (pg_A hA hS)) rfl rfl hl.1 rfl (lv_room (Nat.le_of_ble_eq_true rfl)) dX6_noList_79 ⟨Nat.le_of_ble_eq_true rfl, Nat.le_of_ble_eq_true rfl⟩) hS (fun z5 S4 H locs3 h hG hS => ?_)
          refine lv_istore_n (lv' := [(2, .int z5), (0, .ref v0), (1, .int v1), (3, .int v3)]) hx hb dX6_noList_82 rfl hl (by decide) rfl (fun ls hl => ?_)
          obtain ⟨y6, ey6⟩ : ∃ z, z = v3 + (1 : Int32) := ⟨_, rfl⟩
          replace h := h y6 ey6
          refine lv_iinc (v := y6) (lv' := [(3, .int y6), (2, .int z5), (0, .ref v0), (1, .int v1)]) hx hb dX6_noList_83 hl (k := 3) rfl (by rw [ey6]; rfl) (by decide) rfl (fun ls hl => ?_)
          refine lv_goto (tgt := 50) hx hb dX6_noList_86 rfl ?_
          exact hC50 v0 v1 z5 y6 S4 ls _ _ (lv_sub hl [2, 3, 1, 0] rfl) hG hS h
  refine lv_aload_n hx hb dX6_noList_0 rfl (lv_at hl 0 rfl) ?_
  have hk := h.1
  replace h := h.2
  obtain ⟨r1, hr1, h⟩ := h
  refine gg_get (v := .ref r1) (ci := 6) (C := RX6) (T := TX6) (N := 32) hx hb hts (fun _ h => List.mem_cons_of_mem _ (List.mem_append_right _ (h))) hown hK hG (kc_7 hk) rfl 24 (by decide) (hts (.fieldLink RX6 32 "FourStonesModel" "holds" "[I") (List.mem_of_getElem? (i := 1) rfl)) (fun _ h9 => h9) (congrArg (fun z => some (va_rf z)) hr1) dX6_noList_1 ?_
  refine lv_iload_n hx hb dX6_noList_4 rfl (lv_at hl 1 rfl) ?_
  have hk := h.1
  replace h := h.2
  have hi := h.1
  replace h := h.2
  refine gg_iald hx hb hK hG hk hi dX6_noList_5 ?_
  refine lv_if_ne (tgt := 12) hx hb dX6_noList_6 rfl (fun hc => ?_) (fun hc => ?_)
  · replace h := h.1 hc
    refine lv_aload_n hx hb dX6_noList_12 rfl (lv_at hl 0 rfl) ?_
    have hk := h.1
    replace h := h.2
    obtain ⟨r2, hr2, h⟩ := h
    refine gg_get (v := .ref r2) (ci := 6) (C := RX6) (T := TX6) (N := 32) hx hb hts (fun _ h => List.mem_cons_of_mem _ (List.mem_append_right _ (h))) hown hK hG (kc_7 hk) rfl 24 (by decide) (hts (.fieldLink RX6 32 "FourStonesModel" "holds" "[I") (List.mem_of_getElem? (i := 1) rfl)) (fun _ h9 => h9) (congrArg (fun z => some (va_rf z)) hr2) dX6_noList_13 ?_
    refine lv_iload_n hx hb dX6_noList_16 rfl (lv_at hl 1 rfl) ?_
    have hk := h.1
    replace h := h.2
    have hi := h.1
    replace h := h.2
    refine gg_iald hx hb hK hG hk hi dX6_noList_17 ?_
    refine lv_iconst (v := (1 : Int32)) hx hb dX6_noList_18 (by decide) ?_
    refine lv_icmp_eq (tgt := 32) hx hb dX6_noList_19 rfl (fun hc => ?_) (fun hc => ?_)
    · replace h := h.1 hc
      refine lv_bipush (v := (-12 : Int32)) hx hb dX6_noList_32 (by decide) ?_
      exact W.iret hx hb hr (gr_i h hG hK hX hS) hS.2.2 dX6_noList_34
    · replace h := h.2 hc
      refine lv_aload_n hx hb dX6_noList_22 rfl (lv_at hl 0 rfl) ?_
      have hk := h.1
      replace h := h.2
      obtain ⟨r3, hr3, h⟩ := h
      refine gg_get (v := .ref r3) (ci := 6) (C := RX6) (T := TX6) (N := 32) hx hb hts (fun _ h => List.mem_cons_of_mem _ (List.mem_append_right _ (h))) hown hK hG (kc_7 hk) rfl 27 (by decide) (hts (.fieldLink RX6 41 "FourStonesModel" "sort" "[I") (List.mem_of_getElem? (i := 2) rfl)) (fun _ h9 => h9) (congrArg (fun z => some (va_rf z)) hr3) dX6_noList_23 ?_
      refine lv_iload_n hx hb dX6_noList_26 rfl (lv_at hl 1 rfl) ?_
      have hk := h.1
      replace h := h.2
      have hi := h.1
      replace h := h.2
      refine gg_iald hx hb hK hG hk hi dX6_noList_27 ?_
      refine lv_iconst (v := (1 : Int32)) hx hb dX6_noList_28 (by decide) ?_
      refine lv_icmp_eq (tgt := 35) hx hb dX6_noList_29 rfl (fun hc => ?_) (fun hc => ?_)
      · replace h := h.1 hc
        refine lv_aload_n hx hb dX6_noList_35 rfl (lv_at hl 0 rfl) ?_
        have hk := h.1
        replace h := h.2
        obtain ⟨r4, hr4, h⟩ := h
        refine gg_get (v := .ref r4) (ci := 6) (C := RX6) (T := TX6) (N := 32) hx hb hts (fun _ h => List.mem_cons_of_mem _ (List.mem_append_right _ (h))) hown hK hG (kc_7 hk) rfl 28 (by decide) (hts (.fieldLink RX6 44 "FourStonesModel" "size" "[I") (List.mem_of_getElem? (i := 3) rfl)) (fun _ h9 => h9) (congrArg (fun z => some (va_rf z)) hr4) dX6_noList_36 ?_
        refine lv_iload_n hx hb dX6_noList_39 rfl (lv_at hl 1 rfl) ?_
        have hk := h.1
        replace h := h.2
        have hi := h.1
        replace h := h.2
        refine gg_iald hx hb hK hG hk hi dX6_noList_40 ?_
        refine lv_iconst (v := (1 : Int32)) hx hb dX6_noList_41 (by decide) ?_
        refine lv_bipush (v := (8 : Int32)) hx hb dX6_noList_42 (by decide) ?_
        refine gc_i (va_runS (As := [.int (gA S r4 (x1).toNatClampNeg), .int (1 : Int32), .int (8 : Int32)]) (rest := []) ⟨hx, hb, hml, hown, hts⟩ (c_X6_isIn l D κ A S (gA S r4 (x1).toNatClampNeg) (1 : Int32) (8 : Int32) _ h) (va_cwS 3 hts gX6_noList_X6_isIn rfl rfl rfl (by decide +kernel) ⟨Nat.le_of_ble_eq_true rfl, Nat.le_of_ble_eq_true rfl⟩) (pg_S hK hX hG (pg_A hA hS)) rfl rfl hl.1 rfl (lv_room (Nat.le_of_ble_eq_true rfl)) dX6_noList_44 ⟨Nat.le_of_ble_eq_true rfl, Nat.le_of_ble_eq_true rfl⟩) hS (fun z7 S6 H locs5 h hG hS => ?_)
        refine lv_istore_n (lv' := [(2, .int z7), (0, .ref a0), (1, .int x1)]) hx hb dX6_noList_47 rfl hl (by decide) rfl (fun ls hl => ?_)
        refine lv_iconst (v := (0 : Int32)) hx hb dX6_noList_48 (by decide) ?_
        refine lv_istore_n (lv' := [(3, .int (0 : Int32)), (2, .int z7), (0, .ref a0), (1, .int x1)]) hx hb dX6_noList_49 rfl hl (by decide) rfl (fun ls hl => ?_)
        obtain ⟨nn, h⟩ := h
        exact k_50  nn a0 x1 z7 (0 : Int32) S6 ls _ _ (lv_sub hl [2, 3, 1, 0] rfl) hG hS h
      · replace h := h.2 hc
        refine lv_bipush (v := (-12 : Int32)) hx hb dX6_noList_32 (by decide) ?_
        exact W.iret hx hb hr (gr_i h hG hK hX hS) hS.2.2 dX6_noList_34
  · replace h := h.2 hc
    refine lv_bipush (v := (-11 : Int32)) hx hb dX6_noList_9 (by decide) ?_
    exact W.iret hx hb hr (gr_i h hG hK hX hS) hS.2.2 dX6_noList_11
set_option maxHeartbeats 4000000 in
set_option maxRecDepth 100000 in
theorem c_X6_bits (l : Launch) (D : va_G) (κ : Nat → ClassId) (A : Nat → Prop) (S : Hp) (x0 : Int32) (Q : Int32 → Hp → Prop) (h : wp_X6_bits x0 S Q) : Met l yX6_bits wsX6_bits ({ frames := 1, cells := 0, slots := 0, locals := 48 } : Room) (PG D κ A S [.int x0]) (va_Qi Q (BG D κ A) A) 0 0 A := by
  refine Met.ofW (cc := cX6_bits) (maxL := 3) (ret := (some .int)) (by decide) rfl ?_
  intro p e s m args below meth c s₁ B hml hv
  obtain ⟨hargs, hA, hG, hK, hX⟩ := hv
  have hx := B.exec
  have hb := B.bytes
  have hr := B.returns
  have hts := atoms_spec (ws := wsX6_bits) B.pre
  have hown : s.vm.findClass RX6 = some m.cls := findClass_of_methodNamed B.named
  have hlocks := B.notSynchronized
  subst hargs
  clear B
  have hS : va_S A s.heap s.heap [] := va_S.rf
  have hl := lv_entry ([.int x0]) (n := 3) (Nat.le_of_ble_eq_true rfl)
  rw [lg_entry_eq]
  generalize (lg_sl ([.int x0]) ++ List.replicate (3 - (lg_sl ([.int x0])).length) Slot.unset).toArray = ls at hl ⊢
  have hl : lv_has ls 3 [(0, .int x0)] := hl
  have hG : GG D κ A S s.heap := hG
  have k_4 : ∀  (n : Nat), ∀ (v0 : Int32) (v1 : Int32) (v2 : Int32) (S : Hp) (ls : Array Slot) (H : Heap) (locs : List Loc), lv_has ls 3 [(0, .int v0), (1, .int v1), (2, .int v2)] → GG D κ A S H → va_S A s.heap H locs → it (L_X6_bits_4  Q) n (v0, v1, v2, S) → W p l e ({ frames := 1, cells := 0, slots := 0, locals := 48 } : Room) s m ([.int x0] : List Value).toArray below meth c H locs 0 0 (MQ below (va_Qi Q (BG D κ A) A) ([.int x0] : List Value).toArray s 0 0 A) (F0 m 4 ls []) := by
    intro  n
    induction n with
    | zero => intro v0 v1 v2 S ls H locs hl hG hS h; exact False.elim h
    | succ n hC4 =>
      intro v0 v1 v2 S ls H locs hl hG hS h
      replace h : L_X6_bits_4  Q (it (L_X6_bits_4  Q) n) (v0, v1, v2, S) := h
      simp only [L_X6_bits_4] at h
      refine lv_iload_n hx hb dX6_bits_4 rfl (lv_at hl 2 rfl) ?_
      refine lv_bipush (v := (6 : Int32)) hx hb dX6_bits_5 (by decide) ?_
      refine lv_icmp_ge (tgt := 24) hx hb dX6_bits_7 rfl (fun hc => ?_) (fun hc => ?_)
      · replace h := h.1 hc
        refine lv_iload_n hx hb dX6_bits_24 rfl (lv_at hl 1 rfl) ?_
        exact W.iret hx hb hr (gr_i h hG hK hX hS) hS.2.2 dX6_bits_25
      · replace h := h.2 hc
        refine lv_iload_n hx hb dX6_bits_10 rfl (lv_at hl 1 rfl) ?_
        refine lv_iload_n hx hb dX6_bits_11 rfl (lv_at hl 0 rfl) ?_
        refine lv_iload_n hx hb dX6_bits_12 rfl (lv_at hl 2 rfl) ?_
        refine lv_ishr hx hb dX6_bits_13 ?_
        refine lv_iconst (v := (1 : Int32)) hx hb dX6_bits_14 (by decide) ?_
        refine lv_iand hx hb dX6_bits_15 ?_
        refine lv_iadd hx hb dX6_bits_16 ?_
        refine lv_topi (fun y1 ey1 => ?_)
        replace h := h y1 ey1
        refine lv_istore_n (lv' := [(1, .int y1), (0, .int v0), (2, .int v2)]) hx hb dX6_bits_17 rfl hl (by decide) rfl (fun ls hl => ?_)
        obtain ⟨y2, ey2⟩ : ∃ z, z = v2 + (1 : Int32) := ⟨_, rfl⟩
        replace h := h y2 ey2
        refine lv_iinc (v := y2) (lv' := [(2, .int y2), (1, .int y1), (0, .int v0)]) hx hb dX6_bits_18 hl (k := 2) rfl (by rw [ey2]; rfl) (by decide) rfl (fun ls hl => ?_)
        refine lv_goto (tgt := 4) hx hb dX6_bits_21 rfl ?_
        exact hC4 v0 y1 y2 S ls _ _ (lv_sub hl [2, 1, 0] rfl) hG hS h
  refine lv_iconst (v := (0 : Int32)) hx hb dX6_bits_0 (by decide) ?_
  refine lv_istore_n (lv' := [(1, .int (0 : Int32)), (0, .int x0)]) hx hb dX6_bits_1 rfl hl (by decide) rfl (fun ls hl => ?_)
  refine lv_iconst (v := (0 : Int32)) hx hb dX6_bits_2 (by decide) ?_
  refine lv_istore_n (lv' := [(2, .int (0 : Int32)), (1, .int (0 : Int32)), (0, .int x0)]) hx hb dX6_bits_3 rfl hl (by decide) rfl (fun ls hl => ?_)
  obtain ⟨nn, h⟩ := h
  exact k_4  nn x0 (0 : Int32) (0 : Int32) S ls _ _ (lv_sub hl [2, 1, 0] rfl) hG hS h
set_option maxHeartbeats 4000000 in
set_option maxRecDepth 100000 in
theorem c_X6_priceOf (l : Launch) (D : va_G) (κ : Nat → ClassId) (A : Nat → Prop) (S : Hp) (a0 : Nat) (x1 : Int32) (Q : Int32 → Hp → Prop) (h : wp_X6_priceOf a0 x1 S Q) : Met l yX6_priceOf wsX6_priceOf ({ frames := 1, cells := 0, slots := 0, locals := 48 } : Room) (PG D κ A S [.ref a0, .int x1]) (va_Qi Q (BG D κ A) A) 0 0 A := by
  refine Met.ofW (cc := cX6_priceOf) (maxL := 4) (ret := (some .int)) (by decide) rfl ?_
  intro p e s m args below meth c s₁ B hml hv
  obtain ⟨hargs, hA, hG, hK, hX⟩ := hv
  have hx := B.exec
  have hb := B.bytes
  have hr := B.returns
  have hts := atoms_spec (ws := wsX6_priceOf) B.pre
  have hown : s.vm.findClass RX6 = some m.cls := findClass_of_methodNamed B.named
  have hlocks := B.notSynchronized
  subst hargs
  clear B
  have hS : va_S A s.heap s.heap [] := va_S.rf
  have hl := lv_entry ([.ref a0, .int x1]) (n := 4) (Nat.le_of_ble_eq_true rfl)
  rw [lg_entry_eq]
  generalize (lg_sl ([.ref a0, .int x1]) ++ List.replicate (4 - (lg_sl ([.ref a0, .int x1])).length) Slot.unset).toArray = ls at hl ⊢
  have hl : lv_has ls 4 [(0, .ref a0), (1, .int x1)] := hl
  have hG : GG D κ A S s.heap := hG
  have k_4 : ∀  (n : Nat), ∀ (v0 : Nat) (v1 : Int32) (v2 : Int32) (v3 : Int32) (S : Hp) (ls : Array Slot) (H : Heap) (locs : List Loc), lv_has ls 4 [(0, .ref v0), (1, .int v1), (2, .int v2), (3, .int v3)] → GG D κ A S H → va_S A s.heap H locs → it (L_X6_priceOf_4  Q) n (v0, v1, v2, v3, S) → W p l e ({ frames := 1, cells := 0, slots := 0, locals := 48 } : Room) s m ([.ref a0, .int x1] : List Value).toArray below meth c H locs 0 0 (MQ below (va_Qi Q (BG D κ A) A) ([.ref a0, .int x1] : List Value).toArray s 0 0 A) (F0 m 4 ls []) := by
    intro  n
    induction n with
    | zero => intro v0 v1 v2 v3 S ls H locs hl hG hS h; exact False.elim h
    | succ n hC4 =>
      intro v0 v1 v2 v3 S ls H locs hl hG hS h
      replace h : L_X6_priceOf_4  Q (it (L_X6_priceOf_4  Q) n) (v0, v1, v2, v3, S) := h
      simp only [L_X6_priceOf_4] at h
      refine lv_iload_n hx hb dX6_priceOf_4 rfl (lv_at hl 3 rfl) ?_
      refine lv_aload_n hx hb dX6_priceOf_5 rfl (lv_at hl 0 rfl) ?_
      have hk := h.1
      replace h := h.2
      refine gg_get (ci := 6) (C := RX6) (T := TX6) (N := 32) hx hb hts (fun _ h => List.mem_cons_of_mem _ (List.mem_append_right _ (h))) hown hK hG (kc_7 hk) rfl 0 (by decide) (hts (.fieldLink RX6 57 "FourStonesModel" "stones" "I") (List.mem_of_getElem? (i := 1) rfl)) (fun _ h9 => h9) rfl dX6_priceOf_6 ?_
      refine lv_icmp_ge (tgt := 33) hx hb dX6_priceOf_9 rfl (fun hc => ?_) (fun hc => ?_)
      · replace h := h.1 hc
        refine lv_iload_n hx hb dX6_priceOf_33 rfl (lv_at hl 2 rfl) ?_
        exact W.iret hx hb hr (gr_i h hG hK hX hS) hS.2.2 dX6_priceOf_34
      · replace h := h.2 hc
        refine lv_iload_n hx hb dX6_priceOf_12 rfl (lv_at hl 2 rfl) ?_
        refine lv_iload_n hx hb dX6_priceOf_13 rfl (lv_at hl 1 rfl) ?_
        refine lv_iload_n hx hb dX6_priceOf_14 rfl (lv_at hl 3 rfl) ?_
        refine lv_ishr hx hb dX6_priceOf_15 ?_
        refine lv_iconst (v := (1 : Int32)) hx hb dX6_priceOf_16 (by decide) ?_
        refine lv_iand hx hb dX6_priceOf_17 ?_
        refine lv_aload_n hx hb dX6_priceOf_18 rfl (lv_at hl 0 rfl) ?_
        have hk := h.1
        replace h := h.2
        obtain ⟨r1, hr1, h⟩ := h
        refine gg_get (v := .ref r1) (ci := 6) (C := RX6) (T := TX6) (N := 32) hx hb hts (fun _ h => List.mem_cons_of_mem _ (List.mem_append_right _ (h))) hown hK hG (kc_7 hk) rfl 2 (by decide) (hts (.fieldLink RX6 13 "FourStonesModel" "price" "[I") (List.mem_of_getElem? (i := 2) rfl)) (fun _ h9 => h9) (congrArg (fun z => some (va_rf z)) hr1) dX6_priceOf_19 ?_
        refine lv_iload_n hx hb dX6_priceOf_22 rfl (lv_at hl 3 rfl) ?_
        have hk := h.1
        replace h := h.2
        have hi := h.1
        replace h := h.2
        refine gg_iald hx hb hK hG hk hi dX6_priceOf_23 ?_
        refine lv_imul hx hb dX6_priceOf_24 ?_
        refine lv_iadd hx hb dX6_priceOf_25 ?_
        refine lv_topi (fun y2 ey2 => ?_)
        replace h := h y2 ey2
        refine lv_istore_n (lv' := [(2, .int y2), (0, .ref v0), (1, .int v1), (3, .int v3)]) hx hb dX6_priceOf_26 rfl hl (by decide) rfl (fun ls hl => ?_)
        obtain ⟨y3, ey3⟩ : ∃ z, z = v3 + (1 : Int32) := ⟨_, rfl⟩
        replace h := h y3 ey3
        refine lv_iinc (v := y3) (lv' := [(3, .int y3), (2, .int y2), (0, .ref v0), (1, .int v1)]) hx hb dX6_priceOf_27 hl (k := 3) rfl (by rw [ey3]; rfl) (by decide) rfl (fun ls hl => ?_)
        refine lv_goto (tgt := 4) hx hb dX6_priceOf_30 rfl ?_
        exact hC4 v0 v1 y2 y3 S ls _ _ (lv_sub hl [2, 3, 1, 0] rfl) hG hS h
  refine lv_iconst (v := (0 : Int32)) hx hb dX6_priceOf_0 (by decide) ?_
  refine lv_istore_n (lv' := [(2, .int (0 : Int32)), (0, .ref a0), (1, .int x1)]) hx hb dX6_priceOf_1 rfl hl (by decide) rfl (fun ls hl => ?_)
  refine lv_iconst (v := (0 : Int32)) hx hb dX6_priceOf_2 (by decide) ?_
  refine lv_istore_n (lv' := [(3, .int (0 : Int32)), (2, .int (0 : Int32)), (0, .ref a0), (1, .int x1)]) hx hb dX6_priceOf_3 rfl hl (by decide) rfl (fun ls hl => ?_)
  obtain ⟨nn, h⟩ := h
  exact k_4  nn a0 x1 (0 : Int32) (0 : Int32) S ls _ _ (lv_sub hl [2, 3, 1, 0] rfl) hG hS h
set_option maxHeartbeats 4000000 in
set_option maxRecDepth 100000 in
theorem c_X6_hasAll (l : Launch) (D : va_G) (κ : Nat → ClassId) (A : Nat → Prop) (S : Hp) (a0 : Nat) (x1 : Int32) (x2 : Int32) (x3 : Int32) (Q : Int32 → Hp → Prop) (h : wp_X6_hasAll a0 x1 x2 x3 S Q) : Met l yX6_hasAll wsX6_hasAll ({ frames := 4, cells := 0, slots := 0, locals := 192 } : Room) (PG D κ A S [.ref a0, .int x1, .int x2, .int x3]) (va_Qi Q (BG D κ A) A) 0 0 A := by
  refine Met.ofW (cc := cX6_hasAll) (maxL := 6) (ret := (some .boolean)) (by decide) rfl ?_
  intro p e s m args below meth c s₁ B hml hv
  obtain ⟨hargs, hA, hG, hK, hX⟩ := hv
  have hx := B.exec
  have hb := B.bytes
  have hr := B.returns
  have hts := atoms_spec (ws := wsX6_hasAll) B.pre
  have hown : s.vm.findClass RX6 = some m.cls := findClass_of_methodNamed B.named
  have hlocks := B.notSynchronized
  subst hargs
  clear B
  have hS : va_S A s.heap s.heap [] := va_S.rf
  have hl := lv_entry ([.ref a0, .int x1, .int x2, .int x3]) (n := 6) (Nat.le_of_ble_eq_true rfl)
  rw [lg_entry_eq]
  generalize (lg_sl ([.ref a0, .int x1, .int x2, .int x3]) ++ List.replicate (6 - (lg_sl ([.ref a0, .int x1, .int x2, .int x3])).length) Slot.unset).toArray = ls at hl ⊢
  have hl : lv_has ls 6 [(0, .ref a0), (1, .int x1), (2, .int x2), (3, .int x3)] := hl
  have hG : GG D κ A S s.heap := hG
  have j_53 : ∀ (C12 : Nat × Int32 × Int32 × Int32 × Hp → Prop) (hC12 : ∀ (v0 : Nat) (v2 : Int32) (v4 : Int32) (v5 : Int32) (S : Hp) (ls : Array Slot) (H : Heap) (locs : List Loc), lv_has ls 6 [(0, .ref v0), (2, .int v2), (4, .int v4), (5, .int v5)] → GG D κ A S H → va_S A s.heap H locs → C12 (v0, v2, v4, v5, S) → W p l e ({ frames := 4, cells := 0, slots := 0, locals := 192 } : Room) s m ([.ref a0, .int x1, .int x2, .int x3] : List Value).toArray below meth c H locs 0 0 (MQ below (va_Qi Q (BG D κ A) A) ([.ref a0, .int x1, .int x2, .int x3] : List Value).toArray s 0 0 A) (F0 m 12 ls [])) (v0 : Nat) (v2 : Int32) (v5 : Int32) (w0 : Int32) (S : Hp) (ls : Array Slot) (H : Heap) (locs : List Loc), lv_has ls 6 [(0, .ref v0), (2, .int v2), (5, .int v5)] → GG D κ A S H → va_S A s.heap H locs → J_X6_hasAll_53 C12 Q v0 v2 v5 w0 S → W p l e ({ frames := 4, cells := 0, slots := 0, locals := 192 } : Room) s m ([.ref a0, .int x1, .int x2, .int x3] : List Value).toArray below meth c H locs 0 0 (MQ below (va_Qi Q (BG D κ A) A) ([.ref a0, .int x1, .int x2, .int x3] : List Value).toArray s 0 0 A) (F0 m 53 ls [.int w0]) := by
    intro C12 hC12 v0 v2 v5 w0 S ls H locs hl hG hS h
    unfold J_X6_hasAll_53 at h
    refine lv_istore (lv' := [(4, .int w0), (0, .ref v0), (2, .int v2), (5, .int v5)]) hx hb dX6_hasAll_53 hl (by decide) rfl (fun ls hl => ?_)
    obtain ⟨y1, ey1⟩ : ∃ z, z = v5 + (1 : Int32) := ⟨_, rfl⟩
    replace h := h y1 ey1
    refine lv_iinc (v := y1) (lv' := [(5, .int y1), (4, .int w0), (0, .ref v0), (2, .int v2)]) hx hb dX6_hasAll_55 hl (k := 3) rfl (by rw [ey1]; rfl) (by decide) rfl (fun ls hl => ?_)
    refine lv_goto (tgt := 12) hx hb dX6_hasAll_58 rfl ?_
    exact hC12 v0 v2 w0 y1 S ls _ _ (lv_sub hl [2, 3, 1, 0] rfl) hG hS h
  have j_52 : ∀ (C12 : Nat × Int32 × Int32 × Int32 × Hp → Prop) (hC12 : ∀ (v0 : Nat) (v2 : Int32) (v4 : Int32) (v5 : Int32) (S : Hp) (ls : Array Slot) (H : Heap) (locs : List Loc), lv_has ls 6 [(0, .ref v0), (2, .int v2), (4, .int v4), (5, .int v5)] → GG D κ A S H → va_S A s.heap H locs → C12 (v0, v2, v4, v5, S) → W p l e ({ frames := 4, cells := 0, slots := 0, locals := 192 } : Room) s m ([.ref a0, .int x1, .int x2, .int x3] : List Value).toArray below meth c H locs 0 0 (MQ below (va_Qi Q (BG D κ A) A) ([.ref a0, .int x1, .int x2, .int x3] : List Value).toArray s 0 0 A) (F0 m 12 ls [])) (v0 : Nat) (v2 : Int32) (v5 : Int32) (S : Hp) (ls : Array Slot) (H : Heap) (locs : List Loc), lv_has ls 6 [(0, .ref v0), (2, .int v2), (5, .int v5)] → GG D κ A S H → va_S A s.heap H locs → J_X6_hasAll_52 C12 Q v0 v2 v5 S → W p l e ({ frames := 4, cells := 0, slots := 0, locals := 192 } : Room) s m ([.ref a0, .int x1, .int x2, .int x3] : List Value).toArray below meth c H locs 0 0 (MQ below (va_Qi Q (BG D κ A) A) ([.ref a0, .int x1, .int x2, .int x3] : List Value).toArray s 0 0 A) (F0 m 52 ls []) := by
    intro C12 hC12 v0 v2 v5 S ls H locs hl hG hS h
    unfold J_X6_hasAll_52 at h
    refine lv_iconst (v := (0 : Int32)) hx hb dX6_hasAll_52 (by decide) ?_
    exact j_53 _ hC12 v0 v2 v5 (0 : Int32) S ls _ _ (lv_sub hl [0, 1, 2] rfl) hG hS h
  have k_12 : ∀  (n : Nat), ∀ (v0 : Nat) (v2 : Int32) (v4 : Int32) (v5 : Int32) (S : Hp) (ls : Array Slot) (H : Heap) (locs : List Loc), lv_has ls 6 [(0, .ref v0), (2, .int v2), (4, .int v4), (5, .int v5)] → GG D κ A S H → va_S A s.heap H locs → it (L_X6_hasAll_12  Q) n (v0, v2, v4, v5, S) → W p l e ({ frames := 4, cells := 0, slots := 0, locals := 192 } : Room) s m ([.ref a0, .int x1, .int x2, .int x3] : List Value).toArray below meth c H locs 0 0 (MQ below (va_Qi Q (BG D κ A) A) ([.ref a0, .int x1, .int x2, .int x3] : List Value).toArray s 0 0 A) (F0 m 12 ls []) := by
    intro  n
    induction n with
    | zero => intro v0 v2 v4 v5 S ls H locs hl hG hS h; exact False.elim h
    | succ n hC12 =>
      intro v0 v2 v4 v5 S ls H locs hl hG hS h
      replace h : L_X6_hasAll_12  Q (it (L_X6_hasAll_12  Q) n) (v0, v2, v4, v5, S) := h
      simp only [L_X6_hasAll_12] at h
      refine lv_iload hx hb dX6_hasAll_12 (lv_at hl 3 rfl) ?_
      refine lv_aload_n hx hb dX6_hasAll_14 rfl (lv_at hl 0 rfl) ?_
      have hk := h.1
      replace h := h.2
      obtain ⟨r1, hr1, h⟩ := h
      refine gg_get (v := .ref r1) (ci := 6) (C := RX6) (T := TX6) (N := 32) hx hb hts (fun _ h => List.mem_cons_of_mem _ (List.mem_append_right _ (h))) hown hK hG (kc_7 hk) rfl 28 (by decide) (hts (.fieldLink RX6 44 "FourStonesModel" "size" "[I") (List.mem_of_getElem? (i := 1) rfl)) (fun _ h9 => h9) (congrArg (fun z => some (va_rf z)) hr1) dX6_hasAll_15 ?_
      refine lv_iload_n hx hb dX6_hasAll_18 rfl (lv_at hl 1 rfl) ?_
      have hk := h.1
      replace h := h.2
      have hi := h.1
      replace h := h.2
      refine gg_iald hx hb hK hG hk hi dX6_hasAll_19 ?_
      refine lv_icmp_ge (tgt := 61) hx hb dX6_hasAll_20 rfl (fun hc => ?_) (fun hc => ?_)
      · replace h := h.1 hc
        refine lv_iload hx hb dX6_hasAll_61 (lv_at hl 2 rfl) ?_
        have hz := h.1
        replace h := h.2
        exact W.zret (ty := .boolean) hx hb hr hz (gr_i h hG hK hX hS) hS.2.2 dX6_hasAll_63
      · replace h := h.2 hc
        refine lv_iload hx hb dX6_hasAll_23 (lv_at hl 2 rfl) ?_
        refine lv_if_eq (tgt := 52) hx hb dX6_hasAll_25 rfl (fun hc => ?_) (fun hc => ?_)
        · replace h := h.1 hc
          exact j_52 _ hC12 v0 v2 v5 S ls _ _ (lv_sub hl [0, 1, 3] rfl) hG hS h
        · replace h := h.2 hc
          refine lv_aload_n hx hb dX6_hasAll_28 rfl (lv_at hl 0 rfl) ?_
          have hk := h.1
          replace h := h.2
          obtain ⟨r2, hr2, h⟩ := h
          refine gg_get (v := .ref r2) (ci := 6) (C := RX6) (T := TX6) (N := 32) hx hb hts (fun _ h => List.mem_cons_of_mem _ (List.mem_append_right _ (h))) hown hK hG (kc_7 hk) rfl 13 (by decide) (hts (.fieldLink RX6 22 "FourStonesModel" "had" "[Z") (List.mem_of_getElem? (i := 2) rfl)) (fun _ h9 => h9) (congrArg (fun z => some (va_rf z)) hr2) dX6_hasAll_29 ?_
          refine lv_aload_n hx hb dX6_hasAll_32 rfl (lv_at hl 0 rfl) ?_
          have hk := h.1
          replace h := h.2
          obtain ⟨r3, hr3, h⟩ := h
          refine gg_get (v := .ref r3) (ci := 6) (C := RX6) (T := TX6) (N := 32) hx hb hts (fun _ h => List.mem_cons_of_mem _ (List.mem_append_right _ (h))) hown hK hG (kc_7 hk) rfl 29 (by decide) (hts (.fieldLink RX6 47 "FourStonesModel" "items" "[I") (List.mem_of_getElem? (i := 3) rfl)) (fun _ h9 => h9) (congrArg (fun z => some (va_rf z)) hr3) dX6_hasAll_33 ?_
          refine lv_bipush (v := (100 : Int32)) hx hb dX6_hasAll_36 (by decide) ?_
          refine lv_iload_n hx hb dX6_hasAll_38 rfl (lv_at hl 1 rfl) ?_
          refine lv_imul hx hb dX6_hasAll_39 ?_
          refine lv_iload hx hb dX6_hasAll_40 (lv_at hl 3 rfl) ?_
          refine lv_iadd hx hb dX6_hasAll_42 ?_
          have hk := h.1
          replace h := h.2
          have hi := h.1
          replace h := h.2
          refine gg_iald hx hb hK hG hk hi dX6_hasAll_43 ?_
          have hk := h.1
          replace h := h.2
          have hi := h.1
          replace h := h.2
          refine gg_zald hx hb hK hG hk hi dX6_hasAll_44 ?_
          refine lv_if_eq (tgt := 52) hx hb dX6_hasAll_45 rfl (fun hc => ?_) (fun hc => ?_)
          · replace h := h.1 hc
            exact j_52 _ hC12 v0 v2 v5 S ls _ _ (lv_sub hl [0, 1, 3] rfl) hG hS h
          · replace h := h.2 hc
            refine lv_iconst (v := (1 : Int32)) hx hb dX6_hasAll_48 (by decide) ?_
            refine lv_goto (tgt := 53) hx hb dX6_hasAll_49 rfl ?_
            exact j_53 _ hC12 v0 v2 v5 (1 : Int32) S ls _ _ (lv_sub hl [0, 1, 3] rfl) hG hS h
  refine lv_aload_n hx hb dX6_hasAll_0 rfl (lv_at hl 0 rfl) ?_
  refine lv_iload_n hx hb dX6_hasAll_1 rfl (lv_at hl 1 rfl) ?_
  refine lv_iload_n hx hb dX6_hasAll_2 rfl (lv_at hl 3 rfl) ?_
  have hk := h.1
  replace h := h.2
  refine gc_v (va_runV (As := [.int x1, .int x3]) (rest := []) ⟨hx, hb, hml, hown, hts⟩ (c_X6_have l D κ A S a0 x1 x3 _ h) (cwV 2 hts gX6_hasAll_X6_have rfl rfl rfl (by decide +kernel) ⟨Nat.le_of_ble_eq_true rfl, Nat.le_of_ble_eq_true rfl⟩) (pg_V (q := (RX6, TX6, 32)) hK hX hG (pg_A hA hS) (kc_7 hk) rfl) rfl rfl hl.1 rfl (lv_room (Nat.le_of_ble_eq_true rfl)) dX6_hasAll_3 ⟨Nat.le_of_ble_eq_true rfl, Nat.le_of_ble_eq_true rfl⟩) hS (fun S2 H locs1 h hG hS => ?_)
  refine lv_iconst (v := (1 : Int32)) hx hb dX6_hasAll_6 (by decide) ?_
  refine lv_istore (lv' := [(4, .int (1 : Int32)), (0, .ref a0), (1, .int x1), (2, .int x2), (3, .int x3)]) hx hb dX6_hasAll_7 hl (by decide) rfl (fun ls hl => ?_)
  refine lv_iconst (v := (0 : Int32)) hx hb dX6_hasAll_9 (by decide) ?_
  refine lv_istore (lv' := [(5, .int (0 : Int32)), (4, .int (1 : Int32)), (0, .ref a0), (1, .int x1), (2, .int x2), (3, .int x3)]) hx hb dX6_hasAll_10 hl (by decide) rfl (fun ls hl => ?_)
  obtain ⟨nn, h⟩ := h
  exact k_12  nn a0 x2 (1 : Int32) (0 : Int32) S2 ls _ _ (lv_sub hl [2, 4, 1, 0] rfl) hG hS h
set_option maxHeartbeats 4000000 in
set_option maxRecDepth 100000 in
theorem c_X6_bestSet (l : Launch) (D : va_G) (κ : Nat → ClassId) (A : Nat → Prop) (S : Hp) (a0 : Nat) (x1 : Int32) (x2 : Int32) (x3 : Int32) (x4 : Int32) (Q : Int32 → Hp → Prop) (h : wp_X6_bestSet a0 x1 x2 x3 x4 S Q) : Met l yX6_bestSet wsX6_bestSet ({ frames := 5, cells := 0, slots := 0, locals := 240 } : Room) (PG D κ A S [.ref a0, .int x1, .int x2, .int x3, .int x4]) (va_Qi Q (BG D κ A) A) 0 0 A := by
  refine Met.ofW (cc := cX6_bestSet) (maxL := 14) (ret := (some .int)) (by decide) rfl ?_
  intro p e s m args below meth c s₁ B hml hv
  obtain ⟨hargs, hA, hG, hK, hX⟩ := hv
  have hx := B.exec
  have hb := B.bytes
  have hr := B.returns
  have hts := atoms_spec (ws := wsX6_bestSet) B.pre
  have hown : s.vm.findClass RX6 = some m.cls := findClass_of_methodNamed B.named
  have hlocks := B.notSynchronized
  subst hargs
  clear B
  have hS : va_S A s.heap s.heap [] := va_S.rf
  have hl := lv_entry ([.ref a0, .int x1, .int x2, .int x3, .int x4]) (n := 14) (Nat.le_of_ble_eq_true rfl)
  rw [lg_entry_eq]
  generalize (lg_sl ([.ref a0, .int x1, .int x2, .int x3, .int x4]) ++ List.replicate (14 - (lg_sl ([.ref a0, .int x1, .int x2, .int x3, .int x4])).length) Slot.unset).toArray = ls at hl ⊢
  have hl : lv_has ls 14 [(0, .ref a0), (1, .int x1), (2, .int x2), (3, .int x3), (4, .int x4)] := hl
  have hG : GG D κ A S s.heap := hG
  have j_142 : ∀ (C13 : Nat × Int32 × Int32 × Int32 × Int32 × Int32 × Int32 × Int32 × Int32 × Hp → Prop) (hC13 : ∀ (v0 : Nat) (v1 : Int32) (v2 : Int32) (v3 : Int32) (v4 : Int32) (v5 : Int32) (v6 : Int32) (v7 : Int32) (v8 : Int32) (S : Hp) (ls : Array Slot) (H : Heap) (locs : List Loc), lv_has ls 14 [(0, .ref v0), (1, .int v1), (2, .int v2), (3, .int v3), (4, .int v4), (5, .int v5), (6, .int v6), (7, .int v7), (8, .int v8)] → GG D κ A S H → va_S A s.heap H locs → C13 (v0, v1, v2, v3, v4, v5, v6, v7, v8, S) → W p l e ({ frames := 5, cells := 0, slots := 0, locals := 240 } : Room) s m ([.ref a0, .int x1, .int x2, .int x3, .int x4] : List Value).toArray below meth c H locs 0 0 (MQ below (va_Qi Q (BG D κ A) A) ([.ref a0, .int x1, .int x2, .int x3, .int x4] : List Value).toArray s 0 0 A) (F0 m 13 ls [])) (v0 : Nat) (v1 : Int32) (v2 : Int32) (v3 : Int32) (v4 : Int32) (v5 : Int32) (v6 : Int32) (v7 : Int32) (v8 : Int32) (S : Hp) (ls : Array Slot) (H : Heap) (locs : List Loc), lv_has ls 14 [(0, .ref v0), (1, .int v1), (2, .int v2), (3, .int v3), (4, .int v4), (5, .int v5), (6, .int v6), (7, .int v7), (8, .int v8)] → GG D κ A S H → va_S A s.heap H locs → J_X6_bestSet_142 C13 Q v0 v1 v2 v3 v4 v5 v6 v7 v8 S → W p l e ({ frames := 5, cells := 0, slots := 0, locals := 240 } : Room) s m ([.ref a0, .int x1, .int x2, .int x3, .int x4] : List Value).toArray below meth c H locs 0 0 (MQ below (va_Qi Q (BG D κ A) A) ([.ref a0, .int x1, .int x2, .int x3, .int x4] : List Value).toArray s 0 0 A) (F0 m 142 ls []) := by
    intro C13 hC13 v0 v1 v2 v3 v4 v5 v6 v7 v8 S ls H locs hl hG hS h
    unfold J_X6_bestSet_142 at h
    obtain ⟨y1, ey1⟩ : ∃ z, z = v8 + (1 : Int32) := ⟨_, rfl⟩
    replace h := h y1 ey1
    refine lv_iinc (v := y1) (lv' := [(8, .int y1), (0, .ref v0), (1, .int v1), (2, .int v2), (3, .int v3), (4, .int v4), (5, .int v5), (6, .int v6), (7, .int v7)]) hx hb dX6_bestSet_142 hl (k := 8) rfl (by rw [ey1]; rfl) (by decide) rfl (fun ls hl => ?_)
    refine lv_goto (tgt := 13) hx hb dX6_bestSet_145 rfl ?_
    exact hC13 v0 v1 v2 v3 v4 v5 v6 v7 y1 S ls _ _ (lv_sub hl [1, 2, 3, 4, 5, 6, 7, 8, 0] rfl) hG hS h
  have j_104 : ∀ (C13 : Nat × Int32 × Int32 × Int32 × Int32 × Int32 × Int32 × Int32 × Int32 × Hp → Prop) (hC13 : ∀ (v0 : Nat) (v1 : Int32) (v2 : Int32) (v3 : Int32) (v4 : Int32) (v5 : Int32) (v6 : Int32) (v7 : Int32) (v8 : Int32) (S : Hp) (ls : Array Slot) (H : Heap) (locs : List Loc), lv_has ls 14 [(0, .ref v0), (1, .int v1), (2, .int v2), (3, .int v3), (4, .int v4), (5, .int v5), (6, .int v6), (7, .int v7), (8, .int v8)] → GG D κ A S H → va_S A s.heap H locs → C13 (v0, v1, v2, v3, v4, v5, v6, v7, v8, S) → W p l e ({ frames := 5, cells := 0, slots := 0, locals := 240 } : Room) s m ([.ref a0, .int x1, .int x2, .int x3, .int x4] : List Value).toArray below meth c H locs 0 0 (MQ below (va_Qi Q (BG D κ A) A) ([.ref a0, .int x1, .int x2, .int x3, .int x4] : List Value).toArray s 0 0 A) (F0 m 13 ls [])) (v0 : Nat) (v1 : Int32) (v2 : Int32) (v3 : Int32) (v4 : Int32) (v5 : Int32) (v6 : Int32) (v7 : Int32) (v8 : Int32) (v11 : Int32) (v12 : Int32) (w0 : Int32) (S : Hp) (ls : Array Slot) (H : Heap) (locs : List Loc), lv_has ls 14 [(0, .ref v0), (1, .int v1), (2, .int v2), (3, .int v3), (4, .int v4), (5, .int v5), (6, .int v6), (7, .int v7), (8, .int v8), (11, .int v11), (12, .int v12)] → GG D κ A S H → va_S A s.heap H locs → J_X6_bestSet_104 C13 Q v0 v1 v2 v3 v4 v5 v6 v7 v8 v11 v12 w0 S → W p l e ({ frames := 5, cells := 0, slots := 0, locals := 240 } : Room) s m ([.ref a0, .int x1, .int x2, .int x3, .int x4] : List Value).toArray below meth c H locs 0 0 (MQ below (va_Qi Q (BG D κ A) A) ([.ref a0, .int x1, .int x2, .int x3, .int x4] : List Value).toArray s 0 0 A) (F0 m 104 ls [.int w0]) := by
    intro C13 hC13 v0 v1 v2 v3 v4 v5 v6 v7 v8 v11 v12 w0 S ls H locs hl hG hS h
    unfold J_X6_bestSet_104 at h
    refine lv_istore (lv' := [(13, .int w0), (0, .ref v0), (1, .int v1), (2, .int v2), (3, .int v3), (4, .int v4), (5, .int v5), (6, .int v6), (7, .int v7), (8, .int v8), (11, .int v11), (12, .int v12)]) hx hb dX6_bestSet_104 hl (by decide) rfl (fun ls hl => ?_)
    refine lv_iload hx hb dX6_bestSet_106 (lv_at hl 9 rfl) ?_
    refine lv_iload_n hx hb dX6_bestSet_108 rfl (lv_at hl 4 rfl) ?_
    refine lv_iand hx hb dX6_bestSet_109 ?_
    refine lv_iload_n hx hb dX6_bestSet_110 rfl (lv_at hl 4 rfl) ?_
    refine lv_icmp_ne (tgt := 142) hx hb dX6_bestSet_111 rfl (fun hc => ?_) (fun hc => ?_)
    · replace h := h.1 hc
      exact j_142 _ hC13 v0 v1 v2 v3 v4 v5 v6 v7 v8 S ls _ _ (lv_sub hl [1, 2, 3, 4, 5, 6, 7, 8, 9] rfl) hG hS h
    · replace h := h.2 hc
      refine lv_iload hx hb dX6_bestSet_114 (lv_at hl 0 rfl) ?_
      refine lv_if_eq (tgt := 142) hx hb dX6_bestSet_116 rfl (fun hc => ?_) (fun hc => ?_)
      · replace h := h.1 hc
        exact j_142 _ hC13 v0 v1 v2 v3 v4 v5 v6 v7 v8 S ls _ _ (lv_sub hl [1, 2, 3, 4, 5, 6, 7, 8, 9] rfl) hG hS h
      · replace h := h.2 hc
        refine lv_aload_n hx hb dX6_bestSet_119 rfl (lv_at hl 1 rfl) ?_
        refine lv_iload_n hx hb dX6_bestSet_120 rfl (lv_at hl 2 rfl) ?_
        refine lv_iload_n hx hb dX6_bestSet_121 rfl (lv_at hl 3 rfl) ?_
        refine lv_iload hx hb dX6_bestSet_122 (lv_at hl 9 rfl) ?_
        have hk := h.1
        replace h := h.2
        refine gc_i (va_runV (As := [.int v1, .int v2, .int v8]) (rest := []) ⟨hx, hb, hml, hown, hts⟩ (c_X6_hasAll l D κ A S v0 v1 v2 v8 _ h) (cwV 3 hts gX6_bestSet_X6_hasAll rfl rfl rfl (by decide +kernel) ⟨Nat.le_of_ble_eq_true rfl, Nat.le_of_ble_eq_true rfl⟩) (pg_V (q := (RX6, TX6, 32)) hK hX hG (pg_A hA hS) (kc_7 hk) rfl) rfl rfl hl.1 rfl (lv_room (Nat.le_of_ble_eq_true rfl)) dX6_bestSet_124 ⟨Nat.le_of_ble_eq_true rfl, Nat.le_of_ble_eq_true rfl⟩) hS (fun z3 S2 H locs1 h hG hS => ?_)
        refine lv_if_eq (tgt := 142) hx hb dX6_bestSet_127 rfl (fun hc => ?_) (fun hc => ?_)
        · replace h := h.1 hc
          exact j_142 _ hC13 v0 v1 v2 v3 v4 v5 v6 v7 v8 S2 ls _ _ (lv_sub hl [1, 2, 3, 4, 5, 6, 7, 8, 9] rfl) hG hS h
        · replace h := h.2 hc
          refine lv_iload hx hb dX6_bestSet_130 (lv_at hl 9 rfl) ?_
          refine lv_istore (lv' := [(5, .int v8), (13, .int w0), (0, .ref v0), (1, .int v1), (2, .int v2), (3, .int v3), (4, .int v4), (6, .int v6), (7, .int v7), (8, .int v8), (11, .int v11), (12, .int v12)]) hx hb dX6_bestSet_132 hl (by decide) rfl (fun ls hl => ?_)
          refine lv_iload hx hb dX6_bestSet_134 (lv_at hl 10 rfl) ?_
          refine lv_istore (lv' := [(6, .int v11), (5, .int v8), (13, .int w0), (0, .ref v0), (1, .int v1), (2, .int v2), (3, .int v3), (4, .int v4), (7, .int v7), (8, .int v8), (11, .int v11), (12, .int v12)]) hx hb dX6_bestSet_136 hl (by decide) rfl (fun ls hl => ?_)
          refine lv_iload hx hb dX6_bestSet_138 (lv_at hl 11 rfl) ?_
          refine lv_istore (lv' := [(7, .int v12), (6, .int v11), (5, .int v8), (13, .int w0), (0, .ref v0), (1, .int v1), (2, .int v2), (3, .int v3), (4, .int v4), (8, .int v8), (11, .int v11), (12, .int v12)]) hx hb dX6_bestSet_140 hl (by decide) rfl (fun ls hl => ?_)
          exact j_142 _ hC13 v0 v1 v2 v3 v4 v8 v11 v12 v8 S2 ls _ _ (lv_sub hl [4, 5, 6, 7, 8, 2, 1, 0, 9] rfl) hG hS h
  have j_99 : ∀ (C13 : Nat × Int32 × Int32 × Int32 × Int32 × Int32 × Int32 × Int32 × Int32 × Hp → Prop) (hC13 : ∀ (v0 : Nat) (v1 : Int32) (v2 : Int32) (v3 : Int32) (v4 : Int32) (v5 : Int32) (v6 : Int32) (v7 : Int32) (v8 : Int32) (S : Hp) (ls : Array Slot) (H : Heap) (locs : List Loc), lv_has ls 14 [(0, .ref v0), (1, .int v1), (2, .int v2), (3, .int v3), (4, .int v4), (5, .int v5), (6, .int v6), (7, .int v7), (8, .int v8)] → GG D κ A S H → va_S A s.heap H locs → C13 (v0, v1, v2, v3, v4, v5, v6, v7, v8, S) → W p l e ({ frames := 5, cells := 0, slots := 0, locals := 240 } : Room) s m ([.ref a0, .int x1, .int x2, .int x3, .int x4] : List Value).toArray below meth c H locs 0 0 (MQ below (va_Qi Q (BG D κ A) A) ([.ref a0, .int x1, .int x2, .int x3, .int x4] : List Value).toArray s 0 0 A) (F0 m 13 ls [])) (v0 : Nat) (v1 : Int32) (v2 : Int32) (v3 : Int32) (v4 : Int32) (v5 : Int32) (v6 : Int32) (v7 : Int32) (v8 : Int32) (v11 : Int32) (v12 : Int32) (S : Hp) (ls : Array Slot) (H : Heap) (locs : List Loc), lv_has ls 14 [(0, .ref v0), (1, .int v1), (2, .int v2), (3, .int v3), (4, .int v4), (5, .int v5), (6, .int v6), (7, .int v7), (8, .int v8), (11, .int v11), (12, .int v12)] → GG D κ A S H → va_S A s.heap H locs → J_X6_bestSet_99 C13 Q v0 v1 v2 v3 v4 v5 v6 v7 v8 v11 v12 S → W p l e ({ frames := 5, cells := 0, slots := 0, locals := 240 } : Room) s m ([.ref a0, .int x1, .int x2, .int x3, .int x4] : List Value).toArray below meth c H locs 0 0 (MQ below (va_Qi Q (BG D κ A) A) ([.ref a0, .int x1, .int x2, .int x3, .int x4] : List Value).toArray s 0 0 A) (F0 m 99 ls []) := by
    intro C13 hC13 v0 v1 v2 v3 v4 v5 v6 v7 v8 v11 v12 S ls H locs hl hG hS h
    unfold J_X6_bestSet_99 at h
    refine lv_iconst (v := (1 : Int32)) hx hb dX6_bestSet_99 (by decide) ?_
    refine lv_goto (tgt := 104) hx hb dX6_bestSet_100 rfl ?_
    exact j_104 _ hC13 v0 v1 v2 v3 v4 v5 v6 v7 v8 v11 v12 (1 : Int32) S ls _ _ (lv_sub hl [0, 1, 2, 3, 4, 5, 6, 7, 8, 9, 10] rfl) hG hS h
  have j_103 : ∀ (C13 : Nat × Int32 × Int32 × Int32 × Int32 × Int32 × Int32 × Int32 × Int32 × Hp → Prop) (hC13 : ∀ (v0 : Nat) (v1 : Int32) (v2 : Int32) (v3 : Int32) (v4 : Int32) (v5 : Int32) (v6 : Int32) (v7 : Int32) (v8 : Int32) (S : Hp) (ls : Array Slot) (H : Heap) (locs : List Loc), lv_has ls 14 [(0, .ref v0), (1, .int v1), (2, .int v2), (3, .int v3), (4, .int v4), (5, .int v5), (6, .int v6), (7, .int v7), (8, .int v8)] → GG D κ A S H → va_S A s.heap H locs → C13 (v0, v1, v2, v3, v4, v5, v6, v7, v8, S) → W p l e ({ frames := 5, cells := 0, slots := 0, locals := 240 } : Room) s m ([.ref a0, .int x1, .int x2, .int x3, .int x4] : List Value).toArray below meth c H locs 0 0 (MQ below (va_Qi Q (BG D κ A) A) ([.ref a0, .int x1, .int x2, .int x3, .int x4] : List Value).toArray s 0 0 A) (F0 m 13 ls [])) (v0 : Nat) (v1 : Int32) (v2 : Int32) (v3 : Int32) (v4 : Int32) (v5 : Int32) (v6 : Int32) (v7 : Int32) (v8 : Int32) (v11 : Int32) (v12 : Int32) (S : Hp) (ls : Array Slot) (H : Heap) (locs : List Loc), lv_has ls 14 [(0, .ref v0), (1, .int v1), (2, .int v2), (3, .int v3), (4, .int v4), (5, .int v5), (6, .int v6), (7, .int v7), (8, .int v8), (11, .int v11), (12, .int v12)] → GG D κ A S H → va_S A s.heap H locs → J_X6_bestSet_103 C13 Q v0 v1 v2 v3 v4 v5 v6 v7 v8 v11 v12 S → W p l e ({ frames := 5, cells := 0, slots := 0, locals := 240 } : Room) s m ([.ref a0, .int x1, .int x2, .int x3, .int x4] : List Value).toArray below meth c H locs 0 0 (MQ below (va_Qi Q (BG D κ A) A) ([.ref a0, .int x1, .int x2, .int x3, .int x4] : List Value).toArray s 0 0 A) (F0 m 103 ls []) := by
    intro C13 hC13 v0 v1 v2 v3 v4 v5 v6 v7 v8 v11 v12 S ls H locs hl hG hS h
    unfold J_X6_bestSet_103 at h
    refine lv_iconst (v := (0 : Int32)) hx hb dX6_bestSet_103 (by decide) ?_
    exact j_104 _ hC13 v0 v1 v2 v3 v4 v5 v6 v7 v8 v11 v12 (0 : Int32) S ls _ _ (lv_sub hl [0, 1, 2, 3, 4, 5, 6, 7, 8, 9, 10] rfl) hG hS h
  have j_69 : ∀ (C13 : Nat × Int32 × Int32 × Int32 × Int32 × Int32 × Int32 × Int32 × Int32 × Hp → Prop) (hC13 : ∀ (v0 : Nat) (v1 : Int32) (v2 : Int32) (v3 : Int32) (v4 : Int32) (v5 : Int32) (v6 : Int32) (v7 : Int32) (v8 : Int32) (S : Hp) (ls : Array Slot) (H : Heap) (locs : List Loc), lv_has ls 14 [(0, .ref v0), (1, .int v1), (2, .int v2), (3, .int v3), (4, .int v4), (5, .int v5), (6, .int v6), (7, .int v7), (8, .int v8)] → GG D κ A S H → va_S A s.heap H locs → C13 (v0, v1, v2, v3, v4, v5, v6, v7, v8, S) → W p l e ({ frames := 5, cells := 0, slots := 0, locals := 240 } : Room) s m ([.ref a0, .int x1, .int x2, .int x3, .int x4] : List Value).toArray below meth c H locs 0 0 (MQ below (va_Qi Q (BG D κ A) A) ([.ref a0, .int x1, .int x2, .int x3, .int x4] : List Value).toArray s 0 0 A) (F0 m 13 ls [])) (v0 : Nat) (v1 : Int32) (v2 : Int32) (v3 : Int32) (v4 : Int32) (v5 : Int32) (v6 : Int32) (v7 : Int32) (v8 : Int32) (v11 : Int32) (w0 : Int32) (S : Hp) (ls : Array Slot) (H : Heap) (locs : List Loc), lv_has ls 14 [(0, .ref v0), (1, .int v1), (2, .int v2), (3, .int v3), (4, .int v4), (5, .int v5), (6, .int v6), (7, .int v7), (8, .int v8), (11, .int v11)] → GG D κ A S H → va_S A s.heap H locs → J_X6_bestSet_69 C13 Q v0 v1 v2 v3 v4 v5 v6 v7 v8 v11 w0 S → W p l e ({ frames := 5, cells := 0, slots := 0, locals := 240 } : Room) s m ([.ref a0, .int x1, .int x2, .int x3, .int x4] : List Value).toArray below meth c H locs 0 0 (MQ below (va_Qi Q (BG D κ A) A) ([.ref a0, .int x1, .int x2, .int x3, .int x4] : List Value).toArray s 0 0 A) (F0 m 69 ls [.int w0]) := by
    intro C13 hC13 v0 v1 v2 v3 v4 v5 v6 v7 v8 v11 w0 S ls H locs hl hG hS h
    unfold J_X6_bestSet_69 at h
    refine lv_istore (lv' := [(12, .int w0), (0, .ref v0), (1, .int v1), (2, .int v2), (3, .int v3), (4, .int v4), (5, .int v5), (6, .int v6), (7, .int v7), (8, .int v8), (11, .int v11)]) hx hb dX6_bestSet_69 hl (by decide) rfl (fun ls hl => ?_)
    refine lv_iload hx hb dX6_bestSet_71 (lv_at hl 6 rfl) ?_
    refine lv_bipush (v := (-4 : Int32)) hx hb dX6_bestSet_73 (by decide) ?_
    refine lv_icmp_eq (tgt := 99) hx hb dX6_bestSet_75 rfl (fun hc => ?_) (fun hc => ?_)
    · replace h := h.1 hc
      exact j_99 _ hC13 v0 v1 v2 v3 v4 v5 v6 v7 v8 v11 w0 S ls _ _ (lv_sub hl [1, 2, 3, 4, 5, 6, 7, 8, 9, 10, 0] rfl) hG hS h
    · replace h := h.2 hc
      refine lv_iload hx hb dX6_bestSet_78 (lv_at hl 10 rfl) ?_
      refine lv_iload hx hb dX6_bestSet_80 (lv_at hl 7 rfl) ?_
      refine lv_icmp_lt (tgt := 99) hx hb dX6_bestSet_82 rfl (fun hc => ?_) (fun hc => ?_)
      · replace h := h.1 hc
        exact j_99 _ hC13 v0 v1 v2 v3 v4 v5 v6 v7 v8 v11 w0 S ls _ _ (lv_sub hl [1, 2, 3, 4, 5, 6, 7, 8, 9, 10, 0] rfl) hG hS h
      · replace h := h.2 hc
        refine lv_iload hx hb dX6_bestSet_85 (lv_at hl 10 rfl) ?_
        refine lv_iload hx hb dX6_bestSet_87 (lv_at hl 7 rfl) ?_
        refine lv_icmp_ne (tgt := 103) hx hb dX6_bestSet_89 rfl (fun hc => ?_) (fun hc => ?_)
        · replace h := h.1 hc
          exact j_103 _ hC13 v0 v1 v2 v3 v4 v5 v6 v7 v8 v11 w0 S ls _ _ (lv_sub hl [1, 2, 3, 4, 5, 6, 7, 8, 9, 10, 0] rfl) hG hS h
        · replace h := h.2 hc
          refine lv_iload hx hb dX6_bestSet_92 (lv_at hl 0 rfl) ?_
          refine lv_iload hx hb dX6_bestSet_94 (lv_at hl 8 rfl) ?_
          refine lv_icmp_ge (tgt := 103) hx hb dX6_bestSet_96 rfl (fun hc => ?_) (fun hc => ?_)
          · replace h := h.1 hc
            exact j_103 _ hC13 v0 v1 v2 v3 v4 v5 v6 v7 v8 v11 w0 S ls _ _ (lv_sub hl [1, 2, 3, 4, 5, 6, 7, 8, 9, 10, 0] rfl) hG hS h
          · replace h := h.2 hc
            exact j_99 _ hC13 v0 v1 v2 v3 v4 v5 v6 v7 v8 v11 w0 S ls _ _ (lv_sub hl [1, 2, 3, 4, 5, 6, 7, 8, 9, 10, 0] rfl) hG hS h
  have j_55 : ∀ (C13 : Nat × Int32 × Int32 × Int32 × Int32 × Int32 × Int32 × Int32 × Int32 × Hp → Prop) (hC13 : ∀ (v0 : Nat) (v1 : Int32) (v2 : Int32) (v3 : Int32) (v4 : Int32) (v5 : Int32) (v6 : Int32) (v7 : Int32) (v8 : Int32) (S : Hp) (ls : Array Slot) (H : Heap) (locs : List Loc), lv_has ls 14 [(0, .ref v0), (1, .int v1), (2, .int v2), (3, .int v3), (4, .int v4), (5, .int v5), (6, .int v6), (7, .int v7), (8, .int v8)] → GG D κ A S H → va_S A s.heap H locs → C13 (v0, v1, v2, v3, v4, v5, v6, v7, v8, S) → W p l e ({ frames := 5, cells := 0, slots := 0, locals := 240 } : Room) s m ([.ref a0, .int x1, .int x2, .int x3, .int x4] : List Value).toArray below meth c H locs 0 0 (MQ below (va_Qi Q (BG D κ A) A) ([.ref a0, .int x1, .int x2, .int x3, .int x4] : List Value).toArray s 0 0 A) (F0 m 13 ls [])) (v0 : Nat) (v1 : Int32) (v2 : Int32) (v3 : Int32) (v4 : Int32) (v5 : Int32) (v6 : Int32) (v7 : Int32) (v8 : Int32) (v9 : Int32) (v10 : Int32) (w0 : Int32) (S : Hp) (ls : Array Slot) (H : Heap) (locs : List Loc), lv_has ls 14 [(0, .ref v0), (1, .int v1), (2, .int v2), (3, .int v3), (4, .int v4), (5, .int v5), (6, .int v6), (7, .int v7), (8, .int v8), (9, .int v9), (10, .int v10)] → GG D κ A S H → va_S A s.heap H locs → J_X6_bestSet_55 C13 Q v0 v1 v2 v3 v4 v5 v6 v7 v8 v9 v10 w0 S → W p l e ({ frames := 5, cells := 0, slots := 0, locals := 240 } : Room) s m ([.ref a0, .int x1, .int x2, .int x3, .int x4] : List Value).toArray below meth c H locs 0 0 (MQ below (va_Qi Q (BG D κ A) A) ([.ref a0, .int x1, .int x2, .int x3, .int x4] : List Value).toArray s 0 0 A) (F0 m 55 ls [.int w0]) := by
    intro C13 hC13 v0 v1 v2 v3 v4 v5 v6 v7 v8 v9 v10 w0 S ls H locs hl hG hS h
    unfold J_X6_bestSet_55 at h
    refine lv_istore (lv' := [(11, .int w0), (0, .ref v0), (1, .int v1), (2, .int v2), (3, .int v3), (4, .int v4), (5, .int v5), (6, .int v6), (7, .int v7), (8, .int v8), (9, .int v9), (10, .int v10)]) hx hb dX6_bestSet_55 hl (by decide) rfl (fun ls hl => ?_)
    refine lv_iload hx hb dX6_bestSet_57 (lv_at hl 5 rfl) ?_
    refine lv_if_eq (tgt := 67) hx hb dX6_bestSet_59 rfl (fun hc => ?_) (fun hc => ?_)
    · replace h := h.1 hc
      refine lv_iload hx hb dX6_bestSet_67 (lv_at hl 11 rfl) ?_
      exact j_69 _ hC13 v0 v1 v2 v3 v4 v5 v6 v7 v8 w0 v10 S ls _ _ (lv_sub hl [1, 2, 3, 4, 5, 6, 7, 8, 9, 0] rfl) hG hS h
    · replace h := h.2 hc
      refine lv_iload hx hb dX6_bestSet_62 (lv_at hl 10 rfl) ?_
      refine lv_goto (tgt := 69) hx hb dX6_bestSet_64 rfl ?_
      exact j_69 _ hC13 v0 v1 v2 v3 v4 v5 v6 v7 v8 w0 v9 S ls _ _ (lv_sub hl [1, 2, 3, 4, 5, 6, 7, 8, 9, 0] rfl) hG hS h
  have k_13 : ∀  (n : Nat), ∀ (v0 : Nat) (v1 : Int32) (v2 : Int32) (v3 : Int32) (v4 : Int32) (v5 : Int32) (v6 : Int32) (v7 : Int32) (v8 : Int32) (S : Hp) (ls : Array Slot) (H : Heap) (locs : List Loc), lv_has ls 14 [(0, .ref v0), (1, .int v1), (2, .int v2), (3, .int v3), (4, .int v4), (5, .int v5), (6, .int v6), (7, .int v7), (8, .int v8)] → GG D κ A S H → va_S A s.heap H locs → it (L_X6_bestSet_13  Q) n (v0, v1, v2, v3, v4, v5, v6, v7, v8, S) → W p l e ({ frames := 5, cells := 0, slots := 0, locals := 240 } : Room) s m ([.ref a0, .int x1, .int x2, .int x3, .int x4] : List Value).toArray below meth c H locs 0 0 (MQ below (va_Qi Q (BG D κ A) A) ([.ref a0, .int x1, .int x2, .int x3, .int x4] : List Value).toArray s 0 0 A) (F0 m 13 ls []) := by
    intro  n
    induction n with
    | zero => intro v0 v1 v2 v3 v4 v5 v6 v7 v8 S ls H locs hl hG hS h; exact False.elim h
    | succ n hC13 =>
      intro v0 v1 v2 v3 v4 v5 v6 v7 v8 S ls H locs hl hG hS h
      replace h : L_X6_bestSet_13  Q (it (L_X6_bestSet_13  Q) n) (v0, v1, v2, v3, v4, v5, v6, v7, v8, S) := h
      simp only [L_X6_bestSet_13] at h
      refine lv_iload hx hb dX6_bestSet_13 (lv_at hl 8 rfl) ?_
      refine lv_iconst (v := (1 : Int32)) hx hb dX6_bestSet_15 (by decide) ?_
      refine lv_aload_n hx hb dX6_bestSet_16 rfl (lv_at hl 0 rfl) ?_
      have hk := h.1
      replace h := h.2
      refine gg_get (ci := 6) (C := RX6) (T := TX6) (N := 32) hx hb hts (fun _ h => List.mem_cons_of_mem _ (List.mem_append_right _ (h))) hown hK hG (kc_7 hk) rfl 0 (by decide) (hts (.fieldLink RX6 57 "FourStonesModel" "stones" "I") (List.mem_of_getElem? (i := 1) rfl)) (fun _ h9 => h9) rfl dX6_bestSet_17 ?_
      refine lv_ishl hx hb dX6_bestSet_20 ?_
      refine lv_icmp_ge (tgt := 148) hx hb dX6_bestSet_21 rfl (fun hc => ?_) (fun hc => ?_)
      · replace h := h.1 hc
        refine lv_iload hx hb dX6_bestSet_148 (lv_at hl 5 rfl) ?_
        exact W.iret hx hb hr (gr_i h hG hK hX hS) hS.2.2 dX6_bestSet_150
      · replace h := h.2 hc
        refine lv_iload hx hb dX6_bestSet_24 (lv_at hl 8 rfl) ?_
        refine gc_i (va_runS (As := [.int v8]) (rest := []) ⟨hx, hb, hml, hown, hts⟩ (c_X6_bits l D κ A S v8 _ h) (va_cwS 1 hts gX6_bestSet_X6_bits rfl rfl rfl (by decide +kernel) ⟨Nat.le_of_ble_eq_true rfl, Nat.le_of_ble_eq_true rfl⟩) (pg_S hK hX hG (pg_A hA hS)) rfl rfl hl.1 rfl (lv_room (Nat.le_of_ble_eq_true rfl)) dX6_bestSet_26 ⟨Nat.le_of_ble_eq_true rfl, Nat.le_of_ble_eq_true rfl⟩) hS (fun z3 S2 H locs1 h hG hS => ?_)
        refine lv_istore (lv' := [(9, .int z3), (0, .ref v0), (1, .int v1), (2, .int v2), (3, .int v3), (4, .int v4), (5, .int v5), (6, .int v6), (7, .int v7), (8, .int v8)]) hx hb dX6_bestSet_29 hl (by decide) rfl (fun ls hl => ?_)
        refine lv_aload_n hx hb dX6_bestSet_31 rfl (lv_at hl 1 rfl) ?_
        refine lv_iload hx hb dX6_bestSet_32 (lv_at hl 9 rfl) ?_
        refine lv_iload_n hx hb dX6_bestSet_34 rfl (lv_at hl 4 rfl) ?_
        refine lv_iconst (v := (-1 : Int32)) hx hb dX6_bestSet_35 (by decide) ?_
        refine lv_ixor hx hb dX6_bestSet_36 ?_
        refine lv_iand hx hb dX6_bestSet_37 ?_
        have hk := h.1
        replace h := h.2
        refine gc_i (va_runV (As := [.int (v8 &&& (v3 ^^^ (-1 : Int32)))]) (rest := []) ⟨hx, hb, hml, hown, hts⟩ (c_X6_priceOf l D κ A S2 v0 (v8 &&& (v3 ^^^ (-1 : Int32))) _ h) (cwV 1 hts gX6_bestSet_X6_priceOf rfl rfl rfl (by decide +kernel) ⟨Nat.le_of_ble_eq_true rfl, Nat.le_of_ble_eq_true rfl⟩) (pg_V (q := (RX6, TX6, 32)) hK hX hG (pg_A hA hS) (kc_7 hk) rfl) rfl rfl hl.1 rfl (lv_room (Nat.le_of_ble_eq_true rfl)) dX6_bestSet_38 ⟨Nat.le_of_ble_eq_true rfl, Nat.le_of_ble_eq_true rfl⟩) hS (fun z6 S5 H locs4 h hG hS => ?_)
        refine lv_istore (lv' := [(10, .int z6), (9, .int z3), (0, .ref v0), (1, .int v1), (2, .int v2), (3, .int v3), (4, .int v4), (5, .int v5), (6, .int v6), (7, .int v7), (8, .int v8)]) hx hb dX6_bestSet_41 hl (by decide) rfl (fun ls hl => ?_)
        refine lv_iload hx hb dX6_bestSet_43 (lv_at hl 6 rfl) ?_
        refine lv_if_eq (tgt := 53) hx hb dX6_bestSet_45 rfl (fun hc => ?_) (fun hc => ?_)
        · replace h := h.1 hc
          refine lv_iload hx hb dX6_bestSet_53 (lv_at hl 1 rfl) ?_
          exact j_55 _ hC13 v0 v1 v2 v3 v4 v5 v6 v7 v8 z3 z6 z3 S5 ls _ _ (lv_sub hl [2, 3, 4, 5, 6, 7, 8, 9, 10, 1, 0] rfl) hG hS h
        · replace h := h.2 hc
          refine lv_iload hx hb dX6_bestSet_48 (lv_at hl 0 rfl) ?_
          refine lv_goto (tgt := 55) hx hb dX6_bestSet_50 rfl ?_
          exact j_55 _ hC13 v0 v1 v2 v3 v4 v5 v6 v7 v8 z3 z6 z6 S5 ls _ _ (lv_sub hl [2, 3, 4, 5, 6, 7, 8, 9, 10, 1, 0] rfl) hG hS h
  refine lv_bipush (v := (-4 : Int32)) hx hb dX6_bestSet_0 (by decide) ?_
  refine lv_istore (lv' := [(5, .int (-4 : Int32)), (0, .ref a0), (1, .int x1), (2, .int x2), (3, .int x3), (4, .int x4)]) hx hb dX6_bestSet_2 hl (by decide) rfl (fun ls hl => ?_)
  refine lv_iconst (v := (0 : Int32)) hx hb dX6_bestSet_4 (by decide) ?_
  refine lv_istore (lv' := [(6, .int (0 : Int32)), (5, .int (-4 : Int32)), (0, .ref a0), (1, .int x1), (2, .int x2), (3, .int x3), (4, .int x4)]) hx hb dX6_bestSet_5 hl (by decide) rfl (fun ls hl => ?_)
  refine lv_iconst (v := (0 : Int32)) hx hb dX6_bestSet_7 (by decide) ?_
  refine lv_istore (lv' := [(7, .int (0 : Int32)), (6, .int (0 : Int32)), (5, .int (-4 : Int32)), (0, .ref a0), (1, .int x1), (2, .int x2), (3, .int x3), (4, .int x4)]) hx hb dX6_bestSet_8 hl (by decide) rfl (fun ls hl => ?_)
  refine lv_iconst (v := (0 : Int32)) hx hb dX6_bestSet_10 (by decide) ?_
  refine lv_istore (lv' := [(8, .int (0 : Int32)), (7, .int (0 : Int32)), (6, .int (0 : Int32)), (5, .int (-4 : Int32)), (0, .ref a0), (1, .int x1), (2, .int x2), (3, .int x3), (4, .int x4)]) hx hb dX6_bestSet_11 hl (by decide) rfl (fun ls hl => ?_)
  obtain ⟨nn, h⟩ := h
  exact k_13  nn a0 x1 x2 x3 x4 (-4 : Int32) (0 : Int32) (0 : Int32) (0 : Int32) S ls _ _ (lv_sub hl [4, 5, 6, 7, 8, 3, 2, 1, 0] rfl) hG hS h
set_option maxHeartbeats 4000000 in
set_option maxRecDepth 100000 in
theorem c_X6_list (l : Launch) (D : va_G) (κ : Nat → ClassId) (A : Nat → Prop) (S : Hp) (a0 : Nat) (x1 : Int32) (x2 : Int32) (Q : Int32 → Hp → Prop) (h : wp_X6_list a0 x1 x2 S Q) : Met l yX6_list wsX6_list ({ frames := 6, cells := 0, slots := 0, locals := 288 } : Room) (PG D κ A S [.ref a0, .int x1, .int x2]) (va_Qi Q (BG D κ A) A) 0 0 A := by
  refine Met.ofW (cc := cX6_list) (maxL := 3) (ret := (some .int)) (by decide) rfl ?_
  intro p e s m args below meth c s₁ B hml hv
  obtain ⟨hargs, hA, hG, hK, hX⟩ := hv
  have hx := B.exec
  have hb := B.bytes
  have hr := B.returns
  have hts := atoms_spec (ws := wsX6_list) B.pre
  have hown : s.vm.findClass RX6 = some m.cls := findClass_of_methodNamed B.named
  have hlocks := B.notSynchronized
  subst hargs
  clear B
  have hS : va_S A s.heap s.heap [] := va_S.rf
  have hl := lv_entry ([.ref a0, .int x1, .int x2]) (n := 3) (Nat.le_of_ble_eq_true rfl)
  rw [lg_entry_eq]
  generalize (lg_sl ([.ref a0, .int x1, .int x2]) ++ List.replicate (3 - (lg_sl ([.ref a0, .int x1, .int x2])).length) Slot.unset).toArray = ls at hl ⊢
  have hl : lv_has ls 3 [(0, .ref a0), (1, .int x1), (2, .int x2)] := hl
  have hG : GG D κ A S s.heap := hG
  refine lv_iload_n hx hb dX6_list_0 rfl (lv_at hl 1 rfl) ?_
  refine gc_i (va_runS (As := [.int x1]) (rest := []) ⟨hx, hb, hml, hown, hts⟩ (c_X6_isShelf l D κ A S x1 _ h) (va_cwS 1 hts gX6_list_X6_isShelf rfl rfl rfl (by decide +kernel) ⟨Nat.le_of_ble_eq_true rfl, Nat.le_of_ble_eq_true rfl⟩) (pg_S hK hX hG (pg_A hA hS)) rfl rfl hl.1 rfl (lv_room (Nat.le_of_ble_eq_true rfl)) dX6_list_1 ⟨Nat.le_of_ble_eq_true rfl, Nat.le_of_ble_eq_true rfl⟩) hS (fun z3 S2 H locs1 h hG hS => ?_)
  refine lv_if_eq (tgt := 14) hx hb dX6_list_4 rfl (fun hc => ?_) (fun hc => ?_)
  · replace h := h.1 hc
    refine lv_iconst (v := (-1 : Int32)) hx hb dX6_list_14 (by decide) ?_
    exact W.iret hx hb hr (gr_i h hG hK hX hS) hS.2.2 dX6_list_15
  · replace h := h.2 hc
    refine lv_iload_n hx hb dX6_list_7 rfl (lv_at hl 2 rfl) ?_
    refine gc_i (va_runS (As := [.int x2]) (rest := []) ⟨hx, hb, hml, hown, hts⟩ (c_X6_isShelf l D κ A S2 x2 _ h) (va_cwS 1 hts gX6_list_X6_isShelf rfl rfl rfl (by decide +kernel) ⟨Nat.le_of_ble_eq_true rfl, Nat.le_of_ble_eq_true rfl⟩) (pg_S hK hX hG (pg_A hA hS)) rfl rfl hl.1 rfl (lv_room (Nat.le_of_ble_eq_true rfl)) dX6_list_8 ⟨Nat.le_of_ble_eq_true rfl, Nat.le_of_ble_eq_true rfl⟩) hS (fun z6 S5 H locs4 h hG hS => ?_)
    refine lv_if_ne (tgt := 16) hx hb dX6_list_11 rfl (fun hc => ?_) (fun hc => ?_)
    · replace h := h.1 hc
      refine lv_aload_n hx hb dX6_list_16 rfl (lv_at hl 0 rfl) ?_
      refine lv_iload_n hx hb dX6_list_17 rfl (lv_at hl 1 rfl) ?_
      have hk := h.1
      replace h := h.2
      refine gc_i (va_runV (As := [.int x1]) (rest := []) ⟨hx, hb, hml, hown, hts⟩ (c_X6_noScale l D κ A S5 a0 x1 _ h) (cwV 1 hts gX6_list_X6_noScale rfl rfl rfl (by decide +kernel) ⟨Nat.le_of_ble_eq_true rfl, Nat.le_of_ble_eq_true rfl⟩) (pg_V (q := (RX6, TX6, 32)) hK hX hG (pg_A hA hS) (kc_7 hk) rfl) rfl rfl hl.1 rfl (lv_room (Nat.le_of_ble_eq_true rfl)) dX6_list_18 ⟨Nat.le_of_ble_eq_true rfl, Nat.le_of_ble_eq_true rfl⟩) hS (fun z9 S8 H locs7 h hG hS => ?_)
      refine lv_if_eq (tgt := 30) hx hb dX6_list_21 rfl (fun hc => ?_) (fun hc => ?_)
      · replace h := h.1 hc
        refine lv_aload_n hx hb dX6_list_30 rfl (lv_at hl 0 rfl) ?_
        refine lv_iload_n hx hb dX6_list_31 rfl (lv_at hl 2 rfl) ?_
        have hk := h.1
        replace h := h.2
        refine gc_i (va_runV (As := [.int x2]) (rest := []) ⟨hx, hb, hml, hown, hts⟩ (c_X6_noList l D κ A S8 a0 x2 _ h) (cwV 1 hts gX6_list_X6_noList rfl rfl rfl (by decide +kernel) ⟨Nat.le_of_ble_eq_true rfl, Nat.le_of_ble_eq_true rfl⟩) (pg_V (q := (RX6, TX6, 32)) hK hX hG (pg_A hA hS) (kc_7 hk) rfl) rfl rfl hl.1 rfl (lv_room (Nat.le_of_ble_eq_true rfl)) dX6_list_32 ⟨Nat.le_of_ble_eq_true rfl, Nat.le_of_ble_eq_true rfl⟩) hS (fun z12 S11 H locs10 h hG hS => ?_)
        refine lv_if_eq (tgt := 46) hx hb dX6_list_35 rfl (fun hc => ?_) (fun hc => ?_)
        · replace h := h.1 hc
          refine lv_aload_n hx hb dX6_list_46 rfl (lv_at hl 0 rfl) ?_
          refine lv_iload_n hx hb dX6_list_47 rfl (lv_at hl 1 rfl) ?_
          refine lv_iload_n hx hb dX6_list_48 rfl (lv_at hl 2 rfl) ?_
          refine lv_iconst (v := (0 : Int32)) hx hb dX6_list_49 (by decide) ?_
          refine lv_iconst (v := (0 : Int32)) hx hb dX6_list_50 (by decide) ?_
          have hk := h.1
          replace h := h.2
          refine gc_i (va_runV (As := [.int x1, .int x2, .int (0 : Int32), .int (0 : Int32)]) (rest := []) ⟨hx, hb, hml, hown, hts⟩ (c_X6_bestSet l D κ A S11 a0 x1 x2 (0 : Int32) (0 : Int32) _ h) (cwV 4 hts gX6_list_X6_bestSet rfl rfl rfl (by decide +kernel) ⟨Nat.le_of_ble_eq_true rfl, Nat.le_of_ble_eq_true rfl⟩) (pg_V (q := (RX6, TX6, 32)) hK hX hG (pg_A hA hS) (kc_7 hk) rfl) rfl rfl hl.1 rfl (lv_room (Nat.le_of_ble_eq_true rfl)) dX6_list_51 ⟨Nat.le_of_ble_eq_true rfl, Nat.le_of_ble_eq_true rfl⟩) hS (fun z15 S14 H locs13 h hG hS => ?_)
          exact W.iret hx hb hr (gr_i h hG hK hX hS) hS.2.2 dX6_list_54
        · replace h := h.2 hc
          refine lv_aload_n hx hb dX6_list_38 rfl (lv_at hl 0 rfl) ?_
          refine lv_iload_n hx hb dX6_list_39 rfl (lv_at hl 2 rfl) ?_
          have hk := h.1
          replace h := h.2
          refine gc_i (va_runV (As := [.int x2]) (rest := []) ⟨hx, hb, hml, hown, hts⟩ (c_X6_noList l D κ A S11 a0 x2 _ h) (cwV 1 hts gX6_list_X6_noList rfl rfl rfl (by decide +kernel) ⟨Nat.le_of_ble_eq_true rfl, Nat.le_of_ble_eq_true rfl⟩) (pg_V (q := (RX6, TX6, 32)) hK hX hG (pg_A hA hS) (kc_7 hk) rfl) rfl rfl hl.1 rfl (lv_room (Nat.le_of_ble_eq_true rfl)) dX6_list_40 ⟨Nat.le_of_ble_eq_true rfl, Nat.le_of_ble_eq_true rfl⟩) hS (fun z18 S17 H locs16 h hG hS => ?_)
          refine lv_goto (tgt := 54) hx hb dX6_list_43 rfl ?_
          exact W.iret hx hb hr (gr_i h hG hK hX hS) hS.2.2 dX6_list_54
      · replace h := h.2 hc
        refine lv_aload_n hx hb dX6_list_24 rfl (lv_at hl 0 rfl) ?_
        refine lv_iload_n hx hb dX6_list_25 rfl (lv_at hl 1 rfl) ?_
        have hk := h.1
        replace h := h.2
        refine gc_i (va_runV (As := [.int x1]) (rest := []) ⟨hx, hb, hml, hown, hts⟩ (c_X6_noScale l D κ A S8 a0 x1 _ h) (cwV 1 hts gX6_list_X6_noScale rfl rfl rfl (by decide +kernel) ⟨Nat.le_of_ble_eq_true rfl, Nat.le_of_ble_eq_true rfl⟩) (pg_V (q := (RX6, TX6, 32)) hK hX hG (pg_A hA hS) (kc_7 hk) rfl) rfl rfl hl.1 rfl (lv_room (Nat.le_of_ble_eq_true rfl)) dX6_list_26 ⟨Nat.le_of_ble_eq_true rfl, Nat.le_of_ble_eq_true rfl⟩) hS (fun z21 S20 H locs19 h hG hS => ?_)
        exact W.iret hx hb hr (gr_i h hG hK hX hS) hS.2.2 dX6_list_29
    · replace h := h.2 hc
      refine lv_iconst (v := (-1 : Int32)) hx hb dX6_list_14 (by decide) ?_
      exact W.iret hx hb hr (gr_i h hG hK hX hS) hS.2.2 dX6_list_15
set_option maxHeartbeats 4000000 in
set_option maxRecDepth 100000 in
theorem c_X6_cheapest (l : Launch) (D : va_G) (κ : Nat → ClassId) (A : Nat → Prop) (S : Hp) (a0 : Nat) (x1 : Int32) (x2 : Int32) (x3 : Int32) (x4 : Int32) (Q : Int32 → Hp → Prop) (h : wp_X6_cheapest a0 x1 x2 x3 x4 S Q) : Met l yX6_cheapest wsX6_cheapest ({ frames := 6, cells := 0, slots := 0, locals := 288 } : Room) (PG D κ A S [.ref a0, .int x1, .int x2, .int x3, .int x4]) (va_Qi Q (BG D κ A) A) 0 0 A := by
  refine Met.ofW (cc := cX6_cheapest) (maxL := 6) (ret := (some .int)) (by decide) rfl ?_
  intro p e s m args below meth c s₁ B hml hv
  obtain ⟨hargs, hA, hG, hK, hX⟩ := hv
  have hx := B.exec
  have hb := B.bytes
  have hr := B.returns
  have hts := atoms_spec (ws := wsX6_cheapest) B.pre
  have hown : s.vm.findClass RX6 = some m.cls := findClass_of_methodNamed B.named
  have hlocks := B.notSynchronized
  subst hargs
  clear B
  have hS : va_S A s.heap s.heap [] := va_S.rf
  have hl := lv_entry ([.ref a0, .int x1, .int x2, .int x3, .int x4]) (n := 6) (Nat.le_of_ble_eq_true rfl)
  rw [lg_entry_eq]
  generalize (lg_sl ([.ref a0, .int x1, .int x2, .int x3, .int x4]) ++ List.replicate (6 - (lg_sl ([.ref a0, .int x1, .int x2, .int x3, .int x4])).length) Slot.unset).toArray = ls at hl ⊢
  have hl : lv_has ls 6 [(0, .ref a0), (1, .int x1), (2, .int x2), (3, .int x3), (4, .int x4)] := hl
  have hG : GG D κ A S s.heap := hG
  refine lv_iload_n hx hb dX6_cheapest_0 rfl (lv_at hl 1 rfl) ?_
  refine gc_i (va_runS (As := [.int x1]) (rest := []) ⟨hx, hb, hml, hown, hts⟩ (c_X6_isShelf l D κ A S x1 _ h) (va_cwS 1 hts gX6_cheapest_X6_isShelf rfl rfl rfl (by decide +kernel) ⟨Nat.le_of_ble_eq_true rfl, Nat.le_of_ble_eq_true rfl⟩) (pg_S hK hX hG (pg_A hA hS)) rfl rfl hl.1 rfl (lv_room (Nat.le_of_ble_eq_true rfl)) dX6_cheapest_1 ⟨Nat.le_of_ble_eq_true rfl, Nat.le_of_ble_eq_true rfl⟩) hS (fun z3 S2 H locs1 h hG hS => ?_)
  refine lv_if_eq (tgt := 40) hx hb dX6_cheapest_4 rfl (fun hc => ?_) (fun hc => ?_)
  · replace h := h.1 hc
    refine lv_iconst (v := (-1 : Int32)) hx hb dX6_cheapest_40 (by decide) ?_
    exact W.iret hx hb hr (gr_i h hG hK hX hS) hS.2.2 dX6_cheapest_41
  · replace h := h.2 hc
    refine lv_iload_n hx hb dX6_cheapest_7 rfl (lv_at hl 2 rfl) ?_
    refine gc_i (va_runS (As := [.int x2]) (rest := []) ⟨hx, hb, hml, hown, hts⟩ (c_X6_isShelf l D κ A S2 x2 _ h) (va_cwS 1 hts gX6_cheapest_X6_isShelf rfl rfl rfl (by decide +kernel) ⟨Nat.le_of_ble_eq_true rfl, Nat.le_of_ble_eq_true rfl⟩) (pg_S hK hX hG (pg_A hA hS)) rfl rfl hl.1 rfl (lv_room (Nat.le_of_ble_eq_true rfl)) dX6_cheapest_8 ⟨Nat.le_of_ble_eq_true rfl, Nat.le_of_ble_eq_true rfl⟩) hS (fun z6 S5 H locs4 h hG hS => ?_)
    refine lv_if_eq (tgt := 40) hx hb dX6_cheapest_11 rfl (fun hc => ?_) (fun hc => ?_)
    · replace h := h.1 hc
      refine lv_iconst (v := (-1 : Int32)) hx hb dX6_cheapest_40 (by decide) ?_
      exact W.iret hx hb hr (gr_i h hG hK hX hS) hS.2.2 dX6_cheapest_41
    · replace h := h.2 hc
      refine lv_iload_n hx hb dX6_cheapest_14 rfl (lv_at hl 3 rfl) ?_
      refine lv_iconst (v := (0 : Int32)) hx hb dX6_cheapest_15 (by decide) ?_
      refine lv_iconst (v := (1 : Int32)) hx hb dX6_cheapest_16 (by decide) ?_
      refine lv_aload_n hx hb dX6_cheapest_17 rfl (lv_at hl 0 rfl) ?_
      have hk := h.1
      replace h := h.2
      refine gg_get (ci := 6) (C := RX6) (T := TX6) (N := 32) hx hb hts (fun _ h => List.mem_cons_of_mem _ (List.mem_append_right _ (h))) hown hK hG (kc_7 hk) rfl 0 (by decide) (hts (.fieldLink RX6 57 "FourStonesModel" "stones" "I") (List.mem_of_getElem? (i := 1) rfl)) (fun _ h9 => h9) rfl dX6_cheapest_18 ?_
      refine lv_ishl hx hb dX6_cheapest_21 ?_
      refine lv_iconst (v := (1 : Int32)) hx hb dX6_cheapest_22 (by decide) ?_
      refine lv_isub hx hb dX6_cheapest_23 ?_
      refine gc_i (va_runS (As := [.int x3, .int (0 : Int32), .int (((1 : Int32) <<< ((gI S5 70 a0) &&& 31)) - (1 : Int32))]) (rest := []) ⟨hx, hb, hml, hown, hts⟩ (c_X6_isIn l D κ A S5 x3 (0 : Int32) (((1 : Int32) <<< ((gI S5 70 a0) &&& 31)) - (1 : Int32)) _ h) (va_cwS 3 hts gX6_cheapest_X6_isIn rfl rfl rfl (by decide +kernel) ⟨Nat.le_of_ble_eq_true rfl, Nat.le_of_ble_eq_true rfl⟩) (pg_S hK hX hG (pg_A hA hS)) rfl rfl hl.1 rfl (lv_room (Nat.le_of_ble_eq_true rfl)) dX6_cheapest_24 ⟨Nat.le_of_ble_eq_true rfl, Nat.le_of_ble_eq_true rfl⟩) hS (fun z9 S8 H locs7 h hG hS => ?_)
      refine lv_if_eq (tgt := 40) hx hb dX6_cheapest_27 rfl (fun hc => ?_) (fun hc => ?_)
      · replace h := h.1 hc
        refine lv_iconst (v := (-1 : Int32)) hx hb dX6_cheapest_40 (by decide) ?_
        exact W.iret hx hb hr (gr_i h hG hK hX hS) hS.2.2 dX6_cheapest_41
      · replace h := h.2 hc
        refine lv_iload hx hb dX6_cheapest_30 (lv_at hl 4 rfl) ?_
        refine lv_iconst (v := (0 : Int32)) hx hb dX6_cheapest_32 (by decide) ?_
        refine lv_iconst (v := (1 : Int32)) hx hb dX6_cheapest_33 (by decide) ?_
        refine gc_i (va_runS (As := [.int x4, .int (0 : Int32), .int (1 : Int32)]) (rest := []) ⟨hx, hb, hml, hown, hts⟩ (c_X6_isIn l D κ A S8 x4 (0 : Int32) (1 : Int32) _ h) (va_cwS 3 hts gX6_cheapest_X6_isIn rfl rfl rfl (by decide +kernel) ⟨Nat.le_of_ble_eq_true rfl, Nat.le_of_ble_eq_true rfl⟩) (pg_S hK hX hG (pg_A hA hS)) rfl rfl hl.1 rfl (lv_room (Nat.le_of_ble_eq_true rfl)) dX6_cheapest_34 ⟨Nat.le_of_ble_eq_true rfl, Nat.le_of_ble_eq_true rfl⟩) hS (fun z12 S11 H locs10 h hG hS => ?_)
        refine lv_if_ne (tgt := 42) hx hb dX6_cheapest_37 rfl (fun hc => ?_) (fun hc => ?_)
        · replace h := h.1 hc
          refine lv_aload_n hx hb dX6_cheapest_42 rfl (lv_at hl 0 rfl) ?_
          refine lv_iload_n hx hb dX6_cheapest_43 rfl (lv_at hl 1 rfl) ?_
          have hk := h.1
          replace h := h.2
          refine gc_i (va_runV (As := [.int x1]) (rest := []) ⟨hx, hb, hml, hown, hts⟩ (c_X6_noScale l D κ A S11 a0 x1 _ h) (cwV 1 hts gX6_cheapest_X6_noScale rfl rfl rfl (by decide +kernel) ⟨Nat.le_of_ble_eq_true rfl, Nat.le_of_ble_eq_true rfl⟩) (pg_V (q := (RX6, TX6, 32)) hK hX hG (pg_A hA hS) (kc_7 hk) rfl) rfl rfl hl.1 rfl (lv_room (Nat.le_of_ble_eq_true rfl)) dX6_cheapest_44 ⟨Nat.le_of_ble_eq_true rfl, Nat.le_of_ble_eq_true rfl⟩) hS (fun z15 S14 H locs13 h hG hS => ?_)
          refine lv_if_eq (tgt := 56) hx hb dX6_cheapest_47 rfl (fun hc => ?_) (fun hc => ?_)
          · replace h := h.1 hc
            refine lv_aload_n hx hb dX6_cheapest_56 rfl (lv_at hl 0 rfl) ?_
            refine lv_iload_n hx hb dX6_cheapest_57 rfl (lv_at hl 2 rfl) ?_
            have hk := h.1
            replace h := h.2
            refine gc_i (va_runV (As := [.int x2]) (rest := []) ⟨hx, hb, hml, hown, hts⟩ (c_X6_noList l D κ A S14 a0 x2 _ h) (cwV 1 hts gX6_cheapest_X6_noList rfl rfl rfl (by decide +kernel) ⟨Nat.le_of_ble_eq_true rfl, Nat.le_of_ble_eq_true rfl⟩) (pg_V (q := (RX6, TX6, 32)) hK hX hG (pg_A hA hS) (kc_7 hk) rfl) rfl rfl hl.1 rfl (lv_room (Nat.le_of_ble_eq_true rfl)) dX6_cheapest_58 ⟨Nat.le_of_ble_eq_true rfl, Nat.le_of_ble_eq_true rfl⟩) hS (fun z18 S17 H locs16 h hG hS => ?_)
            refine lv_if_eq (tgt := 70) hx hb dX6_cheapest_61 rfl (fun hc => ?_) (fun hc => ?_)
            · replace h := h.1 hc
              refine lv_aload_n hx hb dX6_cheapest_70 rfl (lv_at hl 0 rfl) ?_
              refine lv_iload_n hx hb dX6_cheapest_71 rfl (lv_at hl 1 rfl) ?_
              refine lv_iload_n hx hb dX6_cheapest_72 rfl (lv_at hl 2 rfl) ?_
              refine lv_iload_n hx hb dX6_cheapest_73 rfl (lv_at hl 3 rfl) ?_
              refine lv_iconst (v := (1 : Int32)) hx hb dX6_cheapest_74 (by decide) ?_
              have hk := h.1
              replace h := h.2
              refine gc_i (va_runV (As := [.int x1, .int x2, .int x3, .int (1 : Int32)]) (rest := []) ⟨hx, hb, hml, hown, hts⟩ (c_X6_bestSet l D κ A S17 a0 x1 x2 x3 (1 : Int32) _ h) (cwV 4 hts gX6_cheapest_X6_bestSet rfl rfl rfl (by decide +kernel) ⟨Nat.le_of_ble_eq_true rfl, Nat.le_of_ble_eq_true rfl⟩) (pg_V (q := (RX6, TX6, 32)) hK hX hG (pg_A hA hS) (kc_7 hk) rfl) rfl rfl hl.1 rfl (lv_room (Nat.le_of_ble_eq_true rfl)) dX6_cheapest_75 ⟨Nat.le_of_ble_eq_true rfl, Nat.le_of_ble_eq_true rfl⟩) hS (fun z21 S20 H locs19 h hG hS => ?_)
              refine lv_istore (lv' := [(5, .int z21), (0, .ref a0), (1, .int x1), (2, .int x2), (3, .int x3), (4, .int x4)]) hx hb dX6_cheapest_78 hl (by decide) rfl (fun ls hl => ?_)
              refine lv_iload hx hb dX6_cheapest_80 (lv_at hl 0 rfl) ?_
              refine lv_bipush (v := (-4 : Int32)) hx hb dX6_cheapest_82 (by decide) ?_
              refine lv_icmp_eq (tgt := 92) hx hb dX6_cheapest_84 rfl (fun hc => ?_) (fun hc => ?_)
              · replace h := h.1 hc
                refine lv_iload hx hb dX6_cheapest_92 (lv_at hl 0 rfl) ?_
                refine lv_goto (tgt := 107) hx hb dX6_cheapest_94 rfl ?_
                exact W.iret hx hb hr (gr_i h hG hK hX hS) hS.2.2 dX6_cheapest_107
              · replace h := h.2 hc
                refine lv_iload hx hb dX6_cheapest_87 (lv_at hl 5 rfl) ?_
                refine lv_if_ne (tgt := 97) hx hb dX6_cheapest_89 rfl (fun hc => ?_) (fun hc => ?_)
                · replace h := h.1 hc
                  refine lv_aload_n hx hb dX6_cheapest_97 rfl (lv_at hl 1 rfl) ?_
                  refine lv_iload hx hb dX6_cheapest_98 (lv_at hl 0 rfl) ?_
                  refine lv_iload_n hx hb dX6_cheapest_100 rfl (lv_at hl 4 rfl) ?_
                  refine lv_iconst (v := (-1 : Int32)) hx hb dX6_cheapest_101 (by decide) ?_
                  refine lv_ixor hx hb dX6_cheapest_102 ?_
                  refine lv_iand hx hb dX6_cheapest_103 ?_
                  have hk := h.1
                  replace h := h.2
                  refine gc_i (va_runV (As := [.int (z21 &&& (x3 ^^^ (-1 : Int32)))]) (rest := []) ⟨hx, hb, hml, hown, hts⟩ (c_X6_priceOf l D κ A S20 a0 (z21 &&& (x3 ^^^ (-1 : Int32))) _ h) (cwV 1 hts gX6_cheapest_X6_priceOf rfl rfl rfl (by decide +kernel) ⟨Nat.le_of_ble_eq_true rfl, Nat.le_of_ble_eq_true rfl⟩) (pg_V (q := (RX6, TX6, 32)) hK hX hG (pg_A hA hS) (kc_7 hk) rfl) rfl rfl hl.1 rfl (lv_room (Nat.le_of_ble_eq_true rfl)) dX6_cheapest_104 ⟨Nat.le_of_ble_eq_true rfl, Nat.le_of_ble_eq_true rfl⟩) hS (fun z24 S23 H locs22 h hG hS => ?_)
                  exact W.iret hx hb hr (gr_i h hG hK hX hS) hS.2.2 dX6_cheapest_107
                · replace h := h.2 hc
                  refine lv_iload hx hb dX6_cheapest_92 (lv_at hl 0 rfl) ?_
                  refine lv_goto (tgt := 107) hx hb dX6_cheapest_94 rfl ?_
                  exact W.iret hx hb hr (gr_i h hG hK hX hS) hS.2.2 dX6_cheapest_107
            · replace h := h.2 hc
              refine lv_aload_n hx hb dX6_cheapest_64 rfl (lv_at hl 0 rfl) ?_
              refine lv_iload_n hx hb dX6_cheapest_65 rfl (lv_at hl 2 rfl) ?_
              have hk := h.1
              replace h := h.2
              refine gc_i (va_runV (As := [.int x2]) (rest := []) ⟨hx, hb, hml, hown, hts⟩ (c_X6_noList l D κ A S17 a0 x2 _ h) (cwV 1 hts gX6_cheapest_X6_noList rfl rfl rfl (by decide +kernel) ⟨Nat.le_of_ble_eq_true rfl, Nat.le_of_ble_eq_true rfl⟩) (pg_V (q := (RX6, TX6, 32)) hK hX hG (pg_A hA hS) (kc_7 hk) rfl) rfl rfl hl.1 rfl (lv_room (Nat.le_of_ble_eq_true rfl)) dX6_cheapest_66 ⟨Nat.le_of_ble_eq_true rfl, Nat.le_of_ble_eq_true rfl⟩) hS (fun z27 S26 H locs25 h hG hS => ?_)
              exact W.iret hx hb hr (gr_i h hG hK hX hS) hS.2.2 dX6_cheapest_69
          · replace h := h.2 hc
            refine lv_aload_n hx hb dX6_cheapest_50 rfl (lv_at hl 0 rfl) ?_
            refine lv_iload_n hx hb dX6_cheapest_51 rfl (lv_at hl 1 rfl) ?_
            have hk := h.1
            replace h := h.2
            refine gc_i (va_runV (As := [.int x1]) (rest := []) ⟨hx, hb, hml, hown, hts⟩ (c_X6_noScale l D κ A S14 a0 x1 _ h) (cwV 1 hts gX6_cheapest_X6_noScale rfl rfl rfl (by decide +kernel) ⟨Nat.le_of_ble_eq_true rfl, Nat.le_of_ble_eq_true rfl⟩) (pg_V (q := (RX6, TX6, 32)) hK hX hG (pg_A hA hS) (kc_7 hk) rfl) rfl rfl hl.1 rfl (lv_room (Nat.le_of_ble_eq_true rfl)) dX6_cheapest_52 ⟨Nat.le_of_ble_eq_true rfl, Nat.le_of_ble_eq_true rfl⟩) hS (fun z30 S29 H locs28 h hG hS => ?_)
            exact W.iret hx hb hr (gr_i h hG hK hX hS) hS.2.2 dX6_cheapest_55
        · replace h := h.2 hc
          refine lv_iconst (v := (-1 : Int32)) hx hb dX6_cheapest_40 (by decide) ?_
          exact W.iret hx hb hr (gr_i h hG hK hX hS) hS.2.2 dX6_cheapest_41
set_option maxHeartbeats 4000000 in
set_option maxRecDepth 100000 in
theorem c_X6_threes (l : Launch) (D : va_G) (κ : Nat → ClassId) (A : Nat → Prop) (S : Hp) (a0 : Nat) (x1 : Int32) (x2 : Int32) (Q : Int32 → Hp → Prop) (h : wp_X6_threes a0 x1 x2 S Q) : Met l yX6_threes wsX6_threes ({ frames := 2, cells := 0, slots := 0, locals := 96 } : Room) (PG D κ A S [.ref a0, .int x1, .int x2]) (va_Qi Q (BG D κ A) A) 0 0 A := by
  refine Met.ofW (cc := cX6_threes) (maxL := 6) (ret := (some .int)) (by decide) rfl ?_
  intro p e s m args below meth c s₁ B hml hv
  obtain ⟨hargs, hA, hG, hK, hX⟩ := hv
  have hx := B.exec
  have hb := B.bytes
  have hr := B.returns
  have hts := atoms_spec (ws := wsX6_threes) B.pre
  have hown : s.vm.findClass RX6 = some m.cls := findClass_of_methodNamed B.named
  have hlocks := B.notSynchronized
  subst hargs
  clear B
  have hS : va_S A s.heap s.heap [] := va_S.rf
  have hl := lv_entry ([.ref a0, .int x1, .int x2]) (n := 6) (Nat.le_of_ble_eq_true rfl)
  rw [lg_entry_eq]
  generalize (lg_sl ([.ref a0, .int x1, .int x2]) ++ List.replicate (6 - (lg_sl ([.ref a0, .int x1, .int x2])).length) Slot.unset).toArray = ls at hl ⊢
  have hl : lv_has ls 6 [(0, .ref a0), (1, .int x1), (2, .int x2)] := hl
  have hG : GG D κ A S s.heap := hG
  have k_26 : ∀  (n : Nat), ∀ (v1 : Int32) (v2 : Int32) (v3 : Int32) (v4 : Int32) (v5 : Int32) (S : Hp) (ls : Array Slot) (H : Heap) (locs : List Loc), lv_has ls 6 [(1, .int v1), (2, .int v2), (3, .int v3), (4, .int v4), (5, .int v5)] → GG D κ A S H → va_S A s.heap H locs → it (L_X6_threes_26  Q) n (v1, v2, v3, v4, v5, S) → W p l e ({ frames := 2, cells := 0, slots := 0, locals := 96 } : Room) s m ([.ref a0, .int x1, .int x2] : List Value).toArray below meth c H locs 0 0 (MQ below (va_Qi Q (BG D κ A) A) ([.ref a0, .int x1, .int x2] : List Value).toArray s 0 0 A) (F0 m 26 ls []) := by
    intro  n
    induction n with
    | zero => intro v1 v2 v3 v4 v5 S ls H locs hl hG hS h; exact False.elim h
    | succ n hC26 =>
      intro v1 v2 v3 v4 v5 S ls H locs hl hG hS h
      replace h : L_X6_threes_26  Q (it (L_X6_threes_26  Q) n) (v1, v2, v3, v4, v5, S) := h
      simp only [L_X6_threes_26] at h
      refine lv_iload hx hb dX6_threes_26 (lv_at hl 3 rfl) ?_
      refine lv_iload_n hx hb dX6_threes_28 rfl (lv_at hl 0 rfl) ?_
      refine lv_icmp_ge (tgt := 51) hx hb dX6_threes_29 rfl (fun hc => ?_) (fun hc => ?_)
      · replace h := h.1 hc
        refine lv_iload_n hx hb dX6_threes_51 rfl (lv_at hl 1 rfl) ?_
        refine lv_if_ge (tgt := 59) hx hb dX6_threes_52 rfl (fun hc => ?_) (fun hc => ?_)
        · replace h := h.1 hc
          refine lv_iload_n hx hb dX6_threes_59 rfl (lv_at hl 1 rfl) ?_
          refine lv_iload_n hx hb dX6_threes_60 rfl (lv_at hl 2 rfl) ?_
          refine lv_icmp_ge (tgt := 71) hx hb dX6_threes_61 rfl (fun hc => ?_) (fun hc => ?_)
          · replace h := h.1 hc
            refine lv_bipush (v := (-4 : Int32)) hx hb dX6_threes_71 (by decide) ?_
            exact W.iret hx hb hr (gr_i h hG hK hX hS) hS.2.2 dX6_threes_73
          · replace h := h.2 hc
            refine lv_iload_n hx hb dX6_threes_64 rfl (lv_at hl 1 rfl) ?_
            refine gc_i (va_runS (As := [.int v2]) (rest := []) ⟨hx, hb, hml, hown, hts⟩ (c_X6_power l D κ A S v2 _ h) (va_cwS 1 hts gX6_threes_X6_power rfl rfl rfl (by decide +kernel) ⟨Nat.le_of_ble_eq_true rfl, Nat.le_of_ble_eq_true rfl⟩) (pg_S hK hX hG (pg_A hA hS)) rfl rfl hl.1 rfl (lv_room (Nat.le_of_ble_eq_true rfl)) dX6_threes_65 ⟨Nat.le_of_ble_eq_true rfl, Nat.le_of_ble_eq_true rfl⟩) hS (fun z3 S2 H locs1 h hG hS => ?_)
            refine lv_goto (tgt := 73) hx hb dX6_threes_68 rfl ?_
            exact W.iret hx hb hr (gr_i h hG hK hX hS) hS.2.2 dX6_threes_73
        · replace h := h.2 hc
          refine lv_iload_n hx hb dX6_threes_55 rfl (lv_at hl 2 rfl) ?_
          refine lv_goto (tgt := 73) hx hb dX6_threes_56 rfl ?_
          exact W.iret hx hb hr (gr_i h hG hK hX hS) hS.2.2 dX6_threes_73
      · replace h := h.2 hc
        refine lv_iload hx hb dX6_threes_32 (lv_at hl 3 rfl) ?_
        refine lv_iload hx hb dX6_threes_34 (lv_at hl 4 rfl) ?_
        refine lv_iadd hx hb dX6_threes_36 ?_
        refine lv_topi (fun y4 ey4 => ?_)
        replace h := h y4 ey4
        refine lv_istore (lv' := [(4, .int y4), (1, .int v1), (2, .int v2), (3, .int v3), (5, .int v5)]) hx hb dX6_threes_37 hl (by decide) rfl (fun ls hl => ?_)
        refine lv_iload hx hb dX6_threes_39 (lv_at hl 4 rfl) ?_
        refine lv_iconst (v := (3 : Int32)) hx hb dX6_threes_41 (by decide) ?_
        refine lv_imul hx hb dX6_threes_42 ?_
        refine lv_topi (fun y5 ey5 => ?_)
        replace h := h y5 ey5
        refine lv_istore (lv' := [(5, .int y5), (4, .int y4), (1, .int v1), (2, .int v2), (3, .int v3)]) hx hb dX6_threes_43 hl (by decide) rfl (fun ls hl => ?_)
        obtain ⟨y6, ey6⟩ : ∃ z, z = v3 + (1 : Int32) := ⟨_, rfl⟩
        replace h := h y6 ey6
        refine lv_iinc (v := y6) (lv' := [(3, .int y6), (5, .int y5), (4, .int y4), (1, .int v1), (2, .int v2)]) hx hb dX6_threes_45 hl (k := 4) rfl (by rw [ey6]; rfl) (by decide) rfl (fun ls hl => ?_)
        refine lv_goto (tgt := 26) hx hb dX6_threes_48 rfl ?_
        exact hC26 v1 v2 y6 y4 y5 S ls _ _ (lv_sub hl [3, 4, 0, 2, 1] rfl) hG hS h
  refine lv_iload_n hx hb dX6_threes_0 rfl (lv_at hl 1 rfl) ?_
  refine lv_iconst (v := (1 : Int32)) hx hb dX6_threes_1 (by decide) ?_
  refine lv_sipush (v := (9999 : Int32)) hx hb dX6_threes_2 (by decide) ?_
  refine gc_i (va_runS (As := [.int x1, .int (1 : Int32), .int (9999 : Int32)]) (rest := []) ⟨hx, hb, hml, hown, hts⟩ (c_X6_isIn l D κ A S x1 (1 : Int32) (9999 : Int32) _ h) (va_cwS 3 hts gX6_threes_X6_isIn rfl rfl rfl (by decide +kernel) ⟨Nat.le_of_ble_eq_true rfl, Nat.le_of_ble_eq_true rfl⟩) (pg_S hK hX hG (pg_A hA hS)) rfl rfl hl.1 rfl (lv_room (Nat.le_of_ble_eq_true rfl)) dX6_threes_5 ⟨Nat.le_of_ble_eq_true rfl, Nat.le_of_ble_eq_true rfl⟩) hS (fun z3 S2 H locs1 h hG hS => ?_)
  refine lv_if_eq (tgt := 16) hx hb dX6_threes_8 rfl (fun hc => ?_) (fun hc => ?_)
  · replace h := h.1 hc
    refine lv_iconst (v := (-1 : Int32)) hx hb dX6_threes_16 (by decide) ?_
    exact W.iret hx hb hr (gr_i h hG hK hX hS) hS.2.2 dX6_threes_17
  · replace h := h.2 hc
    refine lv_iload_n hx hb dX6_threes_11 rfl (lv_at hl 2 rfl) ?_
    refine lv_iconst (v := (-1 : Int32)) hx hb dX6_threes_12 (by decide) ?_
    refine lv_icmp_ge (tgt := 18) hx hb dX6_threes_13 rfl (fun hc => ?_) (fun hc => ?_)
    · replace h := h.1 hc
      refine lv_iconst (v := (0 : Int32)) hx hb dX6_threes_18 (by decide) ?_
      refine lv_istore_n (lv' := [(3, .int (0 : Int32)), (0, .ref a0), (1, .int x1), (2, .int x2)]) hx hb dX6_threes_19 rfl hl (by decide) rfl (fun ls hl => ?_)
      refine lv_iconst (v := (0 : Int32)) hx hb dX6_threes_20 (by decide) ?_
      refine lv_istore (lv' := [(4, .int (0 : Int32)), (3, .int (0 : Int32)), (0, .ref a0), (1, .int x1), (2, .int x2)]) hx hb dX6_threes_21 hl (by decide) rfl (fun ls hl => ?_)
      refine lv_iconst (v := (1 : Int32)) hx hb dX6_threes_23 (by decide) ?_
      refine lv_istore (lv' := [(5, .int (1 : Int32)), (4, .int (0 : Int32)), (3, .int (0 : Int32)), (0, .ref a0), (1, .int x1), (2, .int x2)]) hx hb dX6_threes_24 hl (by decide) rfl (fun ls hl => ?_)
      obtain ⟨nn, h⟩ := h
      exact k_26  nn x1 x2 (0 : Int32) (0 : Int32) (1 : Int32) S2 ls _ _ (lv_sub hl [4, 5, 2, 1, 0] rfl) hG hS h
    · replace h := h.2 hc
      refine lv_iconst (v := (-1 : Int32)) hx hb dX6_threes_16 (by decide) ?_
      exact W.iret hx hb hr (gr_i h hG hK hX hS) hS.2.2 dX6_threes_17
set_option maxHeartbeats 4000000 in
set_option maxRecDepth 100000 in
theorem c_X6_doubles (l : Launch) (D : va_G) (κ : Nat → ClassId) (A : Nat → Prop) (S : Hp) (a0 : Nat) (x1 : Int32) (x2 : Int32) (Q : Int32 → Hp → Prop) (h : wp_X6_doubles a0 x1 x2 S Q) : Met l yX6_doubles wsX6_doubles ({ frames := 2, cells := 0, slots := 0, locals := 96 } : Room) (PG D κ A S [.ref a0, .int x1, .int x2]) (va_Qi Q (BG D κ A) A) 0 0 A := by
  refine Met.ofW (cc := cX6_doubles) (maxL := 4) (ret := (some .int)) (by decide) rfl ?_
  intro p e s m args below meth c s₁ B hml hv
  obtain ⟨hargs, hA, hG, hK, hX⟩ := hv
  have hx := B.exec
  have hb := B.bytes
  have hr := B.returns
  have hts := atoms_spec (ws := wsX6_doubles) B.pre
  have hown : s.vm.findClass RX6 = some m.cls := findClass_of_methodNamed B.named
  have hlocks := B.notSynchronized
  subst hargs
  clear B
  have hS : va_S A s.heap s.heap [] := va_S.rf
  have hl := lv_entry ([.ref a0, .int x1, .int x2]) (n := 4) (Nat.le_of_ble_eq_true rfl)
  rw [lg_entry_eq]
  generalize (lg_sl ([.ref a0, .int x1, .int x2]) ++ List.replicate (4 - (lg_sl ([.ref a0, .int x1, .int x2])).length) Slot.unset).toArray = ls at hl ⊢
  have hl : lv_has ls 4 [(0, .ref a0), (1, .int x1), (2, .int x2)] := hl
  have hG : GG D κ A S s.heap := hG
  have k_20 : ∀  (n : Nat), ∀ (v1 : Int32) (v2 : Int32) (v3 : Int32) (S : Hp) (ls : Array Slot) (H : Heap) (locs : List Loc), lv_has ls 4 [(1, .int v1), (2, .int v2), (3, .int v3)] → GG D κ A S H → va_S A s.heap H locs → it (L_X6_doubles_20  Q) n (v1, v2, v3, S) → W p l e ({ frames := 2, cells := 0, slots := 0, locals := 96 } : Room) s m ([.ref a0, .int x1, .int x2] : List Value).toArray below meth c H locs 0 0 (MQ below (va_Qi Q (BG D κ A) A) ([.ref a0, .int x1, .int x2] : List Value).toArray s 0 0 A) (F0 m 20 ls []) := by
    intro  n
    induction n with
    | zero => intro v1 v2 v3 S ls H locs hl hG hS h; exact False.elim h
    | succ n hC20 =>
      intro v1 v2 v3 S ls H locs hl hG hS h
      replace h : L_X6_doubles_20  Q (it (L_X6_doubles_20  Q) n) (v1, v2, v3, S) := h
      simp only [L_X6_doubles_20] at h
      refine lv_iconst (v := (1 : Int32)) hx hb dX6_doubles_20 (by decide) ?_
      refine lv_iload_n hx hb dX6_doubles_21 rfl (lv_at hl 2 rfl) ?_
      refine lv_ishl hx hb dX6_doubles_22 ?_
      refine lv_iconst (v := (1 : Int32)) hx hb dX6_doubles_23 (by decide) ?_
      refine lv_isub hx hb dX6_doubles_24 ?_
      refine lv_iload_n hx hb dX6_doubles_25 rfl (lv_at hl 0 rfl) ?_
      refine lv_icmp_ge (tgt := 35) hx hb dX6_doubles_26 rfl (fun hc => ?_) (fun hc => ?_)
      · replace h := h.1 hc
        refine lv_iload_n hx hb dX6_doubles_35 rfl (lv_at hl 1 rfl) ?_
        refine lv_if_ge (tgt := 43) hx hb dX6_doubles_36 rfl (fun hc => ?_) (fun hc => ?_)
        · replace h := h.1 hc
          refine lv_iload_n hx hb dX6_doubles_43 rfl (lv_at hl 1 rfl) ?_
          refine lv_iload_n hx hb dX6_doubles_44 rfl (lv_at hl 2 rfl) ?_
          refine lv_icmp_ge (tgt := 54) hx hb dX6_doubles_45 rfl (fun hc => ?_) (fun hc => ?_)
          · replace h := h.1 hc
            refine lv_bipush (v := (-4 : Int32)) hx hb dX6_doubles_54 (by decide) ?_
            exact W.iret hx hb hr (gr_i h hG hK hX hS) hS.2.2 dX6_doubles_56
          · replace h := h.2 hc
            refine lv_iconst (v := (1 : Int32)) hx hb dX6_doubles_48 (by decide) ?_
            refine lv_iload_n hx hb dX6_doubles_49 rfl (lv_at hl 1 rfl) ?_
            refine lv_ishl hx hb dX6_doubles_50 ?_
            refine lv_goto (tgt := 56) hx hb dX6_doubles_51 rfl ?_
            exact W.iret hx hb hr (gr_i h hG hK hX hS) hS.2.2 dX6_doubles_56
        · replace h := h.2 hc
          refine lv_iload_n hx hb dX6_doubles_39 rfl (lv_at hl 2 rfl) ?_
          refine lv_goto (tgt := 56) hx hb dX6_doubles_40 rfl ?_
          exact W.iret hx hb hr (gr_i h hG hK hX hS) hS.2.2 dX6_doubles_56
      · replace h := h.2 hc
        obtain ⟨y1, ey1⟩ : ∃ z, z = v3 + (1 : Int32) := ⟨_, rfl⟩
        replace h := h y1 ey1
        refine lv_iinc (v := y1) (lv' := [(3, .int y1), (1, .int v1), (2, .int v2)]) hx hb dX6_doubles_29 hl (k := 2) rfl (by rw [ey1]; rfl) (by decide) rfl (fun ls hl => ?_)
        refine lv_goto (tgt := 20) hx hb dX6_doubles_32 rfl ?_
        exact hC20 v1 v2 y1 S ls _ _ (lv_sub hl [1, 2, 0] rfl) hG hS h
  refine lv_iload_n hx hb dX6_doubles_0 rfl (lv_at hl 1 rfl) ?_
  refine lv_iconst (v := (1 : Int32)) hx hb dX6_doubles_1 (by decide) ?_
  refine lv_sipush (v := (9999 : Int32)) hx hb dX6_doubles_2 (by decide) ?_
  refine gc_i (va_runS (As := [.int x1, .int (1 : Int32), .int (9999 : Int32)]) (rest := []) ⟨hx, hb, hml, hown, hts⟩ (c_X6_isIn l D κ A S x1 (1 : Int32) (9999 : Int32) _ h) (va_cwS 3 hts gX6_doubles_X6_isIn rfl rfl rfl (by decide +kernel) ⟨Nat.le_of_ble_eq_true rfl, Nat.le_of_ble_eq_true rfl⟩) (pg_S hK hX hG (pg_A hA hS)) rfl rfl hl.1 rfl (lv_room (Nat.le_of_ble_eq_true rfl)) dX6_doubles_5 ⟨Nat.le_of_ble_eq_true rfl, Nat.le_of_ble_eq_true rfl⟩) hS (fun z3 S2 H locs1 h hG hS => ?_)
  refine lv_if_eq (tgt := 16) hx hb dX6_doubles_8 rfl (fun hc => ?_) (fun hc => ?_)
  · replace h := h.1 hc
    refine lv_iconst (v := (-1 : Int32)) hx hb dX6_doubles_16 (by decide) ?_
    exact W.iret hx hb hr (gr_i h hG hK hX hS) hS.2.2 dX6_doubles_17
  · replace h := h.2 hc
    refine lv_iload_n hx hb dX6_doubles_11 rfl (lv_at hl 2 rfl) ?_
    refine lv_iconst (v := (-1 : Int32)) hx hb dX6_doubles_12 (by decide) ?_
    refine lv_icmp_ge (tgt := 18) hx hb dX6_doubles_13 rfl (fun hc => ?_) (fun hc => ?_)
    · replace h := h.1 hc
      refine lv_iconst (v := (0 : Int32)) hx hb dX6_doubles_18 (by decide) ?_
      refine lv_istore_n (lv' := [(3, .int (0 : Int32)), (0, .ref a0), (1, .int x1), (2, .int x2)]) hx hb dX6_doubles_19 rfl hl (by decide) rfl (fun ls hl => ?_)
      obtain ⟨nn, h⟩ := h
      exact k_20  nn x1 x2 (0 : Int32) S2 ls _ _ (lv_sub hl [2, 3, 0] rfl) hG hS h
    · replace h := h.2 hc
      refine lv_iconst (v := (-1 : Int32)) hx hb dX6_doubles_16 (by decide) ?_
      exact W.iret hx hb hr (gr_i h hG hK hX hS) hS.2.2 dX6_doubles_17
set_option maxHeartbeats 4000000 in
set_option maxRecDepth 100000 in
theorem c_X6_lowest (l : Launch) (D : va_G) (κ : Nat → ClassId) (A : Nat → Prop) (S : Hp) (x0 : Int32) (Q : Int32 → Hp → Prop) (h : wp_X6_lowest x0 S Q) : Met l yX6_lowest wsX6_lowest ({ frames := 1, cells := 0, slots := 0, locals := 48 } : Room) (PG D κ A S [.int x0]) (va_Qi Q (BG D κ A) A) 0 0 A := by
  refine Met.ofW (cc := cX6_lowest) (maxL := 2) (ret := (some .int)) (by decide) rfl ?_
  intro p e s m args below meth c s₁ B hml hv
  obtain ⟨hargs, hA, hG, hK, hX⟩ := hv
  have hx := B.exec
  have hb := B.bytes
  have hr := B.returns
  have hts := atoms_spec (ws := wsX6_lowest) B.pre
  have hown : s.vm.findClass RX6 = some m.cls := findClass_of_methodNamed B.named
  have hlocks := B.notSynchronized
  subst hargs
  clear B
  have hS : va_S A s.heap s.heap [] := va_S.rf
  have hl := lv_entry ([.int x0]) (n := 2) (Nat.le_of_ble_eq_true rfl)
  rw [lg_entry_eq]
  generalize (lg_sl ([.int x0]) ++ List.replicate (2 - (lg_sl ([.int x0])).length) Slot.unset).toArray = ls at hl ⊢
  have hl : lv_has ls 2 [(0, .int x0)] := hl
  have hG : GG D κ A S s.heap := hG
  refine lv_iload_n hx hb dX6_lowest_0 rfl (lv_at hl 0 rfl) ?_
  refine lv_iconst (v := (3 : Int32)) hx hb dX6_lowest_1 (by decide) ?_
  refine lv_irem hx hb dX6_lowest_2 (by decide) ?_
  refine lv_iconst (v := (3 : Int32)) hx hb dX6_lowest_3 (by decide) ?_
  refine lv_iadd hx hb dX6_lowest_4 ?_
  refine lv_iconst (v := (3 : Int32)) hx hb dX6_lowest_5 (by decide) ?_
  refine lv_irem hx hb dX6_lowest_6 (by decide) ?_
  refine lv_topi (fun y1 ey1 => ?_)
  replace h := h y1 ey1
  refine lv_istore_n (lv' := [(1, .int y1), (0, .int x0)]) hx hb dX6_lowest_7 rfl hl (by decide) rfl (fun ls hl => ?_)
  refine lv_iload_n hx hb dX6_lowest_8 rfl (lv_at hl 0 rfl) ?_
  refine lv_iconst (v := (2 : Int32)) hx hb dX6_lowest_9 (by decide) ?_
  refine lv_icmp_ne (tgt := 17) hx hb dX6_lowest_10 rfl (fun hc => ?_) (fun hc => ?_)
  · replace h := h.1 hc
    refine lv_iload_n hx hb dX6_lowest_17 rfl (lv_at hl 0 rfl) ?_
    exact W.iret hx hb hr (gr_i h hG hK hX hS) hS.2.2 dX6_lowest_18
  · replace h := h.2 hc
    refine lv_iconst (v := (-1 : Int32)) hx hb dX6_lowest_13 (by decide) ?_
    refine lv_goto (tgt := 18) hx hb dX6_lowest_14 rfl ?_
    exact W.iret hx hb hr (gr_i h hG hK hX hS) hS.2.2 dX6_lowest_18
set_option maxHeartbeats 4000000 in
set_option maxRecDepth 100000 in
theorem c_X6_digits (l : Launch) (D : va_G) (κ : Nat → ClassId) (A : Nat → Prop) (S : Hp) (a0 : Nat) (x1 : Int32) (x2 : Int32) (Q : Int32 → Hp → Prop) (h : wp_X6_digits a0 x1 x2 S Q) : Met l yX6_digits wsX6_digits ({ frames := 2, cells := 0, slots := 0, locals := 96 } : Room) (PG D κ A S [.ref a0, .int x1, .int x2]) (va_Qi Q (BG D κ A) A) 0 0 A := by
  refine Met.ofW (cc := cX6_digits) (maxL := 7) (ret := (some .int)) (by decide) rfl ?_
  intro p e s m args below meth c s₁ B hml hv
  obtain ⟨hargs, hA, hG, hK, hX⟩ := hv
  have hx := B.exec
  have hb := B.bytes
  have hr := B.returns
  have hts := atoms_spec (ws := wsX6_digits) B.pre
  have hown : s.vm.findClass RX6 = some m.cls := findClass_of_methodNamed B.named
  have hlocks := B.notSynchronized
  subst hargs
  clear B
  have hS : va_S A s.heap s.heap [] := va_S.rf
  have hl := lv_entry ([.ref a0, .int x1, .int x2]) (n := 7) (Nat.le_of_ble_eq_true rfl)
  rw [lg_entry_eq]
  generalize (lg_sl ([.ref a0, .int x1, .int x2]) ++ List.replicate (7 - (lg_sl ([.ref a0, .int x1, .int x2])).length) Slot.unset).toArray = ls at hl ⊢
  have hl : lv_has ls 7 [(0, .ref a0), (1, .int x1), (2, .int x2)] := hl
  have hG : GG D κ A S s.heap := hG
  have j_51 : ∀ (C28 : Int32 × Int32 × Int32 × Int32 × Hp → Prop) (hC28 : ∀ (v2 : Int32) (v3 : Int32) (v4 : Int32) (v5 : Int32) (S : Hp) (ls : Array Slot) (H : Heap) (locs : List Loc), lv_has ls 7 [(2, .int v2), (3, .int v3), (4, .int v4), (5, .int v5)] → GG D κ A S H → va_S A s.heap H locs → C28 (v2, v3, v4, v5, S) → W p l e ({ frames := 2, cells := 0, slots := 0, locals := 96 } : Room) s m ([.ref a0, .int x1, .int x2] : List Value).toArray below meth c H locs 0 0 (MQ below (va_Qi Q (BG D κ A) A) ([.ref a0, .int x1, .int x2] : List Value).toArray s 0 0 A) (F0 m 28 ls [])) (v2 : Int32) (v3 : Int32) (v4 : Int32) (v6 : Int32) (w0 : Int32) (S : Hp) (ls : Array Slot) (H : Heap) (locs : List Loc), lv_has ls 7 [(2, .int v2), (3, .int v3), (4, .int v4), (6, .int v6)] → GG D κ A S H → va_S A s.heap H locs → J_X6_digits_51 C28 Q v2 v3 v4 v6 w0 S → W p l e ({ frames := 2, cells := 0, slots := 0, locals := 96 } : Room) s m ([.ref a0, .int x1, .int x2] : List Value).toArray below meth c H locs 0 0 (MQ below (va_Qi Q (BG D κ A) A) ([.ref a0, .int x1, .int x2] : List Value).toArray s 0 0 A) (F0 m 51 ls [.int w0]) := by
    intro C28 hC28 v2 v3 v4 v6 w0 S ls H locs hl hG hS h
    unfold J_X6_digits_51 at h
    refine lv_istore (lv' := [(5, .int w0), (2, .int v2), (3, .int v3), (4, .int v4), (6, .int v6)]) hx hb dX6_digits_51 hl (by decide) rfl (fun ls hl => ?_)
    refine lv_iload_n hx hb dX6_digits_53 rfl (lv_at hl 2 rfl) ?_
    refine lv_iload hx hb dX6_digits_54 (lv_at hl 4 rfl) ?_
    refine lv_isub hx hb dX6_digits_56 ?_
    refine lv_iconst (v := (3 : Int32)) hx hb dX6_digits_57 (by decide) ?_
    refine lv_idiv hx hb dX6_digits_58 (by decide) ?_
    refine lv_topi (fun y1 ey1 => ?_)
    replace h := h y1 ey1
    refine lv_istore_n (lv' := [(3, .int y1), (5, .int w0), (2, .int v2), (4, .int v4), (6, .int v6)]) hx hb dX6_digits_59 rfl hl (by decide) rfl (fun ls hl => ?_)
    obtain ⟨y2, ey2⟩ : ∃ z, z = v4 + (1 : Int32) := ⟨_, rfl⟩
    replace h := h y2 ey2
    refine lv_iinc (v := y2) (lv' := [(4, .int y2), (3, .int y1), (5, .int w0), (2, .int v2), (6, .int v6)]) hx hb dX6_digits_60 hl (k := 3) rfl (by rw [ey2]; rfl) (by decide) rfl (fun ls hl => ?_)
    refine lv_goto (tgt := 28) hx hb dX6_digits_63 rfl ?_
    exact hC28 v2 y1 y2 w0 S ls _ _ (lv_sub hl [3, 1, 0, 2] rfl) hG hS h
  have k_28 : ∀  (n : Nat), ∀ (v2 : Int32) (v3 : Int32) (v4 : Int32) (v5 : Int32) (S : Hp) (ls : Array Slot) (H : Heap) (locs : List Loc), lv_has ls 7 [(2, .int v2), (3, .int v3), (4, .int v4), (5, .int v5)] → GG D κ A S H → va_S A s.heap H locs → it (L_X6_digits_28  Q) n (v2, v3, v4, v5, S) → W p l e ({ frames := 2, cells := 0, slots := 0, locals := 96 } : Room) s m ([.ref a0, .int x1, .int x2] : List Value).toArray below meth c H locs 0 0 (MQ below (va_Qi Q (BG D κ A) A) ([.ref a0, .int x1, .int x2] : List Value).toArray s 0 0 A) (F0 m 28 ls []) := by
    intro  n
    induction n with
    | zero => intro v2 v3 v4 v5 S ls H locs hl hG hS h; exact False.elim h
    | succ n hC28 =>
      intro v2 v3 v4 v5 S ls H locs hl hG hS h
      replace h : L_X6_digits_28  Q (it (L_X6_digits_28  Q) n) (v2, v3, v4, v5, S) := h
      simp only [L_X6_digits_28] at h
      refine lv_iload_n hx hb dX6_digits_28 rfl (lv_at hl 1 rfl) ?_
      refine lv_if_eq (tgt := 66) hx hb dX6_digits_29 rfl (fun hc => ?_) (fun hc => ?_)
      · replace h := h.1 hc
        refine lv_iload_n hx hb dX6_digits_66 rfl (lv_at hl 0 rfl) ?_
        refine lv_if_ge (tgt := 75) hx hb dX6_digits_67 rfl (fun hc => ?_) (fun hc => ?_)
        · replace h := h.1 hc
          refine lv_iload hx hb dX6_digits_75 (lv_at hl 3 rfl) ?_
          refine lv_if_ge (tgt := 84) hx hb dX6_digits_77 rfl (fun hc => ?_) (fun hc => ?_)
          · replace h := h.1 hc
            refine lv_iload hx hb dX6_digits_84 (lv_at hl 3 rfl) ?_
            exact W.iret hx hb hr (gr_i h hG hK hX hS) hS.2.2 dX6_digits_86
          · replace h := h.2 hc
            refine lv_iconst (v := (2 : Int32)) hx hb dX6_digits_80 (by decide) ?_
            refine lv_goto (tgt := 86) hx hb dX6_digits_81 rfl ?_
            exact W.iret hx hb hr (gr_i h hG hK hX hS) hS.2.2 dX6_digits_86
        · replace h := h.2 hc
          refine lv_iload hx hb dX6_digits_70 (lv_at hl 2 rfl) ?_
          refine lv_goto (tgt := 86) hx hb dX6_digits_72 rfl ?_
          exact W.iret hx hb hr (gr_i h hG hK hX hS) hS.2.2 dX6_digits_86
      · replace h := h.2 hc
        refine lv_iload_n hx hb dX6_digits_32 rfl (lv_at hl 1 rfl) ?_
        refine gc_i (va_runS (As := [.int v3]) (rest := []) ⟨hx, hb, hml, hown, hts⟩ (c_X6_lowest l D κ A S v3 _ h) (va_cwS 1 hts gX6_digits_X6_lowest rfl rfl rfl (by decide +kernel) ⟨Nat.le_of_ble_eq_true rfl, Nat.le_of_ble_eq_true rfl⟩) (pg_S hK hX hG (pg_A hA hS)) rfl rfl hl.1 rfl (lv_room (Nat.le_of_ble_eq_true rfl)) dX6_digits_33 ⟨Nat.le_of_ble_eq_true rfl, Nat.le_of_ble_eq_true rfl⟩) hS (fun z3 S2 H locs1 h hG hS => ?_)
        refine lv_istore (lv' := [(6, .int z3), (2, .int v2), (3, .int v3), (4, .int v4), (5, .int v5)]) hx hb dX6_digits_36 hl (by decide) rfl (fun ls hl => ?_)
        refine lv_iload hx hb dX6_digits_38 (lv_at hl 3 rfl) ?_
        refine lv_iload_n hx hb dX6_digits_40 rfl (lv_at hl 1 rfl) ?_
        refine lv_icmp_ne (tgt := 49) hx hb dX6_digits_41 rfl (fun hc => ?_) (fun hc => ?_)
        · replace h := h.1 hc
          refine lv_iload hx hb dX6_digits_49 (lv_at hl 4 rfl) ?_
          exact j_51 _ hC28 v2 v3 v4 z3 v5 S2 ls _ _ (lv_sub hl [1, 2, 3, 0] rfl) hG hS h
        · replace h := h.2 hc
          refine lv_iload hx hb dX6_digits_44 (lv_at hl 0 rfl) ?_
          refine lv_goto (tgt := 51) hx hb dX6_digits_46 rfl ?_
          exact j_51 _ hC28 v2 v3 v4 z3 z3 S2 ls _ _ (lv_sub hl [1, 2, 3, 0] rfl) hG hS h
  refine lv_iload_n hx hb dX6_digits_0 rfl (lv_at hl 1 rfl) ?_
  refine lv_sipush (v := (-9999 : Int32)) hx hb dX6_digits_1 (by decide) ?_
  refine lv_sipush (v := (9999 : Int32)) hx hb dX6_digits_4 (by decide) ?_
  refine gc_i (va_runS (As := [.int x1, .int (-9999 : Int32), .int (9999 : Int32)]) (rest := []) ⟨hx, hb, hml, hown, hts⟩ (c_X6_isIn l D κ A S x1 (-9999 : Int32) (9999 : Int32) _ h) (va_cwS 3 hts gX6_digits_X6_isIn rfl rfl rfl (by decide +kernel) ⟨Nat.le_of_ble_eq_true rfl, Nat.le_of_ble_eq_true rfl⟩) (pg_S hK hX hG (pg_A hA hS)) rfl rfl hl.1 rfl (lv_room (Nat.le_of_ble_eq_true rfl)) dX6_digits_7 ⟨Nat.le_of_ble_eq_true rfl, Nat.le_of_ble_eq_true rfl⟩) hS (fun z3 S2 H locs1 h hG hS => ?_)
  refine lv_if_eq (tgt := 18) hx hb dX6_digits_10 rfl (fun hc => ?_) (fun hc => ?_)
  · replace h := h.1 hc
    refine lv_iconst (v := (-1 : Int32)) hx hb dX6_digits_18 (by decide) ?_
    exact W.iret hx hb hr (gr_i h hG hK hX hS) hS.2.2 dX6_digits_19
  · replace h := h.2 hc
    refine lv_iload_n hx hb dX6_digits_13 rfl (lv_at hl 2 rfl) ?_
    refine lv_iconst (v := (-1 : Int32)) hx hb dX6_digits_14 (by decide) ?_
    refine lv_icmp_ge (tgt := 20) hx hb dX6_digits_15 rfl (fun hc => ?_) (fun hc => ?_)
    · replace h := h.1 hc
      refine lv_iload_n hx hb dX6_digits_20 rfl (lv_at hl 1 rfl) ?_
      refine lv_istore_n (lv' := [(3, .int x1), (0, .ref a0), (1, .int x1), (2, .int x2)]) hx hb dX6_digits_21 rfl hl (by decide) rfl (fun ls hl => ?_)
      refine lv_iconst (v := (0 : Int32)) hx hb dX6_digits_22 (by decide) ?_
      refine lv_istore (lv' := [(4, .int (0 : Int32)), (3, .int x1), (0, .ref a0), (1, .int x1), (2, .int x2)]) hx hb dX6_digits_23 hl (by decide) rfl (fun ls hl => ?_)
      refine lv_iconst (v := (0 : Int32)) hx hb dX6_digits_25 (by decide) ?_
      refine lv_istore (lv' := [(5, .int (0 : Int32)), (4, .int (0 : Int32)), (3, .int x1), (0, .ref a0), (1, .int x1), (2, .int x2)]) hx hb dX6_digits_26 hl (by decide) rfl (fun ls hl => ?_)
      obtain ⟨nn, h⟩ := h
      exact k_28  nn x2 x1 (0 : Int32) (0 : Int32) S2 ls _ _ (lv_sub hl [5, 2, 1, 0] rfl) hG hS h
    · replace h := h.2 hc
      refine lv_iconst (v := (-1 : Int32)) hx hb dX6_digits_18 (by decide) ?_
      exact W.iret hx hb hr (gr_i h hG hK hX hS) hS.2.2 dX6_digits_19
set_option maxHeartbeats 4000000 in
set_option maxRecDepth 100000 in
theorem c_X6_added (l : Launch) (D : va_G) (κ : Nat → ClassId) (A : Nat → Prop) (S : Hp) (a0 : Nat) (x1 : Int32) (x2 : Int32) (Q : Int32 → Hp → Prop) (h : wp_X6_added a0 x1 x2 S Q) : Met l yX6_added wsX6_added ({ frames := 2, cells := 0, slots := 0, locals := 96 } : Room) (PG D κ A S [.ref a0, .int x1, .int x2]) (va_Qi Q (BG D κ A) A) 0 0 A := by
  refine Met.ofW (cc := cX6_added) (maxL := 10) (ret := (some .int)) (by decide) rfl ?_
  intro p e s m args below meth c s₁ B hml hv
  obtain ⟨hargs, hA, hG, hK, hX⟩ := hv
  have hx := B.exec
  have hb := B.bytes
  have hr := B.returns
  have hts := atoms_spec (ws := wsX6_added) B.pre
  have hown : s.vm.findClass RX6 = some m.cls := findClass_of_methodNamed B.named
  have hlocks := B.notSynchronized
  subst hargs
  clear B
  have hS : va_S A s.heap s.heap [] := va_S.rf
  have hl := lv_entry ([.ref a0, .int x1, .int x2]) (n := 10) (Nat.le_of_ble_eq_true rfl)
  rw [lg_entry_eq]
  generalize (lg_sl ([.ref a0, .int x1, .int x2]) ++ List.replicate (10 - (lg_sl ([.ref a0, .int x1, .int x2])).length) Slot.unset).toArray = ls at hl ⊢
  have hl : lv_has ls 10 [(0, .ref a0), (1, .int x1), (2, .int x2)] := hl
  have hG : GG D κ A S s.heap := hG
  have j_111 : ∀ (C39 : Int32 × Int32 × Int32 × Int32 × Hp → Prop) (hC39 : ∀ (v3 : Int32) (v4 : Int32) (v5 : Int32) (v6 : Int32) (S : Hp) (ls : Array Slot) (H : Heap) (locs : List Loc), lv_has ls 10 [(3, .int v3), (4, .int v4), (5, .int v5), (6, .int v6)] → GG D κ A S H → va_S A s.heap H locs → C39 (v3, v4, v5, v6, S) → W p l e ({ frames := 2, cells := 0, slots := 0, locals := 96 } : Room) s m ([.ref a0, .int x1, .int x2] : List Value).toArray below meth c H locs 0 0 (MQ below (va_Qi Q (BG D κ A) A) ([.ref a0, .int x1, .int x2] : List Value).toArray s 0 0 A) (F0 m 39 ls [])) (v3 : Int32) (v4 : Int32) (v5 : Int32) (v7 : Int32) (v8 : Int32) (w0 : Int32) (w1 : Int32) (S : Hp) (ls : Array Slot) (H : Heap) (locs : List Loc), lv_has ls 10 [(3, .int v3), (4, .int v4), (5, .int v5), (7, .int v7), (8, .int v8)] → GG D κ A S H → va_S A s.heap H locs → J_X6_added_111 C39 Q v3 v4 v5 v7 v8 w0 w1 S → W p l e ({ frames := 2, cells := 0, slots := 0, locals := 96 } : Room) s m ([.ref a0, .int x1, .int x2] : List Value).toArray below meth c H locs 0 0 (MQ below (va_Qi Q (BG D κ A) A) ([.ref a0, .int x1, .int x2] : List Value).toArray s 0 0 A) (F0 m 111 ls [.int w1, .int w0]) := by
    intro C39 hC39 v3 v4 v5 v7 v8 w0 w1 S ls H locs hl hG hS h
    unfold J_X6_added_111 at h
    refine lv_iadd hx hb dX6_added_111 ?_
    refine lv_topi (fun y1 ey1 => ?_)
    replace h := h y1 ey1
    refine lv_istore (lv' := [(6, .int y1), (3, .int v3), (4, .int v4), (5, .int v5), (7, .int v7), (8, .int v8)]) hx hb dX6_added_112 hl (by decide) rfl (fun ls hl => ?_)
    refine lv_iload_n hx hb dX6_added_114 rfl (lv_at hl 1 rfl) ?_
    refine lv_iload hx hb dX6_added_115 (lv_at hl 4 rfl) ?_
    refine lv_isub hx hb dX6_added_117 ?_
    refine lv_iconst (v := (3 : Int32)) hx hb dX6_added_118 (by decide) ?_
    refine lv_idiv hx hb dX6_added_119 (by decide) ?_
    refine lv_topi (fun y2 ey2 => ?_)
    replace h := h y2 ey2
    refine lv_istore_n (lv' := [(3, .int y2), (6, .int y1), (4, .int v4), (5, .int v5), (7, .int v7), (8, .int v8)]) hx hb dX6_added_120 rfl hl (by decide) rfl (fun ls hl => ?_)
    refine lv_iload hx hb dX6_added_121 (lv_at hl 2 rfl) ?_
    refine lv_iload hx hb dX6_added_123 (lv_at hl 5 rfl) ?_
    refine lv_isub hx hb dX6_added_125 ?_
    refine lv_iconst (v := (3 : Int32)) hx hb dX6_added_126 (by decide) ?_
    refine lv_idiv hx hb dX6_added_127 (by decide) ?_
    refine lv_topi (fun y3 ey3 => ?_)
    replace h := h y3 ey3
    refine lv_istore (lv' := [(4, .int y3), (3, .int y2), (6, .int y1), (5, .int v5), (7, .int v7), (8, .int v8)]) hx hb dX6_added_128 hl (by decide) rfl (fun ls hl => ?_)
    refine lv_goto (tgt := 39) hx hb dX6_added_130 rfl ?_
    exact hC39 y2 y3 v5 y1 S ls _ _ (lv_sub hl [1, 0, 3, 2] rfl) hG hS h
  have j_97 : ∀ (C39 : Int32 × Int32 × Int32 × Int32 × Hp → Prop) (hC39 : ∀ (v3 : Int32) (v4 : Int32) (v5 : Int32) (v6 : Int32) (S : Hp) (ls : Array Slot) (H : Heap) (locs : List Loc), lv_has ls 10 [(3, .int v3), (4, .int v4), (5, .int v5), (6, .int v6)] → GG D κ A S H → va_S A s.heap H locs → C39 (v3, v4, v5, v6, S) → W p l e ({ frames := 2, cells := 0, slots := 0, locals := 96 } : Room) s m ([.ref a0, .int x1, .int x2] : List Value).toArray below meth c H locs 0 0 (MQ below (va_Qi Q (BG D κ A) A) ([.ref a0, .int x1, .int x2] : List Value).toArray s 0 0 A) (F0 m 39 ls [])) (v3 : Int32) (v4 : Int32) (v6 : Int32) (v7 : Int32) (v8 : Int32) (w0 : Int32) (S : Hp) (ls : Array Slot) (H : Heap) (locs : List Loc), lv_has ls 10 [(3, .int v3), (4, .int v4), (6, .int v6), (7, .int v7), (8, .int v8)] → GG D κ A S H → va_S A s.heap H locs → J_X6_added_97 C39 Q v3 v4 v6 v7 v8 w0 S → W p l e ({ frames := 2, cells := 0, slots := 0, locals := 96 } : Room) s m ([.ref a0, .int x1, .int x2] : List Value).toArray below meth c H locs 0 0 (MQ below (va_Qi Q (BG D κ A) A) ([.ref a0, .int x1, .int x2] : List Value).toArray s 0 0 A) (F0 m 97 ls [.int w0]) := by
    intro C39 hC39 v3 v4 v6 v7 v8 w0 S ls H locs hl hG hS h
    unfold J_X6_added_97 at h
    refine lv_istore (lv' := [(5, .int w0), (3, .int v3), (4, .int v4), (6, .int v6), (7, .int v7), (8, .int v8)]) hx hb dX6_added_97 hl (by decide) rfl (fun ls hl => ?_)
    refine lv_iload hx hb dX6_added_99 (lv_at hl 3 rfl) ?_
    refine lv_iload hx hb dX6_added_101 (lv_at hl 0 rfl) ?_
    refine lv_if_ne (tgt := 110) hx hb dX6_added_103 rfl (fun hc => ?_) (fun hc => ?_)
    · replace h := h.1 hc
      refine lv_iconst (v := (1 : Int32)) hx hb dX6_added_110 (by decide) ?_
      exact j_111 _ hC39 v3 v4 w0 v7 v8 v6 (1 : Int32) S ls _ _ (lv_sub hl [1, 2, 0, 4, 5] rfl) hG hS h
    · replace h := h.2 hc
      refine lv_iconst (v := (0 : Int32)) hx hb dX6_added_106 (by decide) ?_
      refine lv_goto (tgt := 111) hx hb dX6_added_107 rfl ?_
      exact j_111 _ hC39 v3 v4 w0 v7 v8 v6 (0 : Int32) S ls _ _ (lv_sub hl [1, 2, 0, 4, 5] rfl) hG hS h
  have j_53 : ∀ (C39 : Int32 × Int32 × Int32 × Int32 × Hp → Prop) (hC39 : ∀ (v3 : Int32) (v4 : Int32) (v5 : Int32) (v6 : Int32) (S : Hp) (ls : Array Slot) (H : Heap) (locs : List Loc), lv_has ls 10 [(3, .int v3), (4, .int v4), (5, .int v5), (6, .int v6)] → GG D κ A S H → va_S A s.heap H locs → C39 (v3, v4, v5, v6, S) → W p l e ({ frames := 2, cells := 0, slots := 0, locals := 96 } : Room) s m ([.ref a0, .int x1, .int x2] : List Value).toArray below meth c H locs 0 0 (MQ below (va_Qi Q (BG D κ A) A) ([.ref a0, .int x1, .int x2] : List Value).toArray s 0 0 A) (F0 m 39 ls [])) (v3 : Int32) (v4 : Int32) (v5 : Int32) (v6 : Int32) (S : Hp) (ls : Array Slot) (H : Heap) (locs : List Loc), lv_has ls 10 [(3, .int v3), (4, .int v4), (5, .int v5), (6, .int v6)] → GG D κ A S H → va_S A s.heap H locs → J_X6_added_53 C39 Q v3 v4 v5 v6 S → W p l e ({ frames := 2, cells := 0, slots := 0, locals := 96 } : Room) s m ([.ref a0, .int x1, .int x2] : List Value).toArray below meth c H locs 0 0 (MQ below (va_Qi Q (BG D κ A) A) ([.ref a0, .int x1, .int x2] : List Value).toArray s 0 0 A) (F0 m 53 ls []) := by
    intro C39 hC39 v3 v4 v5 v6 S ls H locs hl hG hS h
    unfold J_X6_added_53 at h
    refine lv_iload_n hx hb dX6_added_53 rfl (lv_at hl 0 rfl) ?_
    refine gc_i (va_runS (As := [.int v3]) (rest := []) ⟨hx, hb, hml, hown, hts⟩ (c_X6_lowest l D κ A S v3 _ h) (va_cwS 1 hts gX6_added_X6_lowest rfl rfl rfl (by decide +kernel) ⟨Nat.le_of_ble_eq_true rfl, Nat.le_of_ble_eq_true rfl⟩) (pg_S hK hX hG (pg_A hA hS)) rfl rfl hl.1 rfl (lv_room (Nat.le_of_ble_eq_true rfl)) dX6_added_54 ⟨Nat.le_of_ble_eq_true rfl, Nat.le_of_ble_eq_true rfl⟩) hS (fun z3 S2 H locs1 h hG hS => ?_)
    refine lv_istore (lv' := [(7, .int z3), (3, .int v3), (4, .int v4), (5, .int v5), (6, .int v6)]) hx hb dX6_added_57 hl (by decide) rfl (fun ls hl => ?_)
    refine lv_iload hx hb dX6_added_59 (lv_at hl 2 rfl) ?_
    refine gc_i (va_runS (As := [.int v4]) (rest := []) ⟨hx, hb, hml, hown, hts⟩ (c_X6_lowest l D κ A S2 v4 _ h) (va_cwS 1 hts gX6_added_X6_lowest rfl rfl rfl (by decide +kernel) ⟨Nat.le_of_ble_eq_true rfl, Nat.le_of_ble_eq_true rfl⟩) (pg_S hK hX hG (pg_A hA hS)) rfl rfl hl.1 rfl (lv_room (Nat.le_of_ble_eq_true rfl)) dX6_added_61 ⟨Nat.le_of_ble_eq_true rfl, Nat.le_of_ble_eq_true rfl⟩) hS (fun z6 S5 H locs4 h hG hS => ?_)
    refine lv_istore (lv' := [(8, .int z6), (7, .int z3), (3, .int v3), (4, .int v4), (5, .int v5), (6, .int v6)]) hx hb dX6_added_64 hl (by decide) rfl (fun ls hl => ?_)
    refine lv_iload hx hb dX6_added_66 (lv_at hl 1 rfl) ?_
    refine lv_iload hx hb dX6_added_68 (lv_at hl 0 rfl) ?_
    refine lv_iadd hx hb dX6_added_70 ?_
    refine lv_iload hx hb dX6_added_71 (lv_at hl 4 rfl) ?_
    refine lv_iadd hx hb dX6_added_73 ?_
    refine lv_topi (fun y7 ey7 => ?_)
    replace h := h y7 ey7
    refine lv_istore (lv' := [(9, .int y7), (8, .int z6), (7, .int z3), (3, .int v3), (4, .int v4), (5, .int v5), (6, .int v6)]) hx hb dX6_added_74 hl (by decide) rfl (fun ls hl => ?_)
    refine lv_iload hx hb dX6_added_76 (lv_at hl 0 rfl) ?_
    refine lv_iconst (v := (1 : Int32)) hx hb dX6_added_78 (by decide) ?_
    refine lv_icmp_le (tgt := 86) hx hb dX6_added_79 rfl (fun hc => ?_) (fun hc => ?_)
    · replace h := h.1 hc
      refine lv_iload hx hb dX6_added_86 (lv_at hl 0 rfl) ?_
      refine lv_iconst (v := (-1 : Int32)) hx hb dX6_added_88 (by decide) ?_
      refine lv_icmp_ge (tgt := 96) hx hb dX6_added_89 rfl (fun hc => ?_) (fun hc => ?_)
      · replace h := h.1 hc
        refine lv_iconst (v := (0 : Int32)) hx hb dX6_added_96 (by decide) ?_
        exact j_97 _ hC39 v3 v4 v6 z3 z6 (0 : Int32) S5 ls _ _ (lv_sub hl [3, 4, 6, 2, 1] rfl) hG hS h
      · replace h := h.2 hc
        refine lv_iconst (v := (-1 : Int32)) hx hb dX6_added_92 (by decide) ?_
        refine lv_goto (tgt := 97) hx hb dX6_added_93 rfl ?_
        exact j_97 _ hC39 v3 v4 v6 z3 z6 (-1 : Int32) S5 ls _ _ (lv_sub hl [3, 4, 6, 2, 1] rfl) hG hS h
    · replace h := h.2 hc
      refine lv_iconst (v := (1 : Int32)) hx hb dX6_added_82 (by decide) ?_
      refine lv_goto (tgt := 97) hx hb dX6_added_83 rfl ?_
      exact j_97 _ hC39 v3 v4 v6 z3 z6 (1 : Int32) S5 ls _ _ (lv_sub hl [3, 4, 6, 2, 1] rfl) hG hS h
  have k_39 : ∀  (n : Nat), ∀ (v3 : Int32) (v4 : Int32) (v5 : Int32) (v6 : Int32) (S : Hp) (ls : Array Slot) (H : Heap) (locs : List Loc), lv_has ls 10 [(3, .int v3), (4, .int v4), (5, .int v5), (6, .int v6)] → GG D κ A S H → va_S A s.heap H locs → it (L_X6_added_39  Q) n (v3, v4, v5, v6, S) → W p l e ({ frames := 2, cells := 0, slots := 0, locals := 96 } : Room) s m ([.ref a0, .int x1, .int x2] : List Value).toArray below meth c H locs 0 0 (MQ below (va_Qi Q (BG D κ A) A) ([.ref a0, .int x1, .int x2] : List Value).toArray s 0 0 A) (F0 m 39 ls []) := by
    intro  n
    induction n with
    | zero => intro v3 v4 v5 v6 S ls H locs hl hG hS h; exact False.elim h
    | succ n hC39 =>
      intro v3 v4 v5 v6 S ls H locs hl hG hS h
      replace h : L_X6_added_39  Q (it (L_X6_added_39  Q) n) (v3, v4, v5, v6, S) := h
      simp only [L_X6_added_39] at h
      refine lv_iload_n hx hb dX6_added_39 rfl (lv_at hl 0 rfl) ?_
      refine lv_if_ne (tgt := 53) hx hb dX6_added_40 rfl (fun hc => ?_) (fun hc => ?_)
      · replace h := h.1 hc
        exact j_53 _ hC39 v3 v4 v5 v6 S ls _ _ (lv_sub hl [0, 1, 2, 3] rfl) hG hS h
      · replace h := h.2 hc
        refine lv_iload hx hb dX6_added_43 (lv_at hl 1 rfl) ?_
        refine lv_if_ne (tgt := 53) hx hb dX6_added_45 rfl (fun hc => ?_) (fun hc => ?_)
        · replace h := h.1 hc
          exact j_53 _ hC39 v3 v4 v5 v6 S ls _ _ (lv_sub hl [0, 1, 2, 3] rfl) hG hS h
        · replace h := h.2 hc
          refine lv_iload hx hb dX6_added_48 (lv_at hl 2 rfl) ?_
          refine lv_if_eq (tgt := 133) hx hb dX6_added_50 rfl (fun hc => ?_) (fun hc => ?_)
          · replace h := h.1 hc
            refine lv_iload hx hb dX6_added_133 (lv_at hl 3 rfl) ?_
            exact W.iret hx hb hr (gr_i h hG hK hX hS) hS.2.2 dX6_added_135
          · replace h := h.2 hc
            exact j_53 _ hC39 v3 v4 v5 v6 S ls _ _ (lv_sub hl [0, 1, 2, 3] rfl) hG hS h
  refine lv_iload_n hx hb dX6_added_0 rfl (lv_at hl 1 rfl) ?_
  refine lv_sipush (v := (-9999 : Int32)) hx hb dX6_added_1 (by decide) ?_
  refine lv_sipush (v := (9999 : Int32)) hx hb dX6_added_4 (by decide) ?_
  refine gc_i (va_runS (As := [.int x1, .int (-9999 : Int32), .int (9999 : Int32)]) (rest := []) ⟨hx, hb, hml, hown, hts⟩ (c_X6_isIn l D κ A S x1 (-9999 : Int32) (9999 : Int32) _ h) (va_cwS 3 hts gX6_added_X6_isIn rfl rfl rfl (by decide +kernel) ⟨Nat.le_of_ble_eq_true rfl, Nat.le_of_ble_eq_true rfl⟩) (pg_S hK hX hG (pg_A hA hS)) rfl rfl hl.1 rfl (lv_room (Nat.le_of_ble_eq_true rfl)) dX6_added_7 ⟨Nat.le_of_ble_eq_true rfl, Nat.le_of_ble_eq_true rfl⟩) hS (fun z3 S2 H locs1 h hG hS => ?_)
  refine lv_if_eq (tgt := 26) hx hb dX6_added_10 rfl (fun hc => ?_) (fun hc => ?_)
  · replace h := h.1 hc
    refine lv_iconst (v := (-1 : Int32)) hx hb dX6_added_26 (by decide) ?_
    exact W.iret hx hb hr (gr_i h hG hK hX hS) hS.2.2 dX6_added_27
  · replace h := h.2 hc
    refine lv_iload_n hx hb dX6_added_13 rfl (lv_at hl 2 rfl) ?_
    refine lv_sipush (v := (-9999 : Int32)) hx hb dX6_added_14 (by decide) ?_
    refine lv_sipush (v := (9999 : Int32)) hx hb dX6_added_17 (by decide) ?_
    refine gc_i (va_runS (As := [.int x2, .int (-9999 : Int32), .int (9999 : Int32)]) (rest := []) ⟨hx, hb, hml, hown, hts⟩ (c_X6_isIn l D κ A S2 x2 (-9999 : Int32) (9999 : Int32) _ h) (va_cwS 3 hts gX6_added_X6_isIn rfl rfl rfl (by decide +kernel) ⟨Nat.le_of_ble_eq_true rfl, Nat.le_of_ble_eq_true rfl⟩) (pg_S hK hX hG (pg_A hA hS)) rfl rfl hl.1 rfl (lv_room (Nat.le_of_ble_eq_true rfl)) dX6_added_20 ⟨Nat.le_of_ble_eq_true rfl, Nat.le_of_ble_eq_true rfl⟩) hS (fun z6 S5 H locs4 h hG hS => ?_)
    refine lv_if_ne (tgt := 28) hx hb dX6_added_23 rfl (fun hc => ?_) (fun hc => ?_)
    · replace h := h.1 hc
      refine lv_iload_n hx hb dX6_added_28 rfl (lv_at hl 1 rfl) ?_
      refine lv_istore_n (lv' := [(3, .int x1), (0, .ref a0), (1, .int x1), (2, .int x2)]) hx hb dX6_added_29 rfl hl (by decide) rfl (fun ls hl => ?_)
      refine lv_iload_n hx hb dX6_added_30 rfl (lv_at hl 3 rfl) ?_
      refine lv_istore (lv' := [(4, .int x2), (3, .int x1), (0, .ref a0), (1, .int x1), (2, .int x2)]) hx hb dX6_added_31 hl (by decide) rfl (fun ls hl => ?_)
      refine lv_iconst (v := (0 : Int32)) hx hb dX6_added_33 (by decide) ?_
      refine lv_istore (lv' := [(5, .int (0 : Int32)), (4, .int x2), (3, .int x1), (0, .ref a0), (1, .int x1), (2, .int x2)]) hx hb dX6_added_34 hl (by decide) rfl (fun ls hl => ?_)
      refine lv_iconst (v := (0 : Int32)) hx hb dX6_added_36 (by decide) ?_
      refine lv_istore (lv' := [(6, .int (0 : Int32)), (5, .int (0 : Int32)), (4, .int x2), (3, .int x1), (0, .ref a0), (1, .int x1), (2, .int x2)]) hx hb dX6_added_37 hl (by decide) rfl (fun ls hl => ?_)
      obtain ⟨nn, h⟩ := h
      exact k_39  nn x1 x2 (0 : Int32) (0 : Int32) S5 ls _ _ (lv_sub hl [3, 2, 1, 0] rfl) hG hS h
    · replace h := h.2 hc
      refine lv_iconst (v := (-1 : Int32)) hx hb dX6_added_26 (by decide) ?_
      exact W.iret hx hb hr (gr_i h hG hK hX hS) hS.2.2 dX6_added_27
set_option maxHeartbeats 4000000 in
set_option maxRecDepth 100000 in
theorem c_X6_isAllHad (l : Launch) (D : va_G) (κ : Nat → ClassId) (A : Nat → Prop) (S : Hp) (a0 : Nat) (x1 : Int32) (x2 : Int32) (Q : Int32 → Hp → Prop) (h : wp_X6_isAllHad a0 x1 x2 S Q) : Met l yX6_isAllHad wsX6_isAllHad ({ frames := 2, cells := 0, slots := 0, locals := 96 } : Room) (PG D κ A S [.ref a0, .int x1, .int x2]) (va_Qi Q (BG D κ A) A) 0 0 A := by
  refine Met.ofW (cc := cX6_isAllHad) (maxL := 10) (ret := (some .boolean)) (by decide) rfl ?_
  intro p e s m args below meth c s₁ B hml hv
  obtain ⟨hargs, hA, hG, hK, hX⟩ := hv
  have hx := B.exec
  have hb := B.bytes
  have hr := B.returns
  have hts := atoms_spec (ws := wsX6_isAllHad) B.pre
  have hown : s.vm.findClass RX6 = some m.cls := findClass_of_methodNamed B.named
  have hlocks := B.notSynchronized
  subst hargs
  clear B
  have hS : va_S A s.heap s.heap [] := va_S.rf
  have hl := lv_entry ([.ref a0, .int x1, .int x2]) (n := 10) (Nat.le_of_ble_eq_true rfl)
  rw [lg_entry_eq]
  generalize (lg_sl ([.ref a0, .int x1, .int x2]) ++ List.replicate (10 - (lg_sl ([.ref a0, .int x1, .int x2])).length) Slot.unset).toArray = ls at hl ⊢
  have hl : lv_has ls 10 [(0, .ref a0), (1, .int x1), (2, .int x2)] := hl
  have hG : GG D κ A S s.heap := hG
  have j_86 : ∀ (C2 : Nat × Int32 × Int32 × Int32 × Hp → Prop) (hC2 : ∀ (v0 : Nat) (v1 : Int32) (v2 : Int32) (v3 : Int32) (S : Hp) (ls : Array Slot) (H : Heap) (locs : List Loc), lv_has ls 10 [(0, .ref v0), (1, .int v1), (2, .int v2), (3, .int v3)] → GG D κ A S H → va_S A s.heap H locs → C2 (v0, v1, v2, v3, S) → W p l e ({ frames := 2, cells := 0, slots := 0, locals := 96 } : Room) s m ([.ref a0, .int x1, .int x2] : List Value).toArray below meth c H locs 0 0 (MQ below (va_Qi Q (BG D κ A) A) ([.ref a0, .int x1, .int x2] : List Value).toArray s 0 0 A) (F0 m 2 ls [])) (C13 : Nat × Int32 × Int32 × Int32 × Int32 × Int32 × Hp → Prop) (hC13 : ∀ (v0 : Nat) (v1 : Int32) (v2 : Int32) (v3 : Int32) (v4 : Int32) (v5 : Int32) (S : Hp) (ls : Array Slot) (H : Heap) (locs : List Loc), lv_has ls 10 [(0, .ref v0), (1, .int v1), (2, .int v2), (3, .int v3), (4, .int v4), (5, .int v5)] → GG D κ A S H → va_S A s.heap H locs → C13 (v0, v1, v2, v3, v4, v5, S) → W p l e ({ frames := 2, cells := 0, slots := 0, locals := 96 } : Room) s m ([.ref a0, .int x1, .int x2] : List Value).toArray below meth c H locs 0 0 (MQ below (va_Qi Q (BG D κ A) A) ([.ref a0, .int x1, .int x2] : List Value).toArray s 0 0 A) (F0 m 13 ls [])) (C32 : Nat × Int32 × Int32 × Int32 × Int32 × Int32 × Int32 × Int32 × Int32 × Hp → Prop) (hC32 : ∀ (v0 : Nat) (v1 : Int32) (v2 : Int32) (v3 : Int32) (v4 : Int32) (v5 : Int32) (v6 : Int32) (v7 : Int32) (v8 : Int32) (S : Hp) (ls : Array Slot) (H : Heap) (locs : List Loc), lv_has ls 10 [(0, .ref v0), (1, .int v1), (2, .int v2), (3, .int v3), (4, .int v4), (5, .int v5), (6, .int v6), (7, .int v7), (8, .int v8)] → GG D κ A S H → va_S A s.heap H locs → C32 (v0, v1, v2, v3, v4, v5, v6, v7, v8, S) → W p l e ({ frames := 2, cells := 0, slots := 0, locals := 96 } : Room) s m ([.ref a0, .int x1, .int x2] : List Value).toArray below meth c H locs 0 0 (MQ below (va_Qi Q (BG D κ A) A) ([.ref a0, .int x1, .int x2] : List Value).toArray s 0 0 A) (F0 m 32 ls [])) (v0 : Nat) (v1 : Int32) (v2 : Int32) (v3 : Int32) (v4 : Int32) (v5 : Int32) (v7 : Int32) (v8 : Int32) (w0 : Int32) (w1 : Int32) (S : Hp) (ls : Array Slot) (H : Heap) (locs : List Loc), lv_has ls 10 [(0, .ref v0), (1, .int v1), (2, .int v2), (3, .int v3), (4, .int v4), (5, .int v5), (7, .int v7), (8, .int v8)] → GG D κ A S H → va_S A s.heap H locs → J_X6_isAllHad_86 C2 C13 C32 Q v0 v1 v2 v3 v4 v5 v7 v8 w0 w1 S → W p l e ({ frames := 2, cells := 0, slots := 0, locals := 96 } : Room) s m ([.ref a0, .int x1, .int x2] : List Value).toArray below meth c H locs 0 0 (MQ below (va_Qi Q (BG D κ A) A) ([.ref a0, .int x1, .int x2] : List Value).toArray s 0 0 A) (F0 m 86 ls [.int w1, .int w0]) := by
    intro C2 hC2 C13 hC13 C32 hC32 v0 v1 v2 v3 v4 v5 v7 v8 w0 w1 S ls H locs hl hG hS h
    unfold J_X6_isAllHad_86 at h
    refine lv_iadd hx hb dX6_isAllHad_86 ?_
    refine lv_topi (fun y1 ey1 => ?_)
    replace h := h y1 ey1
    refine lv_istore (lv' := [(6, .int y1), (0, .ref v0), (1, .int v1), (2, .int v2), (3, .int v3), (4, .int v4), (5, .int v5), (7, .int v7), (8, .int v8)]) hx hb dX6_isAllHad_87 hl (by decide) rfl (fun ls hl => ?_)
    obtain ⟨y2, ey2⟩ : ∃ z, z = v8 + (1 : Int32) := ⟨_, rfl⟩
    replace h := h y2 ey2
    refine lv_iinc (v := y2) (lv' := [(8, .int y2), (6, .int y1), (0, .ref v0), (1, .int v1), (2, .int v2), (3, .int v3), (4, .int v4), (5, .int v5), (7, .int v7)]) hx hb dX6_isAllHad_89 hl (k := 8) rfl (by rw [ey2]; rfl) (by decide) rfl (fun ls hl => ?_)
    refine lv_goto (tgt := 32) hx hb dX6_isAllHad_92 rfl ?_
    exact hC32 v0 v1 v2 v3 v4 v5 y1 v7 y2 S ls _ _ (lv_sub hl [2, 3, 4, 5, 6, 7, 1, 8, 0] rfl) hG hS h
  have j_111 : ∀ (C2 : Nat × Int32 × Int32 × Int32 × Hp → Prop) (hC2 : ∀ (v0 : Nat) (v1 : Int32) (v2 : Int32) (v3 : Int32) (S : Hp) (ls : Array Slot) (H : Heap) (locs : List Loc), lv_has ls 10 [(0, .ref v0), (1, .int v1), (2, .int v2), (3, .int v3)] → GG D κ A S H → va_S A s.heap H locs → C2 (v0, v1, v2, v3, S) → W p l e ({ frames := 2, cells := 0, slots := 0, locals := 96 } : Room) s m ([.ref a0, .int x1, .int x2] : List Value).toArray below meth c H locs 0 0 (MQ below (va_Qi Q (BG D κ A) A) ([.ref a0, .int x1, .int x2] : List Value).toArray s 0 0 A) (F0 m 2 ls [])) (C13 : Nat × Int32 × Int32 × Int32 × Int32 × Int32 × Hp → Prop) (hC13 : ∀ (v0 : Nat) (v1 : Int32) (v2 : Int32) (v3 : Int32) (v4 : Int32) (v5 : Int32) (S : Hp) (ls : Array Slot) (H : Heap) (locs : List Loc), lv_has ls 10 [(0, .ref v0), (1, .int v1), (2, .int v2), (3, .int v3), (4, .int v4), (5, .int v5)] → GG D κ A S H → va_S A s.heap H locs → C13 (v0, v1, v2, v3, v4, v5, S) → W p l e ({ frames := 2, cells := 0, slots := 0, locals := 96 } : Room) s m ([.ref a0, .int x1, .int x2] : List Value).toArray below meth c H locs 0 0 (MQ below (va_Qi Q (BG D κ A) A) ([.ref a0, .int x1, .int x2] : List Value).toArray s 0 0 A) (F0 m 13 ls [])) (v0 : Nat) (v1 : Int32) (v2 : Int32) (v3 : Int32) (v5 : Int32) (w0 : Int32) (S : Hp) (ls : Array Slot) (H : Heap) (locs : List Loc), lv_has ls 10 [(0, .ref v0), (1, .int v1), (2, .int v2), (3, .int v3), (5, .int v5)] → GG D κ A S H → va_S A s.heap H locs → J_X6_isAllHad_111 C2 C13 Q v0 v1 v2 v3 v5 w0 S → W p l e ({ frames := 2, cells := 0, slots := 0, locals := 96 } : Room) s m ([.ref a0, .int x1, .int x2] : List Value).toArray below meth c H locs 0 0 (MQ below (va_Qi Q (BG D κ A) A) ([.ref a0, .int x1, .int x2] : List Value).toArray s 0 0 A) (F0 m 111 ls [.int w0]) := by
    intro C2 hC2 C13 hC13 v0 v1 v2 v3 v5 w0 S ls H locs hl hG hS h
    unfold J_X6_isAllHad_111 at h
    refine lv_istore (lv' := [(4, .int w0), (0, .ref v0), (1, .int v1), (2, .int v2), (3, .int v3), (5, .int v5)]) hx hb dX6_isAllHad_111 hl (by decide) rfl (fun ls hl => ?_)
    obtain ⟨y1, ey1⟩ : ∃ z, z = v5 + (1 : Int32) := ⟨_, rfl⟩
    replace h := h y1 ey1
    refine lv_iinc (v := y1) (lv' := [(5, .int y1), (4, .int w0), (0, .ref v0), (1, .int v1), (2, .int v2), (3, .int v3)]) hx hb dX6_isAllHad_113 hl (k := 5) rfl (by rw [ey1]; rfl) (by decide) rfl (fun ls hl => ?_)
    refine lv_goto (tgt := 13) hx hb dX6_isAllHad_116 rfl ?_
    exact hC13 v0 v1 v2 v3 w0 y1 S ls _ _ (lv_sub hl [2, 3, 4, 5, 1, 0] rfl) hG hS h
  have j_106 : ∀ (C2 : Nat × Int32 × Int32 × Int32 × Hp → Prop) (hC2 : ∀ (v0 : Nat) (v1 : Int32) (v2 : Int32) (v3 : Int32) (S : Hp) (ls : Array Slot) (H : Heap) (locs : List Loc), lv_has ls 10 [(0, .ref v0), (1, .int v1), (2, .int v2), (3, .int v3)] → GG D κ A S H → va_S A s.heap H locs → C2 (v0, v1, v2, v3, S) → W p l e ({ frames := 2, cells := 0, slots := 0, locals := 96 } : Room) s m ([.ref a0, .int x1, .int x2] : List Value).toArray below meth c H locs 0 0 (MQ below (va_Qi Q (BG D κ A) A) ([.ref a0, .int x1, .int x2] : List Value).toArray s 0 0 A) (F0 m 2 ls [])) (C13 : Nat × Int32 × Int32 × Int32 × Int32 × Int32 × Hp → Prop) (hC13 : ∀ (v0 : Nat) (v1 : Int32) (v2 : Int32) (v3 : Int32) (v4 : Int32) (v5 : Int32) (S : Hp) (ls : Array Slot) (H : Heap) (locs : List Loc), lv_has ls 10 [(0, .ref v0), (1, .int v1), (2, .int v2), (3, .int v3), (4, .int v4), (5, .int v5)] → GG D κ A S H → va_S A s.heap H locs → C13 (v0, v1, v2, v3, v4, v5, S) → W p l e ({ frames := 2, cells := 0, slots := 0, locals := 96 } : Room) s m ([.ref a0, .int x1, .int x2] : List Value).toArray below meth c H locs 0 0 (MQ below (va_Qi Q (BG D κ A) A) ([.ref a0, .int x1, .int x2] : List Value).toArray s 0 0 A) (F0 m 13 ls [])) (v0 : Nat) (v1 : Int32) (v2 : Int32) (v3 : Int32) (v5 : Int32) (S : Hp) (ls : Array Slot) (H : Heap) (locs : List Loc), lv_has ls 10 [(0, .ref v0), (1, .int v1), (2, .int v2), (3, .int v3), (5, .int v5)] → GG D κ A S H → va_S A s.heap H locs → J_X6_isAllHad_106 C2 C13 Q v0 v1 v2 v3 v5 S → W p l e ({ frames := 2, cells := 0, slots := 0, locals := 96 } : Room) s m ([.ref a0, .int x1, .int x2] : List Value).toArray below meth c H locs 0 0 (MQ below (va_Qi Q (BG D κ A) A) ([.ref a0, .int x1, .int x2] : List Value).toArray s 0 0 A) (F0 m 106 ls []) := by
    intro C2 hC2 C13 hC13 v0 v1 v2 v3 v5 S ls H locs hl hG hS h
    unfold J_X6_isAllHad_106 at h
    refine lv_iconst (v := (1 : Int32)) hx hb dX6_isAllHad_106 (by decide) ?_
    refine lv_goto (tgt := 111) hx hb dX6_isAllHad_107 rfl ?_
    exact j_111 _ hC2 _ hC13 v0 v1 v2 v3 v5 (1 : Int32) S ls _ _ (lv_sub hl [0, 1, 2, 3, 4] rfl) hG hS h
  have k_32 : ∀ (C2 : Nat × Int32 × Int32 × Int32 × Hp → Prop) (hC2 : ∀ (v0 : Nat) (v1 : Int32) (v2 : Int32) (v3 : Int32) (S : Hp) (ls : Array Slot) (H : Heap) (locs : List Loc), lv_has ls 10 [(0, .ref v0), (1, .int v1), (2, .int v2), (3, .int v3)] → GG D κ A S H → va_S A s.heap H locs → C2 (v0, v1, v2, v3, S) → W p l e ({ frames := 2, cells := 0, slots := 0, locals := 96 } : Room) s m ([.ref a0, .int x1, .int x2] : List Value).toArray below meth c H locs 0 0 (MQ below (va_Qi Q (BG D κ A) A) ([.ref a0, .int x1, .int x2] : List Value).toArray s 0 0 A) (F0 m 2 ls [])) (C13 : Nat × Int32 × Int32 × Int32 × Int32 × Int32 × Hp → Prop) (hC13 : ∀ (v0 : Nat) (v1 : Int32) (v2 : Int32) (v3 : Int32) (v4 : Int32) (v5 : Int32) (S : Hp) (ls : Array Slot) (H : Heap) (locs : List Loc), lv_has ls 10 [(0, .ref v0), (1, .int v1), (2, .int v2), (3, .int v3), (4, .int v4), (5, .int v5)] → GG D κ A S H → va_S A s.heap H locs → C13 (v0, v1, v2, v3, v4, v5, S) → W p l e ({ frames := 2, cells := 0, slots := 0, locals := 96 } : Room) s m ([.ref a0, .int x1, .int x2] : List Value).toArray below meth c H locs 0 0 (MQ below (va_Qi Q (BG D κ A) A) ([.ref a0, .int x1, .int x2] : List Value).toArray s 0 0 A) (F0 m 13 ls [])) (n : Nat), ∀ (v0 : Nat) (v1 : Int32) (v2 : Int32) (v3 : Int32) (v4 : Int32) (v5 : Int32) (v6 : Int32) (v7 : Int32) (v8 : Int32) (S : Hp) (ls : Array Slot) (H : Heap) (locs : List Loc), lv_has ls 10 [(0, .ref v0), (1, .int v1), (2, .int v2), (3, .int v3), (4, .int v4), (5, .int v5), (6, .int v6), (7, .int v7), (8, .int v8)] → GG D κ A S H → va_S A s.heap H locs → it (L_X6_isAllHad_32 C2 C13 Q) n (v0, v1, v2, v3, v4, v5, v6, v7, v8, S) → W p l e ({ frames := 2, cells := 0, slots := 0, locals := 96 } : Room) s m ([.ref a0, .int x1, .int x2] : List Value).toArray below meth c H locs 0 0 (MQ below (va_Qi Q (BG D κ A) A) ([.ref a0, .int x1, .int x2] : List Value).toArray s 0 0 A) (F0 m 32 ls []) := by
    intro C2 hC2 C13 hC13 n
    induction n with
    | zero => intro v0 v1 v2 v3 v4 v5 v6 v7 v8 S ls H locs hl hG hS h; exact False.elim h
    | succ n hC32 =>
      intro v0 v1 v2 v3 v4 v5 v6 v7 v8 S ls H locs hl hG hS h
      replace h : L_X6_isAllHad_32 C2 C13 Q (it (L_X6_isAllHad_32 C2 C13 Q) n) (v0, v1, v2, v3, v4, v5, v6, v7, v8, S) := h
      simp only [L_X6_isAllHad_32] at h
      refine lv_iload hx hb dX6_isAllHad_32 (lv_at hl 8 rfl) ?_
      refine lv_iload_n hx hb dX6_isAllHad_34 rfl (lv_at hl 1 rfl) ?_
      refine lv_icmp_ge (tgt := 95) hx hb dX6_isAllHad_35 rfl (fun hc => ?_) (fun hc => ?_)
      · replace h := h.1 hc
        refine lv_iload hx hb dX6_isAllHad_95 (lv_at hl 4 rfl) ?_
        refine lv_if_ne (tgt := 106) hx hb dX6_isAllHad_97 rfl (fun hc => ?_) (fun hc => ?_)
        · replace h := h.1 hc
          exact j_106 _ hC2 _ hC13 v0 v1 v2 v3 v5 S ls _ _ (lv_sub hl [0, 1, 2, 3, 5] rfl) hG hS h
        · replace h := h.2 hc
          refine lv_iload hx hb dX6_isAllHad_100 (lv_at hl 6 rfl) ?_
          refine lv_iload_n hx hb dX6_isAllHad_102 rfl (lv_at hl 3 rfl) ?_
          refine lv_icmp_ne (tgt := 110) hx hb dX6_isAllHad_103 rfl (fun hc => ?_) (fun hc => ?_)
          · replace h := h.1 hc
            refine lv_iconst (v := (0 : Int32)) hx hb dX6_isAllHad_110 (by decide) ?_
            exact j_111 _ hC2 _ hC13 v0 v1 v2 v3 v5 (0 : Int32) S ls _ _ (lv_sub hl [0, 1, 2, 3, 5] rfl) hG hS h
          · replace h := h.2 hc
            exact j_106 _ hC2 _ hC13 v0 v1 v2 v3 v5 S ls _ _ (lv_sub hl [0, 1, 2, 3, 5] rfl) hG hS h
      · replace h := h.2 hc
        refine lv_iload hx hb dX6_isAllHad_38 (lv_at hl 7 rfl) ?_
        refine lv_iconst (v := (3 : Int32)) hx hb dX6_isAllHad_40 (by decide) ?_
        refine lv_irem hx hb dX6_isAllHad_41 (by decide) ?_
        refine lv_topi (fun y1 ey1 => ?_)
        replace h := h y1 ey1
        refine lv_istore (lv' := [(9, .int y1), (0, .ref v0), (1, .int v1), (2, .int v2), (3, .int v3), (4, .int v4), (5, .int v5), (6, .int v6), (7, .int v7), (8, .int v8)]) hx hb dX6_isAllHad_42 hl (by decide) rfl (fun ls hl => ?_)
        refine lv_iload hx hb dX6_isAllHad_44 (lv_at hl 8 rfl) ?_
        refine lv_iconst (v := (3 : Int32)) hx hb dX6_isAllHad_46 (by decide) ?_
        refine lv_idiv hx hb dX6_isAllHad_47 (by decide) ?_
        refine lv_topi (fun y2 ey2 => ?_)
        replace h := h y2 ey2
        refine lv_istore (lv' := [(7, .int y2), (9, .int y1), (0, .ref v0), (1, .int v1), (2, .int v2), (3, .int v3), (4, .int v4), (5, .int v5), (6, .int v6), (8, .int v8)]) hx hb dX6_isAllHad_48 hl (by decide) rfl (fun ls hl => ?_)
        refine lv_iload hx hb dX6_isAllHad_50 (lv_at hl 8 rfl) ?_
        refine lv_iload hx hb dX6_isAllHad_52 (lv_at hl 1 rfl) ?_
        refine lv_iconst (v := (1 : Int32)) hx hb dX6_isAllHad_54 (by decide) ?_
        refine lv_icmp_ne (tgt := 68) hx hb dX6_isAllHad_55 rfl (fun hc => ?_) (fun hc => ?_)
        · replace h := h.1 hc
          refine lv_iload hx hb dX6_isAllHad_68 (lv_at hl 1 rfl) ?_
          refine lv_iconst (v := (2 : Int32)) hx hb dX6_isAllHad_70 (by decide) ?_
          refine lv_icmp_ne (tgt := 85) hx hb dX6_isAllHad_71 rfl (fun hc => ?_) (fun hc => ?_)
          · replace h := h.1 hc
            refine lv_iconst (v := (0 : Int32)) hx hb dX6_isAllHad_85 (by decide) ?_
            exact j_86 _ hC2 _ hC13 _ hC32 v0 v1 v2 v3 v4 v5 y2 v8 v6 (0 : Int32) S ls _ _ (lv_sub hl [2, 3, 4, 5, 6, 7, 0, 9] rfl) hG hS h
          · replace h := h.2 hc
            refine lv_aload_n hx hb dX6_isAllHad_74 rfl (lv_at hl 2 rfl) ?_
            have hk := h.1
            replace h := h.2
            obtain ⟨r3, hr3, h⟩ := h
            refine gg_get (v := .ref r3) (ci := 6) (C := RX6) (T := TX6) (N := 32) hx hb hts (fun _ h => List.mem_cons_of_mem _ (List.mem_append_right _ (h))) hown hK hG (kc_7 hk) rfl 16 (by decide) (hts (.fieldLink RX6 26 "FourStonesModel" "some" "[I") (List.mem_of_getElem? (i := 1) rfl)) (fun _ h9 => h9) (congrArg (fun z => some (va_rf z)) hr3) dX6_isAllHad_75 ?_
            refine lv_iload hx hb dX6_isAllHad_78 (lv_at hl 9 rfl) ?_
            have hk := h.1
            replace h := h.2
            have hi := h.1
            replace h := h.2
            refine gg_iald hx hb hK hG hk hi dX6_isAllHad_80 ?_
            refine lv_ineg hx hb dX6_isAllHad_81 ?_
            refine lv_goto (tgt := 86) hx hb dX6_isAllHad_82 rfl ?_
            exact j_86 _ hC2 _ hC13 _ hC32 v0 v1 v2 v3 v4 v5 y2 v8 v6 (-(gA S r3 (v8).toNatClampNeg)) S ls _ _ (lv_sub hl [2, 3, 4, 5, 6, 7, 0, 9] rfl) hG hS h
        · replace h := h.2 hc
          refine lv_aload_n hx hb dX6_isAllHad_58 rfl (lv_at hl 2 rfl) ?_
          have hk := h.1
          replace h := h.2
          obtain ⟨r4, hr4, h⟩ := h
          refine gg_get (v := .ref r4) (ci := 6) (C := RX6) (T := TX6) (N := 32) hx hb hts (fun _ h => List.mem_cons_of_mem _ (List.mem_append_right _ (h))) hown hK hG (kc_7 hk) rfl 16 (by decide) (hts (.fieldLink RX6 26 "FourStonesModel" "some" "[I") (List.mem_of_getElem? (i := 1) rfl)) (fun _ h9 => h9) (congrArg (fun z => some (va_rf z)) hr4) dX6_isAllHad_59 ?_
          refine lv_iload hx hb dX6_isAllHad_62 (lv_at hl 9 rfl) ?_
          have hk := h.1
          replace h := h.2
          have hi := h.1
          replace h := h.2
          refine gg_iald hx hb hK hG hk hi dX6_isAllHad_64 ?_
          refine lv_goto (tgt := 86) hx hb dX6_isAllHad_65 rfl ?_
          exact j_86 _ hC2 _ hC13 _ hC32 v0 v1 v2 v3 v4 v5 y2 v8 v6 (gA S r4 (v8).toNatClampNeg) S ls _ _ (lv_sub hl [2, 3, 4, 5, 6, 7, 0, 9] rfl) hG hS h
  have k_13 : ∀ (C2 : Nat × Int32 × Int32 × Int32 × Hp → Prop) (hC2 : ∀ (v0 : Nat) (v1 : Int32) (v2 : Int32) (v3 : Int32) (S : Hp) (ls : Array Slot) (H : Heap) (locs : List Loc), lv_has ls 10 [(0, .ref v0), (1, .int v1), (2, .int v2), (3, .int v3)] → GG D κ A S H → va_S A s.heap H locs → C2 (v0, v1, v2, v3, S) → W p l e ({ frames := 2, cells := 0, slots := 0, locals := 96 } : Room) s m ([.ref a0, .int x1, .int x2] : List Value).toArray below meth c H locs 0 0 (MQ below (va_Qi Q (BG D κ A) A) ([.ref a0, .int x1, .int x2] : List Value).toArray s 0 0 A) (F0 m 2 ls [])) (n : Nat), ∀ (v0 : Nat) (v1 : Int32) (v2 : Int32) (v3 : Int32) (v4 : Int32) (v5 : Int32) (S : Hp) (ls : Array Slot) (H : Heap) (locs : List Loc), lv_has ls 10 [(0, .ref v0), (1, .int v1), (2, .int v2), (3, .int v3), (4, .int v4), (5, .int v5)] → GG D κ A S H → va_S A s.heap H locs → it (L_X6_isAllHad_13 C2 Q) n (v0, v1, v2, v3, v4, v5, S) → W p l e ({ frames := 2, cells := 0, slots := 0, locals := 96 } : Room) s m ([.ref a0, .int x1, .int x2] : List Value).toArray below meth c H locs 0 0 (MQ below (va_Qi Q (BG D κ A) A) ([.ref a0, .int x1, .int x2] : List Value).toArray s 0 0 A) (F0 m 13 ls []) := by
    intro C2 hC2 n
    induction n with
    | zero => intro v0 v1 v2 v3 v4 v5 S ls H locs hl hG hS h; exact False.elim h
    | succ n hC13 =>
      intro v0 v1 v2 v3 v4 v5 S ls H locs hl hG hS h
      replace h : L_X6_isAllHad_13 C2 Q (it (L_X6_isAllHad_13 C2 Q) n) (v0, v1, v2, v3, v4, v5, S) := h
      simp only [L_X6_isAllHad_13] at h
      refine lv_iload hx hb dX6_isAllHad_13 (lv_at hl 5 rfl) ?_
      refine lv_iload_n hx hb dX6_isAllHad_15 rfl (lv_at hl 1 rfl) ?_
      refine gc_i (va_runS (As := [.int v1]) (rest := [.int v5]) ⟨hx, hb, hml, hown, hts⟩ (c_X6_power l D κ A S v1 _ h) (va_cwS 1 hts gX6_isAllHad_X6_power rfl rfl rfl (by decide +kernel) ⟨Nat.le_of_ble_eq_true rfl, Nat.le_of_ble_eq_true rfl⟩) (pg_S hK hX hG (pg_A hA hS)) rfl rfl hl.1 rfl (lv_room (Nat.le_of_ble_eq_true rfl)) dX6_isAllHad_16 ⟨Nat.le_of_ble_eq_true rfl, Nat.le_of_ble_eq_true rfl⟩) hS (fun z3 S2 H locs1 h hG hS => ?_)
      refine lv_icmp_ge (tgt := 119) hx hb dX6_isAllHad_19 rfl (fun hc => ?_) (fun hc => ?_)
      · replace h := h.1 hc
        refine lv_iload hx hb dX6_isAllHad_119 (lv_at hl 4 rfl) ?_
        refine lv_if_ne (tgt := 126) hx hb dX6_isAllHad_121 rfl (fun hc => ?_) (fun hc => ?_)
        · replace h := h.1 hc
          obtain ⟨y4, ey4⟩ : ∃ z, z = v3 + (1 : Int32) := ⟨_, rfl⟩
          replace h := h y4 ey4
          refine lv_iinc (v := y4) (lv' := [(3, .int y4), (0, .ref v0), (1, .int v1), (2, .int v2), (4, .int v4), (5, .int v5)]) hx hb dX6_isAllHad_126 hl (k := 3) rfl (by rw [ey4]; rfl) (by decide) rfl (fun ls hl => ?_)
          refine lv_goto (tgt := 2) hx hb dX6_isAllHad_129 rfl ?_
          exact hC2 v0 v1 v2 y4 S2 ls _ _ (lv_sub hl [1, 2, 3, 0] rfl) hG hS h
        · replace h := h.2 hc
          refine lv_iconst (v := (0 : Int32)) hx hb dX6_isAllHad_124 (by decide) ?_
          exact W.zret (ty := .boolean) hx hb hr (by decide) (gr_i h hG hK hX hS) hS.2.2 dX6_isAllHad_125
      · replace h := h.2 hc
        refine lv_iconst (v := (0 : Int32)) hx hb dX6_isAllHad_22 (by decide) ?_
        refine lv_istore (lv' := [(6, .int (0 : Int32)), (0, .ref v0), (1, .int v1), (2, .int v2), (3, .int v3), (4, .int v4), (5, .int v5)]) hx hb dX6_isAllHad_23 hl (by decide) rfl (fun ls hl => ?_)
        refine lv_iload hx hb dX6_isAllHad_25 (lv_at hl 6 rfl) ?_
        refine lv_istore (lv' := [(7, .int v5), (6, .int (0 : Int32)), (0, .ref v0), (1, .int v1), (2, .int v2), (3, .int v3), (4, .int v4), (5, .int v5)]) hx hb dX6_isAllHad_27 hl (by decide) rfl (fun ls hl => ?_)
        refine lv_iconst (v := (0 : Int32)) hx hb dX6_isAllHad_29 (by decide) ?_
        refine lv_istore (lv' := [(8, .int (0 : Int32)), (7, .int v5), (6, .int (0 : Int32)), (0, .ref v0), (1, .int v1), (2, .int v2), (3, .int v3), (4, .int v4), (5, .int v5)]) hx hb dX6_isAllHad_30 hl (by decide) rfl (fun ls hl => ?_)
        obtain ⟨nn, h⟩ := h
        exact k_32 _ hC2 _ hC13 nn v0 v1 v2 v3 v4 v5 (0 : Int32) v5 (0 : Int32) S2 ls _ _ (lv_sub hl [3, 4, 5, 6, 7, 8, 2, 1, 0] rfl) hG hS h
  have k_2 : ∀  (n : Nat), ∀ (v0 : Nat) (v1 : Int32) (v2 : Int32) (v3 : Int32) (S : Hp) (ls : Array Slot) (H : Heap) (locs : List Loc), lv_has ls 10 [(0, .ref v0), (1, .int v1), (2, .int v2), (3, .int v3)] → GG D κ A S H → va_S A s.heap H locs → it (L_X6_isAllHad_2  Q) n (v0, v1, v2, v3, S) → W p l e ({ frames := 2, cells := 0, slots := 0, locals := 96 } : Room) s m ([.ref a0, .int x1, .int x2] : List Value).toArray below meth c H locs 0 0 (MQ below (va_Qi Q (BG D κ A) A) ([.ref a0, .int x1, .int x2] : List Value).toArray s 0 0 A) (F0 m 2 ls []) := by
    intro  n
    induction n with
    | zero => intro v0 v1 v2 v3 S ls H locs hl hG hS h; exact False.elim h
    | succ n hC2 =>
      intro v0 v1 v2 v3 S ls H locs hl hG hS h
      replace h : L_X6_isAllHad_2  Q (it (L_X6_isAllHad_2  Q) n) (v0, v1, v2, v3, S) := h
      simp only [L_X6_isAllHad_2] at h
      refine lv_iload_n hx hb dX6_isAllHad_2 rfl (lv_at hl 3 rfl) ?_
      refine lv_iload_n hx hb dX6_isAllHad_3 rfl (lv_at hl 2 rfl) ?_
      refine lv_icmp_gt (tgt := 132) hx hb dX6_isAllHad_4 rfl (fun hc => ?_) (fun hc => ?_)
      · replace h := h.1 hc
        refine lv_iconst (v := (1 : Int32)) hx hb dX6_isAllHad_132 (by decide) ?_
        exact W.zret (ty := .boolean) hx hb hr (by decide) (gr_i h hG hK hX hS) hS.2.2 dX6_isAllHad_133
      · replace h := h.2 hc
        refine lv_iconst (v := (0 : Int32)) hx hb dX6_isAllHad_7 (by decide) ?_
        refine lv_istore (lv' := [(4, .int (0 : Int32)), (0, .ref v0), (1, .int v1), (2, .int v2), (3, .int v3)]) hx hb dX6_isAllHad_8 hl (by decide) rfl (fun ls hl => ?_)
        refine lv_iconst (v := (0 : Int32)) hx hb dX6_isAllHad_10 (by decide) ?_
        refine lv_istore (lv' := [(5, .int (0 : Int32)), (4, .int (0 : Int32)), (0, .ref v0), (1, .int v1), (2, .int v2), (3, .int v3)]) hx hb dX6_isAllHad_11 hl (by decide) rfl (fun ls hl => ?_)
        obtain ⟨nn, h⟩ := h
        exact k_13 _ hC2 nn v0 v1 v2 v3 (0 : Int32) (0 : Int32) S ls _ _ (lv_sub hl [2, 3, 4, 5, 1, 0] rfl) hG hS h
  refine lv_iconst (v := (1 : Int32)) hx hb dX6_isAllHad_0 (by decide) ?_
  refine lv_istore_n (lv' := [(3, .int (1 : Int32)), (0, .ref a0), (1, .int x1), (2, .int x2)]) hx hb dX6_isAllHad_1 rfl hl (by decide) rfl (fun ls hl => ?_)
  obtain ⟨nn, h⟩ := h
  exact k_2  nn a0 x1 x2 (1 : Int32) S ls _ _ (lv_sub hl [1, 2, 3, 0] rfl) hG hS h
theorem c_X6_choose_bot (l : Launch) (D : va_G) (κ : Nat → ClassId) (A : Nat → Prop) (S : Hp) (a0 : Nat) (x1 x2 x3 x4 : Int32) (Q : Hp → Prop) (h : wp_X6_choose_bot a0 x1 x2 x3 x4 S Q) : Met l yX6_choose wsX6_choose ({ frames := 1, cells := 0, slots := 0, locals := 48 } : Room) (PG D κ A S [.ref a0, .int x1, .int x2, .int x3, .int x4]) (va_Qv Q (BG D κ A) A) 0 0 A := False.elim h
set_option maxHeartbeats 4000000 in
set_option maxRecDepth 100000 in
theorem c_X6_choose_0 (l : Launch) (D : va_G) (κ : Nat → ClassId) (A : Nat → Prop) (S : Hp) (a0 : Nat) (x1 : Int32) (x2 : Int32) (x3 : Int32) (x4 : Int32) (Q : Hp → Prop) (h : wp_X6_choose_0 a0 x1 x2 x3 x4 S Q) : Met l yX6_choose wsX6_choose ({ frames := 3, cells := 0, slots := 0, locals := 144 } : Room) (PG D κ A S [.ref a0, .int x1, .int x2, .int x3, .int x4]) (va_Qv Q (BG D κ A) A) 0 0 A := by
  refine Met.ofW (cc := cX6_choose) (maxL := 6) (ret := none) (by decide) rfl ?_
  intro p e s m args below meth c s₁ B hml hv
  obtain ⟨hargs, hA, hG, hK, hX⟩ := hv
  have hx := B.exec
  have hb := B.bytes
  have hr := B.returns
  have hts := atoms_spec (ws := wsX6_choose) B.pre
  have hown : s.vm.findClass RX6 = some m.cls := findClass_of_methodNamed B.named
  have hlocks := B.notSynchronized
  subst hargs
  clear B
  have hS : va_S A s.heap s.heap [] := va_S.rf
  have hl := lv_entry ([.ref a0, .int x1, .int x2, .int x3, .int x4]) (n := 6) (Nat.le_of_ble_eq_true rfl)
  rw [lg_entry_eq]
  generalize (lg_sl ([.ref a0, .int x1, .int x2, .int x3, .int x4]) ++ List.replicate (6 - (lg_sl ([.ref a0, .int x1, .int x2, .int x3, .int x4])).length) Slot.unset).toArray = ls at hl ⊢
  have hl : lv_has ls 6 [(0, .ref a0), (1, .int x1), (2, .int x2), (3, .int x3), (4, .int x4)] := hl
  have hG : GG D κ A S s.heap := hG
  have k_30 : ∀  (n : Nat), ∀ (v0 : Nat) (v2 : Int32) (v5 : Int32) (S : Hp) (ls : Array Slot) (H : Heap) (locs : List Loc), lv_has ls 6 [(0, .ref v0), (2, .int v2), (5, .int v5)] → GG D κ A S H → va_S A s.heap H locs → it (L_X6_choose_0_30  Q) n (v0, v2, v5, S) → W p l e ({ frames := 3, cells := 0, slots := 0, locals := 144 } : Room) s m ([.ref a0, .int x1, .int x2, .int x3, .int x4] : List Value).toArray below meth c H locs 0 0 (MQ below (va_Qv Q (BG D κ A) A) ([.ref a0, .int x1, .int x2, .int x3, .int x4] : List Value).toArray s 0 0 A) (F0 m 30 ls []) := by
    intro  n
    induction n with
    | zero => intro v0 v2 v5 S ls H locs hl hG hS h; exact False.elim h
    | succ n hC30 =>
      intro v0 v2 v5 S ls H locs hl hG hS h
      replace h : L_X6_choose_0_30  Q (it (L_X6_choose_0_30  Q) n) (v0, v2, v5, S) := h
      simp only [L_X6_choose_0_30] at h
      refine lv_iload hx hb dX6_choose_30 (lv_at hl 2 rfl) ?_
      refine lv_iload_n hx hb dX6_choose_32 rfl (lv_at hl 1 rfl) ?_
      refine lv_icmp_ge (tgt := 61) hx hb dX6_choose_33 rfl (fun hc => ?_) (fun hc => ?_)
      · replace h := h.1 hc
        refine lv_aload_n hx hb dX6_choose_61 rfl (lv_at hl 0 rfl) ?_
        refine lv_dup hx hb dX6_choose_62 rfl ?_
        have hk := h.1
        replace h := h.2
        refine gg_get (ci := 6) (C := RX6) (T := TX6) (N := 32) hx hb hts (fun _ h => List.mem_cons_of_mem _ (List.mem_append_right _ (h))) hown hK hG (kc_7 hk) rfl 14 (by decide) (hts (.fieldLink RX6 160 "FourStonesModel" "setsMany" "I") (List.mem_of_getElem? (i := 1) rfl)) (fun _ h9 => h9) rfl dX6_choose_63 ?_
        refine lv_iconst (v := (1 : Int32)) hx hb dX6_choose_66 (by decide) ?_
        refine lv_iadd hx hb dX6_choose_67 ?_
        have hk := h.1
        replace h := h.2
        obtain ⟨S1, eS1⟩ : ∃ z, z = sI S 84 v0 ((gI S 84 v0) + (1 : Int32)) := ⟨_, rfl⟩
        replace h := h S1 eS1
        refine gg_put (ci := 6) (C := RX6) (T := TX6) (N := 32) hx hb hts (fun _ h => List.mem_cons_of_mem _ (List.mem_append_right _ (h))) tyX6 tyX6_ok nmX6 hown hK hG hS (kc_7 hk) rfl 14 (by decide) (hts (.fieldLink RX6 160 "FourStonesModel" "setsMany" "I") (List.mem_of_getElem? (i := 1) rfl)) (fun _ h9 => h9) rfl (tyX6_ok 14 (by decide)) rfl rfl (Nat.le_of_ble_eq_true rfl) dX6_choose_68 (S' := S1) (fun b hb9 => by rw [eS1]; exact cO_sI hb9) (by rw [eS1]; exact cs_84 hk) (fun H locs2 hG hS => ?_)
        exact W.vret hx hb hr (gr_v h hG hK hX hS) hS.2.2 dX6_choose_71
      · replace h := h.2 hc
        refine lv_aload_n hx hb dX6_choose_36 rfl (lv_at hl 0 rfl) ?_
        refine lv_bipush (v := (100 : Int32)) hx hb dX6_choose_37 (by decide) ?_
        refine lv_aload_n hx hb dX6_choose_39 rfl (lv_at hl 0 rfl) ?_
        have hk := h.1
        replace h := h.2
        refine gg_get (ci := 6) (C := RX6) (T := TX6) (N := 32) hx hb hts (fun _ h => List.mem_cons_of_mem _ (List.mem_append_right _ (h))) hown hK hG (kc_7 hk) rfl 15 (by decide) (hts (.fieldLink RX6 163 "FourStonesModel" "setsFirst" "I") (List.mem_of_getElem? (i := 2) rfl)) (fun _ h9 => h9) rfl dX6_choose_40 ?_
        refine lv_imul hx hb dX6_choose_43 ?_
        refine lv_aload_n hx hb dX6_choose_44 rfl (lv_at hl 0 rfl) ?_
        have hk := h.1
        replace h := h.2
        obtain ⟨r3, hr3, h⟩ := h
        refine gg_get (v := .ref r3) (ci := 6) (C := RX6) (T := TX6) (N := 32) hx hb hts (fun _ h => List.mem_cons_of_mem _ (List.mem_append_right _ (h))) hown hK hG (kc_7 hk) rfl 16 (by decide) (hts (.fieldLink RX6 26 "FourStonesModel" "some" "[I") (List.mem_of_getElem? (i := 3) rfl)) (fun _ h9 => h9) (congrArg (fun z => some (va_rf z)) hr3) dX6_choose_45 ?_
        refine lv_iload hx hb dX6_choose_48 (lv_at hl 2 rfl) ?_
        have hk := h.1
        replace h := h.2
        have hi := h.1
        replace h := h.2
        refine gg_iald hx hb hK hG hk hi dX6_choose_50 ?_
        refine lv_iadd hx hb dX6_choose_51 ?_
        have hk := h.1
        replace h := h.2
        obtain ⟨S4, eS4⟩ : ∃ z, z = sI S 85 v0 (((100 : Int32) * (gI S 85 v0)) + (gA S r3 (v5).toNatClampNeg)) := ⟨_, rfl⟩
        replace h := h S4 eS4
        refine gg_put (ci := 6) (C := RX6) (T := TX6) (N := 32) hx hb hts (fun _ h => List.mem_cons_of_mem _ (List.mem_append_right _ (h))) tyX6 tyX6_ok nmX6 hown hK hG hS (kc_7 hk) rfl 15 (by decide) (hts (.fieldLink RX6 163 "FourStonesModel" "setsFirst" "I") (List.mem_of_getElem? (i := 2) rfl)) (fun _ h9 => h9) rfl (tyX6_ok 15 (by decide)) rfl rfl (Nat.le_of_ble_eq_true rfl) dX6_choose_52 (S' := S4) (fun b hb9 => by rw [eS4]; exact cO_sI hb9) (by rw [eS4]; exact cs_85 hk) (fun H locs5 hG hS => ?_)
        obtain ⟨y6, ey6⟩ : ∃ z, z = v5 + (1 : Int32) := ⟨_, rfl⟩
        replace h := h y6 ey6
        refine lv_iinc (v := y6) (lv' := [(5, .int y6), (0, .ref v0), (2, .int v2)]) hx hb dX6_choose_55 hl (k := 2) rfl (by rw [ey6]; rfl) (by decide) rfl (fun ls hl => ?_)
        refine lv_goto (tgt := 30) hx hb dX6_choose_58 rfl ?_
        exact hC30 v0 v2 y6 S4 ls _ _ (lv_sub hl [1, 2, 0] rfl) hG hS h
  have k_92 : ∀  (n : Nat), ∀ (v0 : Nat) (v1 : Int32) (v2 : Int32) (v3 : Int32) (v4 : Int32) (v5 : Int32) (S : Hp) (ls : Array Slot) (H : Heap) (locs : List Loc), lv_has ls 6 [(0, .ref v0), (1, .int v1), (2, .int v2), (3, .int v3), (4, .int v4), (5, .int v5)] → GG D κ A S H → va_S A s.heap H locs → it (L_X6_choose_0_92  Q) n (v0, v1, v2, v3, v4, v5, S) → W p l e ({ frames := 3, cells := 0, slots := 0, locals := 144 } : Room) s m ([.ref a0, .int x1, .int x2, .int x3, .int x4] : List Value).toArray below meth c H locs 0 0 (MQ below (va_Qv Q (BG D κ A) A) ([.ref a0, .int x1, .int x2, .int x3, .int x4] : List Value).toArray s 0 0 A) (F0 m 92 ls []) := by
    intro  n
    induction n with
    | zero => intro v0 v1 v2 v3 v4 v5 S ls H locs hl hG hS h; exact False.elim h
    | succ n hC92 =>
      intro v0 v1 v2 v3 v4 v5 S ls H locs hl hG hS h
      replace h : L_X6_choose_0_92  Q (it (L_X6_choose_0_92  Q) n) (v0, v1, v2, v3, v4, v5, S) := h
      simp only [L_X6_choose_0_92] at h
      refine lv_iload hx hb dX6_choose_92 (lv_at hl 5 rfl) ?_
      refine lv_iload_n hx hb dX6_choose_94 rfl (lv_at hl 3 rfl) ?_
      refine lv_icmp_gt (tgt := 123) hx hb dX6_choose_95 rfl (fun hc => ?_) (fun hc => ?_)
      · replace h := h.1 hc
        exact W.vret hx hb hr (gr_v h hG hK hX hS) hS.2.2 dX6_choose_123
      · replace h := h.2 hc
        refine lv_aload_n hx hb dX6_choose_98 rfl (lv_at hl 0 rfl) ?_
        have hk := h.1
        replace h := h.2
        obtain ⟨r1, hr1, h⟩ := h
        refine gg_get (v := .ref r1) (ci := 6) (C := RX6) (T := TX6) (N := 32) hx hb hts (fun _ h => List.mem_cons_of_mem _ (List.mem_append_right _ (h))) hown hK hG (kc_7 hk) rfl 16 (by decide) (hts (.fieldLink RX6 26 "FourStonesModel" "some" "[I") (List.mem_of_getElem? (i := 3) rfl)) (fun _ h9 => h9) (congrArg (fun z => some (va_rf z)) hr1) dX6_choose_99 ?_
        refine lv_iload_n hx hb dX6_choose_102 rfl (lv_at hl 1 rfl) ?_
        refine lv_iload hx hb dX6_choose_103 (lv_at hl 5 rfl) ?_
        have hk := h.1
        replace h := h.2
        have hi := h.1
        replace h := h.2
        obtain ⟨S2, eS2⟩ : ∃ z, z = sA S r1 (v1).toNatClampNeg v5 := ⟨_, rfl⟩
        replace h := h S2 eS2
        refine gg_iast hx hb hK hG hS hk hi dX6_choose_105 (fun H locs3 hG hS => ?_)
        rw [← eS2] at hG
        refine lv_aload_n hx hb dX6_choose_106 rfl (lv_at hl 0 rfl) ?_
        refine lv_iload_n hx hb dX6_choose_107 rfl (lv_at hl 1 rfl) ?_
        refine lv_iconst (v := (1 : Int32)) hx hb dX6_choose_108 (by decide) ?_
        refine lv_iadd hx hb dX6_choose_109 ?_
        refine lv_iload_n hx hb dX6_choose_110 rfl (lv_at hl 2 rfl) ?_
        refine lv_iload_n hx hb dX6_choose_111 rfl (lv_at hl 3 rfl) ?_
        refine lv_iload hx hb dX6_choose_112 (lv_at hl 4 rfl) ?_
        have hk := h.1
        replace h := h.2
        refine gc_v (va_runV (As := [.int (v1 + (1 : Int32)), .int v2, .int v3, .int v4]) (rest := []) ⟨hx, hb, hml, hown, hts⟩ (c_X6_choose_bot l D κ A S2 v0 (v1 + (1 : Int32)) v2 v3 v4 _ h) (cwV 4 hts gX6_choose_X6_choose rfl rfl rfl (by decide +kernel) ⟨Nat.le_of_ble_eq_true rfl, Nat.le_of_ble_eq_true rfl⟩) (pg_V (q := (RX6, TX6, 32)) hK hX hG (pg_A hA hS) (kc_7 hk) rfl) rfl rfl hl.1 rfl (lv_room (Nat.le_of_ble_eq_true rfl)) dX6_choose_114 ⟨Nat.le_of_ble_eq_true rfl, Nat.le_of_ble_eq_true rfl⟩) hS (fun S5 H locs4 h hG hS => ?_)
        obtain ⟨y6, ey6⟩ : ∃ z, z = v5 + (1 : Int32) := ⟨_, rfl⟩
        replace h := h y6 ey6
        refine lv_iinc (v := y6) (lv' := [(5, .int y6), (0, .ref v0), (1, .int v1), (2, .int v2), (3, .int v3), (4, .int v4)]) hx hb dX6_choose_117 hl (k := 5) rfl (by rw [ey6]; rfl) (by decide) rfl (fun ls hl => ?_)
        refine lv_goto (tgt := 92) hx hb dX6_choose_120 rfl ?_
        exact hC92 v0 v1 v2 v3 v4 y6 S5 ls _ _ (lv_sub hl [1, 2, 3, 4, 5, 0] rfl) hG hS h
  have j_90 : ∀  (v0 : Nat) (v1 : Int32) (v2 : Int32) (v3 : Int32) (v4 : Int32) (w0 : Int32) (S : Hp) (ls : Array Slot) (H : Heap) (locs : List Loc), lv_has ls 6 [(0, .ref v0), (1, .int v1), (2, .int v2), (3, .int v3), (4, .int v4)] → GG D κ A S H → va_S A s.heap H locs → J_X6_choose_0_90  Q v0 v1 v2 v3 v4 w0 S → W p l e ({ frames := 3, cells := 0, slots := 0, locals := 144 } : Room) s m ([.ref a0, .int x1, .int x2, .int x3, .int x4] : List Value).toArray below meth c H locs 0 0 (MQ below (va_Qv Q (BG D κ A) A) ([.ref a0, .int x1, .int x2, .int x3, .int x4] : List Value).toArray s 0 0 A) (F0 m 90 ls [.int w0]) := by
    intro  v0 v1 v2 v3 v4 w0 S ls H locs hl hG hS h
    unfold J_X6_choose_0_90 at h
    refine lv_istore (lv' := [(5, .int w0), (0, .ref v0), (1, .int v1), (2, .int v2), (3, .int v3), (4, .int v4)]) hx hb dX6_choose_90 hl (by decide) rfl (fun ls hl => ?_)
    obtain ⟨nn, h⟩ := h
    exact k_92  nn v0 v1 v2 v3 v4 w0 S ls _ _ (lv_sub hl [1, 2, 3, 4, 5, 0] rfl) hG hS h
  refine lv_iload_n hx hb dX6_choose_0 rfl (lv_at hl 1 rfl) ?_
  refine lv_iload_n hx hb dX6_choose_1 rfl (lv_at hl 2 rfl) ?_
  refine lv_icmp_ne (tgt := 72) hx hb dX6_choose_2 rfl (fun hc => ?_) (fun hc => ?_)
  · replace h := h.1 hc
    refine lv_iload_n hx hb dX6_choose_72 rfl (lv_at hl 1 rfl) ?_
    refine lv_if_ne (tgt := 80) hx hb dX6_choose_73 rfl (fun hc => ?_) (fun hc => ?_)
    · replace h := h.1 hc
      refine lv_aload_n hx hb dX6_choose_80 rfl (lv_at hl 0 rfl) ?_
      have hk := h.1
      replace h := h.2
      obtain ⟨r1, hr1, h⟩ := h
      refine gg_get (v := .ref r1) (ci := 6) (C := RX6) (T := TX6) (N := 32) hx hb hts (fun _ h => List.mem_cons_of_mem _ (List.mem_append_right _ (h))) hown hK hG (kc_7 hk) rfl 16 (by decide) (hts (.fieldLink RX6 26 "FourStonesModel" "some" "[I") (List.mem_of_getElem? (i := 3) rfl)) (fun _ h9 => h9) (congrArg (fun z => some (va_rf z)) hr1) dX6_choose_81 ?_
      refine lv_iload_n hx hb dX6_choose_84 rfl (lv_at hl 1 rfl) ?_
      refine lv_iconst (v := (1 : Int32)) hx hb dX6_choose_85 (by decide) ?_
      refine lv_isub hx hb dX6_choose_86 ?_
      have hk := h.1
      replace h := h.2
      have hi := h.1
      replace h := h.2
      refine gg_iald hx hb hK hG hk hi dX6_choose_87 ?_
      refine lv_iconst (v := (1 : Int32)) hx hb dX6_choose_88 (by decide) ?_
      refine lv_iadd hx hb dX6_choose_89 ?_
      exact j_90  a0 x1 x2 x3 x4 ((gA S r1 ((x1 - (1 : Int32))).toNatClampNeg) + (1 : Int32)) S ls _ _ (lv_sub hl [0, 1, 2, 3, 4] rfl) hG hS h
    · replace h := h.2 hc
      refine lv_iconst (v := (1 : Int32)) hx hb dX6_choose_76 (by decide) ?_
      refine lv_goto (tgt := 90) hx hb dX6_choose_77 rfl ?_
      exact j_90  a0 x1 x2 x3 x4 (1 : Int32) S ls _ _ (lv_sub hl [0, 1, 2, 3, 4] rfl) hG hS h
  · replace h := h.2 hc
    refine lv_aload_n hx hb dX6_choose_5 rfl (lv_at hl 0 rfl) ?_
    refine lv_iload_n hx hb dX6_choose_6 rfl (lv_at hl 2 rfl) ?_
    refine lv_iload hx hb dX6_choose_7 (lv_at hl 4 rfl) ?_
    have hk := h.1
    replace h := h.2
    refine gc_i (va_runV (As := [.int x2, .int x4]) (rest := []) ⟨hx, hb, hml, hown, hts⟩ (c_X6_isAllHad l D κ A S a0 x2 x4 _ h) (cwV 2 hts gX6_choose_X6_isAllHad rfl rfl rfl (by decide +kernel) ⟨Nat.le_of_ble_eq_true rfl, Nat.le_of_ble_eq_true rfl⟩) (pg_V (q := (RX6, TX6, 32)) hK hX hG (pg_A hA hS) (kc_7 hk) rfl) rfl rfl hl.1 rfl (lv_room (Nat.le_of_ble_eq_true rfl)) dX6_choose_9 ⟨Nat.le_of_ble_eq_true rfl, Nat.le_of_ble_eq_true rfl⟩) hS (fun z4 S3 H locs2 h hG hS => ?_)
    refine lv_if_eq (tgt := 71) hx hb dX6_choose_12 rfl (fun hc => ?_) (fun hc => ?_)
    · replace h := h.1 hc
      exact W.vret hx hb hr (gr_v h hG hK hX hS) hS.2.2 dX6_choose_71
    · replace h := h.2 hc
      refine lv_aload_n hx hb dX6_choose_15 rfl (lv_at hl 0 rfl) ?_
      have hk := h.1
      replace h := h.2
      refine gg_get (ci := 6) (C := RX6) (T := TX6) (N := 32) hx hb hts (fun _ h => List.mem_cons_of_mem _ (List.mem_append_right _ (h))) hown hK hG (kc_7 hk) rfl 14 (by decide) (hts (.fieldLink RX6 160 "FourStonesModel" "setsMany" "I") (List.mem_of_getElem? (i := 1) rfl)) (fun _ h9 => h9) rfl dX6_choose_16 ?_
      refine lv_if_ne (tgt := 61) hx hb dX6_choose_19 rfl (fun hc => ?_) (fun hc => ?_)
      · replace h := h.1 hc
        refine lv_aload_n hx hb dX6_choose_61 rfl (lv_at hl 0 rfl) ?_
        refine lv_dup hx hb dX6_choose_62 rfl ?_
        have hk := h.1
        replace h := h.2
        refine gg_get (ci := 6) (C := RX6) (T := TX6) (N := 32) hx hb hts (fun _ h => List.mem_cons_of_mem _ (List.mem_append_right _ (h))) hown hK hG (kc_7 hk) rfl 14 (by decide) (hts (.fieldLink RX6 160 "FourStonesModel" "setsMany" "I") (List.mem_of_getElem? (i := 1) rfl)) (fun _ h9 => h9) rfl dX6_choose_63 ?_
        refine lv_iconst (v := (1 : Int32)) hx hb dX6_choose_66 (by decide) ?_
        refine lv_iadd hx hb dX6_choose_67 ?_
        have hk := h.1
        replace h := h.2
        obtain ⟨S5, eS5⟩ : ∃ z, z = sI S3 84 a0 ((gI S3 84 a0) + (1 : Int32)) := ⟨_, rfl⟩
        replace h := h S5 eS5
        refine gg_put (ci := 6) (C := RX6) (T := TX6) (N := 32) hx hb hts (fun _ h => List.mem_cons_of_mem _ (List.mem_append_right _ (h))) tyX6 tyX6_ok nmX6 hown hK hG hS (kc_7 hk) rfl 14 (by decide) (hts (.fieldLink RX6 160 "FourStonesModel" "setsMany" "I") (List.mem_of_getElem? (i := 1) rfl)) (fun _ h9 => h9) rfl (tyX6_ok 14 (by decide)) rfl rfl (Nat.le_of_ble_eq_true rfl) dX6_choose_68 (S' := S5) (fun b hb9 => by rw [eS5]; exact cO_sI hb9) (by rw [eS5]; exact cs_84 hk) (fun H locs6 hG hS => ?_)
        exact W.vret hx hb hr (gr_v h hG hK hX hS) hS.2.2 dX6_choose_71
      · replace h := h.2 hc
        refine lv_aload_n hx hb dX6_choose_22 rfl (lv_at hl 0 rfl) ?_
        refine lv_iconst (v := (0 : Int32)) hx hb dX6_choose_23 (by decide) ?_
        have hk := h.1
        replace h := h.2
        obtain ⟨S7, eS7⟩ : ∃ z, z = sI S3 85 a0 (0 : Int32) := ⟨_, rfl⟩
        replace h := h S7 eS7
        refine gg_put (ci := 6) (C := RX6) (T := TX6) (N := 32) hx hb hts (fun _ h => List.mem_cons_of_mem _ (List.mem_append_right _ (h))) tyX6 tyX6_ok nmX6 hown hK hG hS (kc_7 hk) rfl 15 (by decide) (hts (.fieldLink RX6 163 "FourStonesModel" "setsFirst" "I") (List.mem_of_getElem? (i := 2) rfl)) (fun _ h9 => h9) rfl (tyX6_ok 15 (by decide)) rfl rfl (Nat.le_of_ble_eq_true rfl) dX6_choose_24 (S' := S7) (fun b hb9 => by rw [eS7]; exact cO_sI hb9) (by rw [eS7]; exact cs_85 hk) (fun H locs8 hG hS => ?_)
        refine lv_iconst (v := (0 : Int32)) hx hb dX6_choose_27 (by decide) ?_
        refine lv_istore (lv' := [(5, .int (0 : Int32)), (0, .ref a0), (1, .int x1), (2, .int x2), (3, .int x3), (4, .int x4)]) hx hb dX6_choose_28 hl (by decide) rfl (fun ls hl => ?_)
        obtain ⟨nn, h⟩ := h
        exact k_30  nn a0 x2 (0 : Int32) S7 ls _ _ (lv_sub hl [1, 3, 0] rfl) hG hS h
set_option maxHeartbeats 4000000 in
set_option maxRecDepth 100000 in
theorem c_X6_choose_1 (l : Launch) (D : va_G) (κ : Nat → ClassId) (A : Nat → Prop) (S : Hp) (a0 : Nat) (x1 : Int32) (x2 : Int32) (x3 : Int32) (x4 : Int32) (Q : Hp → Prop) (h : wp_X6_choose_1 a0 x1 x2 x3 x4 S Q) : Met l yX6_choose wsX6_choose ({ frames := 4, cells := 0, slots := 0, locals := 192 } : Room) (PG D κ A S [.ref a0, .int x1, .int x2, .int x3, .int x4]) (va_Qv Q (BG D κ A) A) 0 0 A := by
  refine Met.ofW (cc := cX6_choose) (maxL := 6) (ret := none) (by decide) rfl ?_
  intro p e s m args below meth c s₁ B hml hv
  obtain ⟨hargs, hA, hG, hK, hX⟩ := hv
  have hx := B.exec
  have hb := B.bytes
  have hr := B.returns
  have hts := atoms_spec (ws := wsX6_choose) B.pre
  have hown : s.vm.findClass RX6 = some m.cls := findClass_of_methodNamed B.named
  have hlocks := B.notSynchronized
  subst hargs
  clear B
  have hS : va_S A s.heap s.heap [] := va_S.rf
  have hl := lv_entry ([.ref a0, .int x1, .int x2, .int x3, .int x4]) (n := 6) (Nat.le_of_ble_eq_true rfl)
  rw [lg_entry_eq]
  generalize (lg_sl ([.ref a0, .int x1, .int x2, .int x3, .int x4]) ++ List.replicate (6 - (lg_sl ([.ref a0, .int x1, .int x2, .int x3, .int x4])).length) Slot.unset).toArray = ls at hl ⊢
  have hl : lv_has ls 6 [(0, .ref a0), (1, .int x1), (2, .int x2), (3, .int x3), (4, .int x4)] := hl
  have hG : GG D κ A S s.heap := hG
  have k_30 : ∀  (n : Nat), ∀ (v0 : Nat) (v2 : Int32) (v5 : Int32) (S : Hp) (ls : Array Slot) (H : Heap) (locs : List Loc), lv_has ls 6 [(0, .ref v0), (2, .int v2), (5, .int v5)] → GG D κ A S H → va_S A s.heap H locs → it (L_X6_choose_1_30  Q) n (v0, v2, v5, S) → W p l e ({ frames := 4, cells := 0, slots := 0, locals := 192 } : Room) s m ([.ref a0, .int x1, .int x2, .int x3, .int x4] : List Value).toArray below meth c H locs 0 0 (MQ below (va_Qv Q (BG D κ A) A) ([.ref a0, .int x1, .int x2, .int x3, .int x4] : List Value).toArray s 0 0 A) (F0 m 30 ls []) := by
    intro  n
    induction n with
    | zero => intro v0 v2 v5 S ls H locs hl hG hS h; exact False.elim h
    | succ n hC30 =>
      intro v0 v2 v5 S ls H locs hl hG hS h
      replace h : L_X6_choose_1_30  Q (it (L_X6_choose_1_30  Q) n) (v0, v2, v5, S) := h
      simp only [L_X6_choose_1_30] at h
      refine lv_iload hx hb dX6_choose_30 (lv_at hl 2 rfl) ?_
      refine lv_iload_n hx hb dX6_choose_32 rfl (lv_at hl 1 rfl) ?_
      refine lv_icmp_ge (tgt := 61) hx hb dX6_choose_33 rfl (fun hc => ?_) (fun hc => ?_)
      · replace h := h.1 hc
        refine lv_aload_n hx hb dX6_choose_61 rfl (lv_at hl 0 rfl) ?_
        refine lv_dup hx hb dX6_choose_62 rfl ?_
        have hk := h.1
        replace h := h.2
        refine gg_get (ci := 6) (C := RX6) (T := TX6) (N := 32) hx hb hts (fun _ h => List.mem_cons_of_mem _ (List.mem_append_right _ (h))) hown hK hG (kc_7 hk) rfl 14 (by decide) (hts (.fieldLink RX6 160 "FourStonesModel" "setsMany" "I") (List.mem_of_getElem? (i := 1) rfl)) (fun _ h9 => h9) rfl dX6_choose_63 ?_
        refine lv_iconst (v := (1 : Int32)) hx hb dX6_choose_66 (by decide) ?_
        refine lv_iadd hx hb dX6_choose_67 ?_
        have hk := h.1
        replace h := h.2
        obtain ⟨S1, eS1⟩ : ∃ z, z = sI S 84 v0 ((gI S 84 v0) + (1 : Int32)) := ⟨_, rfl⟩
        replace h := h S1 eS1
        refine gg_put (ci := 6) (C := RX6) (T := TX6) (N := 32) hx hb hts (fun _ h => List.mem_cons_of_mem _ (List.mem_append_right _ (h))) tyX6 tyX6_ok nmX6 hown hK hG hS (kc_7 hk) rfl 14 (by decide) (hts (.fieldLink RX6 160 "FourStonesModel" "setsMany" "I") (List.mem_of_getElem? (i := 1) rfl)) (fun _ h9 => h9) rfl (tyX6_ok 14 (by decide)) rfl rfl (Nat.le_of_ble_eq_true rfl) dX6_choose_68 (S' := S1) (fun b hb9 => by rw [eS1]; exact cO_sI hb9) (by rw [eS1]; exact cs_84 hk) (fun H locs2 hG hS => ?_)
        exact W.vret hx hb hr (gr_v h hG hK hX hS) hS.2.2 dX6_choose_71
      · replace h := h.2 hc
        refine lv_aload_n hx hb dX6_choose_36 rfl (lv_at hl 0 rfl) ?_
        refine lv_bipush (v := (100 : Int32)) hx hb dX6_choose_37 (by decide) ?_
        refine lv_aload_n hx hb dX6_choose_39 rfl (lv_at hl 0 rfl) ?_
        have hk := h.1
        replace h := h.2
        refine gg_get (ci := 6) (C := RX6) (T := TX6) (N := 32) hx hb hts (fun _ h => List.mem_cons_of_mem _ (List.mem_append_right _ (h))) hown hK hG (kc_7 hk) rfl 15 (by decide) (hts (.fieldLink RX6 163 "FourStonesModel" "setsFirst" "I") (List.mem_of_getElem? (i := 2) rfl)) (fun _ h9 => h9) rfl dX6_choose_40 ?_
        refine lv_imul hx hb dX6_choose_43 ?_
        refine lv_aload_n hx hb dX6_choose_44 rfl (lv_at hl 0 rfl) ?_
        have hk := h.1
        replace h := h.2
        obtain ⟨r3, hr3, h⟩ := h
        refine gg_get (v := .ref r3) (ci := 6) (C := RX6) (T := TX6) (N := 32) hx hb hts (fun _ h => List.mem_cons_of_mem _ (List.mem_append_right _ (h))) hown hK hG (kc_7 hk) rfl 16 (by decide) (hts (.fieldLink RX6 26 "FourStonesModel" "some" "[I") (List.mem_of_getElem? (i := 3) rfl)) (fun _ h9 => h9) (congrArg (fun z => some (va_rf z)) hr3) dX6_choose_45 ?_
        refine lv_iload hx hb dX6_choose_48 (lv_at hl 2 rfl) ?_
        have hk := h.1
        replace h := h.2
        have hi := h.1
        replace h := h.2
        refine gg_iald hx hb hK hG hk hi dX6_choose_50 ?_
        refine lv_iadd hx hb dX6_choose_51 ?_
        have hk := h.1
        replace h := h.2
        obtain ⟨S4, eS4⟩ : ∃ z, z = sI S 85 v0 (((100 : Int32) * (gI S 85 v0)) + (gA S r3 (v5).toNatClampNeg)) := ⟨_, rfl⟩
        replace h := h S4 eS4
        refine gg_put (ci := 6) (C := RX6) (T := TX6) (N := 32) hx hb hts (fun _ h => List.mem_cons_of_mem _ (List.mem_append_right _ (h))) tyX6 tyX6_ok nmX6 hown hK hG hS (kc_7 hk) rfl 15 (by decide) (hts (.fieldLink RX6 163 "FourStonesModel" "setsFirst" "I") (List.mem_of_getElem? (i := 2) rfl)) (fun _ h9 => h9) rfl (tyX6_ok 15 (by decide)) rfl rfl (Nat.le_of_ble_eq_true rfl) dX6_choose_52 (S' := S4) (fun b hb9 => by rw [eS4]; exact cO_sI hb9) (by rw [eS4]; exact cs_85 hk) (fun H locs5 hG hS => ?_)
        obtain ⟨y6, ey6⟩ : ∃ z, z = v5 + (1 : Int32) := ⟨_, rfl⟩
        replace h := h y6 ey6
        refine lv_iinc (v := y6) (lv' := [(5, .int y6), (0, .ref v0), (2, .int v2)]) hx hb dX6_choose_55 hl (k := 2) rfl (by rw [ey6]; rfl) (by decide) rfl (fun ls hl => ?_)
        refine lv_goto (tgt := 30) hx hb dX6_choose_58 rfl ?_
        exact hC30 v0 v2 y6 S4 ls _ _ (lv_sub hl [1, 2, 0] rfl) hG hS h
  have k_92 : ∀  (n : Nat), ∀ (v0 : Nat) (v1 : Int32) (v2 : Int32) (v3 : Int32) (v4 : Int32) (v5 : Int32) (S : Hp) (ls : Array Slot) (H : Heap) (locs : List Loc), lv_has ls 6 [(0, .ref v0), (1, .int v1), (2, .int v2), (3, .int v3), (4, .int v4), (5, .int v5)] → GG D κ A S H → va_S A s.heap H locs → it (L_X6_choose_1_92  Q) n (v0, v1, v2, v3, v4, v5, S) → W p l e ({ frames := 4, cells := 0, slots := 0, locals := 192 } : Room) s m ([.ref a0, .int x1, .int x2, .int x3, .int x4] : List Value).toArray below meth c H locs 0 0 (MQ below (va_Qv Q (BG D κ A) A) ([.ref a0, .int x1, .int x2, .int x3, .int x4] : List Value).toArray s 0 0 A) (F0 m 92 ls []) := by
    intro  n
    induction n with
    | zero => intro v0 v1 v2 v3 v4 v5 S ls H locs hl hG hS h; exact False.elim h
    | succ n hC92 =>
      intro v0 v1 v2 v3 v4 v5 S ls H locs hl hG hS h
      replace h : L_X6_choose_1_92  Q (it (L_X6_choose_1_92  Q) n) (v0, v1, v2, v3, v4, v5, S) := h
      simp only [L_X6_choose_1_92] at h
      refine lv_iload hx hb dX6_choose_92 (lv_at hl 5 rfl) ?_
      refine lv_iload_n hx hb dX6_choose_94 rfl (lv_at hl 3 rfl) ?_
      refine lv_icmp_gt (tgt := 123) hx hb dX6_choose_95 rfl (fun hc => ?_) (fun hc => ?_)
      · replace h := h.1 hc
        exact W.vret hx hb hr (gr_v h hG hK hX hS) hS.2.2 dX6_choose_123
      · replace h := h.2 hc
        refine lv_aload_n hx hb dX6_choose_98 rfl (lv_at hl 0 rfl) ?_
        have hk := h.1
        replace h := h.2
        obtain ⟨r1, hr1, h⟩ := h
        refine gg_get (v := .ref r1) (ci := 6) (C := RX6) (T := TX6) (N := 32) hx hb hts (fun _ h => List.mem_cons_of_mem _ (List.mem_append_right _ (h))) hown hK hG (kc_7 hk) rfl 16 (by decide) (hts (.fieldLink RX6 26 "FourStonesModel" "some" "[I") (List.mem_of_getElem? (i := 3) rfl)) (fun _ h9 => h9) (congrArg (fun z => some (va_rf z)) hr1) dX6_choose_99 ?_
        refine lv_iload_n hx hb dX6_choose_102 rfl (lv_at hl 1 rfl) ?_
        refine lv_iload hx hb dX6_choose_103 (lv_at hl 5 rfl) ?_
        have hk := h.1
        replace h := h.2
        have hi := h.1
        replace h := h.2
        obtain ⟨S2, eS2⟩ : ∃ z, z = sA S r1 (v1).toNatClampNeg v5 := ⟨_, rfl⟩
        replace h := h S2 eS2
        refine gg_iast hx hb hK hG hS hk hi dX6_choose_105 (fun H locs3 hG hS => ?_)
        rw [← eS2] at hG
        refine lv_aload_n hx hb dX6_choose_106 rfl (lv_at hl 0 rfl) ?_
        refine lv_iload_n hx hb dX6_choose_107 rfl (lv_at hl 1 rfl) ?_
        refine lv_iconst (v := (1 : Int32)) hx hb dX6_choose_108 (by decide) ?_
        refine lv_iadd hx hb dX6_choose_109 ?_
        refine lv_iload_n hx hb dX6_choose_110 rfl (lv_at hl 2 rfl) ?_
        refine lv_iload_n hx hb dX6_choose_111 rfl (lv_at hl 3 rfl) ?_
        refine lv_iload hx hb dX6_choose_112 (lv_at hl 4 rfl) ?_
        have hk := h.1
        replace h := h.2
        refine gc_v (va_runV (As := [.int (v1 + (1 : Int32)), .int v2, .int v3, .int v4]) (rest := []) ⟨hx, hb, hml, hown, hts⟩ (c_X6_choose_0 l D κ A S2 v0 (v1 + (1 : Int32)) v2 v3 v4 _ h) (cwV 4 hts gX6_choose_X6_choose rfl rfl rfl (by decide +kernel) ⟨Nat.le_of_ble_eq_true rfl, Nat.le_of_ble_eq_true rfl⟩) (pg_V (q := (RX6, TX6, 32)) hK hX hG (pg_A hA hS) (kc_7 hk) rfl) rfl rfl hl.1 rfl (lv_room (Nat.le_of_ble_eq_true rfl)) dX6_choose_114 ⟨Nat.le_of_ble_eq_true rfl, Nat.le_of_ble_eq_true rfl⟩) hS (fun S5 H locs4 h hG hS => ?_)
        obtain ⟨y6, ey6⟩ : ∃ z, z = v5 + (1 : Int32) := ⟨_, rfl⟩
        replace h := h y6 ey6
        refine lv_iinc (v := y6) (lv' := [(5, .int y6), (0, .ref v0), (1, .int v1), (2, .int v2), (3, .int v3), (4, .int v4)]) hx hb dX6_choose_117 hl (k := 5) rfl (by rw [ey6]; rfl) (by decide) rfl (fun ls hl => ?_)
        refine lv_goto (tgt := 92) hx hb dX6_choose_120 rfl ?_
        exact hC92 v0 v1 v2 v3 v4 y6 S5 ls _ _ (lv_sub hl [1, 2, 3, 4, 5, 0] rfl) hG hS h
  have j_90 : ∀  (v0 : Nat) (v1 : Int32) (v2 : Int32) (v3 : Int32) (v4 : Int32) (w0 : Int32) (S : Hp) (ls : Array Slot) (H : Heap) (locs : List Loc), lv_has ls 6 [(0, .ref v0), (1, .int v1), (2, .int v2), (3, .int v3), (4, .int v4)] → GG D κ A S H → va_S A s.heap H locs → J_X6_choose_1_90  Q v0 v1 v2 v3 v4 w0 S → W p l e ({ frames := 4, cells := 0, slots := 0, locals := 192 } : Room) s m ([.ref a0, .int x1, .int x2, .int x3, .int x4] : List Value).toArray below meth c H locs 0 0 (MQ below (va_Qv Q (BG D κ A) A) ([.ref a0, .int x1, .int x2, .int x3, .int x4] : List Value).toArray s 0 0 A) (F0 m 90 ls [.int w0]) := by
    intro  v0 v1 v2 v3 v4 w0 S ls H locs hl hG hS h
    unfold J_X6_choose_1_90 at h
    refine lv_istore (lv' := [(5, .int w0), (0, .ref v0), (1, .int v1), (2, .int v2), (3, .int v3), (4, .int v4)]) hx hb dX6_choose_90 hl (by decide) rfl (fun ls hl => ?_)
    obtain ⟨nn, h⟩ := h
    exact k_92  nn v0 v1 v2 v3 v4 w0 S ls _ _ (lv_sub hl [1, 2, 3, 4, 5, 0] rfl) hG hS h
  refine lv_iload_n hx hb dX6_choose_0 rfl (lv_at hl 1 rfl) ?_
  refine lv_iload_n hx hb dX6_choose_1 rfl (lv_at hl 2 rfl) ?_
  refine lv_icmp_ne (tgt := 72) hx hb dX6_choose_2 rfl (fun hc => ?_) (fun hc => ?_)
  · replace h := h.1 hc
    refine lv_iload_n hx hb dX6_choose_72 rfl (lv_at hl 1 rfl) ?_
    refine lv_if_ne (tgt := 80) hx hb dX6_choose_73 rfl (fun hc => ?_) (fun hc => ?_)
    · replace h := h.1 hc
      refine lv_aload_n hx hb dX6_choose_80 rfl (lv_at hl 0 rfl) ?_
      have hk := h.1
      replace h := h.2
      obtain ⟨r1, hr1, h⟩ := h
      refine gg_get (v := .ref r1) (ci := 6) (C := RX6) (T := TX6) (N := 32) hx hb hts (fun _ h => List.mem_cons_of_mem _ (List.mem_append_right _ (h))) hown hK hG (kc_7 hk) rfl 16 (by decide) (hts (.fieldLink RX6 26 "FourStonesModel" "some" "[I") (List.mem_of_getElem? (i := 3) rfl)) (fun _ h9 => h9) (congrArg (fun z => some (va_rf z)) hr1) dX6_choose_81 ?_
      refine lv_iload_n hx hb dX6_choose_84 rfl (lv_at hl 1 rfl) ?_
      refine lv_iconst (v := (1 : Int32)) hx hb dX6_choose_85 (by decide) ?_
      refine lv_isub hx hb dX6_choose_86 ?_
      have hk := h.1
      replace h := h.2
      have hi := h.1
      replace h := h.2
      refine gg_iald hx hb hK hG hk hi dX6_choose_87 ?_
      refine lv_iconst (v := (1 : Int32)) hx hb dX6_choose_88 (by decide) ?_
      refine lv_iadd hx hb dX6_choose_89 ?_
      exact j_90  a0 x1 x2 x3 x4 ((gA S r1 ((x1 - (1 : Int32))).toNatClampNeg) + (1 : Int32)) S ls _ _ (lv_sub hl [0, 1, 2, 3, 4] rfl) hG hS h
    · replace h := h.2 hc
      refine lv_iconst (v := (1 : Int32)) hx hb dX6_choose_76 (by decide) ?_
      refine lv_goto (tgt := 90) hx hb dX6_choose_77 rfl ?_
      exact j_90  a0 x1 x2 x3 x4 (1 : Int32) S ls _ _ (lv_sub hl [0, 1, 2, 3, 4] rfl) hG hS h
  · replace h := h.2 hc
    refine lv_aload_n hx hb dX6_choose_5 rfl (lv_at hl 0 rfl) ?_
    refine lv_iload_n hx hb dX6_choose_6 rfl (lv_at hl 2 rfl) ?_
    refine lv_iload hx hb dX6_choose_7 (lv_at hl 4 rfl) ?_
    have hk := h.1
    replace h := h.2
    refine gc_i (va_runV (As := [.int x2, .int x4]) (rest := []) ⟨hx, hb, hml, hown, hts⟩ (c_X6_isAllHad l D κ A S a0 x2 x4 _ h) (cwV 2 hts gX6_choose_X6_isAllHad rfl rfl rfl (by decide +kernel) ⟨Nat.le_of_ble_eq_true rfl, Nat.le_of_ble_eq_true rfl⟩) (pg_V (q := (RX6, TX6, 32)) hK hX hG (pg_A hA hS) (kc_7 hk) rfl) rfl rfl hl.1 rfl (lv_room (Nat.le_of_ble_eq_true rfl)) dX6_choose_9 ⟨Nat.le_of_ble_eq_true rfl, Nat.le_of_ble_eq_true rfl⟩) hS (fun z4 S3 H locs2 h hG hS => ?_)
    refine lv_if_eq (tgt := 71) hx hb dX6_choose_12 rfl (fun hc => ?_) (fun hc => ?_)
    · replace h := h.1 hc
      exact W.vret hx hb hr (gr_v h hG hK hX hS) hS.2.2 dX6_choose_71
    · replace h := h.2 hc
      refine lv_aload_n hx hb dX6_choose_15 rfl (lv_at hl 0 rfl) ?_
      have hk := h.1
      replace h := h.2
      refine gg_get (ci := 6) (C := RX6) (T := TX6) (N := 32) hx hb hts (fun _ h => List.mem_cons_of_mem _ (List.mem_append_right _ (h))) hown hK hG (kc_7 hk) rfl 14 (by decide) (hts (.fieldLink RX6 160 "FourStonesModel" "setsMany" "I") (List.mem_of_getElem? (i := 1) rfl)) (fun _ h9 => h9) rfl dX6_choose_16 ?_
      refine lv_if_ne (tgt := 61) hx hb dX6_choose_19 rfl (fun hc => ?_) (fun hc => ?_)
      · replace h := h.1 hc
        refine lv_aload_n hx hb dX6_choose_61 rfl (lv_at hl 0 rfl) ?_
        refine lv_dup hx hb dX6_choose_62 rfl ?_
        have hk := h.1
        replace h := h.2
        refine gg_get (ci := 6) (C := RX6) (T := TX6) (N := 32) hx hb hts (fun _ h => List.mem_cons_of_mem _ (List.mem_append_right _ (h))) hown hK hG (kc_7 hk) rfl 14 (by decide) (hts (.fieldLink RX6 160 "FourStonesModel" "setsMany" "I") (List.mem_of_getElem? (i := 1) rfl)) (fun _ h9 => h9) rfl dX6_choose_63 ?_
        refine lv_iconst (v := (1 : Int32)) hx hb dX6_choose_66 (by decide) ?_
        refine lv_iadd hx hb dX6_choose_67 ?_
        have hk := h.1
        replace h := h.2
        obtain ⟨S5, eS5⟩ : ∃ z, z = sI S3 84 a0 ((gI S3 84 a0) + (1 : Int32)) := ⟨_, rfl⟩
        replace h := h S5 eS5
        refine gg_put (ci := 6) (C := RX6) (T := TX6) (N := 32) hx hb hts (fun _ h => List.mem_cons_of_mem _ (List.mem_append_right _ (h))) tyX6 tyX6_ok nmX6 hown hK hG hS (kc_7 hk) rfl 14 (by decide) (hts (.fieldLink RX6 160 "FourStonesModel" "setsMany" "I") (List.mem_of_getElem? (i := 1) rfl)) (fun _ h9 => h9) rfl (tyX6_ok 14 (by decide)) rfl rfl (Nat.le_of_ble_eq_true rfl) dX6_choose_68 (S' := S5) (fun b hb9 => by rw [eS5]; exact cO_sI hb9) (by rw [eS5]; exact cs_84 hk) (fun H locs6 hG hS => ?_)
        exact W.vret hx hb hr (gr_v h hG hK hX hS) hS.2.2 dX6_choose_71
      · replace h := h.2 hc
        refine lv_aload_n hx hb dX6_choose_22 rfl (lv_at hl 0 rfl) ?_
        refine lv_iconst (v := (0 : Int32)) hx hb dX6_choose_23 (by decide) ?_
        have hk := h.1
        replace h := h.2
        obtain ⟨S7, eS7⟩ : ∃ z, z = sI S3 85 a0 (0 : Int32) := ⟨_, rfl⟩
        replace h := h S7 eS7
        refine gg_put (ci := 6) (C := RX6) (T := TX6) (N := 32) hx hb hts (fun _ h => List.mem_cons_of_mem _ (List.mem_append_right _ (h))) tyX6 tyX6_ok nmX6 hown hK hG hS (kc_7 hk) rfl 15 (by decide) (hts (.fieldLink RX6 163 "FourStonesModel" "setsFirst" "I") (List.mem_of_getElem? (i := 2) rfl)) (fun _ h9 => h9) rfl (tyX6_ok 15 (by decide)) rfl rfl (Nat.le_of_ble_eq_true rfl) dX6_choose_24 (S' := S7) (fun b hb9 => by rw [eS7]; exact cO_sI hb9) (by rw [eS7]; exact cs_85 hk) (fun H locs8 hG hS => ?_)
        refine lv_iconst (v := (0 : Int32)) hx hb dX6_choose_27 (by decide) ?_
        refine lv_istore (lv' := [(5, .int (0 : Int32)), (0, .ref a0), (1, .int x1), (2, .int x2), (3, .int x3), (4, .int x4)]) hx hb dX6_choose_28 hl (by decide) rfl (fun ls hl => ?_)
        obtain ⟨nn, h⟩ := h
        exact k_30  nn a0 x2 (0 : Int32) S7 ls _ _ (lv_sub hl [1, 3, 0] rfl) hG hS h
set_option maxHeartbeats 4000000 in
set_option maxRecDepth 100000 in
theorem c_X6_choose_2 (l : Launch) (D : va_G) (κ : Nat → ClassId) (A : Nat → Prop) (S : Hp) (a0 : Nat) (x1 : Int32) (x2 : Int32) (x3 : Int32) (x4 : Int32) (Q : Hp → Prop) (h : wp_X6_choose_2 a0 x1 x2 x3 x4 S Q) : Met l yX6_choose wsX6_choose ({ frames := 5, cells := 0, slots := 0, locals := 240 } : Room) (PG D κ A S [.ref a0, .int x1, .int x2, .int x3, .int x4]) (va_Qv Q (BG D κ A) A) 0 0 A := by
  refine Met.ofW (cc := cX6_choose) (maxL := 6) (ret := none) (by decide) rfl ?_
  intro p e s m args below meth c s₁ B hml hv
  obtain ⟨hargs, hA, hG, hK, hX⟩ := hv
  have hx := B.exec
  have hb := B.bytes
  have hr := B.returns
  have hts := atoms_spec (ws := wsX6_choose) B.pre
  have hown : s.vm.findClass RX6 = some m.cls := findClass_of_methodNamed B.named
  have hlocks := B.notSynchronized
  subst hargs
  clear B
  have hS : va_S A s.heap s.heap [] := va_S.rf
  have hl := lv_entry ([.ref a0, .int x1, .int x2, .int x3, .int x4]) (n := 6) (Nat.le_of_ble_eq_true rfl)
  rw [lg_entry_eq]
  generalize (lg_sl ([.ref a0, .int x1, .int x2, .int x3, .int x4]) ++ List.replicate (6 - (lg_sl ([.ref a0, .int x1, .int x2, .int x3, .int x4])).length) Slot.unset).toArray = ls at hl ⊢
  have hl : lv_has ls 6 [(0, .ref a0), (1, .int x1), (2, .int x2), (3, .int x3), (4, .int x4)] := hl
  have hG : GG D κ A S s.heap := hG
  have k_30 : ∀  (n : Nat), ∀ (v0 : Nat) (v2 : Int32) (v5 : Int32) (S : Hp) (ls : Array Slot) (H : Heap) (locs : List Loc), lv_has ls 6 [(0, .ref v0), (2, .int v2), (5, .int v5)] → GG D κ A S H → va_S A s.heap H locs → it (L_X6_choose_2_30  Q) n (v0, v2, v5, S) → W p l e ({ frames := 5, cells := 0, slots := 0, locals := 240 } : Room) s m ([.ref a0, .int x1, .int x2, .int x3, .int x4] : List Value).toArray below meth c H locs 0 0 (MQ below (va_Qv Q (BG D κ A) A) ([.ref a0, .int x1, .int x2, .int x3, .int x4] : List Value).toArray s 0 0 A) (F0 m 30 ls []) := by
    intro  n
    induction n with
    | zero => intro v0 v2 v5 S ls H locs hl hG hS h; exact False.elim h
    | succ n hC30 =>
      intro v0 v2 v5 S ls H locs hl hG hS h
      replace h : L_X6_choose_2_30  Q (it (L_X6_choose_2_30  Q) n) (v0, v2, v5, S) := h
      simp only [L_X6_choose_2_30] at h
      refine lv_iload hx hb dX6_choose_30 (lv_at hl 2 rfl) ?_
      refine lv_iload_n hx hb dX6_choose_32 rfl (lv_at hl 1 rfl) ?_
      refine lv_icmp_ge (tgt := 61) hx hb dX6_choose_33 rfl (fun hc => ?_) (fun hc => ?_)
      · replace h := h.1 hc
        refine lv_aload_n hx hb dX6_choose_61 rfl (lv_at hl 0 rfl) ?_
        refine lv_dup hx hb dX6_choose_62 rfl ?_
        have hk := h.1
        replace h := h.2
        refine gg_get (ci := 6) (C := RX6) (T := TX6) (N := 32) hx hb hts (fun _ h => List.mem_cons_of_mem _ (List.mem_append_right _ (h))) hown hK hG (kc_7 hk) rfl 14 (by decide) (hts (.fieldLink RX6 160 "FourStonesModel" "setsMany" "I") (List.mem_of_getElem? (i := 1) rfl)) (fun _ h9 => h9) rfl dX6_choose_63 ?_
        refine lv_iconst (v := (1 : Int32)) hx hb dX6_choose_66 (by decide) ?_
        refine lv_iadd hx hb dX6_choose_67 ?_
        have hk := h.1
        replace h := h.2
        obtain ⟨S1, eS1⟩ : ∃ z, z = sI S 84 v0 ((gI S 84 v0) + (1 : Int32)) := ⟨_, rfl⟩
        replace h := h S1 eS1
        refine gg_put (ci := 6) (C := RX6) (T := TX6) (N := 32) hx hb hts (fun _ h => List.mem_cons_of_mem _ (List.mem_append_right _ (h))) tyX6 tyX6_ok nmX6 hown hK hG hS (kc_7 hk) rfl 14 (by decide) (hts (.fieldLink RX6 160 "FourStonesModel" "setsMany" "I") (List.mem_of_getElem? (i := 1) rfl)) (fun _ h9 => h9) rfl (tyX6_ok 14 (by decide)) rfl rfl (Nat.le_of_ble_eq_true rfl) dX6_choose_68 (S' := S1) (fun b hb9 => by rw [eS1]; exact cO_sI hb9) (by rw [eS1]; exact cs_84 hk) (fun H locs2 hG hS => ?_)
        exact W.vret hx hb hr (gr_v h hG hK hX hS) hS.2.2 dX6_choose_71
      · replace h := h.2 hc
        refine lv_aload_n hx hb dX6_choose_36 rfl (lv_at hl 0 rfl) ?_
        refine lv_bipush (v := (100 : Int32)) hx hb dX6_choose_37 (by decide) ?_
        refine lv_aload_n hx hb dX6_choose_39 rfl (lv_at hl 0 rfl) ?_
        have hk := h.1
        replace h := h.2
        refine gg_get (ci := 6) (C := RX6) (T := TX6) (N := 32) hx hb hts (fun _ h => List.mem_cons_of_mem _ (List.mem_append_right _ (h))) hown hK hG (kc_7 hk) rfl 15 (by decide) (hts (.fieldLink RX6 163 "FourStonesModel" "setsFirst" "I") (List.mem_of_getElem? (i := 2) rfl)) (fun _ h9 => h9) rfl dX6_choose_40 ?_
        refine lv_imul hx hb dX6_choose_43 ?_
        refine lv_aload_n hx hb dX6_choose_44 rfl (lv_at hl 0 rfl) ?_
        have hk := h.1
        replace h := h.2
        obtain ⟨r3, hr3, h⟩ := h
        refine gg_get (v := .ref r3) (ci := 6) (C := RX6) (T := TX6) (N := 32) hx hb hts (fun _ h => List.mem_cons_of_mem _ (List.mem_append_right _ (h))) hown hK hG (kc_7 hk) rfl 16 (by decide) (hts (.fieldLink RX6 26 "FourStonesModel" "some" "[I") (List.mem_of_getElem? (i := 3) rfl)) (fun _ h9 => h9) (congrArg (fun z => some (va_rf z)) hr3) dX6_choose_45 ?_
        refine lv_iload hx hb dX6_choose_48 (lv_at hl 2 rfl) ?_
        have hk := h.1
        replace h := h.2
        have hi := h.1
        replace h := h.2
        refine gg_iald hx hb hK hG hk hi dX6_choose_50 ?_
        refine lv_iadd hx hb dX6_choose_51 ?_
        have hk := h.1
        replace h := h.2
        obtain ⟨S4, eS4⟩ : ∃ z, z = sI S 85 v0 (((100 : Int32) * (gI S 85 v0)) + (gA S r3 (v5).toNatClampNeg)) := ⟨_, rfl⟩
        replace h := h S4 eS4
        refine gg_put (ci := 6) (C := RX6) (T := TX6) (N := 32) hx hb hts (fun _ h => List.mem_cons_of_mem _ (List.mem_append_right _ (h))) tyX6 tyX6_ok nmX6 hown hK hG hS (kc_7 hk) rfl 15 (by decide) (hts (.fieldLink RX6 163 "FourStonesModel" "setsFirst" "I") (List.mem_of_getElem? (i := 2) rfl)) (fun _ h9 => h9) rfl (tyX6_ok 15 (by decide)) rfl rfl (Nat.le_of_ble_eq_true rfl) dX6_choose_52 (S' := S4) (fun b hb9 => by rw [eS4]; exact cO_sI hb9) (by rw [eS4]; exact cs_85 hk) (fun H locs5 hG hS => ?_)
        obtain ⟨y6, ey6⟩ : ∃ z, z = v5 + (1 : Int32) := ⟨_, rfl⟩
        replace h := h y6 ey6
        refine lv_iinc (v := y6) (lv' := [(5, .int y6), (0, .ref v0), (2, .int v2)]) hx hb dX6_choose_55 hl (k := 2) rfl (by rw [ey6]; rfl) (by decide) rfl (fun ls hl => ?_)
        refine lv_goto (tgt := 30) hx hb dX6_choose_58 rfl ?_
        exact hC30 v0 v2 y6 S4 ls _ _ (lv_sub hl [1, 2, 0] rfl) hG hS h
  have k_92 : ∀  (n : Nat), ∀ (v0 : Nat) (v1 : Int32) (v2 : Int32) (v3 : Int32) (v4 : Int32) (v5 : Int32) (S : Hp) (ls : Array Slot) (H : Heap) (locs : List Loc), lv_has ls 6 [(0, .ref v0), (1, .int v1), (2, .int v2), (3, .int v3), (4, .int v4), (5, .int v5)] → GG D κ A S H → va_S A s.heap H locs → it (L_X6_choose_2_92  Q) n (v0, v1, v2, v3, v4, v5, S) → W p l e ({ frames := 5, cells := 0, slots := 0, locals := 240 } : Room) s m ([.ref a0, .int x1, .int x2, .int x3, .int x4] : List Value).toArray below meth c H locs 0 0 (MQ below (va_Qv Q (BG D κ A) A) ([.ref a0, .int x1, .int x2, .int x3, .int x4] : List Value).toArray s 0 0 A) (F0 m 92 ls []) := by
    intro  n
    induction n with
    | zero => intro v0 v1 v2 v3 v4 v5 S ls H locs hl hG hS h; exact False.elim h
    | succ n hC92 =>
      intro v0 v1 v2 v3 v4 v5 S ls H locs hl hG hS h
      replace h : L_X6_choose_2_92  Q (it (L_X6_choose_2_92  Q) n) (v0, v1, v2, v3, v4, v5, S) := h
      simp only [L_X6_choose_2_92] at h
      refine lv_iload hx hb dX6_choose_92 (lv_at hl 5 rfl) ?_
      refine lv_iload_n hx hb dX6_choose_94 rfl (lv_at hl 3 rfl) ?_
      refine lv_icmp_gt (tgt := 123) hx hb dX6_choose_95 rfl (fun hc => ?_) (fun hc => ?_)
      · replace h := h.1 hc
        exact W.vret hx hb hr (gr_v h hG hK hX hS) hS.2.2 dX6_choose_123
      · replace h := h.2 hc
        refine lv_aload_n hx hb dX6_choose_98 rfl (lv_at hl 0 rfl) ?_
        have hk := h.1
        replace h := h.2
        obtain ⟨r1, hr1, h⟩ := h
        refine gg_get (v := .ref r1) (ci := 6) (C := RX6) (T := TX6) (N := 32) hx hb hts (fun _ h => List.mem_cons_of_mem _ (List.mem_append_right _ (h))) hown hK hG (kc_7 hk) rfl 16 (by decide) (hts (.fieldLink RX6 26 "FourStonesModel" "some" "[I") (List.mem_of_getElem? (i := 3) rfl)) (fun _ h9 => h9) (congrArg (fun z => some (va_rf z)) hr1) dX6_choose_99 ?_
        refine lv_iload_n hx hb dX6_choose_102 rfl (lv_at hl 1 rfl) ?_
        refine lv_iload hx hb dX6_choose_103 (lv_at hl 5 rfl) ?_
        have hk := h.1
        replace h := h.2
        have hi := h.1
        replace h := h.2
        obtain ⟨S2, eS2⟩ : ∃ z, z = sA S r1 (v1).toNatClampNeg v5 := ⟨_, rfl⟩
        replace h := h S2 eS2
        refine gg_iast hx hb hK hG hS hk hi dX6_choose_105 (fun H locs3 hG hS => ?_)
        rw [← eS2] at hG
        refine lv_aload_n hx hb dX6_choose_106 rfl (lv_at hl 0 rfl) ?_
        refine lv_iload_n hx hb dX6_choose_107 rfl (lv_at hl 1 rfl) ?_
        refine lv_iconst (v := (1 : Int32)) hx hb dX6_choose_108 (by decide) ?_
        refine lv_iadd hx hb dX6_choose_109 ?_
        refine lv_iload_n hx hb dX6_choose_110 rfl (lv_at hl 2 rfl) ?_
        refine lv_iload_n hx hb dX6_choose_111 rfl (lv_at hl 3 rfl) ?_
        refine lv_iload hx hb dX6_choose_112 (lv_at hl 4 rfl) ?_
        have hk := h.1
        replace h := h.2
        refine gc_v (va_runV (As := [.int (v1 + (1 : Int32)), .int v2, .int v3, .int v4]) (rest := []) ⟨hx, hb, hml, hown, hts⟩ (c_X6_choose_1 l D κ A S2 v0 (v1 + (1 : Int32)) v2 v3 v4 _ h) (cwV 4 hts gX6_choose_X6_choose rfl rfl rfl (by decide +kernel) ⟨Nat.le_of_ble_eq_true rfl, Nat.le_of_ble_eq_true rfl⟩) (pg_V (q := (RX6, TX6, 32)) hK hX hG (pg_A hA hS) (kc_7 hk) rfl) rfl rfl hl.1 rfl (lv_room (Nat.le_of_ble_eq_true rfl)) dX6_choose_114 ⟨Nat.le_of_ble_eq_true rfl, Nat.le_of_ble_eq_true rfl⟩) hS (fun S5 H locs4 h hG hS => ?_)
        obtain ⟨y6, ey6⟩ : ∃ z, z = v5 + (1 : Int32) := ⟨_, rfl⟩
        replace h := h y6 ey6
        refine lv_iinc (v := y6) (lv' := [(5, .int y6), (0, .ref v0), (1, .int v1), (2, .int v2), (3, .int v3), (4, .int v4)]) hx hb dX6_choose_117 hl (k := 5) rfl (by rw [ey6]; rfl) (by decide) rfl (fun ls hl => ?_)
        refine lv_goto (tgt := 92) hx hb dX6_choose_120 rfl ?_
        exact hC92 v0 v1 v2 v3 v4 y6 S5 ls _ _ (lv_sub hl [1, 2, 3, 4, 5, 0] rfl) hG hS h
  have j_90 : ∀  (v0 : Nat) (v1 : Int32) (v2 : Int32) (v3 : Int32) (v4 : Int32) (w0 : Int32) (S : Hp) (ls : Array Slot) (H : Heap) (locs : List Loc), lv_has ls 6 [(0, .ref v0), (1, .int v1), (2, .int v2), (3, .int v3), (4, .int v4)] → GG D κ A S H → va_S A s.heap H locs → J_X6_choose_2_90  Q v0 v1 v2 v3 v4 w0 S → W p l e ({ frames := 5, cells := 0, slots := 0, locals := 240 } : Room) s m ([.ref a0, .int x1, .int x2, .int x3, .int x4] : List Value).toArray below meth c H locs 0 0 (MQ below (va_Qv Q (BG D κ A) A) ([.ref a0, .int x1, .int x2, .int x3, .int x4] : List Value).toArray s 0 0 A) (F0 m 90 ls [.int w0]) := by
    intro  v0 v1 v2 v3 v4 w0 S ls H locs hl hG hS h
    unfold J_X6_choose_2_90 at h
    refine lv_istore (lv' := [(5, .int w0), (0, .ref v0), (1, .int v1), (2, .int v2), (3, .int v3), (4, .int v4)]) hx hb dX6_choose_90 hl (by decide) rfl (fun ls hl => ?_)
    obtain ⟨nn, h⟩ := h
    exact k_92  nn v0 v1 v2 v3 v4 w0 S ls _ _ (lv_sub hl [1, 2, 3, 4, 5, 0] rfl) hG hS h
  refine lv_iload_n hx hb dX6_choose_0 rfl (lv_at hl 1 rfl) ?_
  refine lv_iload_n hx hb dX6_choose_1 rfl (lv_at hl 2 rfl) ?_
  refine lv_icmp_ne (tgt := 72) hx hb dX6_choose_2 rfl (fun hc => ?_) (fun hc => ?_)
  · replace h := h.1 hc
    refine lv_iload_n hx hb dX6_choose_72 rfl (lv_at hl 1 rfl) ?_
    refine lv_if_ne (tgt := 80) hx hb dX6_choose_73 rfl (fun hc => ?_) (fun hc => ?_)
    · replace h := h.1 hc
      refine lv_aload_n hx hb dX6_choose_80 rfl (lv_at hl 0 rfl) ?_
      have hk := h.1
      replace h := h.2
      obtain ⟨r1, hr1, h⟩ := h
      refine gg_get (v := .ref r1) (ci := 6) (C := RX6) (T := TX6) (N := 32) hx hb hts (fun _ h => List.mem_cons_of_mem _ (List.mem_append_right _ (h))) hown hK hG (kc_7 hk) rfl 16 (by decide) (hts (.fieldLink RX6 26 "FourStonesModel" "some" "[I") (List.mem_of_getElem? (i := 3) rfl)) (fun _ h9 => h9) (congrArg (fun z => some (va_rf z)) hr1) dX6_choose_81 ?_
      refine lv_iload_n hx hb dX6_choose_84 rfl (lv_at hl 1 rfl) ?_
      refine lv_iconst (v := (1 : Int32)) hx hb dX6_choose_85 (by decide) ?_
      refine lv_isub hx hb dX6_choose_86 ?_
      have hk := h.1
      replace h := h.2
      have hi := h.1
      replace h := h.2
      refine gg_iald hx hb hK hG hk hi dX6_choose_87 ?_
      refine lv_iconst (v := (1 : Int32)) hx hb dX6_choose_88 (by decide) ?_
      refine lv_iadd hx hb dX6_choose_89 ?_
      exact j_90  a0 x1 x2 x3 x4 ((gA S r1 ((x1 - (1 : Int32))).toNatClampNeg) + (1 : Int32)) S ls _ _ (lv_sub hl [0, 1, 2, 3, 4] rfl) hG hS h
    · replace h := h.2 hc
      refine lv_iconst (v := (1 : Int32)) hx hb dX6_choose_76 (by decide) ?_
      refine lv_goto (tgt := 90) hx hb dX6_choose_77 rfl ?_
      exact j_90  a0 x1 x2 x3 x4 (1 : Int32) S ls _ _ (lv_sub hl [0, 1, 2, 3, 4] rfl) hG hS h
  · replace h := h.2 hc
    refine lv_aload_n hx hb dX6_choose_5 rfl (lv_at hl 0 rfl) ?_
    refine lv_iload_n hx hb dX6_choose_6 rfl (lv_at hl 2 rfl) ?_
    refine lv_iload hx hb dX6_choose_7 (lv_at hl 4 rfl) ?_
    have hk := h.1
    replace h := h.2
    refine gc_i (va_runV (As := [.int x2, .int x4]) (rest := []) ⟨hx, hb, hml, hown, hts⟩ (c_X6_isAllHad l D κ A S a0 x2 x4 _ h) (cwV 2 hts gX6_choose_X6_isAllHad rfl rfl rfl (by decide +kernel) ⟨Nat.le_of_ble_eq_true rfl, Nat.le_of_ble_eq_true rfl⟩) (pg_V (q := (RX6, TX6, 32)) hK hX hG (pg_A hA hS) (kc_7 hk) rfl) rfl rfl hl.1 rfl (lv_room (Nat.le_of_ble_eq_true rfl)) dX6_choose_9 ⟨Nat.le_of_ble_eq_true rfl, Nat.le_of_ble_eq_true rfl⟩) hS (fun z4 S3 H locs2 h hG hS => ?_)
    refine lv_if_eq (tgt := 71) hx hb dX6_choose_12 rfl (fun hc => ?_) (fun hc => ?_)
    · replace h := h.1 hc
      exact W.vret hx hb hr (gr_v h hG hK hX hS) hS.2.2 dX6_choose_71
    · replace h := h.2 hc
      refine lv_aload_n hx hb dX6_choose_15 rfl (lv_at hl 0 rfl) ?_
      have hk := h.1
      replace h := h.2
      refine gg_get (ci := 6) (C := RX6) (T := TX6) (N := 32) hx hb hts (fun _ h => List.mem_cons_of_mem _ (List.mem_append_right _ (h))) hown hK hG (kc_7 hk) rfl 14 (by decide) (hts (.fieldLink RX6 160 "FourStonesModel" "setsMany" "I") (List.mem_of_getElem? (i := 1) rfl)) (fun _ h9 => h9) rfl dX6_choose_16 ?_
      refine lv_if_ne (tgt := 61) hx hb dX6_choose_19 rfl (fun hc => ?_) (fun hc => ?_)
      · replace h := h.1 hc
        refine lv_aload_n hx hb dX6_choose_61 rfl (lv_at hl 0 rfl) ?_
        refine lv_dup hx hb dX6_choose_62 rfl ?_
        have hk := h.1
        replace h := h.2
        refine gg_get (ci := 6) (C := RX6) (T := TX6) (N := 32) hx hb hts (fun _ h => List.mem_cons_of_mem _ (List.mem_append_right _ (h))) hown hK hG (kc_7 hk) rfl 14 (by decide) (hts (.fieldLink RX6 160 "FourStonesModel" "setsMany" "I") (List.mem_of_getElem? (i := 1) rfl)) (fun _ h9 => h9) rfl dX6_choose_63 ?_
        refine lv_iconst (v := (1 : Int32)) hx hb dX6_choose_66 (by decide) ?_
        refine lv_iadd hx hb dX6_choose_67 ?_
        have hk := h.1
        replace h := h.2
        obtain ⟨S5, eS5⟩ : ∃ z, z = sI S3 84 a0 ((gI S3 84 a0) + (1 : Int32)) := ⟨_, rfl⟩
        replace h := h S5 eS5
        refine gg_put (ci := 6) (C := RX6) (T := TX6) (N := 32) hx hb hts (fun _ h => List.mem_cons_of_mem _ (List.mem_append_right _ (h))) tyX6 tyX6_ok nmX6 hown hK hG hS (kc_7 hk) rfl 14 (by decide) (hts (.fieldLink RX6 160 "FourStonesModel" "setsMany" "I") (List.mem_of_getElem? (i := 1) rfl)) (fun _ h9 => h9) rfl (tyX6_ok 14 (by decide)) rfl rfl (Nat.le_of_ble_eq_true rfl) dX6_choose_68 (S' := S5) (fun b hb9 => by rw [eS5]; exact cO_sI hb9) (by rw [eS5]; exact cs_84 hk) (fun H locs6 hG hS => ?_)
        exact W.vret hx hb hr (gr_v h hG hK hX hS) hS.2.2 dX6_choose_71
      · replace h := h.2 hc
        refine lv_aload_n hx hb dX6_choose_22 rfl (lv_at hl 0 rfl) ?_
        refine lv_iconst (v := (0 : Int32)) hx hb dX6_choose_23 (by decide) ?_
        have hk := h.1
        replace h := h.2
        obtain ⟨S7, eS7⟩ : ∃ z, z = sI S3 85 a0 (0 : Int32) := ⟨_, rfl⟩
        replace h := h S7 eS7
        refine gg_put (ci := 6) (C := RX6) (T := TX6) (N := 32) hx hb hts (fun _ h => List.mem_cons_of_mem _ (List.mem_append_right _ (h))) tyX6 tyX6_ok nmX6 hown hK hG hS (kc_7 hk) rfl 15 (by decide) (hts (.fieldLink RX6 163 "FourStonesModel" "setsFirst" "I") (List.mem_of_getElem? (i := 2) rfl)) (fun _ h9 => h9) rfl (tyX6_ok 15 (by decide)) rfl rfl (Nat.le_of_ble_eq_true rfl) dX6_choose_24 (S' := S7) (fun b hb9 => by rw [eS7]; exact cO_sI hb9) (by rw [eS7]; exact cs_85 hk) (fun H locs8 hG hS => ?_)
        refine lv_iconst (v := (0 : Int32)) hx hb dX6_choose_27 (by decide) ?_
        refine lv_istore (lv' := [(5, .int (0 : Int32)), (0, .ref a0), (1, .int x1), (2, .int x2), (3, .int x3), (4, .int x4)]) hx hb dX6_choose_28 hl (by decide) rfl (fun ls hl => ?_)
        obtain ⟨nn, h⟩ := h
        exact k_30  nn a0 x2 (0 : Int32) S7 ls _ _ (lv_sub hl [1, 3, 0] rfl) hG hS h
set_option maxHeartbeats 4000000 in
set_option maxRecDepth 100000 in
theorem c_X6_choose_3 (l : Launch) (D : va_G) (κ : Nat → ClassId) (A : Nat → Prop) (S : Hp) (a0 : Nat) (x1 : Int32) (x2 : Int32) (x3 : Int32) (x4 : Int32) (Q : Hp → Prop) (h : wp_X6_choose_3 a0 x1 x2 x3 x4 S Q) : Met l yX6_choose wsX6_choose ({ frames := 6, cells := 0, slots := 0, locals := 288 } : Room) (PG D κ A S [.ref a0, .int x1, .int x2, .int x3, .int x4]) (va_Qv Q (BG D κ A) A) 0 0 A := by
  refine Met.ofW (cc := cX6_choose) (maxL := 6) (ret := none) (by decide) rfl ?_
  intro p e s m args below meth c s₁ B hml hv
  obtain ⟨hargs, hA, hG, hK, hX⟩ := hv
  have hx := B.exec
  have hb := B.bytes
  have hr := B.returns
  have hts := atoms_spec (ws := wsX6_choose) B.pre
  have hown : s.vm.findClass RX6 = some m.cls := findClass_of_methodNamed B.named
  have hlocks := B.notSynchronized
  subst hargs
  clear B
  have hS : va_S A s.heap s.heap [] := va_S.rf
  have hl := lv_entry ([.ref a0, .int x1, .int x2, .int x3, .int x4]) (n := 6) (Nat.le_of_ble_eq_true rfl)
  rw [lg_entry_eq]
  generalize (lg_sl ([.ref a0, .int x1, .int x2, .int x3, .int x4]) ++ List.replicate (6 - (lg_sl ([.ref a0, .int x1, .int x2, .int x3, .int x4])).length) Slot.unset).toArray = ls at hl ⊢
  have hl : lv_has ls 6 [(0, .ref a0), (1, .int x1), (2, .int x2), (3, .int x3), (4, .int x4)] := hl
  have hG : GG D κ A S s.heap := hG
  have k_30 : ∀  (n : Nat), ∀ (v0 : Nat) (v2 : Int32) (v5 : Int32) (S : Hp) (ls : Array Slot) (H : Heap) (locs : List Loc), lv_has ls 6 [(0, .ref v0), (2, .int v2), (5, .int v5)] → GG D κ A S H → va_S A s.heap H locs → it (L_X6_choose_3_30  Q) n (v0, v2, v5, S) → W p l e ({ frames := 6, cells := 0, slots := 0, locals := 288 } : Room) s m ([.ref a0, .int x1, .int x2, .int x3, .int x4] : List Value).toArray below meth c H locs 0 0 (MQ below (va_Qv Q (BG D κ A) A) ([.ref a0, .int x1, .int x2, .int x3, .int x4] : List Value).toArray s 0 0 A) (F0 m 30 ls []) := by
    intro  n
    induction n with
    | zero => intro v0 v2 v5 S ls H locs hl hG hS h; exact False.elim h
    | succ n hC30 =>
      intro v0 v2 v5 S ls H locs hl hG hS h
      replace h : L_X6_choose_3_30  Q (it (L_X6_choose_3_30  Q) n) (v0, v2, v5, S) := h
      simp only [L_X6_choose_3_30] at h
      refine lv_iload hx hb dX6_choose_30 (lv_at hl 2 rfl) ?_
      refine lv_iload_n hx hb dX6_choose_32 rfl (lv_at hl 1 rfl) ?_
      refine lv_icmp_ge (tgt := 61) hx hb dX6_choose_33 rfl (fun hc => ?_) (fun hc => ?_)
      · replace h := h.1 hc
        refine lv_aload_n hx hb dX6_choose_61 rfl (lv_at hl 0 rfl) ?_
        refine lv_dup hx hb dX6_choose_62 rfl ?_
        have hk := h.1
        replace h := h.2
        refine gg_get (ci := 6) (C := RX6) (T := TX6) (N := 32) hx hb hts (fun _ h => List.mem_cons_of_mem _ (List.mem_append_right _ (h))) hown hK hG (kc_7 hk) rfl 14 (by decide) (hts (.fieldLink RX6 160 "FourStonesModel" "setsMany" "I") (List.mem_of_getElem? (i := 1) rfl)) (fun _ h9 => h9) rfl dX6_choose_63 ?_
        refine lv_iconst (v := (1 : Int32)) hx hb dX6_choose_66 (by decide) ?_
        refine lv_iadd hx hb dX6_choose_67 ?_
        have hk := h.1
        replace h := h.2
        obtain ⟨S1, eS1⟩ : ∃ z, z = sI S 84 v0 ((gI S 84 v0) + (1 : Int32)) := ⟨_, rfl⟩
        replace h := h S1 eS1
        refine gg_put (ci := 6) (C := RX6) (T := TX6) (N := 32) hx hb hts (fun _ h => List.mem_cons_of_mem _ (List.mem_append_right _ (h))) tyX6 tyX6_ok nmX6 hown hK hG hS (kc_7 hk) rfl 14 (by decide) (hts (.fieldLink RX6 160 "FourStonesModel" "setsMany" "I") (List.mem_of_getElem? (i := 1) rfl)) (fun _ h9 => h9) rfl (tyX6_ok 14 (by decide)) rfl rfl (Nat.le_of_ble_eq_true rfl) dX6_choose_68 (S' := S1) (fun b hb9 => by rw [eS1]; exact cO_sI hb9) (by rw [eS1]; exact cs_84 hk) (fun H locs2 hG hS => ?_)
        exact W.vret hx hb hr (gr_v h hG hK hX hS) hS.2.2 dX6_choose_71
      · replace h := h.2 hc
        refine lv_aload_n hx hb dX6_choose_36 rfl (lv_at hl 0 rfl) ?_
        refine lv_bipush (v := (100 : Int32)) hx hb dX6_choose_37 (by decide) ?_
        refine lv_aload_n hx hb dX6_choose_39 rfl (lv_at hl 0 rfl) ?_
        have hk := h.1
        replace h := h.2
        refine gg_get (ci := 6) (C := RX6) (T := TX6) (N := 32) hx hb hts (fun _ h => List.mem_cons_of_mem _ (List.mem_append_right _ (h))) hown hK hG (kc_7 hk) rfl 15 (by decide) (hts (.fieldLink RX6 163 "FourStonesModel" "setsFirst" "I") (List.mem_of_getElem? (i := 2) rfl)) (fun _ h9 => h9) rfl dX6_choose_40 ?_
        refine lv_imul hx hb dX6_choose_43 ?_
        refine lv_aload_n hx hb dX6_choose_44 rfl (lv_at hl 0 rfl) ?_
        have hk := h.1
        replace h := h.2
        obtain ⟨r3, hr3, h⟩ := h
        refine gg_get (v := .ref r3) (ci := 6) (C := RX6) (T := TX6) (N := 32) hx hb hts (fun _ h => List.mem_cons_of_mem _ (List.mem_append_right _ (h))) hown hK hG (kc_7 hk) rfl 16 (by decide) (hts (.fieldLink RX6 26 "FourStonesModel" "some" "[I") (List.mem_of_getElem? (i := 3) rfl)) (fun _ h9 => h9) (congrArg (fun z => some (va_rf z)) hr3) dX6_choose_45 ?_
        refine lv_iload hx hb dX6_choose_48 (lv_at hl 2 rfl) ?_
        have hk := h.1
        replace h := h.2
        have hi := h.1
        replace h := h.2
        refine gg_iald hx hb hK hG hk hi dX6_choose_50 ?_
        refine lv_iadd hx hb dX6_choose_51 ?_
        have hk := h.1
        replace h := h.2
        obtain ⟨S4, eS4⟩ : ∃ z, z = sI S 85 v0 (((100 : Int32) * (gI S 85 v0)) + (gA S r3 (v5).toNatClampNeg)) := ⟨_, rfl⟩
        replace h := h S4 eS4
        refine gg_put (ci := 6) (C := RX6) (T := TX6) (N := 32) hx hb hts (fun _ h => List.mem_cons_of_mem _ (List.mem_append_right _ (h))) tyX6 tyX6_ok nmX6 hown hK hG hS (kc_7 hk) rfl 15 (by decide) (hts (.fieldLink RX6 163 "FourStonesModel" "setsFirst" "I") (List.mem_of_getElem? (i := 2) rfl)) (fun _ h9 => h9) rfl (tyX6_ok 15 (by decide)) rfl rfl (Nat.le_of_ble_eq_true rfl) dX6_choose_52 (S' := S4) (fun b hb9 => by rw [eS4]; exact cO_sI hb9) (by rw [eS4]; exact cs_85 hk) (fun H locs5 hG hS => ?_)
        obtain ⟨y6, ey6⟩ : ∃ z, z = v5 + (1 : Int32) := ⟨_, rfl⟩
        replace h := h y6 ey6
        refine lv_iinc (v := y6) (lv' := [(5, .int y6), (0, .ref v0), (2, .int v2)]) hx hb dX6_choose_55 hl (k := 2) rfl (by rw [ey6]; rfl) (by decide) rfl (fun ls hl => ?_)
        refine lv_goto (tgt := 30) hx hb dX6_choose_58 rfl ?_
        exact hC30 v0 v2 y6 S4 ls _ _ (lv_sub hl [1, 2, 0] rfl) hG hS h
  have k_92 : ∀  (n : Nat), ∀ (v0 : Nat) (v1 : Int32) (v2 : Int32) (v3 : Int32) (v4 : Int32) (v5 : Int32) (S : Hp) (ls : Array Slot) (H : Heap) (locs : List Loc), lv_has ls 6 [(0, .ref v0), (1, .int v1), (2, .int v2), (3, .int v3), (4, .int v4), (5, .int v5)] → GG D κ A S H → va_S A s.heap H locs → it (L_X6_choose_3_92  Q) n (v0, v1, v2, v3, v4, v5, S) → W p l e ({ frames := 6, cells := 0, slots := 0, locals := 288 } : Room) s m ([.ref a0, .int x1, .int x2, .int x3, .int x4] : List Value).toArray below meth c H locs 0 0 (MQ below (va_Qv Q (BG D κ A) A) ([.ref a0, .int x1, .int x2, .int x3, .int x4] : List Value).toArray s 0 0 A) (F0 m 92 ls []) := by
    intro  n
    induction n with
    | zero => intro v0 v1 v2 v3 v4 v5 S ls H locs hl hG hS h; exact False.elim h
    | succ n hC92 =>
      intro v0 v1 v2 v3 v4 v5 S ls H locs hl hG hS h
      replace h : L_X6_choose_3_92  Q (it (L_X6_choose_3_92  Q) n) (v0, v1, v2, v3, v4, v5, S) := h
      simp only [L_X6_choose_3_92] at h
      refine lv_iload hx hb dX6_choose_92 (lv_at hl 5 rfl) ?_
      refine lv_iload_n hx hb dX6_choose_94 rfl (lv_at hl 3 rfl) ?_
      refine lv_icmp_gt (tgt := 123) hx hb dX6_choose_95 rfl (fun hc => ?_) (fun hc => ?_)
      · replace h := h.1 hc
        exact W.vret hx hb hr (gr_v h hG hK hX hS) hS.2.2 dX6_choose_123
      · replace h := h.2 hc
        refine lv_aload_n hx hb dX6_choose_98 rfl (lv_at hl 0 rfl) ?_
        have hk := h.1
        replace h := h.2
        obtain ⟨r1, hr1, h⟩ := h
        refine gg_get (v := .ref r1) (ci := 6) (C := RX6) (T := TX6) (N := 32) hx hb hts (fun _ h => List.mem_cons_of_mem _ (List.mem_append_right _ (h))) hown hK hG (kc_7 hk) rfl 16 (by decide) (hts (.fieldLink RX6 26 "FourStonesModel" "some" "[I") (List.mem_of_getElem? (i := 3) rfl)) (fun _ h9 => h9) (congrArg (fun z => some (va_rf z)) hr1) dX6_choose_99 ?_
        refine lv_iload_n hx hb dX6_choose_102 rfl (lv_at hl 1 rfl) ?_
        refine lv_iload hx hb dX6_choose_103 (lv_at hl 5 rfl) ?_
        have hk := h.1
        replace h := h.2
        have hi := h.1
        replace h := h.2
        obtain ⟨S2, eS2⟩ : ∃ z, z = sA S r1 (v1).toNatClampNeg v5 := ⟨_, rfl⟩
        replace h := h S2 eS2
        refine gg_iast hx hb hK hG hS hk hi dX6_choose_105 (fun H locs3 hG hS => ?_)
        rw [← eS2] at hG
        refine lv_aload_n hx hb dX6_choose_106 rfl (lv_at hl 0 rfl) ?_
        refine lv_iload_n hx hb dX6_choose_107 rfl (lv_at hl 1 rfl) ?_
        refine lv_iconst (v := (1 : Int32)) hx hb dX6_choose_108 (by decide) ?_
        refine lv_iadd hx hb dX6_choose_109 ?_
        refine lv_iload_n hx hb dX6_choose_110 rfl (lv_at hl 2 rfl) ?_
        refine lv_iload_n hx hb dX6_choose_111 rfl (lv_at hl 3 rfl) ?_
        refine lv_iload hx hb dX6_choose_112 (lv_at hl 4 rfl) ?_
        have hk := h.1
        replace h := h.2
        refine gc_v (va_runV (As := [.int (v1 + (1 : Int32)), .int v2, .int v3, .int v4]) (rest := []) ⟨hx, hb, hml, hown, hts⟩ (c_X6_choose_2 l D κ A S2 v0 (v1 + (1 : Int32)) v2 v3 v4 _ h) (cwV 4 hts gX6_choose_X6_choose rfl rfl rfl (by decide +kernel) ⟨Nat.le_of_ble_eq_true rfl, Nat.le_of_ble_eq_true rfl⟩) (pg_V (q := (RX6, TX6, 32)) hK hX hG (pg_A hA hS) (kc_7 hk) rfl) rfl rfl hl.1 rfl (lv_room (Nat.le_of_ble_eq_true rfl)) dX6_choose_114 ⟨Nat.le_of_ble_eq_true rfl, Nat.le_of_ble_eq_true rfl⟩) hS (fun S5 H locs4 h hG hS => ?_)
        obtain ⟨y6, ey6⟩ : ∃ z, z = v5 + (1 : Int32) := ⟨_, rfl⟩
        replace h := h y6 ey6
        refine lv_iinc (v := y6) (lv' := [(5, .int y6), (0, .ref v0), (1, .int v1), (2, .int v2), (3, .int v3), (4, .int v4)]) hx hb dX6_choose_117 hl (k := 5) rfl (by rw [ey6]; rfl) (by decide) rfl (fun ls hl => ?_)
        refine lv_goto (tgt := 92) hx hb dX6_choose_120 rfl ?_
        exact hC92 v0 v1 v2 v3 v4 y6 S5 ls _ _ (lv_sub hl [1, 2, 3, 4, 5, 0] rfl) hG hS h
  have j_90 : ∀  (v0 : Nat) (v1 : Int32) (v2 : Int32) (v3 : Int32) (v4 : Int32) (w0 : Int32) (S : Hp) (ls : Array Slot) (H : Heap) (locs : List Loc), lv_has ls 6 [(0, .ref v0), (1, .int v1), (2, .int v2), (3, .int v3), (4, .int v4)] → GG D κ A S H → va_S A s.heap H locs → J_X6_choose_3_90  Q v0 v1 v2 v3 v4 w0 S → W p l e ({ frames := 6, cells := 0, slots := 0, locals := 288 } : Room) s m ([.ref a0, .int x1, .int x2, .int x3, .int x4] : List Value).toArray below meth c H locs 0 0 (MQ below (va_Qv Q (BG D κ A) A) ([.ref a0, .int x1, .int x2, .int x3, .int x4] : List Value).toArray s 0 0 A) (F0 m 90 ls [.int w0]) := by
    intro  v0 v1 v2 v3 v4 w0 S ls H locs hl hG hS h
    unfold J_X6_choose_3_90 at h
    refine lv_istore (lv' := [(5, .int w0), (0, .ref v0), (1, .int v1), (2, .int v2), (3, .int v3), (4, .int v4)]) hx hb dX6_choose_90 hl (by decide) rfl (fun ls hl => ?_)
    obtain ⟨nn, h⟩ := h
    exact k_92  nn v0 v1 v2 v3 v4 w0 S ls _ _ (lv_sub hl [1, 2, 3, 4, 5, 0] rfl) hG hS h
  refine lv_iload_n hx hb dX6_choose_0 rfl (lv_at hl 1 rfl) ?_
  refine lv_iload_n hx hb dX6_choose_1 rfl (lv_at hl 2 rfl) ?_
  refine lv_icmp_ne (tgt := 72) hx hb dX6_choose_2 rfl (fun hc => ?_) (fun hc => ?_)
  · replace h := h.1 hc
    refine lv_iload_n hx hb dX6_choose_72 rfl (lv_at hl 1 rfl) ?_
    refine lv_if_ne (tgt := 80) hx hb dX6_choose_73 rfl (fun hc => ?_) (fun hc => ?_)
    · replace h := h.1 hc
      refine lv_aload_n hx hb dX6_choose_80 rfl (lv_at hl 0 rfl) ?_
      have hk := h.1
      replace h := h.2
      obtain ⟨r1, hr1, h⟩ := h
      refine gg_get (v := .ref r1) (ci := 6) (C := RX6) (T := TX6) (N := 32) hx hb hts (fun _ h => List.mem_cons_of_mem _ (List.mem_append_right _ (h))) hown hK hG (kc_7 hk) rfl 16 (by decide) (hts (.fieldLink RX6 26 "FourStonesModel" "some" "[I") (List.mem_of_getElem? (i := 3) rfl)) (fun _ h9 => h9) (congrArg (fun z => some (va_rf z)) hr1) dX6_choose_81 ?_
      refine lv_iload_n hx hb dX6_choose_84 rfl (lv_at hl 1 rfl) ?_
      refine lv_iconst (v := (1 : Int32)) hx hb dX6_choose_85 (by decide) ?_
      refine lv_isub hx hb dX6_choose_86 ?_
      have hk := h.1
      replace h := h.2
      have hi := h.1
      replace h := h.2
      refine gg_iald hx hb hK hG hk hi dX6_choose_87 ?_
      refine lv_iconst (v := (1 : Int32)) hx hb dX6_choose_88 (by decide) ?_
      refine lv_iadd hx hb dX6_choose_89 ?_
      exact j_90  a0 x1 x2 x3 x4 ((gA S r1 ((x1 - (1 : Int32))).toNatClampNeg) + (1 : Int32)) S ls _ _ (lv_sub hl [0, 1, 2, 3, 4] rfl) hG hS h
    · replace h := h.2 hc
      refine lv_iconst (v := (1 : Int32)) hx hb dX6_choose_76 (by decide) ?_
      refine lv_goto (tgt := 90) hx hb dX6_choose_77 rfl ?_
      exact j_90  a0 x1 x2 x3 x4 (1 : Int32) S ls _ _ (lv_sub hl [0, 1, 2, 3, 4] rfl) hG hS h
  · replace h := h.2 hc
    refine lv_aload_n hx hb dX6_choose_5 rfl (lv_at hl 0 rfl) ?_
    refine lv_iload_n hx hb dX6_choose_6 rfl (lv_at hl 2 rfl) ?_
    refine lv_iload hx hb dX6_choose_7 (lv_at hl 4 rfl) ?_
    have hk := h.1
    replace h := h.2
    refine gc_i (va_runV (As := [.int x2, .int x4]) (rest := []) ⟨hx, hb, hml, hown, hts⟩ (c_X6_isAllHad l D κ A S a0 x2 x4 _ h) (cwV 2 hts gX6_choose_X6_isAllHad rfl rfl rfl (by decide +kernel) ⟨Nat.le_of_ble_eq_true rfl, Nat.le_of_ble_eq_true rfl⟩) (pg_V (q := (RX6, TX6, 32)) hK hX hG (pg_A hA hS) (kc_7 hk) rfl) rfl rfl hl.1 rfl (lv_room (Nat.le_of_ble_eq_true rfl)) dX6_choose_9 ⟨Nat.le_of_ble_eq_true rfl, Nat.le_of_ble_eq_true rfl⟩) hS (fun z4 S3 H locs2 h hG hS => ?_)
    refine lv_if_eq (tgt := 71) hx hb dX6_choose_12 rfl (fun hc => ?_) (fun hc => ?_)
    · replace h := h.1 hc
      exact W.vret hx hb hr (gr_v h hG hK hX hS) hS.2.2 dX6_choose_71
    · replace h := h.2 hc
      refine lv_aload_n hx hb dX6_choose_15 rfl (lv_at hl 0 rfl) ?_
      have hk := h.1
      replace h := h.2
      refine gg_get (ci := 6) (C := RX6) (T := TX6) (N := 32) hx hb hts (fun _ h => List.mem_cons_of_mem _ (List.mem_append_right _ (h))) hown hK hG (kc_7 hk) rfl 14 (by decide) (hts (.fieldLink RX6 160 "FourStonesModel" "setsMany" "I") (List.mem_of_getElem? (i := 1) rfl)) (fun _ h9 => h9) rfl dX6_choose_16 ?_
      refine lv_if_ne (tgt := 61) hx hb dX6_choose_19 rfl (fun hc => ?_) (fun hc => ?_)
      · replace h := h.1 hc
        refine lv_aload_n hx hb dX6_choose_61 rfl (lv_at hl 0 rfl) ?_
        refine lv_dup hx hb dX6_choose_62 rfl ?_
        have hk := h.1
        replace h := h.2
        refine gg_get (ci := 6) (C := RX6) (T := TX6) (N := 32) hx hb hts (fun _ h => List.mem_cons_of_mem _ (List.mem_append_right _ (h))) hown hK hG (kc_7 hk) rfl 14 (by decide) (hts (.fieldLink RX6 160 "FourStonesModel" "setsMany" "I") (List.mem_of_getElem? (i := 1) rfl)) (fun _ h9 => h9) rfl dX6_choose_63 ?_
        refine lv_iconst (v := (1 : Int32)) hx hb dX6_choose_66 (by decide) ?_
        refine lv_iadd hx hb dX6_choose_67 ?_
        have hk := h.1
        replace h := h.2
        obtain ⟨S5, eS5⟩ : ∃ z, z = sI S3 84 a0 ((gI S3 84 a0) + (1 : Int32)) := ⟨_, rfl⟩
        replace h := h S5 eS5
        refine gg_put (ci := 6) (C := RX6) (T := TX6) (N := 32) hx hb hts (fun _ h => List.mem_cons_of_mem _ (List.mem_append_right _ (h))) tyX6 tyX6_ok nmX6 hown hK hG hS (kc_7 hk) rfl 14 (by decide) (hts (.fieldLink RX6 160 "FourStonesModel" "setsMany" "I") (List.mem_of_getElem? (i := 1) rfl)) (fun _ h9 => h9) rfl (tyX6_ok 14 (by decide)) rfl rfl (Nat.le_of_ble_eq_true rfl) dX6_choose_68 (S' := S5) (fun b hb9 => by rw [eS5]; exact cO_sI hb9) (by rw [eS5]; exact cs_84 hk) (fun H locs6 hG hS => ?_)
        exact W.vret hx hb hr (gr_v h hG hK hX hS) hS.2.2 dX6_choose_71
      · replace h := h.2 hc
        refine lv_aload_n hx hb dX6_choose_22 rfl (lv_at hl 0 rfl) ?_
        refine lv_iconst (v := (0 : Int32)) hx hb dX6_choose_23 (by decide) ?_
        have hk := h.1
        replace h := h.2
        obtain ⟨S7, eS7⟩ : ∃ z, z = sI S3 85 a0 (0 : Int32) := ⟨_, rfl⟩
        replace h := h S7 eS7
        refine gg_put (ci := 6) (C := RX6) (T := TX6) (N := 32) hx hb hts (fun _ h => List.mem_cons_of_mem _ (List.mem_append_right _ (h))) tyX6 tyX6_ok nmX6 hown hK hG hS (kc_7 hk) rfl 15 (by decide) (hts (.fieldLink RX6 163 "FourStonesModel" "setsFirst" "I") (List.mem_of_getElem? (i := 2) rfl)) (fun _ h9 => h9) rfl (tyX6_ok 15 (by decide)) rfl rfl (Nat.le_of_ble_eq_true rfl) dX6_choose_24 (S' := S7) (fun b hb9 => by rw [eS7]; exact cO_sI hb9) (by rw [eS7]; exact cs_85 hk) (fun H locs8 hG hS => ?_)
        refine lv_iconst (v := (0 : Int32)) hx hb dX6_choose_27 (by decide) ?_
        refine lv_istore (lv' := [(5, .int (0 : Int32)), (0, .ref a0), (1, .int x1), (2, .int x2), (3, .int x3), (4, .int x4)]) hx hb dX6_choose_28 hl (by decide) rfl (fun ls hl => ?_)
        obtain ⟨nn, h⟩ := h
        exact k_30  nn a0 x2 (0 : Int32) S7 ls _ _ (lv_sub hl [1, 3, 0] rfl) hG hS h
set_option maxHeartbeats 4000000 in
set_option maxRecDepth 100000 in
theorem c_X6_sets (l : Launch) (D : va_G) (κ : Nat → ClassId) (A : Nat → Prop) (S : Hp) (a0 : Nat) (x1 : Int32) (x2 : Int32) (x3 : Int32) (x4 : Int32) (Q : Int32 → Hp → Prop) (h : wp_X6_sets a0 x1 x2 x3 x4 S Q) : Met l yX6_sets wsX6_sets ({ frames := 7, cells := 0, slots := 0, locals := 336 } : Room) (PG D κ A S [.ref a0, .int x1, .int x2, .int x3, .int x4]) (va_Qi Q (BG D κ A) A) 0 0 A := by
  refine Met.ofW (cc := cX6_sets) (maxL := 5) (ret := (some .int)) (by decide) rfl ?_
  intro p e s m args below meth c s₁ B hml hv
  obtain ⟨hargs, hA, hG, hK, hX⟩ := hv
  have hx := B.exec
  have hb := B.bytes
  have hr := B.returns
  have hts := atoms_spec (ws := wsX6_sets) B.pre
  have hown : s.vm.findClass RX6 = some m.cls := findClass_of_methodNamed B.named
  have hlocks := B.notSynchronized
  subst hargs
  clear B
  have hS : va_S A s.heap s.heap [] := va_S.rf
  have hl := lv_entry ([.ref a0, .int x1, .int x2, .int x3, .int x4]) (n := 5) (Nat.le_of_ble_eq_true rfl)
  rw [lg_entry_eq]
  generalize (lg_sl ([.ref a0, .int x1, .int x2, .int x3, .int x4]) ++ List.replicate (5 - (lg_sl ([.ref a0, .int x1, .int x2, .int x3, .int x4])).length) Slot.unset).toArray = ls at hl ⊢
  have hl : lv_has ls 5 [(0, .ref a0), (1, .int x1), (2, .int x2), (3, .int x3), (4, .int x4)] := hl
  have hG : GG D κ A S s.heap := hG
  refine lv_iload_n hx hb dX6_sets_0 rfl (lv_at hl 1 rfl) ?_
  refine lv_iconst (v := (1 : Int32)) hx hb dX6_sets_1 (by decide) ?_
  refine lv_iconst (v := (3 : Int32)) hx hb dX6_sets_2 (by decide) ?_
  refine gc_i (va_runS (As := [.int x1, .int (1 : Int32), .int (3 : Int32)]) (rest := []) ⟨hx, hb, hml, hown, hts⟩ (c_X6_isIn l D κ A S x1 (1 : Int32) (3 : Int32) _ h) (va_cwS 3 hts gX6_sets_X6_isIn rfl rfl rfl (by decide +kernel) ⟨Nat.le_of_ble_eq_true rfl, Nat.le_of_ble_eq_true rfl⟩) (pg_S hK hX hG (pg_A hA hS)) rfl rfl hl.1 rfl (lv_room (Nat.le_of_ble_eq_true rfl)) dX6_sets_3 ⟨Nat.le_of_ble_eq_true rfl, Nat.le_of_ble_eq_true rfl⟩) hS (fun z3 S2 H locs1 h hG hS => ?_)
  refine lv_if_eq (tgt := 39) hx hb dX6_sets_6 rfl (fun hc => ?_) (fun hc => ?_)
  · replace h := h.1 hc
    refine lv_iconst (v := (-1 : Int32)) hx hb dX6_sets_39 (by decide) ?_
    exact W.iret hx hb hr (gr_i h hG hK hX hS) hS.2.2 dX6_sets_40
  · replace h := h.2 hc
    refine lv_iload_n hx hb dX6_sets_9 rfl (lv_at hl 2 rfl) ?_
    refine lv_iconst (v := (1 : Int32)) hx hb dX6_sets_10 (by decide) ?_
    refine lv_bipush (v := (30 : Int32)) hx hb dX6_sets_11 (by decide) ?_
    refine gc_i (va_runS (As := [.int x2, .int (1 : Int32), .int (30 : Int32)]) (rest := []) ⟨hx, hb, hml, hown, hts⟩ (c_X6_isIn l D κ A S2 x2 (1 : Int32) (30 : Int32) _ h) (va_cwS 3 hts gX6_sets_X6_isIn rfl rfl rfl (by decide +kernel) ⟨Nat.le_of_ble_eq_true rfl, Nat.le_of_ble_eq_true rfl⟩) (pg_S hK hX hG (pg_A hA hS)) rfl rfl hl.1 rfl (lv_room (Nat.le_of_ble_eq_true rfl)) dX6_sets_13 ⟨Nat.le_of_ble_eq_true rfl, Nat.le_of_ble_eq_true rfl⟩) hS (fun z6 S5 H locs4 h hG hS => ?_)
    refine lv_if_eq (tgt := 39) hx hb dX6_sets_16 rfl (fun hc => ?_) (fun hc => ?_)
    · replace h := h.1 hc
      refine lv_iconst (v := (-1 : Int32)) hx hb dX6_sets_39 (by decide) ?_
      exact W.iret hx hb hr (gr_i h hG hK hX hS) hS.2.2 dX6_sets_40
    · replace h := h.2 hc
      refine lv_iload_n hx hb dX6_sets_19 rfl (lv_at hl 3 rfl) ?_
      refine lv_iconst (v := (1 : Int32)) hx hb dX6_sets_20 (by decide) ?_
      refine lv_bipush (v := (13 : Int32)) hx hb dX6_sets_21 (by decide) ?_
      refine gc_i (va_runS (As := [.int x3, .int (1 : Int32), .int (13 : Int32)]) (rest := []) ⟨hx, hb, hml, hown, hts⟩ (c_X6_isIn l D κ A S5 x3 (1 : Int32) (13 : Int32) _ h) (va_cwS 3 hts gX6_sets_X6_isIn rfl rfl rfl (by decide +kernel) ⟨Nat.le_of_ble_eq_true rfl, Nat.le_of_ble_eq_true rfl⟩) (pg_S hK hX hG (pg_A hA hS)) rfl rfl hl.1 rfl (lv_room (Nat.le_of_ble_eq_true rfl)) dX6_sets_23 ⟨Nat.le_of_ble_eq_true rfl, Nat.le_of_ble_eq_true rfl⟩) hS (fun z9 S8 H locs7 h hG hS => ?_)
      refine lv_if_eq (tgt := 39) hx hb dX6_sets_26 rfl (fun hc => ?_) (fun hc => ?_)
      · replace h := h.1 hc
        refine lv_iconst (v := (-1 : Int32)) hx hb dX6_sets_39 (by decide) ?_
        exact W.iret hx hb hr (gr_i h hG hK hX hS) hS.2.2 dX6_sets_40
      · replace h := h.2 hc
        refine lv_iload hx hb dX6_sets_29 (lv_at hl 4 rfl) ?_
        refine lv_iconst (v := (0 : Int32)) hx hb dX6_sets_31 (by decide) ?_
        refine lv_iconst (v := (1 : Int32)) hx hb dX6_sets_32 (by decide) ?_
        refine gc_i (va_runS (As := [.int x4, .int (0 : Int32), .int (1 : Int32)]) (rest := []) ⟨hx, hb, hml, hown, hts⟩ (c_X6_isIn l D κ A S8 x4 (0 : Int32) (1 : Int32) _ h) (va_cwS 3 hts gX6_sets_X6_isIn rfl rfl rfl (by decide +kernel) ⟨Nat.le_of_ble_eq_true rfl, Nat.le_of_ble_eq_true rfl⟩) (pg_S hK hX hG (pg_A hA hS)) rfl rfl hl.1 rfl (lv_room (Nat.le_of_ble_eq_true rfl)) dX6_sets_33 ⟨Nat.le_of_ble_eq_true rfl, Nat.le_of_ble_eq_true rfl⟩) hS (fun z12 S11 H locs10 h hG hS => ?_)
        refine lv_if_ne (tgt := 41) hx hb dX6_sets_36 rfl (fun hc => ?_) (fun hc => ?_)
        · replace h := h.1 hc
          refine lv_aload_n hx hb dX6_sets_41 rfl (lv_at hl 0 rfl) ?_
          refine lv_iconst (v := (0 : Int32)) hx hb dX6_sets_42 (by decide) ?_
          have hk := h.1
          replace h := h.2
          obtain ⟨S13, eS13⟩ : ∃ z, z = sI S11 84 a0 (0 : Int32) := ⟨_, rfl⟩
          replace h := h S13 eS13
          refine gg_put (ci := 6) (C := RX6) (T := TX6) (N := 32) hx hb hts (fun _ h => List.mem_cons_of_mem _ (List.mem_append_right _ (h))) tyX6 tyX6_ok nmX6 hown hK hG hS (kc_7 hk) rfl 14 (by decide) (hts (.fieldLink RX6 160 "FourStonesModel" "setsMany" "I") (List.mem_of_getElem? (i := 1) rfl)) (fun _ h9 => h9) rfl (tyX6_ok 14 (by decide)) rfl rfl (Nat.le_of_ble_eq_true rfl) dX6_sets_43 (S' := S13) (fun b hb9 => by rw [eS13]; exact cO_sI hb9) (by rw [eS13]; exact cs_84 hk) (fun H locs14 hG hS => ?_)
          refine lv_aload_n hx hb dX6_sets_46 rfl (lv_at hl 0 rfl) ?_
          refine lv_bipush (v := (-4 : Int32)) hx hb dX6_sets_47 (by decide) ?_
          have hk := h.1
          replace h := h.2
          obtain ⟨S15, eS15⟩ : ∃ z, z = sI S13 85 a0 (-4 : Int32) := ⟨_, rfl⟩
          replace h := h S15 eS15
          refine gg_put (ci := 6) (C := RX6) (T := TX6) (N := 32) hx hb hts (fun _ h => List.mem_cons_of_mem _ (List.mem_append_right _ (h))) tyX6 tyX6_ok nmX6 hown hK hG hS (kc_7 hk) rfl 15 (by decide) (hts (.fieldLink RX6 163 "FourStonesModel" "setsFirst" "I") (List.mem_of_getElem? (i := 2) rfl)) (fun _ h9 => h9) rfl (tyX6_ok 15 (by decide)) rfl rfl (Nat.le_of_ble_eq_true rfl) dX6_sets_49 (S' := S15) (fun b hb9 => by rw [eS15]; exact cO_sI hb9) (by rw [eS15]; exact cs_85 hk) (fun H locs16 hG hS => ?_)
          refine lv_aload_n hx hb dX6_sets_52 rfl (lv_at hl 0 rfl) ?_
          refine lv_iconst (v := (0 : Int32)) hx hb dX6_sets_53 (by decide) ?_
          refine lv_iload_n hx hb dX6_sets_54 rfl (lv_at hl 1 rfl) ?_
          refine lv_iload_n hx hb dX6_sets_55 rfl (lv_at hl 2 rfl) ?_
          refine lv_iload_n hx hb dX6_sets_56 rfl (lv_at hl 3 rfl) ?_
          have hk := h.1
          replace h := h.2
          refine gc_v (va_runV (As := [.int (0 : Int32), .int x1, .int x2, .int x3]) (rest := []) ⟨hx, hb, hml, hown, hts⟩ (c_X6_choose_3 l D κ A S15 a0 (0 : Int32) x1 x2 x3 _ h) (cwV 4 hts gX6_sets_X6_choose rfl rfl rfl (by decide +kernel) ⟨Nat.le_of_ble_eq_true rfl, Nat.le_of_ble_eq_true rfl⟩) (pg_V (q := (RX6, TX6, 32)) hK hX hG (pg_A hA hS) (kc_7 hk) rfl) rfl rfl hl.1 rfl (lv_room (Nat.le_of_ble_eq_true rfl)) dX6_sets_57 ⟨Nat.le_of_ble_eq_true rfl, Nat.le_of_ble_eq_true rfl⟩) hS (fun S18 H locs17 h hG hS => ?_)
          refine lv_iload hx hb dX6_sets_60 (lv_at hl 4 rfl) ?_
          refine lv_if_ne (tgt := 72) hx hb dX6_sets_62 rfl (fun hc => ?_) (fun hc => ?_)
          · replace h := h.1 hc
            refine lv_aload_n hx hb dX6_sets_72 rfl (lv_at hl 0 rfl) ?_
            have hk := h.1
            replace h := h.2
            refine gg_get (ci := 6) (C := RX6) (T := TX6) (N := 32) hx hb hts (fun _ h => List.mem_cons_of_mem _ (List.mem_append_right _ (h))) hown hK hG (kc_7 hk) rfl 15 (by decide) (hts (.fieldLink RX6 163 "FourStonesModel" "setsFirst" "I") (List.mem_of_getElem? (i := 2) rfl)) (fun _ h9 => h9) rfl dX6_sets_73 ?_
            exact W.iret hx hb hr (gr_i h hG hK hX hS) hS.2.2 dX6_sets_76
          · replace h := h.2 hc
            refine lv_aload_n hx hb dX6_sets_65 rfl (lv_at hl 0 rfl) ?_
            have hk := h.1
            replace h := h.2
            refine gg_get (ci := 6) (C := RX6) (T := TX6) (N := 32) hx hb hts (fun _ h => List.mem_cons_of_mem _ (List.mem_append_right _ (h))) hown hK hG (kc_7 hk) rfl 14 (by decide) (hts (.fieldLink RX6 160 "FourStonesModel" "setsMany" "I") (List.mem_of_getElem? (i := 1) rfl)) (fun _ h9 => h9) rfl dX6_sets_66 ?_
            refine lv_goto (tgt := 76) hx hb dX6_sets_69 rfl ?_
            exact W.iret hx hb hr (gr_i h hG hK hX hS) hS.2.2 dX6_sets_76
        · replace h := h.2 hc
          refine lv_iconst (v := (-1 : Int32)) hx hb dX6_sets_39 (by decide) ?_
          exact W.iret hx hb hr (gr_i h hG hK hX hS) hS.2.2 dX6_sets_40
set_option maxHeartbeats 4000000 in
set_option maxRecDepth 100000 in
theorem c_X6_lostBy (l : Launch) (D : va_G) (κ : Nat → ClassId) (A : Nat → Prop) (S : Hp) (a0 : Nat) (x1 : Int32) (x2 : Int32) (Q : Int32 → Hp → Prop) (h : wp_X6_lostBy a0 x1 x2 S Q) : Met l yX6_lostBy wsX6_lostBy ({ frames := 4, cells := 0, slots := 0, locals := 192 } : Room) (PG D κ A S [.ref a0, .int x1, .int x2]) (va_Qi Q (BG D κ A) A) 0 0 A := by
  refine Met.ofW (cc := cX6_lostBy) (maxL := 6) (ret := (some .int)) (by decide) rfl ?_
  intro p e s m args below meth c s₁ B hml hv
  obtain ⟨hargs, hA, hG, hK, hX⟩ := hv
  have hx := B.exec
  have hb := B.bytes
  have hr := B.returns
  have hts := atoms_spec (ws := wsX6_lostBy) B.pre
  have hown : s.vm.findClass RX6 = some m.cls := findClass_of_methodNamed B.named
  have hlocks := B.notSynchronized
  subst hargs
  clear B
  have hS : va_S A s.heap s.heap [] := va_S.rf
  have hl := lv_entry ([.ref a0, .int x1, .int x2]) (n := 6) (Nat.le_of_ble_eq_true rfl)
  rw [lg_entry_eq]
  generalize (lg_sl ([.ref a0, .int x1, .int x2]) ++ List.replicate (6 - (lg_sl ([.ref a0, .int x1, .int x2])).length) Slot.unset).toArray = ls at hl ⊢
  have hl : lv_has ls 6 [(0, .ref a0), (1, .int x1), (2, .int x2)] := hl
  have hG : GG D κ A S s.heap := hG
  have j_54 : ∀ (C31 : Nat × Int32 × Int32 × Int32 × Hp → Prop) (hC31 : ∀ (v0 : Nat) (v3 : Int32) (v4 : Int32) (v5 : Int32) (S : Hp) (ls : Array Slot) (H : Heap) (locs : List Loc), lv_has ls 6 [(0, .ref v0), (3, .int v3), (4, .int v4), (5, .int v5)] → GG D κ A S H → va_S A s.heap H locs → C31 (v0, v3, v4, v5, S) → W p l e ({ frames := 4, cells := 0, slots := 0, locals := 192 } : Room) s m ([.ref a0, .int x1, .int x2] : List Value).toArray below meth c H locs 0 0 (MQ below (va_Qi Q (BG D κ A) A) ([.ref a0, .int x1, .int x2] : List Value).toArray s 0 0 A) (F0 m 31 ls [])) (v0 : Nat) (v3 : Int32) (v5 : Int32) (w0 : Int32) (w1 : Int32) (S : Hp) (ls : Array Slot) (H : Heap) (locs : List Loc), lv_has ls 6 [(0, .ref v0), (3, .int v3), (5, .int v5)] → GG D κ A S H → va_S A s.heap H locs → J_X6_lostBy_54 C31 Q v0 v3 v5 w0 w1 S → W p l e ({ frames := 4, cells := 0, slots := 0, locals := 192 } : Room) s m ([.ref a0, .int x1, .int x2] : List Value).toArray below meth c H locs 0 0 (MQ below (va_Qi Q (BG D κ A) A) ([.ref a0, .int x1, .int x2] : List Value).toArray s 0 0 A) (F0 m 54 ls [.int w1, .int w0]) := by
    intro C31 hC31 v0 v3 v5 w0 w1 S ls H locs hl hG hS h
    unfold J_X6_lostBy_54 at h
    refine lv_iadd hx hb dX6_lostBy_54 ?_
    refine lv_topi (fun y1 ey1 => ?_)
    replace h := h y1 ey1
    refine lv_istore (lv' := [(4, .int y1), (0, .ref v0), (3, .int v3), (5, .int v5)]) hx hb dX6_lostBy_55 hl (by decide) rfl (fun ls hl => ?_)
    obtain ⟨y2, ey2⟩ : ∃ z, z = v5 + (1 : Int32) := ⟨_, rfl⟩
    replace h := h y2 ey2
    refine lv_iinc (v := y2) (lv' := [(5, .int y2), (4, .int y1), (0, .ref v0), (3, .int v3)]) hx hb dX6_lostBy_57 hl (k := 3) rfl (by rw [ey2]; rfl) (by decide) rfl (fun ls hl => ?_)
    refine lv_goto (tgt := 31) hx hb dX6_lostBy_60 rfl ?_
    exact hC31 v0 v3 y1 y2 S ls _ _ (lv_sub hl [2, 3, 1, 0] rfl) hG hS h
  have k_31 : ∀  (n : Nat), ∀ (v0 : Nat) (v3 : Int32) (v4 : Int32) (v5 : Int32) (S : Hp) (ls : Array Slot) (H : Heap) (locs : List Loc), lv_has ls 6 [(0, .ref v0), (3, .int v3), (4, .int v4), (5, .int v5)] → GG D κ A S H → va_S A s.heap H locs → it (L_X6_lostBy_31  Q) n (v0, v3, v4, v5, S) → W p l e ({ frames := 4, cells := 0, slots := 0, locals := 192 } : Room) s m ([.ref a0, .int x1, .int x2] : List Value).toArray below meth c H locs 0 0 (MQ below (va_Qi Q (BG D κ A) A) ([.ref a0, .int x1, .int x2] : List Value).toArray s 0 0 A) (F0 m 31 ls []) := by
    intro  n
    induction n with
    | zero => intro v0 v3 v4 v5 S ls H locs hl hG hS h; exact False.elim h
    | succ n hC31 =>
      intro v0 v3 v4 v5 S ls H locs hl hG hS h
      replace h : L_X6_lostBy_31  Q (it (L_X6_lostBy_31  Q) n) (v0, v3, v4, v5, S) := h
      simp only [L_X6_lostBy_31] at h
      refine lv_iload hx hb dX6_lostBy_31 (lv_at hl 3 rfl) ?_
      refine lv_iload_n hx hb dX6_lostBy_33 rfl (lv_at hl 1 rfl) ?_
      refine lv_icmp_gt (tgt := 63) hx hb dX6_lostBy_34 rfl (fun hc => ?_) (fun hc => ?_)
      · replace h := h.1 hc
        refine lv_iload hx hb dX6_lostBy_63 (lv_at hl 2 rfl) ?_
        exact W.iret hx hb hr (gr_i h hG hK hX hS) hS.2.2 dX6_lostBy_65
      · replace h := h.2 hc
        refine lv_iload hx hb dX6_lostBy_37 (lv_at hl 2 rfl) ?_
        refine lv_aload_n hx hb dX6_lostBy_39 rfl (lv_at hl 0 rfl) ?_
        have hk := h.1
        replace h := h.2
        obtain ⟨r1, hr1, h⟩ := h
        refine gg_get (v := .ref r1) (ci := 6) (C := RX6) (T := TX6) (N := 32) hx hb hts (fun _ h => List.mem_cons_of_mem _ (List.mem_append_right _ (h))) hown hK hG (kc_7 hk) rfl 13 (by decide) (hts (.fieldLink RX6 22 "FourStonesModel" "had" "[Z") (List.mem_of_getElem? (i := 1) rfl)) (fun _ h9 => h9) (congrArg (fun z => some (va_rf z)) hr1) dX6_lostBy_40 ?_
        refine lv_iload hx hb dX6_lostBy_43 (lv_at hl 3 rfl) ?_
        have hk := h.1
        replace h := h.2
        have hi := h.1
        replace h := h.2
        refine gg_zald hx hb hK hG hk hi dX6_lostBy_45 ?_
        refine lv_if_eq (tgt := 53) hx hb dX6_lostBy_46 rfl (fun hc => ?_) (fun hc => ?_)
        · replace h := h.1 hc
          refine lv_iconst (v := (1 : Int32)) hx hb dX6_lostBy_53 (by decide) ?_
          exact j_54 _ hC31 v0 v3 v5 v4 (1 : Int32) S ls _ _ (lv_sub hl [0, 1, 3] rfl) hG hS h
        · replace h := h.2 hc
          refine lv_iconst (v := (0 : Int32)) hx hb dX6_lostBy_49 (by decide) ?_
          refine lv_goto (tgt := 54) hx hb dX6_lostBy_50 rfl ?_
          exact j_54 _ hC31 v0 v3 v5 v4 (0 : Int32) S ls _ _ (lv_sub hl [0, 1, 3] rfl) hG hS h
  refine lv_aload_n hx hb dX6_lostBy_0 rfl (lv_at hl 0 rfl) ?_
  refine lv_iload_n hx hb dX6_lostBy_1 rfl (lv_at hl 1 rfl) ?_
  refine lv_bipush (v := (63 : Int32)) hx hb dX6_lostBy_2 (by decide) ?_
  have hk := h.1
  replace h := h.2
  refine gc_v (va_runV (As := [.int x1, .int (63 : Int32)]) (rest := []) ⟨hx, hb, hml, hown, hts⟩ (c_X6_have l D κ A S a0 x1 (63 : Int32) _ h) (cwV 2 hts gX6_lostBy_X6_have rfl rfl rfl (by decide +kernel) ⟨Nat.le_of_ble_eq_true rfl, Nat.le_of_ble_eq_true rfl⟩) (pg_V (q := (RX6, TX6, 32)) hK hX hG (pg_A hA hS) (kc_7 hk) rfl) rfl rfl hl.1 rfl (lv_room (Nat.le_of_ble_eq_true rfl)) dX6_lostBy_4 ⟨Nat.le_of_ble_eq_true rfl, Nat.le_of_ble_eq_true rfl⟩) hS (fun S2 H locs1 h hG hS => ?_)
  refine lv_aload_n hx hb dX6_lostBy_7 rfl (lv_at hl 0 rfl) ?_
  have hk := h.1
  replace h := h.2
  refine gc_i (va_runV (As := []) (rest := []) ⟨hx, hb, hml, hown, hts⟩ (c_X6_reached l D κ A S2 a0 _ h) (cwV 0 hts gX6_lostBy_X6_reached rfl rfl rfl (by decide +kernel) ⟨Nat.le_of_ble_eq_true rfl, Nat.le_of_ble_eq_true rfl⟩) (pg_V (q := (RX6, TX6, 32)) hK hX hG (pg_A hA hS) (kc_7 hk) rfl) rfl rfl hl.1 rfl (lv_room (Nat.le_of_ble_eq_true rfl)) dX6_lostBy_8 ⟨Nat.le_of_ble_eq_true rfl, Nat.le_of_ble_eq_true rfl⟩) hS (fun z5 S4 H locs3 h hG hS => ?_)
  refine lv_istore_n (lv' := [(3, .int z5), (0, .ref a0), (1, .int x1), (2, .int x2)]) hx hb dX6_lostBy_11 rfl hl (by decide) rfl (fun ls hl => ?_)
  refine lv_aload_n hx hb dX6_lostBy_12 rfl (lv_at hl 1 rfl) ?_
  refine lv_iload_n hx hb dX6_lostBy_13 rfl (lv_at hl 2 rfl) ?_
  refine lv_bipush (v := (63 : Int32)) hx hb dX6_lostBy_14 (by decide) ?_
  refine lv_iconst (v := (1 : Int32)) hx hb dX6_lostBy_16 (by decide) ?_
  refine lv_iload_n hx hb dX6_lostBy_17 rfl (lv_at hl 3 rfl) ?_
  refine lv_ishl hx hb dX6_lostBy_18 ?_
  refine lv_iconst (v := (-1 : Int32)) hx hb dX6_lostBy_19 (by decide) ?_
  refine lv_ixor hx hb dX6_lostBy_20 ?_
  refine lv_iand hx hb dX6_lostBy_21 ?_
  have hk := h.1
  replace h := h.2
  refine gc_v (va_runV (As := [.int x1, .int ((63 : Int32) &&& (((1 : Int32) <<< (x2 &&& 31)) ^^^ (-1 : Int32)))]) (rest := []) ⟨hx, hb, hml, hown, hts⟩ (c_X6_have l D κ A S4 a0 x1 ((63 : Int32) &&& (((1 : Int32) <<< (x2 &&& 31)) ^^^ (-1 : Int32))) _ h) (cwV 2 hts gX6_lostBy_X6_have rfl rfl rfl (by decide +kernel) ⟨Nat.le_of_ble_eq_true rfl, Nat.le_of_ble_eq_true rfl⟩) (pg_V (q := (RX6, TX6, 32)) hK hX hG (pg_A hA hS) (kc_7 hk) rfl) rfl rfl hl.1 rfl (lv_room (Nat.le_of_ble_eq_true rfl)) dX6_lostBy_22 ⟨Nat.le_of_ble_eq_true rfl, Nat.le_of_ble_eq_true rfl⟩) hS (fun S7 H locs6 h hG hS => ?_)
  refine lv_iconst (v := (0 : Int32)) hx hb dX6_lostBy_25 (by decide) ?_
  refine lv_istore (lv' := [(4, .int (0 : Int32)), (3, .int z5), (0, .ref a0), (1, .int x1), (2, .int x2)]) hx hb dX6_lostBy_26 hl (by decide) rfl (fun ls hl => ?_)
  refine lv_iconst (v := (1 : Int32)) hx hb dX6_lostBy_28 (by decide) ?_
  refine lv_istore (lv' := [(5, .int (1 : Int32)), (4, .int (0 : Int32)), (3, .int z5), (0, .ref a0), (1, .int x1), (2, .int x2)]) hx hb dX6_lostBy_29 hl (by decide) rfl (fun ls hl => ?_)
  obtain ⟨nn, h⟩ := h
  exact k_31  nn a0 z5 (0 : Int32) (1 : Int32) S7 ls _ _ (lv_sub hl [3, 2, 1, 0] rfl) hG hS h
set_option maxHeartbeats 4000000 in
set_option maxRecDepth 100000 in
theorem c_X6_lost (l : Launch) (D : va_G) (κ : Nat → ClassId) (A : Nat → Prop) (S : Hp) (a0 : Nat) (x1 : Int32) (x2 : Int32) (Q : Int32 → Hp → Prop) (h : wp_X6_lost a0 x1 x2 S Q) : Met l yX6_lost wsX6_lost ({ frames := 5, cells := 0, slots := 0, locals := 240 } : Room) (PG D κ A S [.ref a0, .int x1, .int x2]) (va_Qi Q (BG D κ A) A) 0 0 A := by
  refine Met.ofW (cc := cX6_lost) (maxL := 3) (ret := (some .int)) (by decide) rfl ?_
  intro p e s m args below meth c s₁ B hml hv
  obtain ⟨hargs, hA, hG, hK, hX⟩ := hv
  have hx := B.exec
  have hb := B.bytes
  have hr := B.returns
  have hts := atoms_spec (ws := wsX6_lost) B.pre
  have hown : s.vm.findClass RX6 = some m.cls := findClass_of_methodNamed B.named
  have hlocks := B.notSynchronized
  subst hargs
  clear B
  have hS : va_S A s.heap s.heap [] := va_S.rf
  have hl := lv_entry ([.ref a0, .int x1, .int x2]) (n := 3) (Nat.le_of_ble_eq_true rfl)
  rw [lg_entry_eq]
  generalize (lg_sl ([.ref a0, .int x1, .int x2]) ++ List.replicate (3 - (lg_sl ([.ref a0, .int x1, .int x2])).length) Slot.unset).toArray = ls at hl ⊢
  have hl : lv_has ls 3 [(0, .ref a0), (1, .int x1), (2, .int x2)] := hl
  have hG : GG D κ A S s.heap := hG
  refine lv_iload_n hx hb dX6_lost_0 rfl (lv_at hl 1 rfl) ?_
  refine gc_i (va_runS (As := [.int x1]) (rest := []) ⟨hx, hb, hml, hown, hts⟩ (c_X6_isShelf l D κ A S x1 _ h) (va_cwS 1 hts gX6_lost_X6_isShelf rfl rfl rfl (by decide +kernel) ⟨Nat.le_of_ble_eq_true rfl, Nat.le_of_ble_eq_true rfl⟩) (pg_S hK hX hG (pg_A hA hS)) rfl rfl hl.1 rfl (lv_room (Nat.le_of_ble_eq_true rfl)) dX6_lost_1 ⟨Nat.le_of_ble_eq_true rfl, Nat.le_of_ble_eq_true rfl⟩) hS (fun z3 S2 H locs1 h hG hS => ?_)
  refine lv_if_eq (tgt := 15) hx hb dX6_lost_4 rfl (fun hc => ?_) (fun hc => ?_)
  · replace h := h.1 hc
    refine lv_iconst (v := (-1 : Int32)) hx hb dX6_lost_15 (by decide) ?_
    exact W.iret hx hb hr (gr_i h hG hK hX hS) hS.2.2 dX6_lost_16
  · replace h := h.2 hc
    refine lv_aload_n hx hb dX6_lost_7 rfl (lv_at hl 0 rfl) ?_
    refine lv_iload_n hx hb dX6_lost_8 rfl (lv_at hl 2 rfl) ?_
    have hk := h.1
    replace h := h.2
    refine gc_i (va_runV (As := [.int x2]) (rest := []) ⟨hx, hb, hml, hown, hts⟩ (c_X6_isStone l D κ A S2 a0 x2 _ h) (cwV 1 hts gX6_lost_X6_isStone rfl rfl rfl (by decide +kernel) ⟨Nat.le_of_ble_eq_true rfl, Nat.le_of_ble_eq_true rfl⟩) (pg_V (q := (RX6, TX6, 32)) hK hX hG (pg_A hA hS) (kc_7 hk) rfl) rfl rfl hl.1 rfl (lv_room (Nat.le_of_ble_eq_true rfl)) dX6_lost_9 ⟨Nat.le_of_ble_eq_true rfl, Nat.le_of_ble_eq_true rfl⟩) hS (fun z6 S5 H locs4 h hG hS => ?_)
    refine lv_if_ne (tgt := 17) hx hb dX6_lost_12 rfl (fun hc => ?_) (fun hc => ?_)
    · replace h := h.1 hc
      refine lv_aload_n hx hb dX6_lost_17 rfl (lv_at hl 0 rfl) ?_
      refine lv_iload_n hx hb dX6_lost_18 rfl (lv_at hl 1 rfl) ?_
      have hk := h.1
      replace h := h.2
      refine gc_i (va_runV (As := [.int x1]) (rest := []) ⟨hx, hb, hml, hown, hts⟩ (c_X6_noScale l D κ A S5 a0 x1 _ h) (cwV 1 hts gX6_lost_X6_noScale rfl rfl rfl (by decide +kernel) ⟨Nat.le_of_ble_eq_true rfl, Nat.le_of_ble_eq_true rfl⟩) (pg_V (q := (RX6, TX6, 32)) hK hX hG (pg_A hA hS) (kc_7 hk) rfl) rfl rfl hl.1 rfl (lv_room (Nat.le_of_ble_eq_true rfl)) dX6_lost_19 ⟨Nat.le_of_ble_eq_true rfl, Nat.le_of_ble_eq_true rfl⟩) hS (fun z9 S8 H locs7 h hG hS => ?_)
      refine lv_if_eq (tgt := 33) hx hb dX6_lost_22 rfl (fun hc => ?_) (fun hc => ?_)
      · replace h := h.1 hc
        refine lv_aload_n hx hb dX6_lost_33 rfl (lv_at hl 0 rfl) ?_
        refine lv_iload_n hx hb dX6_lost_34 rfl (lv_at hl 1 rfl) ?_
        refine lv_iload_n hx hb dX6_lost_35 rfl (lv_at hl 2 rfl) ?_
        have hk := h.1
        replace h := h.2
        refine gc_i (va_runV (As := [.int x1, .int x2]) (rest := []) ⟨hx, hb, hml, hown, hts⟩ (c_X6_lostBy l D κ A S8 a0 x1 x2 _ h) (cwV 2 hts gX6_lost_X6_lostBy rfl rfl rfl (by decide +kernel) ⟨Nat.le_of_ble_eq_true rfl, Nat.le_of_ble_eq_true rfl⟩) (pg_V (q := (RX6, TX6, 32)) hK hX hG (pg_A hA hS) (kc_7 hk) rfl) rfl rfl hl.1 rfl (lv_room (Nat.le_of_ble_eq_true rfl)) dX6_lost_36 ⟨Nat.le_of_ble_eq_true rfl, Nat.le_of_ble_eq_true rfl⟩) hS (fun z12 S11 H locs10 h hG hS => ?_)
        exact W.iret hx hb hr (gr_i h hG hK hX hS) hS.2.2 dX6_lost_39
      · replace h := h.2 hc
        refine lv_aload_n hx hb dX6_lost_25 rfl (lv_at hl 0 rfl) ?_
        refine lv_iload_n hx hb dX6_lost_26 rfl (lv_at hl 1 rfl) ?_
        have hk := h.1
        replace h := h.2
        refine gc_i (va_runV (As := [.int x1]) (rest := []) ⟨hx, hb, hml, hown, hts⟩ (c_X6_noScale l D κ A S8 a0 x1 _ h) (cwV 1 hts gX6_lost_X6_noScale rfl rfl rfl (by decide +kernel) ⟨Nat.le_of_ble_eq_true rfl, Nat.le_of_ble_eq_true rfl⟩) (pg_V (q := (RX6, TX6, 32)) hK hX hG (pg_A hA hS) (kc_7 hk) rfl) rfl rfl hl.1 rfl (lv_room (Nat.le_of_ble_eq_true rfl)) dX6_lost_27 ⟨Nat.le_of_ble_eq_true rfl, Nat.le_of_ble_eq_true rfl⟩) hS (fun z15 S14 H locs13 h hG hS => ?_)
        refine lv_goto (tgt := 39) hx hb dX6_lost_30 rfl ?_
        exact W.iret hx hb hr (gr_i h hG hK hX hS) hS.2.2 dX6_lost_39
    · replace h := h.2 hc
      refine lv_iconst (v := (-1 : Int32)) hx hb dX6_lost_15 (by decide) ?_
      exact W.iret hx hb hr (gr_i h hG hK hX hS) hS.2.2 dX6_lost_16
set_option maxHeartbeats 4000000 in
set_option maxRecDepth 100000 in
theorem c_X6_harmsLeast (l : Launch) (D : va_G) (κ : Nat → ClassId) (A : Nat → Prop) (S : Hp) (a0 : Nat) (x1 : Int32) (Q : Int32 → Hp → Prop) (h : wp_X6_harmsLeast a0 x1 S Q) : Met l yX6_harmsLeast wsX6_harmsLeast ({ frames := 5, cells := 0, slots := 0, locals := 240 } : Room) (PG D κ A S [.ref a0, .int x1]) (va_Qi Q (BG D κ A) A) 0 0 A := by
  refine Met.ofW (cc := cX6_harmsLeast) (maxL := 6) (ret := (some .int)) (by decide) rfl ?_
  intro p e s m args below meth c s₁ B hml hv
  obtain ⟨hargs, hA, hG, hK, hX⟩ := hv
  have hx := B.exec
  have hb := B.bytes
  have hr := B.returns
  have hts := atoms_spec (ws := wsX6_harmsLeast) B.pre
  have hown : s.vm.findClass RX6 = some m.cls := findClass_of_methodNamed B.named
  have hlocks := B.notSynchronized
  subst hargs
  clear B
  have hS : va_S A s.heap s.heap [] := va_S.rf
  have hl := lv_entry ([.ref a0, .int x1]) (n := 6) (Nat.le_of_ble_eq_true rfl)
  rw [lg_entry_eq]
  generalize (lg_sl ([.ref a0, .int x1]) ++ List.replicate (6 - (lg_sl ([.ref a0, .int x1])).length) Slot.unset).toArray = ls at hl ⊢
  have hl : lv_has ls 6 [(0, .ref a0), (1, .int x1)] := hl
  have hG : GG D κ A S s.heap := hG
  have j_67 : ∀ (C31 : Nat × Int32 × Int32 × Int32 × Int32 × Hp → Prop) (hC31 : ∀ (v0 : Nat) (v1 : Int32) (v2 : Int32) (v3 : Int32) (v4 : Int32) (S : Hp) (ls : Array Slot) (H : Heap) (locs : List Loc), lv_has ls 6 [(0, .ref v0), (1, .int v1), (2, .int v2), (3, .int v3), (4, .int v4)] → GG D κ A S H → va_S A s.heap H locs → C31 (v0, v1, v2, v3, v4, S) → W p l e ({ frames := 5, cells := 0, slots := 0, locals := 240 } : Room) s m ([.ref a0, .int x1] : List Value).toArray below meth c H locs 0 0 (MQ below (va_Qi Q (BG D κ A) A) ([.ref a0, .int x1] : List Value).toArray s 0 0 A) (F0 m 31 ls [])) (v0 : Nat) (v1 : Int32) (v2 : Int32) (v3 : Int32) (v4 : Int32) (S : Hp) (ls : Array Slot) (H : Heap) (locs : List Loc), lv_has ls 6 [(0, .ref v0), (1, .int v1), (2, .int v2), (3, .int v3), (4, .int v4)] → GG D κ A S H → va_S A s.heap H locs → J_X6_harmsLeast_67 C31 Q v0 v1 v2 v3 v4 S → W p l e ({ frames := 5, cells := 0, slots := 0, locals := 240 } : Room) s m ([.ref a0, .int x1] : List Value).toArray below meth c H locs 0 0 (MQ below (va_Qi Q (BG D κ A) A) ([.ref a0, .int x1] : List Value).toArray s 0 0 A) (F0 m 67 ls []) := by
    intro C31 hC31 v0 v1 v2 v3 v4 S ls H locs hl hG hS h
    unfold J_X6_harmsLeast_67 at h
    obtain ⟨y1, ey1⟩ : ∃ z, z = v4 + (1 : Int32) := ⟨_, rfl⟩
    replace h := h y1 ey1
    refine lv_iinc (v := y1) (lv' := [(4, .int y1), (0, .ref v0), (1, .int v1), (2, .int v2), (3, .int v3)]) hx hb dX6_harmsLeast_67 hl (k := 4) rfl (by rw [ey1]; rfl) (by decide) rfl (fun ls hl => ?_)
    refine lv_goto (tgt := 31) hx hb dX6_harmsLeast_70 rfl ?_
    exact hC31 v0 v1 v2 v3 y1 S ls _ _ (lv_sub hl [1, 2, 3, 4, 0] rfl) hG hS h
  have j_61 : ∀ (C31 : Nat × Int32 × Int32 × Int32 × Int32 × Hp → Prop) (hC31 : ∀ (v0 : Nat) (v1 : Int32) (v2 : Int32) (v3 : Int32) (v4 : Int32) (S : Hp) (ls : Array Slot) (H : Heap) (locs : List Loc), lv_has ls 6 [(0, .ref v0), (1, .int v1), (2, .int v2), (3, .int v3), (4, .int v4)] → GG D κ A S H → va_S A s.heap H locs → C31 (v0, v1, v2, v3, v4, S) → W p l e ({ frames := 5, cells := 0, slots := 0, locals := 240 } : Room) s m ([.ref a0, .int x1] : List Value).toArray below meth c H locs 0 0 (MQ below (va_Qi Q (BG D κ A) A) ([.ref a0, .int x1] : List Value).toArray s 0 0 A) (F0 m 31 ls [])) (v0 : Nat) (v1 : Int32) (v4 : Int32) (v5 : Int32) (S : Hp) (ls : Array Slot) (H : Heap) (locs : List Loc), lv_has ls 6 [(0, .ref v0), (1, .int v1), (4, .int v4), (5, .int v5)] → GG D κ A S H → va_S A s.heap H locs → J_X6_harmsLeast_61 C31 Q v0 v1 v4 v5 S → W p l e ({ frames := 5, cells := 0, slots := 0, locals := 240 } : Room) s m ([.ref a0, .int x1] : List Value).toArray below meth c H locs 0 0 (MQ below (va_Qi Q (BG D κ A) A) ([.ref a0, .int x1] : List Value).toArray s 0 0 A) (F0 m 61 ls []) := by
    intro C31 hC31 v0 v1 v4 v5 S ls H locs hl hG hS h
    unfold J_X6_harmsLeast_61 at h
    refine lv_iload hx hb dX6_harmsLeast_61 (lv_at hl 2 rfl) ?_
    refine lv_istore_n (lv' := [(2, .int v4), (0, .ref v0), (1, .int v1), (4, .int v4), (5, .int v5)]) hx hb dX6_harmsLeast_63 rfl hl (by decide) rfl (fun ls hl => ?_)
    refine lv_iload hx hb dX6_harmsLeast_64 (lv_at hl 4 rfl) ?_
    refine lv_istore_n (lv' := [(3, .int v5), (2, .int v4), (0, .ref v0), (1, .int v1), (4, .int v4), (5, .int v5)]) hx hb dX6_harmsLeast_66 rfl hl (by decide) rfl (fun ls hl => ?_)
    exact j_67 _ hC31 v0 v1 v4 v5 v4 S ls _ _ (lv_sub hl [2, 3, 1, 0, 4] rfl) hG hS h
  have k_31 : ∀  (n : Nat), ∀ (v0 : Nat) (v1 : Int32) (v2 : Int32) (v3 : Int32) (v4 : Int32) (S : Hp) (ls : Array Slot) (H : Heap) (locs : List Loc), lv_has ls 6 [(0, .ref v0), (1, .int v1), (2, .int v2), (3, .int v3), (4, .int v4)] → GG D κ A S H → va_S A s.heap H locs → it (L_X6_harmsLeast_31  Q) n (v0, v1, v2, v3, v4, S) → W p l e ({ frames := 5, cells := 0, slots := 0, locals := 240 } : Room) s m ([.ref a0, .int x1] : List Value).toArray below meth c H locs 0 0 (MQ below (va_Qi Q (BG D κ A) A) ([.ref a0, .int x1] : List Value).toArray s 0 0 A) (F0 m 31 ls []) := by
    intro  n
    induction n with
    | zero => intro v0 v1 v2 v3 v4 S ls H locs hl hG hS h; exact False.elim h
    | succ n hC31 =>
      intro v0 v1 v2 v3 v4 S ls H locs hl hG hS h
      replace h : L_X6_harmsLeast_31  Q (it (L_X6_harmsLeast_31  Q) n) (v0, v1, v2, v3, v4, S) := h
      simp only [L_X6_harmsLeast_31] at h
      refine lv_iload hx hb dX6_harmsLeast_31 (lv_at hl 4 rfl) ?_
      refine lv_aload_n hx hb dX6_harmsLeast_33 rfl (lv_at hl 0 rfl) ?_
      have hk := h.1
      replace h := h.2
      refine gg_get (ci := 6) (C := RX6) (T := TX6) (N := 32) hx hb hts (fun _ h => List.mem_cons_of_mem _ (List.mem_append_right _ (h))) hown hK hG (kc_7 hk) rfl 0 (by decide) (hts (.fieldLink RX6 57 "FourStonesModel" "stones" "I") (List.mem_of_getElem? (i := 1) rfl)) (fun _ h9 => h9) rfl dX6_harmsLeast_34 ?_
      refine lv_icmp_ge (tgt := 73) hx hb dX6_harmsLeast_37 rfl (fun hc => ?_) (fun hc => ?_)
      · replace h := h.1 hc
        refine lv_iload_n hx hb dX6_harmsLeast_73 rfl (lv_at hl 2 rfl) ?_
        exact W.iret hx hb hr (gr_i h hG hK hX hS) hS.2.2 dX6_harmsLeast_74
      · replace h := h.2 hc
        refine lv_aload_n hx hb dX6_harmsLeast_40 rfl (lv_at hl 0 rfl) ?_
        refine lv_iload_n hx hb dX6_harmsLeast_41 rfl (lv_at hl 1 rfl) ?_
        refine lv_iload hx hb dX6_harmsLeast_42 (lv_at hl 4 rfl) ?_
        have hk := h.1
        replace h := h.2
        refine gc_i (va_runV (As := [.int v1, .int v4]) (rest := []) ⟨hx, hb, hml, hown, hts⟩ (c_X6_lostBy l D κ A S v0 v1 v4 _ h) (cwV 2 hts gX6_harmsLeast_X6_lostBy rfl rfl rfl (by decide +kernel) ⟨Nat.le_of_ble_eq_true rfl, Nat.le_of_ble_eq_true rfl⟩) (pg_V (q := (RX6, TX6, 32)) hK hX hG (pg_A hA hS) (kc_7 hk) rfl) rfl rfl hl.1 rfl (lv_room (Nat.le_of_ble_eq_true rfl)) dX6_harmsLeast_44 ⟨Nat.le_of_ble_eq_true rfl, Nat.le_of_ble_eq_true rfl⟩) hS (fun z3 S2 H locs1 h hG hS => ?_)
        refine lv_istore (lv' := [(5, .int z3), (0, .ref v0), (1, .int v1), (2, .int v2), (3, .int v3), (4, .int v4)]) hx hb dX6_harmsLeast_47 hl (by decide) rfl (fun ls hl => ?_)
        refine lv_iload_n hx hb dX6_harmsLeast_49 rfl (lv_at hl 3 rfl) ?_
        refine lv_bipush (v := (-4 : Int32)) hx hb dX6_harmsLeast_50 (by decide) ?_
        refine lv_icmp_eq (tgt := 61) hx hb dX6_harmsLeast_52 rfl (fun hc => ?_) (fun hc => ?_)
        · replace h := h.1 hc
          exact j_61 _ hC31 v0 v1 v4 z3 S2 ls _ _ (lv_sub hl [1, 2, 5, 0] rfl) hG hS h
        · replace h := h.2 hc
          refine lv_iload hx hb dX6_harmsLeast_55 (lv_at hl 0 rfl) ?_
          refine lv_iload_n hx hb dX6_harmsLeast_57 rfl (lv_at hl 4 rfl) ?_
          refine lv_icmp_ge (tgt := 67) hx hb dX6_harmsLeast_58 rfl (fun hc => ?_) (fun hc => ?_)
          · replace h := h.1 hc
            exact j_67 _ hC31 v0 v1 v2 v3 v4 S2 ls _ _ (lv_sub hl [1, 2, 3, 4, 5] rfl) hG hS h
          · replace h := h.2 hc
            exact j_61 _ hC31 v0 v1 v4 z3 S2 ls _ _ (lv_sub hl [1, 2, 5, 0] rfl) hG hS h
  refine lv_iload_n hx hb dX6_harmsLeast_0 rfl (lv_at hl 1 rfl) ?_
  refine gc_i (va_runS (As := [.int x1]) (rest := []) ⟨hx, hb, hml, hown, hts⟩ (c_X6_isShelf l D κ A S x1 _ h) (va_cwS 1 hts gX6_harmsLeast_X6_isShelf rfl rfl rfl (by decide +kernel) ⟨Nat.le_of_ble_eq_true rfl, Nat.le_of_ble_eq_true rfl⟩) (pg_S hK hX hG (pg_A hA hS)) rfl rfl hl.1 rfl (lv_room (Nat.le_of_ble_eq_true rfl)) dX6_harmsLeast_1 ⟨Nat.le_of_ble_eq_true rfl, Nat.le_of_ble_eq_true rfl⟩) hS (fun z3 S2 H locs1 h hG hS => ?_)
  refine lv_if_ne (tgt := 9) hx hb dX6_harmsLeast_4 rfl (fun hc => ?_) (fun hc => ?_)
  · replace h := h.1 hc
    refine lv_aload_n hx hb dX6_harmsLeast_9 rfl (lv_at hl 0 rfl) ?_
    refine lv_iload_n hx hb dX6_harmsLeast_10 rfl (lv_at hl 1 rfl) ?_
    have hk := h.1
    replace h := h.2
    refine gc_i (va_runV (As := [.int x1]) (rest := []) ⟨hx, hb, hml, hown, hts⟩ (c_X6_noScale l D κ A S2 a0 x1 _ h) (cwV 1 hts gX6_harmsLeast_X6_noScale rfl rfl rfl (by decide +kernel) ⟨Nat.le_of_ble_eq_true rfl, Nat.le_of_ble_eq_true rfl⟩) (pg_V (q := (RX6, TX6, 32)) hK hX hG (pg_A hA hS) (kc_7 hk) rfl) rfl rfl hl.1 rfl (lv_room (Nat.le_of_ble_eq_true rfl)) dX6_harmsLeast_11 ⟨Nat.le_of_ble_eq_true rfl, Nat.le_of_ble_eq_true rfl⟩) hS (fun z6 S5 H locs4 h hG hS => ?_)
    refine lv_if_eq (tgt := 23) hx hb dX6_harmsLeast_14 rfl (fun hc => ?_) (fun hc => ?_)
    · replace h := h.1 hc
      refine lv_bipush (v := (-4 : Int32)) hx hb dX6_harmsLeast_23 (by decide) ?_
      refine lv_istore_n (lv' := [(2, .int (-4 : Int32)), (0, .ref a0), (1, .int x1)]) hx hb dX6_harmsLeast_25 rfl hl (by decide) rfl (fun ls hl => ?_)
      refine lv_iconst (v := (0 : Int32)) hx hb dX6_harmsLeast_26 (by decide) ?_
      refine lv_istore_n (lv' := [(3, .int (0 : Int32)), (2, .int (-4 : Int32)), (0, .ref a0), (1, .int x1)]) hx hb dX6_harmsLeast_27 rfl hl (by decide) rfl (fun ls hl => ?_)
      refine lv_iconst (v := (0 : Int32)) hx hb dX6_harmsLeast_28 (by decide) ?_
      refine lv_istore (lv' := [(4, .int (0 : Int32)), (3, .int (0 : Int32)), (2, .int (-4 : Int32)), (0, .ref a0), (1, .int x1)]) hx hb dX6_harmsLeast_29 hl (by decide) rfl (fun ls hl => ?_)
      obtain ⟨nn, h⟩ := h
      exact k_31  nn a0 x1 (-4 : Int32) (0 : Int32) (0 : Int32) S5 ls _ _ (lv_sub hl [3, 4, 2, 1, 0] rfl) hG hS h
    · replace h := h.2 hc
      refine lv_aload_n hx hb dX6_harmsLeast_17 rfl (lv_at hl 0 rfl) ?_
      refine lv_iload_n hx hb dX6_harmsLeast_18 rfl (lv_at hl 1 rfl) ?_
      have hk := h.1
      replace h := h.2
      refine gc_i (va_runV (As := [.int x1]) (rest := []) ⟨hx, hb, hml, hown, hts⟩ (c_X6_noScale l D κ A S5 a0 x1 _ h) (cwV 1 hts gX6_harmsLeast_X6_noScale rfl rfl rfl (by decide +kernel) ⟨Nat.le_of_ble_eq_true rfl, Nat.le_of_ble_eq_true rfl⟩) (pg_V (q := (RX6, TX6, 32)) hK hX hG (pg_A hA hS) (kc_7 hk) rfl) rfl rfl hl.1 rfl (lv_room (Nat.le_of_ble_eq_true rfl)) dX6_harmsLeast_19 ⟨Nat.le_of_ble_eq_true rfl, Nat.le_of_ble_eq_true rfl⟩) hS (fun z9 S8 H locs7 h hG hS => ?_)
      exact W.iret hx hb hr (gr_i h hG hK hX hS) hS.2.2 dX6_harmsLeast_22
  · replace h := h.2 hc
    refine lv_iconst (v := (-1 : Int32)) hx hb dX6_harmsLeast_7 (by decide) ?_
    exact W.iret hx hb hr (gr_i h hG hK hX hS) hS.2.2 dX6_harmsLeast_8
set_option maxHeartbeats 4000000 in
set_option maxRecDepth 100000 in
theorem c_X6_trials (l : Launch) (D : va_G) (κ : Nat → ClassId) (A : Nat → Prop) (S : Hp) (a0 : Nat) (x1 : Int32) (Q : Int32 → Hp → Prop) (h : wp_X6_trials a0 x1 S Q) : Met l yX6_trials wsX6_trials ({ frames := 2, cells := 0, slots := 0, locals := 96 } : Room) (PG D κ A S [.ref a0, .int x1]) (va_Qi Q (BG D κ A) A) 0 0 A := by
  refine Met.ofW (cc := cX6_trials) (maxL := 3) (ret := (some .int)) (by decide) rfl ?_
  intro p e s m args below meth c s₁ B hml hv
  obtain ⟨hargs, hA, hG, hK, hX⟩ := hv
  have hx := B.exec
  have hb := B.bytes
  have hr := B.returns
  have hts := atoms_spec (ws := wsX6_trials) B.pre
  have hown : s.vm.findClass RX6 = some m.cls := findClass_of_methodNamed B.named
  have hlocks := B.notSynchronized
  subst hargs
  clear B
  have hS : va_S A s.heap s.heap [] := va_S.rf
  have hl := lv_entry ([.ref a0, .int x1]) (n := 3) (Nat.le_of_ble_eq_true rfl)
  rw [lg_entry_eq]
  generalize (lg_sl ([.ref a0, .int x1]) ++ List.replicate (3 - (lg_sl ([.ref a0, .int x1])).length) Slot.unset).toArray = ls at hl ⊢
  have hl : lv_has ls 3 [(0, .ref a0), (1, .int x1)] := hl
  have hG : GG D κ A S s.heap := hG
  have k_26 : ∀  (n : Nat), ∀ (v1 : Int32) (v2 : Int32) (S : Hp) (ls : Array Slot) (H : Heap) (locs : List Loc), lv_has ls 3 [(1, .int v1), (2, .int v2)] → GG D κ A S H → va_S A s.heap H locs → it (L_X6_trials_26  Q) n (v1, v2, S) → W p l e ({ frames := 2, cells := 0, slots := 0, locals := 96 } : Room) s m ([.ref a0, .int x1] : List Value).toArray below meth c H locs 0 0 (MQ below (va_Qi Q (BG D κ A) A) ([.ref a0, .int x1] : List Value).toArray s 0 0 A) (F0 m 26 ls []) := by
    intro  n
    induction n with
    | zero => intro v1 v2 S ls H locs hl hG hS h; exact False.elim h
    | succ n hC26 =>
      intro v1 v2 S ls H locs hl hG hS h
      replace h : L_X6_trials_26  Q (it (L_X6_trials_26  Q) n) (v1, v2, S) := h
      simp only [L_X6_trials_26] at h
      refine lv_iload_n hx hb dX6_trials_26 rfl (lv_at hl 1 rfl) ?_
      refine gc_i (va_runS (As := [.int v2]) (rest := []) ⟨hx, hb, hml, hown, hts⟩ (c_X6_power l D κ A S v2 _ h) (va_cwS 1 hts gX6_trials_X6_power rfl rfl rfl (by decide +kernel) ⟨Nat.le_of_ble_eq_true rfl, Nat.le_of_ble_eq_true rfl⟩) (pg_S hK hX hG (pg_A hA hS)) rfl rfl hl.1 rfl (lv_room (Nat.le_of_ble_eq_true rfl)) dX6_trials_27 ⟨Nat.le_of_ble_eq_true rfl, Nat.le_of_ble_eq_true rfl⟩) hS (fun z3 S2 H locs1 h hG hS => ?_)
      refine lv_iload_n hx hb dX6_trials_30 rfl (lv_at hl 0 rfl) ?_
      refine gc_i (va_runS (As := [.int v1]) (rest := [.int z3]) ⟨hx, hb, hml, hown, hts⟩ (c_X6_bits l D κ A S2 v1 _ h) (va_cwS 1 hts gX6_trials_X6_bits rfl rfl rfl (by decide +kernel) ⟨Nat.le_of_ble_eq_true rfl, Nat.le_of_ble_eq_true rfl⟩) (pg_S hK hX hG (pg_A hA hS)) rfl rfl hl.1 rfl (lv_room (Nat.le_of_ble_eq_true rfl)) dX6_trials_31 ⟨Nat.le_of_ble_eq_true rfl, Nat.le_of_ble_eq_true rfl⟩) hS (fun z6 S5 H locs4 h hG hS => ?_)
      refine lv_icmp_ge (tgt := 43) hx hb dX6_trials_34 rfl (fun hc => ?_) (fun hc => ?_)
      · replace h := h.1 hc
        refine lv_iload_n hx hb dX6_trials_43 rfl (lv_at hl 1 rfl) ?_
        exact W.iret hx hb hr (gr_i h hG hK hX hS) hS.2.2 dX6_trials_44
      · replace h := h.2 hc
        obtain ⟨y7, ey7⟩ : ∃ z, z = v2 + (1 : Int32) := ⟨_, rfl⟩
        replace h := h y7 ey7
        refine lv_iinc (v := y7) (lv' := [(2, .int y7), (1, .int v1)]) hx hb dX6_trials_37 hl (k := 1) rfl (by rw [ey7]; rfl) (by decide) rfl (fun ls hl => ?_)
        refine lv_goto (tgt := 26) hx hb dX6_trials_40 rfl ?_
        exact hC26 v1 y7 S5 ls _ _ (lv_sub hl [1, 0] rfl) hG hS h
  refine lv_iload_n hx hb dX6_trials_0 rfl (lv_at hl 1 rfl) ?_
  refine lv_if_lt (tgt := 22) hx hb dX6_trials_1 rfl (fun hc => ?_) (fun hc => ?_)
  · replace h := h.1 hc
    refine lv_iconst (v := (-1 : Int32)) hx hb dX6_trials_22 (by decide) ?_
    exact W.iret hx hb hr (gr_i h hG hK hX hS) hS.2.2 dX6_trials_23
  · replace h := h.2 hc
    refine lv_iload_n hx hb dX6_trials_4 rfl (lv_at hl 1 rfl) ?_
    refine lv_iconst (v := (1 : Int32)) hx hb dX6_trials_5 (by decide) ?_
    refine lv_aload_n hx hb dX6_trials_6 rfl (lv_at hl 0 rfl) ?_
    have hk := h.1
    replace h := h.2
    refine gg_get (ci := 6) (C := RX6) (T := TX6) (N := 32) hx hb hts (fun _ h => List.mem_cons_of_mem _ (List.mem_append_right _ (h))) hown hK hG (kc_7 hk) rfl 0 (by decide) (hts (.fieldLink RX6 57 "FourStonesModel" "stones" "I") (List.mem_of_getElem? (i := 1) rfl)) (fun _ h9 => h9) rfl dX6_trials_7 ?_
    refine lv_ishl hx hb dX6_trials_10 ?_
    refine lv_icmp_ge (tgt := 22) hx hb dX6_trials_11 rfl (fun hc => ?_) (fun hc => ?_)
    · replace h := h.1 hc
      refine lv_iconst (v := (-1 : Int32)) hx hb dX6_trials_22 (by decide) ?_
      exact W.iret hx hb hr (gr_i h hG hK hX hS) hS.2.2 dX6_trials_23
    · replace h := h.2 hc
      refine lv_iload_n hx hb dX6_trials_14 rfl (lv_at hl 1 rfl) ?_
      refine gc_i (va_runS (As := [.int x1]) (rest := []) ⟨hx, hb, hml, hown, hts⟩ (c_X6_bits l D κ A S x1 _ h) (va_cwS 1 hts gX6_trials_X6_bits rfl rfl rfl (by decide +kernel) ⟨Nat.le_of_ble_eq_true rfl, Nat.le_of_ble_eq_true rfl⟩) (pg_S hK hX hG (pg_A hA hS)) rfl rfl hl.1 rfl (lv_room (Nat.le_of_ble_eq_true rfl)) dX6_trials_15 ⟨Nat.le_of_ble_eq_true rfl, Nat.le_of_ble_eq_true rfl⟩) hS (fun z3 S2 H locs1 h hG hS => ?_)
      refine lv_iconst (v := (2 : Int32)) hx hb dX6_trials_18 (by decide) ?_
      refine lv_icmp_ge (tgt := 24) hx hb dX6_trials_19 rfl (fun hc => ?_) (fun hc => ?_)
      · replace h := h.1 hc
        refine lv_iconst (v := (1 : Int32)) hx hb dX6_trials_24 (by decide) ?_
        refine lv_istore_n (lv' := [(2, .int (1 : Int32)), (0, .ref a0), (1, .int x1)]) hx hb dX6_trials_25 rfl hl (by decide) rfl (fun ls hl => ?_)
        obtain ⟨nn, h⟩ := h
        exact k_26  nn x1 (1 : Int32) S2 ls _ _ (lv_sub hl [2, 0] rfl) hG hS h
      · replace h := h.2 hc
        refine lv_iconst (v := (-1 : Int32)) hx hb dX6_trials_22 (by decide) ?_
        exact W.iret hx hb hr (gr_i h hG hK hX hS) hS.2.2 dX6_trials_23
set_option maxHeartbeats 4000000 in
set_option maxRecDepth 100000 in
theorem c_X6_found (l : Launch) (D : va_G) (κ : Nat → ClassId) (A : Nat → Prop) (S : Hp) (a0 : Nat) (x1 : Int32) (Q : Int32 → Hp → Prop) (h : wp_X6_found a0 x1 S Q) : Met l yX6_found wsX6_found ({ frames := 3, cells := 0, slots := 0, locals := 144 } : Room) (PG D κ A S [.ref a0, .int x1]) (va_Qi Q (BG D κ A) A) 0 0 A := by
  refine Met.ofW (cc := cX6_found) (maxL := 7) (ret := (some .int)) (by decide) rfl ?_
  intro p e s m args below meth c s₁ B hml hv
  obtain ⟨hargs, hA, hG, hK, hX⟩ := hv
  have hx := B.exec
  have hb := B.bytes
  have hr := B.returns
  have hts := atoms_spec (ws := wsX6_found) B.pre
  have hown : s.vm.findClass RX6 = some m.cls := findClass_of_methodNamed B.named
  have hlocks := B.notSynchronized
  subst hargs
  clear B
  have hS : va_S A s.heap s.heap [] := va_S.rf
  have hl := lv_entry ([.ref a0, .int x1]) (n := 7) (Nat.le_of_ble_eq_true rfl)
  rw [lg_entry_eq]
  generalize (lg_sl ([.ref a0, .int x1]) ++ List.replicate (7 - (lg_sl ([.ref a0, .int x1])).length) Slot.unset).toArray = ls at hl ⊢
  have hl : lv_has ls 7 [(0, .ref a0), (1, .int x1)] := hl
  have hG : GG D κ A S s.heap := hG
  have j_124 : ∀ (C62 : Nat × Int32 × Int32 × Int32 × Hp → Prop) (hC62 : ∀ (v0 : Nat) (v1 : Int32) (v2 : Int32) (v3 : Int32) (S : Hp) (ls : Array Slot) (H : Heap) (locs : List Loc), lv_has ls 7 [(0, .ref v0), (1, .int v1), (2, .int v2), (3, .int v3)] → GG D κ A S H → va_S A s.heap H locs → C62 (v0, v1, v2, v3, S) → W p l e ({ frames := 3, cells := 0, slots := 0, locals := 144 } : Room) s m ([.ref a0, .int x1] : List Value).toArray below meth c H locs 0 0 (MQ below (va_Qi Q (BG D κ A) A) ([.ref a0, .int x1] : List Value).toArray s 0 0 A) (F0 m 62 ls [])) (v0 : Nat) (v1 : Int32) (v3 : Int32) (w0 : Int32) (S : Hp) (ls : Array Slot) (H : Heap) (locs : List Loc), lv_has ls 7 [(0, .ref v0), (1, .int v1), (3, .int v3)] → GG D κ A S H → va_S A s.heap H locs → J_X6_found_124 C62 Q v0 v1 v3 w0 S → W p l e ({ frames := 3, cells := 0, slots := 0, locals := 144 } : Room) s m ([.ref a0, .int x1] : List Value).toArray below meth c H locs 0 0 (MQ below (va_Qi Q (BG D κ A) A) ([.ref a0, .int x1] : List Value).toArray s 0 0 A) (F0 m 124 ls [.int w0]) := by
    intro C62 hC62 v0 v1 v3 w0 S ls H locs hl hG hS h
    unfold J_X6_found_124 at h
    refine lv_istore_n (lv' := [(2, .int w0), (0, .ref v0), (1, .int v1), (3, .int v3)]) hx hb dX6_found_124 rfl hl (by decide) rfl (fun ls hl => ?_)
    obtain ⟨y1, ey1⟩ : ∃ z, z = v3 + (2 : Int32) := ⟨_, rfl⟩
    replace h := h y1 ey1
    refine lv_iinc (v := y1) (lv' := [(3, .int y1), (2, .int w0), (0, .ref v0), (1, .int v1)]) hx hb dX6_found_125 hl (k := 3) rfl (by rw [ey1]; rfl) (by decide) rfl (fun ls hl => ?_)
    refine lv_goto (tgt := 62) hx hb dX6_found_128 rfl ?_
    exact hC62 v0 v1 w0 y1 S ls _ _ (lv_sub hl [2, 3, 1, 0] rfl) hG hS h
  have j_123 : ∀ (C62 : Nat × Int32 × Int32 × Int32 × Hp → Prop) (hC62 : ∀ (v0 : Nat) (v1 : Int32) (v2 : Int32) (v3 : Int32) (S : Hp) (ls : Array Slot) (H : Heap) (locs : List Loc), lv_has ls 7 [(0, .ref v0), (1, .int v1), (2, .int v2), (3, .int v3)] → GG D κ A S H → va_S A s.heap H locs → C62 (v0, v1, v2, v3, S) → W p l e ({ frames := 3, cells := 0, slots := 0, locals := 144 } : Room) s m ([.ref a0, .int x1] : List Value).toArray below meth c H locs 0 0 (MQ below (va_Qi Q (BG D κ A) A) ([.ref a0, .int x1] : List Value).toArray s 0 0 A) (F0 m 62 ls [])) (v0 : Nat) (v1 : Int32) (v3 : Int32) (S : Hp) (ls : Array Slot) (H : Heap) (locs : List Loc), lv_has ls 7 [(0, .ref v0), (1, .int v1), (3, .int v3)] → GG D κ A S H → va_S A s.heap H locs → J_X6_found_123 C62 Q v0 v1 v3 S → W p l e ({ frames := 3, cells := 0, slots := 0, locals := 144 } : Room) s m ([.ref a0, .int x1] : List Value).toArray below meth c H locs 0 0 (MQ below (va_Qi Q (BG D κ A) A) ([.ref a0, .int x1] : List Value).toArray s 0 0 A) (F0 m 123 ls []) := by
    intro C62 hC62 v0 v1 v3 S ls H locs hl hG hS h
    unfold J_X6_found_123 at h
    refine lv_iconst (v := (0 : Int32)) hx hb dX6_found_123 (by decide) ?_
    exact j_124 _ hC62 v0 v1 v3 (0 : Int32) S ls _ _ (lv_sub hl [0, 1, 2] rfl) hG hS h
  have j_213 : ∀ (C143 : Nat × Int32 × Int32 × Int32 × Hp → Prop) (hC143 : ∀ (v0 : Nat) (v1 : Int32) (v3 : Int32) (v4 : Int32) (S : Hp) (ls : Array Slot) (H : Heap) (locs : List Loc), lv_has ls 7 [(0, .ref v0), (1, .int v1), (3, .int v3), (4, .int v4)] → GG D κ A S H → va_S A s.heap H locs → C143 (v0, v1, v3, v4, S) → W p l e ({ frames := 3, cells := 0, slots := 0, locals := 144 } : Room) s m ([.ref a0, .int x1] : List Value).toArray below meth c H locs 0 0 (MQ below (va_Qi Q (BG D κ A) A) ([.ref a0, .int x1] : List Value).toArray s 0 0 A) (F0 m 143 ls [])) (C155 : Nat × Int32 × Int32 × Int32 × Int32 × Int32 × Hp → Prop) (hC155 : ∀ (v0 : Nat) (v1 : Int32) (v3 : Int32) (v4 : Int32) (v5 : Int32) (v6 : Int32) (S : Hp) (ls : Array Slot) (H : Heap) (locs : List Loc), lv_has ls 7 [(0, .ref v0), (1, .int v1), (3, .int v3), (4, .int v4), (5, .int v5), (6, .int v6)] → GG D κ A S H → va_S A s.heap H locs → C155 (v0, v1, v3, v4, v5, v6, S) → W p l e ({ frames := 3, cells := 0, slots := 0, locals := 144 } : Room) s m ([.ref a0, .int x1] : List Value).toArray below meth c H locs 0 0 (MQ below (va_Qi Q (BG D κ A) A) ([.ref a0, .int x1] : List Value).toArray s 0 0 A) (F0 m 155 ls [])) (v0 : Nat) (v1 : Int32) (v3 : Int32) (v4 : Int32) (v6 : Int32) (w0 : Int32) (S : Hp) (ls : Array Slot) (H : Heap) (locs : List Loc), lv_has ls 7 [(0, .ref v0), (1, .int v1), (3, .int v3), (4, .int v4), (6, .int v6)] → GG D κ A S H → va_S A s.heap H locs → J_X6_found_213 C143 C155 Q v0 v1 v3 v4 v6 w0 S → W p l e ({ frames := 3, cells := 0, slots := 0, locals := 144 } : Room) s m ([.ref a0, .int x1] : List Value).toArray below meth c H locs 0 0 (MQ below (va_Qi Q (BG D κ A) A) ([.ref a0, .int x1] : List Value).toArray s 0 0 A) (F0 m 213 ls [.int w0]) := by
    intro C143 hC143 C155 hC155 v0 v1 v3 v4 v6 w0 S ls H locs hl hG hS h
    unfold J_X6_found_213 at h
    refine lv_istore (lv' := [(5, .int w0), (0, .ref v0), (1, .int v1), (3, .int v3), (4, .int v4), (6, .int v6)]) hx hb dX6_found_213 hl (by decide) rfl (fun ls hl => ?_)
    obtain ⟨y1, ey1⟩ : ∃ z, z = v6 + (2 : Int32) := ⟨_, rfl⟩
    replace h := h y1 ey1
    refine lv_iinc (v := y1) (lv' := [(6, .int y1), (5, .int w0), (0, .ref v0), (1, .int v1), (3, .int v3), (4, .int v4)]) hx hb dX6_found_215 hl (k := 5) rfl (by rw [ey1]; rfl) (by decide) rfl (fun ls hl => ?_)
    refine lv_goto (tgt := 155) hx hb dX6_found_218 rfl ?_
    exact hC155 v0 v1 v3 v4 w0 y1 S ls _ _ (lv_sub hl [2, 3, 4, 5, 1, 0] rfl) hG hS h
  have j_212 : ∀ (C143 : Nat × Int32 × Int32 × Int32 × Hp → Prop) (hC143 : ∀ (v0 : Nat) (v1 : Int32) (v3 : Int32) (v4 : Int32) (S : Hp) (ls : Array Slot) (H : Heap) (locs : List Loc), lv_has ls 7 [(0, .ref v0), (1, .int v1), (3, .int v3), (4, .int v4)] → GG D κ A S H → va_S A s.heap H locs → C143 (v0, v1, v3, v4, S) → W p l e ({ frames := 3, cells := 0, slots := 0, locals := 144 } : Room) s m ([.ref a0, .int x1] : List Value).toArray below meth c H locs 0 0 (MQ below (va_Qi Q (BG D κ A) A) ([.ref a0, .int x1] : List Value).toArray s 0 0 A) (F0 m 143 ls [])) (C155 : Nat × Int32 × Int32 × Int32 × Int32 × Int32 × Hp → Prop) (hC155 : ∀ (v0 : Nat) (v1 : Int32) (v3 : Int32) (v4 : Int32) (v5 : Int32) (v6 : Int32) (S : Hp) (ls : Array Slot) (H : Heap) (locs : List Loc), lv_has ls 7 [(0, .ref v0), (1, .int v1), (3, .int v3), (4, .int v4), (5, .int v5), (6, .int v6)] → GG D κ A S H → va_S A s.heap H locs → C155 (v0, v1, v3, v4, v5, v6, S) → W p l e ({ frames := 3, cells := 0, slots := 0, locals := 144 } : Room) s m ([.ref a0, .int x1] : List Value).toArray below meth c H locs 0 0 (MQ below (va_Qi Q (BG D κ A) A) ([.ref a0, .int x1] : List Value).toArray s 0 0 A) (F0 m 155 ls [])) (v0 : Nat) (v1 : Int32) (v3 : Int32) (v4 : Int32) (v6 : Int32) (S : Hp) (ls : Array Slot) (H : Heap) (locs : List Loc), lv_has ls 7 [(0, .ref v0), (1, .int v1), (3, .int v3), (4, .int v4), (6, .int v6)] → GG D κ A S H → va_S A s.heap H locs → J_X6_found_212 C143 C155 Q v0 v1 v3 v4 v6 S → W p l e ({ frames := 3, cells := 0, slots := 0, locals := 144 } : Room) s m ([.ref a0, .int x1] : List Value).toArray below meth c H locs 0 0 (MQ below (va_Qi Q (BG D κ A) A) ([.ref a0, .int x1] : List Value).toArray s 0 0 A) (F0 m 212 ls []) := by
    intro C143 hC143 C155 hC155 v0 v1 v3 v4 v6 S ls H locs hl hG hS h
    unfold J_X6_found_212 at h
    refine lv_iconst (v := (0 : Int32)) hx hb dX6_found_212 (by decide) ?_
    exact j_213 _ hC143 _ hC155 v0 v1 v3 v4 v6 (0 : Int32) S ls _ _ (lv_sub hl [0, 1, 2, 3, 4] rfl) hG hS h
  have j_235 : ∀ (C143 : Nat × Int32 × Int32 × Int32 × Hp → Prop) (hC143 : ∀ (v0 : Nat) (v1 : Int32) (v3 : Int32) (v4 : Int32) (S : Hp) (ls : Array Slot) (H : Heap) (locs : List Loc), lv_has ls 7 [(0, .ref v0), (1, .int v1), (3, .int v3), (4, .int v4)] → GG D κ A S H → va_S A s.heap H locs → C143 (v0, v1, v3, v4, S) → W p l e ({ frames := 3, cells := 0, slots := 0, locals := 144 } : Room) s m ([.ref a0, .int x1] : List Value).toArray below meth c H locs 0 0 (MQ below (va_Qi Q (BG D κ A) A) ([.ref a0, .int x1] : List Value).toArray s 0 0 A) (F0 m 143 ls [])) (v0 : Nat) (v1 : Int32) (v4 : Int32) (w0 : Int32) (w1 : Int32) (S : Hp) (ls : Array Slot) (H : Heap) (locs : List Loc), lv_has ls 7 [(0, .ref v0), (1, .int v1), (4, .int v4)] → GG D κ A S H → va_S A s.heap H locs → J_X6_found_235 C143 Q v0 v1 v4 w0 w1 S → W p l e ({ frames := 3, cells := 0, slots := 0, locals := 144 } : Room) s m ([.ref a0, .int x1] : List Value).toArray below meth c H locs 0 0 (MQ below (va_Qi Q (BG D κ A) A) ([.ref a0, .int x1] : List Value).toArray s 0 0 A) (F0 m 235 ls [.int w1, .int w0]) := by
    intro C143 hC143 v0 v1 v4 w0 w1 S ls H locs hl hG hS h
    unfold J_X6_found_235 at h
    refine lv_ior hx hb dX6_found_235 ?_
    refine lv_topi (fun y1 ey1 => ?_)
    replace h := h y1 ey1
    refine lv_istore_n (lv' := [(3, .int y1), (0, .ref v0), (1, .int v1), (4, .int v4)]) hx hb dX6_found_236 rfl hl (by decide) rfl (fun ls hl => ?_)
    obtain ⟨y2, ey2⟩ : ∃ z, z = v4 + (1 : Int32) := ⟨_, rfl⟩
    replace h := h y2 ey2
    refine lv_iinc (v := y2) (lv' := [(4, .int y2), (3, .int y1), (0, .ref v0), (1, .int v1)]) hx hb dX6_found_237 hl (k := 3) rfl (by rw [ey2]; rfl) (by decide) rfl (fun ls hl => ?_)
    refine lv_goto (tgt := 143) hx hb dX6_found_240 rfl ?_
    exact hC143 v0 v1 y1 y2 S ls _ _ (lv_sub hl [2, 3, 1, 0] rfl) hG hS h
  have k_155 : ∀ (C143 : Nat × Int32 × Int32 × Int32 × Hp → Prop) (hC143 : ∀ (v0 : Nat) (v1 : Int32) (v3 : Int32) (v4 : Int32) (S : Hp) (ls : Array Slot) (H : Heap) (locs : List Loc), lv_has ls 7 [(0, .ref v0), (1, .int v1), (3, .int v3), (4, .int v4)] → GG D κ A S H → va_S A s.heap H locs → C143 (v0, v1, v3, v4, S) → W p l e ({ frames := 3, cells := 0, slots := 0, locals := 144 } : Room) s m ([.ref a0, .int x1] : List Value).toArray below meth c H locs 0 0 (MQ below (va_Qi Q (BG D κ A) A) ([.ref a0, .int x1] : List Value).toArray s 0 0 A) (F0 m 143 ls [])) (n : Nat), ∀ (v0 : Nat) (v1 : Int32) (v3 : Int32) (v4 : Int32) (v5 : Int32) (v6 : Int32) (S : Hp) (ls : Array Slot) (H : Heap) (locs : List Loc), lv_has ls 7 [(0, .ref v0), (1, .int v1), (3, .int v3), (4, .int v4), (5, .int v5), (6, .int v6)] → GG D κ A S H → va_S A s.heap H locs → it (L_X6_found_155 C143 Q) n (v0, v1, v3, v4, v5, v6, S) → W p l e ({ frames := 3, cells := 0, slots := 0, locals := 144 } : Room) s m ([.ref a0, .int x1] : List Value).toArray below meth c H locs 0 0 (MQ below (va_Qi Q (BG D κ A) A) ([.ref a0, .int x1] : List Value).toArray s 0 0 A) (F0 m 155 ls []) := by
    intro C143 hC143 n
    induction n with
    | zero => intro v0 v1 v3 v4 v5 v6 S ls H locs hl hG hS h; exact False.elim h
    | succ n hC155 =>
      intro v0 v1 v3 v4 v5 v6 S ls H locs hl hG hS h
      replace h : L_X6_found_155 C143 Q (it (L_X6_found_155 C143 Q) n) (v0, v1, v3, v4, v5, v6, S) := h
      simp only [L_X6_found_155] at h
      refine lv_iload hx hb dX6_found_155 (lv_at hl 5 rfl) ?_
      refine lv_aload_n hx hb dX6_found_157 rfl (lv_at hl 0 rfl) ?_
      have hk := h.1
      replace h := h.2
      obtain ⟨r1, hr1, h⟩ := h
      refine gg_get (v := .ref r1) (ci := 6) (C := RX6) (T := TX6) (N := 32) hx hb hts (fun _ h => List.mem_cons_of_mem _ (List.mem_append_right _ (h))) hown hK hG (kc_7 hk) rfl 28 (by decide) (hts (.fieldLink RX6 44 "FourStonesModel" "size" "[I") (List.mem_of_getElem? (i := 3) rfl)) (fun _ h9 => h9) (congrArg (fun z => some (va_rf z)) hr1) dX6_found_158 ?_
      refine lv_iload_n hx hb dX6_found_161 rfl (lv_at hl 1 rfl) ?_
      have hk := h.1
      replace h := h.2
      have hi := h.1
      replace h := h.2
      refine gg_iald hx hb hK hG hk hi dX6_found_162 ?_
      refine lv_icmp_ge (tgt := 221) hx hb dX6_found_163 rfl (fun hc => ?_) (fun hc => ?_)
      · replace h := h.1 hc
        refine lv_iload_n hx hb dX6_found_221 rfl (lv_at hl 2 rfl) ?_
        refine lv_iload hx hb dX6_found_222 (lv_at hl 4 rfl) ?_
        refine lv_if_eq (tgt := 234) hx hb dX6_found_224 rfl (fun hc => ?_) (fun hc => ?_)
        · replace h := h.1 hc
          refine lv_iconst (v := (0 : Int32)) hx hb dX6_found_234 (by decide) ?_
          exact j_235 _ hC143 v0 v1 v4 v3 (0 : Int32) S ls _ _ (lv_sub hl [0, 1, 3] rfl) hG hS h
        · replace h := h.2 hc
          refine lv_iconst (v := (1 : Int32)) hx hb dX6_found_227 (by decide) ?_
          refine lv_iload hx hb dX6_found_228 (lv_at hl 3 rfl) ?_
          refine lv_ishl hx hb dX6_found_230 ?_
          refine lv_goto (tgt := 235) hx hb dX6_found_231 rfl ?_
          exact j_235 _ hC143 v0 v1 v4 v3 ((1 : Int32) <<< (v4 &&& 31)) S ls _ _ (lv_sub hl [0, 1, 3] rfl) hG hS h
      · replace h := h.2 hc
        refine lv_iload hx hb dX6_found_166 (lv_at hl 4 rfl) ?_
        refine lv_if_eq (tgt := 212) hx hb dX6_found_168 rfl (fun hc => ?_) (fun hc => ?_)
        · replace h := h.1 hc
          exact j_212 _ hC143 _ hC155 v0 v1 v3 v4 v6 S ls _ _ (lv_sub hl [0, 1, 2, 3, 5] rfl) hG hS h
        · replace h := h.2 hc
          refine lv_aload_n hx hb dX6_found_171 rfl (lv_at hl 0 rfl) ?_
          have hk := h.1
          replace h := h.2
          obtain ⟨r2, hr2, h⟩ := h
          refine gg_get (v := .ref r2) (ci := 6) (C := RX6) (T := TX6) (N := 32) hx hb hts (fun _ h => List.mem_cons_of_mem _ (List.mem_append_right _ (h))) hown hK hG (kc_7 hk) rfl 29 (by decide) (hts (.fieldLink RX6 47 "FourStonesModel" "items" "[I") (List.mem_of_getElem? (i := 4) rfl)) (fun _ h9 => h9) (congrArg (fun z => some (va_rf z)) hr2) dX6_found_172 ?_
          refine lv_bipush (v := (100 : Int32)) hx hb dX6_found_175 (by decide) ?_
          refine lv_iload_n hx hb dX6_found_177 rfl (lv_at hl 1 rfl) ?_
          refine lv_imul hx hb dX6_found_178 ?_
          refine lv_iload hx hb dX6_found_179 (lv_at hl 5 rfl) ?_
          refine lv_iadd hx hb dX6_found_181 ?_
          have hk := h.1
          replace h := h.2
          have hi := h.1
          replace h := h.2
          refine gg_iald hx hb hK hG hk hi dX6_found_182 ?_
          refine lv_iload hx hb dX6_found_183 (lv_at hl 3 rfl) ?_
          refine gc_i (va_runS (As := [.int v4]) (rest := [.int (gA S r2 ((((100 : Int32) * v1) + v6)).toNatClampNeg)]) ⟨hx, hb, hml, hown, hts⟩ (c_X6_power l D κ A S v4 _ h) (va_cwS 1 hts gX6_found_X6_power rfl rfl rfl (by decide +kernel) ⟨Nat.le_of_ble_eq_true rfl, Nat.le_of_ble_eq_true rfl⟩) (pg_S hK hX hG (pg_A hA hS)) rfl rfl hl.1 rfl (lv_room (Nat.le_of_ble_eq_true rfl)) dX6_found_185 ⟨Nat.le_of_ble_eq_true rfl, Nat.le_of_ble_eq_true rfl⟩) hS (fun z5 S4 H locs3 h hG hS => ?_)
          have hne := h.1
          replace h := h.2
          refine lv_idiv hx hb dX6_found_188 hne ?_
          refine lv_iconst (v := (3 : Int32)) hx hb dX6_found_189 (by decide) ?_
          refine lv_irem hx hb dX6_found_190 (by decide) ?_
          refine lv_aload_n hx hb dX6_found_191 rfl (lv_at hl 0 rfl) ?_
          have hk := h.1
          replace h := h.2
          obtain ⟨r6, hr6, h⟩ := h
          refine gg_get (v := .ref r6) (ci := 6) (C := RX6) (T := TX6) (N := 32) hx hb hts (fun _ h => List.mem_cons_of_mem _ (List.mem_append_right _ (h))) hown hK hG (kc_7 hk) rfl 29 (by decide) (hts (.fieldLink RX6 47 "FourStonesModel" "items" "[I") (List.mem_of_getElem? (i := 4) rfl)) (fun _ h9 => h9) (congrArg (fun z => some (va_rf z)) hr6) dX6_found_192 ?_
          refine lv_bipush (v := (100 : Int32)) hx hb dX6_found_195 (by decide) ?_
          refine lv_iload_n hx hb dX6_found_197 rfl (lv_at hl 1 rfl) ?_
          refine lv_imul hx hb dX6_found_198 ?_
          refine lv_iload hx hb dX6_found_199 (lv_at hl 5 rfl) ?_
          refine lv_iadd hx hb dX6_found_201 ?_
          refine lv_iconst (v := (1 : Int32)) hx hb dX6_found_202 (by decide) ?_
          refine lv_iadd hx hb dX6_found_203 ?_
          have hk := h.1
          replace h := h.2
          have hi := h.1
          replace h := h.2
          refine gg_iald hx hb hK hG hk hi dX6_found_204 ?_
          refine lv_icmp_ne (tgt := 212) hx hb dX6_found_205 rfl (fun hc => ?_) (fun hc => ?_)
          · replace h := h.1 hc
            exact j_212 _ hC143 _ hC155 v0 v1 v3 v4 v6 S4 ls _ _ (lv_sub hl [0, 1, 2, 3, 5] rfl) hG hS h
          · replace h := h.2 hc
            refine lv_iconst (v := (1 : Int32)) hx hb dX6_found_208 (by decide) ?_
            refine lv_goto (tgt := 213) hx hb dX6_found_209 rfl ?_
            exact j_213 _ hC143 _ hC155 v0 v1 v3 v4 v6 (1 : Int32) S4 ls _ _ (lv_sub hl [0, 1, 2, 3, 5] rfl) hG hS h
  have k_143 : ∀  (n : Nat), ∀ (v0 : Nat) (v1 : Int32) (v3 : Int32) (v4 : Int32) (S : Hp) (ls : Array Slot) (H : Heap) (locs : List Loc), lv_has ls 7 [(0, .ref v0), (1, .int v1), (3, .int v3), (4, .int v4)] → GG D κ A S H → va_S A s.heap H locs → it (L_X6_found_143  Q) n (v0, v1, v3, v4, S) → W p l e ({ frames := 3, cells := 0, slots := 0, locals := 144 } : Room) s m ([.ref a0, .int x1] : List Value).toArray below meth c H locs 0 0 (MQ below (va_Qi Q (BG D κ A) A) ([.ref a0, .int x1] : List Value).toArray s 0 0 A) (F0 m 143 ls []) := by
    intro  n
    induction n with
    | zero => intro v0 v1 v3 v4 S ls H locs hl hG hS h; exact False.elim h
    | succ n hC143 =>
      intro v0 v1 v3 v4 S ls H locs hl hG hS h
      replace h : L_X6_found_143  Q (it (L_X6_found_143  Q) n) (v0, v1, v3, v4, S) := h
      simp only [L_X6_found_143] at h
      refine lv_iload hx hb dX6_found_143 (lv_at hl 3 rfl) ?_
      refine lv_iconst (v := (4 : Int32)) hx hb dX6_found_145 (by decide) ?_
      refine lv_icmp_ge (tgt := 243) hx hb dX6_found_146 rfl (fun hc => ?_) (fun hc => ?_)
      · replace h := h.1 hc
        refine lv_iload_n hx hb dX6_found_243 rfl (lv_at hl 2 rfl) ?_
        exact W.iret hx hb hr (gr_i h hG hK hX hS) hS.2.2 dX6_found_244
      · replace h := h.2 hc
        refine lv_iconst (v := (1 : Int32)) hx hb dX6_found_149 (by decide) ?_
        refine lv_istore (lv' := [(5, .int (1 : Int32)), (0, .ref v0), (1, .int v1), (3, .int v3), (4, .int v4)]) hx hb dX6_found_150 hl (by decide) rfl (fun ls hl => ?_)
        refine lv_iconst (v := (0 : Int32)) hx hb dX6_found_152 (by decide) ?_
        refine lv_istore (lv' := [(6, .int (0 : Int32)), (5, .int (1 : Int32)), (0, .ref v0), (1, .int v1), (3, .int v3), (4, .int v4)]) hx hb dX6_found_153 hl (by decide) rfl (fun ls hl => ?_)
        obtain ⟨nn, h⟩ := h
        exact k_155 _ hC143 nn v0 v1 v3 v4 (1 : Int32) (0 : Int32) S ls _ _ (lv_sub hl [2, 3, 4, 5, 1, 0] rfl) hG hS h
  have j_131 : ∀  (v0 : Nat) (v1 : Int32) (v2 : Int32) (S : Hp) (ls : Array Slot) (H : Heap) (locs : List Loc), lv_has ls 7 [(0, .ref v0), (1, .int v1), (2, .int v2)] → GG D κ A S H → va_S A s.heap H locs → J_X6_found_131  Q v0 v1 v2 S → W p l e ({ frames := 3, cells := 0, slots := 0, locals := 144 } : Room) s m ([.ref a0, .int x1] : List Value).toArray below meth c H locs 0 0 (MQ below (va_Qi Q (BG D κ A) A) ([.ref a0, .int x1] : List Value).toArray s 0 0 A) (F0 m 131 ls []) := by
    intro  v0 v1 v2 S ls H locs hl hG hS h
    unfold J_X6_found_131 at h
    refine lv_iload_n hx hb dX6_found_131 rfl (lv_at hl 2 rfl) ?_
    refine lv_if_ne (tgt := 138) hx hb dX6_found_132 rfl (fun hc => ?_) (fun hc => ?_)
    · replace h := h.1 hc
      refine lv_iconst (v := (0 : Int32)) hx hb dX6_found_138 (by decide) ?_
      refine lv_istore_n (lv' := [(3, .int (0 : Int32)), (0, .ref v0), (1, .int v1), (2, .int v2)]) hx hb dX6_found_139 rfl hl (by decide) rfl (fun ls hl => ?_)
      refine lv_iconst (v := (0 : Int32)) hx hb dX6_found_140 (by decide) ?_
      refine lv_istore (lv' := [(4, .int (0 : Int32)), (3, .int (0 : Int32)), (0, .ref v0), (1, .int v1), (2, .int v2)]) hx hb dX6_found_141 hl (by decide) rfl (fun ls hl => ?_)
      obtain ⟨nn, h⟩ := h
      exact k_143  nn v0 v1 (0 : Int32) (0 : Int32) S ls _ _ (lv_sub hl [2, 3, 1, 0] rfl) hG hS h
    · replace h := h.2 hc
      refine lv_bipush (v := (-13 : Int32)) hx hb dX6_found_135 (by decide) ?_
      exact W.iret hx hb hr (gr_i h hG hK hX hS) hS.2.2 dX6_found_137
  have k_62 : ∀  (n : Nat), ∀ (v0 : Nat) (v1 : Int32) (v2 : Int32) (v3 : Int32) (S : Hp) (ls : Array Slot) (H : Heap) (locs : List Loc), lv_has ls 7 [(0, .ref v0), (1, .int v1), (2, .int v2), (3, .int v3)] → GG D κ A S H → va_S A s.heap H locs → it (L_X6_found_62  Q) n (v0, v1, v2, v3, S) → W p l e ({ frames := 3, cells := 0, slots := 0, locals := 144 } : Room) s m ([.ref a0, .int x1] : List Value).toArray below meth c H locs 0 0 (MQ below (va_Qi Q (BG D κ A) A) ([.ref a0, .int x1] : List Value).toArray s 0 0 A) (F0 m 62 ls []) := by
    intro  n
    induction n with
    | zero => intro v0 v1 v2 v3 S ls H locs hl hG hS h; exact False.elim h
    | succ n hC62 =>
      intro v0 v1 v2 v3 S ls H locs hl hG hS h
      replace h : L_X6_found_62  Q (it (L_X6_found_62  Q) n) (v0, v1, v2, v3, S) := h
      simp only [L_X6_found_62] at h
      refine lv_iload_n hx hb dX6_found_62 rfl (lv_at hl 3 rfl) ?_
      refine lv_iconst (v := (1 : Int32)) hx hb dX6_found_63 (by decide) ?_
      refine lv_iadd hx hb dX6_found_64 ?_
      refine lv_aload_n hx hb dX6_found_65 rfl (lv_at hl 0 rfl) ?_
      have hk := h.1
      replace h := h.2
      obtain ⟨r1, hr1, h⟩ := h
      refine gg_get (v := .ref r1) (ci := 6) (C := RX6) (T := TX6) (N := 32) hx hb hts (fun _ h => List.mem_cons_of_mem _ (List.mem_append_right _ (h))) hown hK hG (kc_7 hk) rfl 28 (by decide) (hts (.fieldLink RX6 44 "FourStonesModel" "size" "[I") (List.mem_of_getElem? (i := 3) rfl)) (fun _ h9 => h9) (congrArg (fun z => some (va_rf z)) hr1) dX6_found_66 ?_
      refine lv_iload_n hx hb dX6_found_69 rfl (lv_at hl 1 rfl) ?_
      have hk := h.1
      replace h := h.2
      have hi := h.1
      replace h := h.2
      refine gg_iald hx hb hK hG hk hi dX6_found_70 ?_
      refine lv_icmp_ge (tgt := 131) hx hb dX6_found_71 rfl (fun hc => ?_) (fun hc => ?_)
      · replace h := h.1 hc
        exact j_131  v0 v1 v2 S ls _ _ (lv_sub hl [0, 1, 2] rfl) hG hS h
      · replace h := h.2 hc
        refine lv_iload_n hx hb dX6_found_74 rfl (lv_at hl 2 rfl) ?_
        refine lv_if_eq (tgt := 131) hx hb dX6_found_75 rfl (fun hc => ?_) (fun hc => ?_)
        · replace h := h.1 hc
          exact j_131  v0 v1 v2 S ls _ _ (lv_sub hl [0, 1, 2] rfl) hG hS h
        · replace h := h.2 hc
          refine lv_aload_n hx hb dX6_found_78 rfl (lv_at hl 0 rfl) ?_
          have hk := h.1
          replace h := h.2
          obtain ⟨r2, hr2, h⟩ := h
          refine gg_get (v := .ref r2) (ci := 6) (C := RX6) (T := TX6) (N := 32) hx hb hts (fun _ h => List.mem_cons_of_mem _ (List.mem_append_right _ (h))) hown hK hG (kc_7 hk) rfl 29 (by decide) (hts (.fieldLink RX6 47 "FourStonesModel" "items" "[I") (List.mem_of_getElem? (i := 4) rfl)) (fun _ h9 => h9) (congrArg (fun z => some (va_rf z)) hr2) dX6_found_79 ?_
          refine lv_bipush (v := (100 : Int32)) hx hb dX6_found_82 (by decide) ?_
          refine lv_iload_n hx hb dX6_found_84 rfl (lv_at hl 1 rfl) ?_
          refine lv_imul hx hb dX6_found_85 ?_
          refine lv_iload_n hx hb dX6_found_86 rfl (lv_at hl 3 rfl) ?_
          refine lv_iadd hx hb dX6_found_87 ?_
          have hk := h.1
          replace h := h.2
          have hi := h.1
          replace h := h.2
          refine gg_iald hx hb hK hG hk hi dX6_found_88 ?_
          refine lv_iconst (v := (0 : Int32)) hx hb dX6_found_89 (by decide) ?_
          refine lv_bipush (v := (80 : Int32)) hx hb dX6_found_90 (by decide) ?_
          refine gc_i (va_runS (As := [.int (gA S r2 ((((100 : Int32) * v1) + v3)).toNatClampNeg), .int (0 : Int32), .int (80 : Int32)]) (rest := []) ⟨hx, hb, hml, hown, hts⟩ (c_X6_isIn l D κ A S (gA S r2 ((((100 : Int32) * v1) + v3)).toNatClampNeg) (0 : Int32) (80 : Int32) _ h) (va_cwS 3 hts gX6_found_X6_isIn rfl rfl rfl (by decide +kernel) ⟨Nat.le_of_ble_eq_true rfl, Nat.le_of_ble_eq_true rfl⟩) (pg_S hK hX hG (pg_A hA hS)) rfl rfl hl.1 rfl (lv_room (Nat.le_of_ble_eq_true rfl)) dX6_found_92 ⟨Nat.le_of_ble_eq_true rfl, Nat.le_of_ble_eq_true rfl⟩) hS (fun z5 S4 H locs3 h hG hS => ?_)
          refine lv_if_eq (tgt := 123) hx hb dX6_found_95 rfl (fun hc => ?_) (fun hc => ?_)
          · replace h := h.1 hc
            exact j_123 _ hC62 v0 v1 v3 S4 ls _ _ (lv_sub hl [0, 1, 3] rfl) hG hS h
          · replace h := h.2 hc
            refine lv_aload_n hx hb dX6_found_98 rfl (lv_at hl 0 rfl) ?_
            have hk := h.1
            replace h := h.2
            obtain ⟨r6, hr6, h⟩ := h
            refine gg_get (v := .ref r6) (ci := 6) (C := RX6) (T := TX6) (N := 32) hx hb hts (fun _ h => List.mem_cons_of_mem _ (List.mem_append_right _ (h))) hown hK hG (kc_7 hk) rfl 29 (by decide) (hts (.fieldLink RX6 47 "FourStonesModel" "items" "[I") (List.mem_of_getElem? (i := 4) rfl)) (fun _ h9 => h9) (congrArg (fun z => some (va_rf z)) hr6) dX6_found_99 ?_
            refine lv_bipush (v := (100 : Int32)) hx hb dX6_found_102 (by decide) ?_
            refine lv_iload_n hx hb dX6_found_104 rfl (lv_at hl 1 rfl) ?_
            refine lv_imul hx hb dX6_found_105 ?_
            refine lv_iload_n hx hb dX6_found_106 rfl (lv_at hl 3 rfl) ?_
            refine lv_iadd hx hb dX6_found_107 ?_
            refine lv_iconst (v := (1 : Int32)) hx hb dX6_found_108 (by decide) ?_
            refine lv_iadd hx hb dX6_found_109 ?_
            have hk := h.1
            replace h := h.2
            have hi := h.1
            replace h := h.2
            refine gg_iald hx hb hK hG hk hi dX6_found_110 ?_
            refine lv_iconst (v := (0 : Int32)) hx hb dX6_found_111 (by decide) ?_
            refine lv_iconst (v := (2 : Int32)) hx hb dX6_found_112 (by decide) ?_
            refine gc_i (va_runS (As := [.int (gA S4 r6 (((((100 : Int32) * v1) + v3) + (1 : Int32))).toNatClampNeg), .int (0 : Int32), .int (2 : Int32)]) (rest := []) ⟨hx, hb, hml, hown, hts⟩ (c_X6_isIn l D κ A S4 (gA S4 r6 (((((100 : Int32) * v1) + v3) + (1 : Int32))).toNatClampNeg) (0 : Int32) (2 : Int32) _ h) (va_cwS 3 hts gX6_found_X6_isIn rfl rfl rfl (by decide +kernel) ⟨Nat.le_of_ble_eq_true rfl, Nat.le_of_ble_eq_true rfl⟩) (pg_S hK hX hG (pg_A hA hS)) rfl rfl hl.1 rfl (lv_room (Nat.le_of_ble_eq_true rfl)) dX6_found_113 ⟨Nat.le_of_ble_eq_true rfl, Nat.le_of_ble_eq_true rfl⟩) hS (fun z9 S8 H locs7 h hG hS => ?_)
            refine lv_if_eq (tgt := 123) hx hb dX6_found_116 rfl (fun hc => ?_) (fun hc => ?_)
            · replace h := h.1 hc
              exact j_123 _ hC62 v0 v1 v3 S8 ls _ _ (lv_sub hl [0, 1, 3] rfl) hG hS h
            · replace h := h.2 hc
              refine lv_iconst (v := (1 : Int32)) hx hb dX6_found_119 (by decide) ?_
              refine lv_goto (tgt := 124) hx hb dX6_found_120 rfl ?_
              exact j_124 _ hC62 v0 v1 v3 (1 : Int32) S8 ls _ _ (lv_sub hl [0, 1, 3] rfl) hG hS h
  have j_59 : ∀  (v0 : Nat) (v1 : Int32) (w0 : Int32) (S : Hp) (ls : Array Slot) (H : Heap) (locs : List Loc), lv_has ls 7 [(0, .ref v0), (1, .int v1)] → GG D κ A S H → va_S A s.heap H locs → J_X6_found_59  Q v0 v1 w0 S → W p l e ({ frames := 3, cells := 0, slots := 0, locals := 144 } : Room) s m ([.ref a0, .int x1] : List Value).toArray below meth c H locs 0 0 (MQ below (va_Qi Q (BG D κ A) A) ([.ref a0, .int x1] : List Value).toArray s 0 0 A) (F0 m 59 ls [.int w0]) := by
    intro  v0 v1 w0 S ls H locs hl hG hS h
    unfold J_X6_found_59 at h
    refine lv_istore_n (lv' := [(2, .int w0), (0, .ref v0), (1, .int v1)]) hx hb dX6_found_59 rfl hl (by decide) rfl (fun ls hl => ?_)
    refine lv_iconst (v := (0 : Int32)) hx hb dX6_found_60 (by decide) ?_
    refine lv_istore_n (lv' := [(3, .int (0 : Int32)), (2, .int w0), (0, .ref v0), (1, .int v1)]) hx hb dX6_found_61 rfl hl (by decide) rfl (fun ls hl => ?_)
    obtain ⟨nn, h⟩ := h
    exact k_62  nn v0 v1 w0 (0 : Int32) S ls _ _ (lv_sub hl [2, 3, 1, 0] rfl) hG hS h
  refine lv_iload_n hx hb dX6_found_0 rfl (lv_at hl 1 rfl) ?_
  refine gc_i (va_runS (As := [.int x1]) (rest := []) ⟨hx, hb, hml, hown, hts⟩ (c_X6_isShelf l D κ A S x1 _ h) (va_cwS 1 hts gX6_found_X6_isShelf rfl rfl rfl (by decide +kernel) ⟨Nat.le_of_ble_eq_true rfl, Nat.le_of_ble_eq_true rfl⟩) (pg_S hK hX hG (pg_A hA hS)) rfl rfl hl.1 rfl (lv_room (Nat.le_of_ble_eq_true rfl)) dX6_found_1 ⟨Nat.le_of_ble_eq_true rfl, Nat.le_of_ble_eq_true rfl⟩) hS (fun z3 S2 H locs1 h hG hS => ?_)
  refine lv_if_ne (tgt := 9) hx hb dX6_found_4 rfl (fun hc => ?_) (fun hc => ?_)
  · replace h := h.1 hc
    refine lv_aload_n hx hb dX6_found_9 rfl (lv_at hl 0 rfl) ?_
    have hk := h.1
    replace h := h.2
    obtain ⟨r4, hr4, h⟩ := h
    refine gg_get (v := .ref r4) (ci := 6) (C := RX6) (T := TX6) (N := 32) hx hb hts (fun _ h => List.mem_cons_of_mem _ (List.mem_append_right _ (h))) hown hK hG (kc_7 hk) rfl 24 (by decide) (hts (.fieldLink RX6 32 "FourStonesModel" "holds" "[I") (List.mem_of_getElem? (i := 1) rfl)) (fun _ h9 => h9) (congrArg (fun z => some (va_rf z)) hr4) dX6_found_10 ?_
    refine lv_iload_n hx hb dX6_found_13 rfl (lv_at hl 1 rfl) ?_
    have hk := h.1
    replace h := h.2
    have hi := h.1
    replace h := h.2
    refine gg_iald hx hb hK hG hk hi dX6_found_14 ?_
    refine lv_if_ne (tgt := 21) hx hb dX6_found_15 rfl (fun hc => ?_) (fun hc => ?_)
    · replace h := h.1 hc
      refine lv_aload_n hx hb dX6_found_21 rfl (lv_at hl 0 rfl) ?_
      have hk := h.1
      replace h := h.2
      obtain ⟨r5, hr5, h⟩ := h
      refine gg_get (v := .ref r5) (ci := 6) (C := RX6) (T := TX6) (N := 32) hx hb hts (fun _ h => List.mem_cons_of_mem _ (List.mem_append_right _ (h))) hown hK hG (kc_7 hk) rfl 24 (by decide) (hts (.fieldLink RX6 32 "FourStonesModel" "holds" "[I") (List.mem_of_getElem? (i := 1) rfl)) (fun _ h9 => h9) (congrArg (fun z => some (va_rf z)) hr5) dX6_found_22 ?_
      refine lv_iload_n hx hb dX6_found_25 rfl (lv_at hl 1 rfl) ?_
      have hk := h.1
      replace h := h.2
      have hi := h.1
      replace h := h.2
      refine gg_iald hx hb hK hG hk hi dX6_found_26 ?_
      refine lv_iconst (v := (1 : Int32)) hx hb dX6_found_27 (by decide) ?_
      refine lv_icmp_eq (tgt := 40) hx hb dX6_found_28 rfl (fun hc => ?_) (fun hc => ?_)
      · replace h := h.1 hc
        refine lv_bipush (v := (-12 : Int32)) hx hb dX6_found_40 (by decide) ?_
        exact W.iret hx hb hr (gr_i h hG hK hX hS) hS.2.2 dX6_found_42
      · replace h := h.2 hc
        refine lv_aload_n hx hb dX6_found_31 rfl (lv_at hl 0 rfl) ?_
        have hk := h.1
        replace h := h.2
        obtain ⟨r6, hr6, h⟩ := h
        refine gg_get (v := .ref r6) (ci := 6) (C := RX6) (T := TX6) (N := 32) hx hb hts (fun _ h => List.mem_cons_of_mem _ (List.mem_append_right _ (h))) hown hK hG (kc_7 hk) rfl 27 (by decide) (hts (.fieldLink RX6 41 "FourStonesModel" "sort" "[I") (List.mem_of_getElem? (i := 2) rfl)) (fun _ h9 => h9) (congrArg (fun z => some (va_rf z)) hr6) dX6_found_32 ?_
        refine lv_iload_n hx hb dX6_found_35 rfl (lv_at hl 1 rfl) ?_
        have hk := h.1
        replace h := h.2
        have hi := h.1
        replace h := h.2
        refine gg_iald hx hb hK hG hk hi dX6_found_36 ?_
        refine lv_if_eq (tgt := 43) hx hb dX6_found_37 rfl (fun hc => ?_) (fun hc => ?_)
        · replace h := h.1 hc
          refine lv_aload_n hx hb dX6_found_43 rfl (lv_at hl 0 rfl) ?_
          have hk := h.1
          replace h := h.2
          obtain ⟨r7, hr7, h⟩ := h
          refine gg_get (v := .ref r7) (ci := 6) (C := RX6) (T := TX6) (N := 32) hx hb hts (fun _ h => List.mem_cons_of_mem _ (List.mem_append_right _ (h))) hown hK hG (kc_7 hk) rfl 28 (by decide) (hts (.fieldLink RX6 44 "FourStonesModel" "size" "[I") (List.mem_of_getElem? (i := 3) rfl)) (fun _ h9 => h9) (congrArg (fun z => some (va_rf z)) hr7) dX6_found_44 ?_
          refine lv_iload_n hx hb dX6_found_47 rfl (lv_at hl 1 rfl) ?_
          have hk := h.1
          replace h := h.2
          have hi := h.1
          replace h := h.2
          refine gg_iald hx hb hK hG hk hi dX6_found_48 ?_
          refine lv_iconst (v := (2 : Int32)) hx hb dX6_found_49 (by decide) ?_
          refine lv_irem hx hb dX6_found_50 (by decide) ?_
          refine lv_if_ne (tgt := 58) hx hb dX6_found_51 rfl (fun hc => ?_) (fun hc => ?_)
          · replace h := h.1 hc
            refine lv_iconst (v := (0 : Int32)) hx hb dX6_found_58 (by decide) ?_
            exact j_59  a0 x1 (0 : Int32) S2 ls _ _ (lv_sub hl [0, 1] rfl) hG hS h
          · replace h := h.2 hc
            refine lv_iconst (v := (1 : Int32)) hx hb dX6_found_54 (by decide) ?_
            refine lv_goto (tgt := 59) hx hb dX6_found_55 rfl ?_
            exact j_59  a0 x1 (1 : Int32) S2 ls _ _ (lv_sub hl [0, 1] rfl) hG hS h
        · replace h := h.2 hc
          refine lv_bipush (v := (-12 : Int32)) hx hb dX6_found_40 (by decide) ?_
          exact W.iret hx hb hr (gr_i h hG hK hX hS) hS.2.2 dX6_found_42
    · replace h := h.2 hc
      refine lv_bipush (v := (-11 : Int32)) hx hb dX6_found_18 (by decide) ?_
      exact W.iret hx hb hr (gr_i h hG hK hX hS) hS.2.2 dX6_found_20
  · replace h := h.2 hc
    refine lv_iconst (v := (-1 : Int32)) hx hb dX6_found_7 (by decide) ?_
    exact W.iret hx hb hr (gr_i h hG hK hX hS) hS.2.2 dX6_found_8
set_option maxHeartbeats 4000000 in
set_option maxRecDepth 100000 in
theorem c_X6_twice (l : Launch) (D : va_G) (κ : Nat → ClassId) (A : Nat → Prop) (S : Hp) (a0 : Nat) (x1 : Int32) (x2 : Int32) (x3 : Int32) (Q : Int32 → Hp → Prop) (h : wp_X6_twice a0 x1 x2 x3 S Q) : Met l yX6_twice wsX6_twice ({ frames := 2, cells := 0, slots := 0, locals := 96 } : Room) (PG D κ A S [.ref a0, .int x1, .int x2, .int x3]) (va_Qi Q (BG D κ A) A) 0 0 A := by
  refine Met.ofW (cc := cX6_twice) (maxL := 5) (ret := (some .int)) (by decide) rfl ?_
  intro p e s m args below meth c s₁ B hml hv
  obtain ⟨hargs, hA, hG, hK, hX⟩ := hv
  have hx := B.exec
  have hb := B.bytes
  have hr := B.returns
  have hts := atoms_spec (ws := wsX6_twice) B.pre
  have hown : s.vm.findClass RX6 = some m.cls := findClass_of_methodNamed B.named
  have hlocks := B.notSynchronized
  subst hargs
  clear B
  have hS : va_S A s.heap s.heap [] := va_S.rf
  have hl := lv_entry ([.ref a0, .int x1, .int x2, .int x3]) (n := 5) (Nat.le_of_ble_eq_true rfl)
  rw [lg_entry_eq]
  generalize (lg_sl ([.ref a0, .int x1, .int x2, .int x3]) ++ List.replicate (5 - (lg_sl ([.ref a0, .int x1, .int x2, .int x3])).length) Slot.unset).toArray = ls at hl ⊢
  have hl : lv_has ls 5 [(0, .ref a0), (1, .int x1), (2, .int x2), (3, .int x3)] := hl
  have hG : GG D κ A S s.heap := hG
  have j_11 : ∀  (v1 : Int32) (v2 : Int32) (v3 : Int32) (w0 : Int32) (S : Hp) (ls : Array Slot) (H : Heap) (locs : List Loc), lv_has ls 5 [(1, .int v1), (2, .int v2), (3, .int v3)] → GG D κ A S H → va_S A s.heap H locs → J_X6_twice_11  Q v1 v2 v3 w0 S → W p l e ({ frames := 2, cells := 0, slots := 0, locals := 96 } : Room) s m ([.ref a0, .int x1, .int x2, .int x3] : List Value).toArray below meth c H locs 0 0 (MQ below (va_Qi Q (BG D κ A) A) ([.ref a0, .int x1, .int x2, .int x3] : List Value).toArray s 0 0 A) (F0 m 11 ls [.int w0]) := by
    intro  v1 v2 v3 w0 S ls H locs hl hG hS h
    unfold J_X6_twice_11 at h
    refine lv_istore (lv' := [(4, .int w0), (1, .int v1), (2, .int v2), (3, .int v3)]) hx hb dX6_twice_11 hl (by decide) rfl (fun ls hl => ?_)
    refine lv_iload_n hx hb dX6_twice_13 rfl (lv_at hl 1 rfl) ?_
    refine lv_iconst (v := (0 : Int32)) hx hb dX6_twice_14 (by decide) ?_
    refine lv_sipush (v := (999 : Int32)) hx hb dX6_twice_15 (by decide) ?_
    refine gc_i (va_runS (As := [.int v1, .int (0 : Int32), .int (999 : Int32)]) (rest := []) ⟨hx, hb, hml, hown, hts⟩ (c_X6_isIn l D κ A S v1 (0 : Int32) (999 : Int32) _ h) (va_cwS 3 hts gX6_twice_X6_isIn rfl rfl rfl (by decide +kernel) ⟨Nat.le_of_ble_eq_true rfl, Nat.le_of_ble_eq_true rfl⟩) (pg_S hK hX hG (pg_A hA hS)) rfl rfl hl.1 rfl (lv_room (Nat.le_of_ble_eq_true rfl)) dX6_twice_18 ⟨Nat.le_of_ble_eq_true rfl, Nat.le_of_ble_eq_true rfl⟩) hS (fun z3 S2 H locs1 h hG hS => ?_)
    refine lv_if_eq (tgt := 44) hx hb dX6_twice_21 rfl (fun hc => ?_) (fun hc => ?_)
    · replace h := h.1 hc
      refine lv_iconst (v := (-1 : Int32)) hx hb dX6_twice_44 (by decide) ?_
      refine lv_iload hx hb dX6_twice_45 (lv_at hl 0 rfl) ?_
      refine lv_isub hx hb dX6_twice_47 ?_
      exact W.iret hx hb hr (gr_i h hG hK hX hS) hS.2.2 dX6_twice_48
    · replace h := h.2 hc
      refine lv_iload_n hx hb dX6_twice_24 rfl (lv_at hl 2 rfl) ?_
      refine lv_iconst (v := (0 : Int32)) hx hb dX6_twice_25 (by decide) ?_
      refine lv_sipush (v := (999 : Int32)) hx hb dX6_twice_26 (by decide) ?_
      refine gc_i (va_runS (As := [.int v2, .int (0 : Int32), .int (999 : Int32)]) (rest := []) ⟨hx, hb, hml, hown, hts⟩ (c_X6_isIn l D κ A S2 v2 (0 : Int32) (999 : Int32) _ h) (va_cwS 3 hts gX6_twice_X6_isIn rfl rfl rfl (by decide +kernel) ⟨Nat.le_of_ble_eq_true rfl, Nat.le_of_ble_eq_true rfl⟩) (pg_S hK hX hG (pg_A hA hS)) rfl rfl hl.1 rfl (lv_room (Nat.le_of_ble_eq_true rfl)) dX6_twice_29 ⟨Nat.le_of_ble_eq_true rfl, Nat.le_of_ble_eq_true rfl⟩) hS (fun z6 S5 H locs4 h hG hS => ?_)
      refine lv_if_eq (tgt := 44) hx hb dX6_twice_32 rfl (fun hc => ?_) (fun hc => ?_)
      · replace h := h.1 hc
        refine lv_iconst (v := (-1 : Int32)) hx hb dX6_twice_44 (by decide) ?_
        refine lv_iload hx hb dX6_twice_45 (lv_at hl 0 rfl) ?_
        refine lv_isub hx hb dX6_twice_47 ?_
        exact W.iret hx hb hr (gr_i h hG hK hX hS) hS.2.2 dX6_twice_48
      · replace h := h.2 hc
        refine lv_iload_n hx hb dX6_twice_35 rfl (lv_at hl 3 rfl) ?_
        refine lv_iconst (v := (0 : Int32)) hx hb dX6_twice_36 (by decide) ?_
        refine lv_iconst (v := (1 : Int32)) hx hb dX6_twice_37 (by decide) ?_
        refine gc_i (va_runS (As := [.int v3, .int (0 : Int32), .int (1 : Int32)]) (rest := []) ⟨hx, hb, hml, hown, hts⟩ (c_X6_isIn l D κ A S5 v3 (0 : Int32) (1 : Int32) _ h) (va_cwS 3 hts gX6_twice_X6_isIn rfl rfl rfl (by decide +kernel) ⟨Nat.le_of_ble_eq_true rfl, Nat.le_of_ble_eq_true rfl⟩) (pg_S hK hX hG (pg_A hA hS)) rfl rfl hl.1 rfl (lv_room (Nat.le_of_ble_eq_true rfl)) dX6_twice_38 ⟨Nat.le_of_ble_eq_true rfl, Nat.le_of_ble_eq_true rfl⟩) hS (fun z9 S8 H locs7 h hG hS => ?_)
        refine lv_if_ne (tgt := 49) hx hb dX6_twice_41 rfl (fun hc => ?_) (fun hc => ?_)
        · replace h := h.1 hc
          refine lv_iload_n hx hb dX6_twice_49 rfl (lv_at hl 1 rfl) ?_
          refine lv_iload_n hx hb dX6_twice_50 rfl (lv_at hl 2 rfl) ?_
          refine lv_iadd hx hb dX6_twice_51 ?_
          refine lv_iconst (v := (2 : Int32)) hx hb dX6_twice_52 (by decide) ?_
          refine lv_irem hx hb dX6_twice_53 (by decide) ?_
          refine lv_iconst (v := (1 : Int32)) hx hb dX6_twice_54 (by decide) ?_
          refine lv_icmp_ne (tgt := 64) hx hb dX6_twice_55 rfl (fun hc => ?_) (fun hc => ?_)
          · replace h := h.1 hc
            refine lv_iload_n hx hb dX6_twice_64 rfl (lv_at hl 3 rfl) ?_
            refine lv_if_ne (tgt := 76) hx hb dX6_twice_65 rfl (fun hc => ?_) (fun hc => ?_)
            · replace h := h.1 hc
              refine lv_iload_n hx hb dX6_twice_76 rfl (lv_at hl 1 rfl) ?_
              refine lv_iload_n hx hb dX6_twice_77 rfl (lv_at hl 1 rfl) ?_
              refine lv_iload_n hx hb dX6_twice_78 rfl (lv_at hl 2 rfl) ?_
              refine lv_iadd hx hb dX6_twice_79 ?_
              refine lv_iconst (v := (2 : Int32)) hx hb dX6_twice_80 (by decide) ?_
              refine lv_idiv hx hb dX6_twice_81 (by decide) ?_
              refine lv_isub hx hb dX6_twice_82 ?_
              exact W.iret hx hb hr (gr_i h hG hK hX hS) hS.2.2 dX6_twice_83
            · replace h := h.2 hc
              refine lv_iload_n hx hb dX6_twice_68 rfl (lv_at hl 1 rfl) ?_
              refine lv_iload_n hx hb dX6_twice_69 rfl (lv_at hl 2 rfl) ?_
              refine lv_iadd hx hb dX6_twice_70 ?_
              refine lv_iconst (v := (2 : Int32)) hx hb dX6_twice_71 (by decide) ?_
              refine lv_idiv hx hb dX6_twice_72 (by decide) ?_
              refine lv_goto (tgt := 83) hx hb dX6_twice_73 rfl ?_
              exact W.iret hx hb hr (gr_i h hG hK hX hS) hS.2.2 dX6_twice_83
          · replace h := h.2 hc
            refine lv_bipush (v := (-4 : Int32)) hx hb dX6_twice_58 (by decide) ?_
            refine lv_iload hx hb dX6_twice_60 (lv_at hl 0 rfl) ?_
            refine lv_isub hx hb dX6_twice_62 ?_
            exact W.iret hx hb hr (gr_i h hG hK hX hS) hS.2.2 dX6_twice_63
        · replace h := h.2 hc
          refine lv_iconst (v := (-1 : Int32)) hx hb dX6_twice_44 (by decide) ?_
          refine lv_iload hx hb dX6_twice_45 (lv_at hl 0 rfl) ?_
          refine lv_isub hx hb dX6_twice_47 ?_
          exact W.iret hx hb hr (gr_i h hG hK hX hS) hS.2.2 dX6_twice_48
  refine lv_iload_n hx hb dX6_twice_0 rfl (lv_at hl 3 rfl) ?_
  refine lv_iconst (v := (1 : Int32)) hx hb dX6_twice_1 (by decide) ?_
  refine lv_icmp_ne (tgt := 10) hx hb dX6_twice_2 rfl (fun hc => ?_) (fun hc => ?_)
  · replace h := h.1 hc
    refine lv_iconst (v := (0 : Int32)) hx hb dX6_twice_10 (by decide) ?_
    exact j_11  x1 x2 x3 (0 : Int32) S ls _ _ (lv_sub hl [1, 2, 3] rfl) hG hS h
  · replace h := h.2 hc
    refine lv_ldc (v := (1000000000 : Int32)) hx hb hown (hts (.constant RX6 124 (1000000000)) (List.mem_of_getElem? (i := 1) rfl)) dX6_twice_5 ?_
    refine lv_goto (tgt := 11) hx hb dX6_twice_7 rfl ?_
    exact j_11  x1 x2 x3 (1000000000 : Int32) S ls _ _ (lv_sub hl [1, 2, 3] rfl) hG hS h
