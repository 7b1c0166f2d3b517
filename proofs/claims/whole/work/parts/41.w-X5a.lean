set_option maxHeartbeats 4000000 in
set_option maxRecDepth 100000 in
theorem c_X5_init (l : Launch) (D : va_G) (κ : Nat → ClassId) (A : Nat → Prop) (S : Hp) (a0 : Nat) (Q : Hp → Prop) (h : wp_X5_init a0 S Q) : Met l yX5_init wsX5_init ({ frames := 4, cells := 29, slots := 7716, locals := 192 } : Room) (PG D κ A S [.ref a0]) (va_Qv Q (BG D κ A) A) 29 7716 A := by
  refine Met.ofW (cc := cX5_init) (maxL := 1) (ret := none) (by decide) rfl ?_
  intro p e s m args below meth c s₁ B hml hv
  obtain ⟨hargs, hA, hG, hK, hX⟩ := hv
  have hx := B.exec
  have hb := B.bytes
  have hr := B.returns
  have hts := atoms_spec (ws := wsX5_init) B.pre
  have hown : s.vm.findClass RX5 = some m.cls := findClass_of_methodNamed B.named
  have hlocks := B.notSynchronized
  have hin : meth.name = "<init>" := (name_of_methodNamed B.named B.method).1
  subst hargs
  clear B
  have hS : va_S A s.heap s.heap [] := va_S.rf
  have hl := lv_entry ([.ref a0]) (n := 1) (Nat.le_of_ble_eq_true rfl)
  rw [lg_entry_eq]
  generalize (lg_sl ([.ref a0]) ++ List.replicate (1 - (lg_sl ([.ref a0])).length) Slot.unset).toArray = ls at hl ⊢
  have hl : lv_has ls 1 [(0, .ref a0)] := hl
  have hG : GG D κ A S s.heap := hG
  refine lv_aload_n hx hb dX5_init_0 rfl (lv_at hl 0 rfl) ?_
  refine W.objInit hx hb hown (hts (.methodLink RX5 1 objectInit) (List.mem_of_getElem? (i := 1) rfl)) (hts (.instanceMethod objectInit) (List.mem_of_getElem? (i := 2) rfl)) (hts _ (List.mem_of_getElem? (i := 3) rfl)) rfl (by rw [hml]; exact hl.1) rfl dX5_init_1 (Nat.le_of_ble_eq_true rfl) (Nat.le_of_ble_eq_true rfl) ?_
  refine W.eq (g2 := F0 m 4 ls []) rfl ?_
  refine lv_aload_n hx hb dX5_init_4 rfl (lv_at hl 0 rfl) ?_
  refine gg_new (ci := 4) (C := RX4) (T := TX4) (N := 3) (k := 5) hx hb hts (fun _ h => List.mem_cons_of_mem _ (List.mem_append_left _ (List.mem_append_left _ (List.mem_append_left _ (List.mem_append_left _ (List.mem_append_right _ (h))))))) tyX4 tyX4_ok hown (hts (.classLink RX5 7 RX4) (List.mem_of_getElem? (i := 4) rfl)) (hts (.instantiable RX4 3) (List.mem_of_getElem? (i := 5) rfl)) (hts (.initialized RX4) (List.mem_of_getElem? (i := 6) rfl)) hK hG hS hA rfl [.null, .null, .int 0] (by decide +kernel) (fun q => (kc_5 (S := nO _ q 5) ((h_kd_nO _ _ _ _).trans (if_pos rfl))).trans (by simp [h_gI_nO, h_gR_nO, va_rf])) (by show _ ≤ 29; omega) (by show _ ≤ 7716; omega) dX5_init_5 (fun q2 H hq2 hG hS => ?_)
  obtain ⟨S3, eS3⟩ : ∃ z, z = nO S q2 5 := ⟨_, rfl⟩
  replace h := h q2 hq2 S3 eS3
  rw [← eS3] at hG
  refine lv_dup hx hb dX5_init_8 rfl ?_
  refine gc_v (va_runIN (As := []) (rest := [.ref q2, .ref a0]) ⟨hx, hb, hml, hown, hts⟩ (c_X4_init l D κ A S3 q2 _ h) ⟨va_cnB 0 hts gX5_init_X4_init_n9 rfl rfl rfl hX.2.2.1 (hts (.initialized RX4) (List.mem_of_getElem? (i := 6) rfl)) (by decide +kernel) ⟨Nat.le_of_ble_eq_true rfl, Nat.le_of_ble_eq_true rfl⟩, rfl, hts (.instanceMethod yX4_init) (List.mem_of_getElem? (i := 30) rfl)⟩ (pg_S hK hX hG (pg_A hA hS)) rfl rfl hl.1 rfl (lv_room (Nat.le_of_ble_eq_true rfl)) dX5_init_9 ⟨by show _ ≤ 29; omega, by show _ ≤ 7716; omega⟩) hS (fun S5 H locs4 h hG hS => ?_)
  have hk := h.1
  replace h := h.2
  obtain ⟨S6, eS6⟩ : ∃ z, z = sR S5 50 a0 (some q2) := ⟨_, rfl⟩
  replace h := h S6 eS6
  refine gg_putF (ci := 5) (C := RX5) (T := TX5) (N := 13) hx hb hts (fun _ h => List.mem_cons_of_mem _ (List.mem_append_left _ (List.mem_append_left _ (List.mem_append_left _ (List.mem_append_right _ (h)))))) tyX5 tyX5_ok nmX5 hown hK hG hS (kc_6 hk) rfl 0 (by decide) (hts (.fieldLink RX5 10 "FourStones" "stones" "LFourStones$Stones;") (List.mem_of_getElem? (i := 7) rfl)) (fun _ h9 => h9) rfl hin rfl (tyX5_ok 0 (by decide)) rfl rfl (Nat.le_of_ble_eq_true rfl) dX5_init_12 (S' := S6) (fun b hb9 => by rw [eS6]; exact cO_sR hb9) (by rw [eS6]; exact cs_50 hk) (fun H locs7 hG hS => ?_)
  refine lv_aload_n hx hb dX5_init_15 rfl (lv_at hl 0 rfl) ?_
  refine gg_new (ci := 0) (C := RX0) (T := TX0) (N := 5) (k := 1) hx hb hts (fun _ h => List.mem_cons_of_mem _ (List.mem_append_left _ (List.mem_append_left _ (List.mem_append_right _ (h))))) tyX0 tyX0_ok hown (hts (.classLink RX5 16 RX0) (List.mem_of_getElem? (i := 8) rfl)) (hts (.instantiable RX0 5) (List.mem_of_getElem? (i := 9) rfl)) (hts (.initialized RX0) (List.mem_of_getElem? (i := 10) rfl)) hK hG hS hA rfl [.null, .null, .null, .null, .int 0] (by decide +kernel) (fun q => (kc_1 (S := nO _ q 1) ((h_kd_nO _ _ _ _).trans (if_pos rfl))).trans (by simp [h_gI_nO, h_gR_nO, va_rf])) (by show _ ≤ 29; omega) (by show _ ≤ 7716; omega) dX5_init_16 (fun q8 H hq8 hG hS => ?_)
  obtain ⟨S9, eS9⟩ : ∃ z, z = nO S6 q8 1 := ⟨_, rfl⟩
  replace h := h q8 hq8 S9 eS9
  rw [← eS9] at hG
  refine lv_dup hx hb dX5_init_19 rfl ?_
  refine gc_v (va_runIN (As := []) (rest := [.ref q8, .ref a0]) ⟨hx, hb, hml, hown, hts⟩ (c_X0_init l D κ A S9 q8 _ h) ⟨va_cnB 0 hts gX5_init_X0_init_n18 rfl rfl rfl hX.2.2.2.1 (hts (.initialized RX0) (List.mem_of_getElem? (i := 10) rfl)) (by decide +kernel) ⟨Nat.le_of_ble_eq_true rfl, Nat.le_of_ble_eq_true rfl⟩, rfl, hts (.instanceMethod yX0_init) (List.mem_of_getElem? (i := 35) rfl)⟩ (pg_S hK hX hG (pg_A hA hS)) rfl rfl hl.1 rfl (lv_room (Nat.le_of_ble_eq_true rfl)) dX5_init_20 ⟨by show _ ≤ 29; omega, by show _ ≤ 7716; omega⟩) hS (fun S11 H locs10 h hG hS => ?_)
  have hk := h.1
  replace h := h.2
  obtain ⟨S12, eS12⟩ : ∃ z, z = sR S11 51 a0 (some q8) := ⟨_, rfl⟩
  replace h := h S12 eS12
  refine gg_putF (ci := 5) (C := RX5) (T := TX5) (N := 13) hx hb hts (fun _ h => List.mem_cons_of_mem _ (List.mem_append_left _ (List.mem_append_left _ (List.mem_append_left _ (List.mem_append_right _ (h)))))) tyX5 tyX5_ok nmX5 hown hK hG hS (kc_6 hk) rfl 1 (by decide) (hts (.fieldLink RX5 19 "FourStones" "lyings" "LFourStones$Lyings;") (List.mem_of_getElem? (i := 11) rfl)) (fun _ h9 => h9) rfl hin rfl (tyX5_ok 1 (by decide)) rfl rfl (Nat.le_of_ble_eq_true rfl) dX5_init_23 (S' := S12) (fun b hb9 => by rw [eS12]; exact cO_sR hb9) (by rw [eS12]; exact cs_51 hk) (fun H locs13 hG hS => ?_)
  refine lv_aload_n hx hb dX5_init_26 rfl (lv_at hl 0 rfl) ?_
  refine gg_new (ci := 4) (C := RX4) (T := TX4) (N := 3) (k := 5) hx hb hts (fun _ h => List.mem_cons_of_mem _ (List.mem_append_left _ (List.mem_append_left _ (List.mem_append_left _ (List.mem_append_left _ (List.mem_append_right _ (h))))))) tyX4 tyX4_ok hown (hts (.classLink RX5 7 RX4) (List.mem_of_getElem? (i := 4) rfl)) (hts (.instantiable RX4 3) (List.mem_of_getElem? (i := 5) rfl)) (hts (.initialized RX4) (List.mem_of_getElem? (i := 6) rfl)) hK hG hS hA rfl [.null, .null, .int 0] (by decide +kernel) (fun q => (kc_5 (S := nO _ q 5) ((h_kd_nO _ _ _ _).trans (if_pos rfl))).trans (by simp [h_gI_nO, h_gR_nO, va_rf])) (by show _ ≤ 29; omega) (by show _ ≤ 7716; omega) dX5_init_27 (fun q14 H hq14 hG hS => ?_)
  obtain ⟨S15, eS15⟩ : ∃ z, z = nO S12 q14 5 := ⟨_, rfl⟩
  replace h := h q14 hq14 S15 eS15
  rw [← eS15] at hG
  refine lv_dup hx hb dX5_init_30 rfl ?_
  refine gc_v (va_runIN (As := []) (rest := [.ref q14, .ref a0]) ⟨hx, hb, hml, hown, hts⟩ (c_X4_init l D κ A S15 q14 _ h) ⟨va_cnB 0 hts gX5_init_X4_init_n9 rfl rfl rfl hX.2.2.1 (hts (.initialized RX4) (List.mem_of_getElem? (i := 6) rfl)) (by decide +kernel) ⟨Nat.le_of_ble_eq_true rfl, Nat.le_of_ble_eq_true rfl⟩, rfl, hts (.instanceMethod yX4_init) (List.mem_of_getElem? (i := 30) rfl)⟩ (pg_S hK hX hG (pg_A hA hS)) rfl rfl hl.1 rfl (lv_room (Nat.le_of_ble_eq_true rfl)) dX5_init_31 ⟨by show _ ≤ 29; omega, by show _ ≤ 7716; omega⟩) hS (fun S17 H locs16 h hG hS => ?_)
  have hk := h.1
  replace h := h.2
  obtain ⟨S18, eS18⟩ : ∃ z, z = sR S17 52 a0 (some q14) := ⟨_, rfl⟩
  replace h := h S18 eS18
  refine gg_putF (ci := 5) (C := RX5) (T := TX5) (N := 13) hx hb hts (fun _ h => List.mem_cons_of_mem _ (List.mem_append_left _ (List.mem_append_left _ (List.mem_append_left _ (List.mem_append_right _ (h)))))) tyX5 tyX5_ok nmX5 hown hK hG hS (kc_6 hk) rfl 2 (by decide) (hts (.fieldLink RX5 23 "FourStones" "imaged" "LFourStones$Stones;") (List.mem_of_getElem? (i := 12) rfl)) (fun _ h9 => h9) rfl hin rfl (tyX5_ok 2 (by decide)) rfl rfl (Nat.le_of_ble_eq_true rfl) dX5_init_34 (S' := S18) (fun b hb9 => by rw [eS18]; exact cO_sR hb9) (by rw [eS18]; exact cs_52 hk) (fun H locs19 hG hS => ?_)
  refine lv_aload_n hx hb dX5_init_37 rfl (lv_at hl 0 rfl) ?_
  refine gg_new (ci := 4) (C := RX4) (T := TX4) (N := 3) (k := 5) hx hb hts (fun _ h => List.mem_cons_of_mem _ (List.mem_append_left _ (List.mem_append_left _ (List.mem_append_left _ (List.mem_append_left _ (List.mem_append_right _ (h))))))) tyX4 tyX4_ok hown (hts (.classLink RX5 7 RX4) (List.mem_of_getElem? (i := 4) rfl)) (hts (.instantiable RX4 3) (List.mem_of_getElem? (i := 5) rfl)) (hts (.initialized RX4) (List.mem_of_getElem? (i := 6) rfl)) hK hG hS hA rfl [.null, .null, .int 0] (by decide +kernel) (fun q => (kc_5 (S := nO _ q 5) ((h_kd_nO _ _ _ _).trans (if_pos rfl))).trans (by simp [h_gI_nO, h_gR_nO, va_rf])) (by show _ ≤ 29; omega) (by show _ ≤ 7716; omega) dX5_init_38 (fun q20 H hq20 hG hS => ?_)
  obtain ⟨S21, eS21⟩ : ∃ z, z = nO S18 q20 5 := ⟨_, rfl⟩
  replace h := h q20 hq20 S21 eS21
  rw [← eS21] at hG
  refine lv_dup hx hb dX5_init_41 rfl ?_
  refine gc_v (va_runIN (As := []) (rest := [.ref q20, .ref a0]) ⟨hx, hb, hml, hown, hts⟩ (c_X4_init l D κ A S21 q20 _ h) ⟨va_cnB 0 hts gX5_init_X4_init_n9 rfl rfl rfl hX.2.2.1 (hts (.initialized RX4) (List.mem_of_getElem? (i := 6) rfl)) (by decide +kernel) ⟨Nat.le_of_ble_eq_true rfl, Nat.le_of_ble_eq_true rfl⟩, rfl, hts (.instanceMethod yX4_init) (List.mem_of_getElem? (i := 30) rfl)⟩ (pg_S hK hX hG (pg_A hA hS)) rfl rfl hl.1 rfl (lv_room (Nat.le_of_ble_eq_true rfl)) dX5_init_42 ⟨by show _ ≤ 29; omega, by show _ ≤ 7716; omega⟩) hS (fun S23 H locs22 h hG hS => ?_)
  have hk := h.1
  replace h := h.2
  obtain ⟨S24, eS24⟩ : ∃ z, z = sR S23 54 a0 (some q20) := ⟨_, rfl⟩
  replace h := h S24 eS24
  refine gg_putF (ci := 5) (C := RX5) (T := TX5) (N := 13) hx hb hts (fun _ h => List.mem_cons_of_mem _ (List.mem_append_left _ (List.mem_append_left _ (List.mem_append_left _ (List.mem_append_right _ (h)))))) tyX5 tyX5_ok nmX5 hown hK hG hS (kc_6 hk) rfl 4 (by decide) (hts (.fieldLink RX5 26 "FourStones" "mindStones" "LFourStones$Stones;") (List.mem_of_getElem? (i := 13) rfl)) (fun _ h9 => h9) rfl hin rfl (tyX5_ok 4 (by decide)) rfl rfl (Nat.le_of_ble_eq_true rfl) dX5_init_45 (S' := S24) (fun b hb9 => by rw [eS24]; exact cO_sR hb9) (by rw [eS24]; exact cs_54 hk) (fun H locs25 hG hS => ?_)
  refine lv_aload_n hx hb dX5_init_48 rfl (lv_at hl 0 rfl) ?_
  refine gg_new (ci := 0) (C := RX0) (T := TX0) (N := 5) (k := 1) hx hb hts (fun _ h => List.mem_cons_of_mem _ (List.mem_append_left _ (List.mem_append_left _ (List.mem_append_right _ (h))))) tyX0 tyX0_ok hown (hts (.classLink RX5 16 RX0) (List.mem_of_getElem? (i := 8) rfl)) (hts (.instantiable RX0 5) (List.mem_of_getElem? (i := 9) rfl)) (hts (.initialized RX0) (List.mem_of_getElem? (i := 10) rfl)) hK hG hS hA rfl [.null, .null, .null, .null, .int 0] (by decide +kernel) (fun q => (kc_1 (S := nO _ q 1) ((h_kd_nO _ _ _ _).trans (if_pos rfl))).trans (by simp [h_gI_nO, h_gR_nO, va_rf])) (by show _ ≤ 29; omega) (by show _ ≤ 7716; omega) dX5_init_49 (fun q26 H hq26 hG hS => ?_)
  obtain ⟨S27, eS27⟩ : ∃ z, z = nO S24 q26 1 := ⟨_, rfl⟩
  replace h := h q26 hq26 S27 eS27
  rw [← eS27] at hG
  refine lv_dup hx hb dX5_init_52 rfl ?_
  refine gc_v (va_runIN (As := []) (rest := [.ref q26, .ref a0]) ⟨hx, hb, hml, hown, hts⟩ (c_X0_init l D κ A S27 q26 _ h) ⟨va_cnB 0 hts gX5_init_X0_init_n18 rfl rfl rfl hX.2.2.2.1 (hts (.initialized RX0) (List.mem_of_getElem? (i := 10) rfl)) (by decide +kernel) ⟨Nat.le_of_ble_eq_true rfl, Nat.le_of_ble_eq_true rfl⟩, rfl, hts (.instanceMethod yX0_init) (List.mem_of_getElem? (i := 35) rfl)⟩ (pg_S hK hX hG (pg_A hA hS)) rfl rfl hl.1 rfl (lv_room (Nat.le_of_ble_eq_true rfl)) dX5_init_53 ⟨by show _ ≤ 29; omega, by show _ ≤ 7716; omega⟩) hS (fun S29 H locs28 h hG hS => ?_)
  have hk := h.1
  replace h := h.2
  obtain ⟨S30, eS30⟩ : ∃ z, z = sR S29 55 a0 (some q26) := ⟨_, rfl⟩
  replace h := h S30 eS30
  refine gg_putF (ci := 5) (C := RX5) (T := TX5) (N := 13) hx hb hts (fun _ h => List.mem_cons_of_mem _ (List.mem_append_left _ (List.mem_append_left _ (List.mem_append_left _ (List.mem_append_right _ (h)))))) tyX5 tyX5_ok nmX5 hown hK hG hS (kc_6 hk) rfl 5 (by decide) (hts (.fieldLink RX5 29 "FourStones" "mindLyings" "LFourStones$Lyings;") (List.mem_of_getElem? (i := 14) rfl)) (fun _ h9 => h9) rfl hin rfl (tyX5_ok 5 (by decide)) rfl rfl (Nat.le_of_ble_eq_true rfl) dX5_init_56 (S' := S30) (fun b hb9 => by rw [eS30]; exact cO_sR hb9) (by rw [eS30]; exact cs_55 hk) (fun H locs31 hG hS => ?_)
  refine lv_aload_n hx hb dX5_init_59 rfl (lv_at hl 0 rfl) ?_
  refine lv_bipush (v := (8 : Int32)) hx hb dX5_init_60 (by decide) ?_
  refine gg_newq11 (N' := 8) hx hb hown (hts (.classLink RX5 32 RX2) (List.mem_of_getElem? (i := 15) rfl)) hX.2.1 hK hG hS hA (by decide) (by decide) (Nat.le_of_ble_eq_true rfl) (by show _ ≤ 29; omega) (by show _ ≤ 7716; omega) dX5_init_62 (fun q32 H hq32 hG hS => ?_)
  obtain ⟨S33, eS33⟩ : ∃ z, z = nA S30 q32 11 8 := ⟨_, rfl⟩
  replace h := h q32 hq32 S33 eS33
  rw [← eS33] at hG
  have hk := h.1
  replace h := h.2
  obtain ⟨S34, eS34⟩ : ∃ z, z = sR S33 56 a0 (some q32) := ⟨_, rfl⟩
  replace h := h S34 eS34
  refine gg_putF (ci := 5) (C := RX5) (T := TX5) (N := 13) hx hb hts (fun _ h => List.mem_cons_of_mem _ (List.mem_append_left _ (List.mem_append_left _ (List.mem_append_left _ (List.mem_append_right _ (h)))))) tyX5 tyX5_ok nmX5 hown hK hG hS (kc_6 hk) rfl 6 (by decide) (hts (.fieldLink RX5 34 "FourStones" "scales" "[LFourStones$Scale;") (List.mem_of_getElem? (i := 16) rfl)) (fun _ h9 => h9) rfl hin rfl (tyX5_ok 6 (by decide)) rfl rfl (Nat.le_of_ble_eq_true rfl) dX5_init_65 (S' := S34) (fun b hb9 => by rw [eS34]; exact cO_sR hb9) (by rw [eS34]; exact cs_56 hk) (fun H locs35 hG hS => ?_)
  refine lv_aload_n hx hb dX5_init_68 rfl (lv_at hl 0 rfl) ?_
  refine lv_bipush (v := (8 : Int32)) hx hb dX5_init_69 (by decide) ?_
  refine gg_newq10 (N' := 8) hx hb hown (hts (.classLink RX5 38 RX1) (List.mem_of_getElem? (i := 17) rfl)) hX.1 hK hG hS hA (by decide) (by decide) (Nat.le_of_ble_eq_true rfl) (by show _ ≤ 29; omega) (by show _ ≤ 7716; omega) dX5_init_71 (fun q36 H hq36 hG hS => ?_)
  obtain ⟨S37, eS37⟩ : ∃ z, z = nA S34 q36 10 8 := ⟨_, rfl⟩
  replace h := h q36 hq36 S37 eS37
  rw [← eS37] at hG
  have hk := h.1
  replace h := h.2
  obtain ⟨S38, eS38⟩ : ∃ z, z = sR S37 57 a0 (some q36) := ⟨_, rfl⟩
  replace h := h S38 eS38
  refine gg_putF (ci := 5) (C := RX5) (T := TX5) (N := 13) hx hb hts (fun _ h => List.mem_cons_of_mem _ (List.mem_append_left _ (List.mem_append_left _ (List.mem_append_left _ (List.mem_append_right _ (h)))))) tyX5 tyX5_ok nmX5 hown hK hG hS (kc_6 hk) rfl 7 (by decide) (hts (.fieldLink RX5 40 "FourStones" "rows" "[LFourStones$Row;") (List.mem_of_getElem? (i := 18) rfl)) (fun _ h9 => h9) rfl hin rfl (tyX5_ok 7 (by decide)) rfl rfl (Nat.le_of_ble_eq_true rfl) dX5_init_74 (S' := S38) (fun b hb9 => by rw [eS38]; exact cO_sR hb9) (by rw [eS38]; exact cs_57 hk) (fun H locs39 hG hS => ?_)
  refine lv_aload_n hx hb dX5_init_77 rfl (lv_at hl 0 rfl) ?_
  refine gg_new (ci := 2) (C := RX2) (T := TX2) (N := 2) (k := 3) hx hb hts (fun _ h => List.mem_cons_of_mem _ (List.mem_append_left _ (List.mem_append_right _ (h)))) tyX2 tyX2_ok hown (hts (.classLink RX5 32 RX2) (List.mem_of_getElem? (i := 15) rfl)) (hts (.instantiable RX2 2) (List.mem_of_getElem? (i := 19) rfl)) (hts (.initialized RX2) (List.mem_of_getElem? (i := 20) rfl)) hK hG hS hA rfl [.int 0, .int 0] (by decide +kernel) (fun q => (kc_3 (S := nO _ q 3) ((h_kd_nO _ _ _ _).trans (if_pos rfl))).trans (by simp [h_gI_nO, h_gR_nO, va_rf])) (by show _ ≤ 29; omega) (by show _ ≤ 7716; omega) dX5_init_78 (fun q40 H hq40 hG hS => ?_)
  obtain ⟨S41, eS41⟩ : ∃ z, z = nO S38 q40 3 := ⟨_, rfl⟩
  replace h := h q40 hq40 S41 eS41
  rw [← eS41] at hG
  refine lv_dup hx hb dX5_init_81 rfl ?_
  refine lv_iconst (v := (0 : Int32)) hx hb dX5_init_82 (by decide) ?_
  refine lv_iconst (v := (0 : Int32)) hx hb dX5_init_83 (by decide) ?_
  refine gc_v (va_runI (As := [.int (0 : Int32), .int (0 : Int32)]) (rest := [.ref q40, .ref a0]) ⟨hx, hb, hml, hown, hts⟩ (c_X2_init l D κ A S41 q40 (0 : Int32) (0 : Int32) _ h) (cwI 2 hts gX5_init_X2_init rfl rfl rfl (hts (.initialized RX2) (List.mem_of_getElem? (i := 20) rfl)) (hts (.methodLink RX5 44 yX2_init) (List.mem_of_getElem? (i := 43) rfl)) (hts (.instanceMethod yX2_init) (List.mem_of_getElem? (i := 44) rfl)) rfl (by decide +kernel) ⟨Nat.le_of_ble_eq_true rfl, Nat.le_of_ble_eq_true rfl⟩) (pg_S hK hX hG (pg_A hA hS)) rfl rfl hl.1 rfl (lv_room (Nat.le_of_ble_eq_true rfl)) dX5_init_84 ⟨by show _ ≤ 29; omega, by show _ ≤ 7716; omega⟩) hS (fun S43 H locs42 h hG hS => ?_)
  have hk := h.1
  replace h := h.2
  obtain ⟨S44, eS44⟩ : ∃ z, z = sR S43 58 a0 (some q40) := ⟨_, rfl⟩
  replace h := h S44 eS44
  refine gg_putF (ci := 5) (C := RX5) (T := TX5) (N := 13) hx hb hts (fun _ h => List.mem_cons_of_mem _ (List.mem_append_left _ (List.mem_append_left _ (List.mem_append_left _ (List.mem_append_right _ (h)))))) tyX5 tyX5_ok nmX5 hown hK hG hS (kc_6 hk) rfl 8 (by decide) (hts (.fieldLink RX5 47 "FourStones" "plainScale" "LFourStones$Scale;") (List.mem_of_getElem? (i := 21) rfl)) (fun _ h9 => h9) rfl hin rfl (tyX5_ok 8 (by decide)) rfl rfl (Nat.le_of_ble_eq_true rfl) dX5_init_87 (S' := S44) (fun b hb9 => by rw [eS44]; exact cO_sR hb9) (by rw [eS44]; exact cs_58 hk) (fun H locs45 hG hS => ?_)
  refine lv_aload_n hx hb dX5_init_90 rfl (lv_at hl 0 rfl) ?_
  refine gg_new (ci := 3) (C := RX3) (T := TX3) (N := 3) (k := 4) hx hb hts (fun _ h => List.mem_cons_of_mem _ (List.mem_append_right _ (h))) tyX3 tyX3_ok hown (hts (.classLink RX5 51 RX3) (List.mem_of_getElem? (i := 22) rfl)) (hts (.instantiable RX3 3) (List.mem_of_getElem? (i := 23) rfl)) (hts (.initialized RX3) (List.mem_of_getElem? (i := 24) rfl)) hK hG hS hA rfl [.null, .int 0, .int 0] (by decide +kernel) (fun q => (kc_4 (S := nO _ q 4) ((h_kd_nO _ _ _ _).trans (if_pos rfl))).trans (by simp [h_gI_nO, h_gR_nO, va_rf])) (by show _ ≤ 29; omega) (by show _ ≤ 7716; omega) dX5_init_91 (fun q46 H hq46 hG hS => ?_)
  obtain ⟨S47, eS47⟩ : ∃ z, z = nO S44 q46 4 := ⟨_, rfl⟩
  replace h := h q46 hq46 S47 eS47
  rw [← eS47] at hG
  refine lv_dup hx hb dX5_init_94 rfl ?_
  refine gc_v (va_runIN (As := []) (rest := [.ref q46, .ref a0]) ⟨hx, hb, hml, hown, hts⟩ (c_X3_init l D κ A S47 q46 _ h) ⟨va_cnB 0 hts gX5_init_X3_init_n53 rfl rfl rfl hX.2.2.2.2.1 (hts (.initialized RX3) (List.mem_of_getElem? (i := 24) rfl)) (by decide +kernel) ⟨Nat.le_of_ble_eq_true rfl, Nat.le_of_ble_eq_true rfl⟩, rfl, hts (.instanceMethod yX3_init) (List.mem_of_getElem? (i := 49) rfl)⟩ (pg_S hK hX hG (pg_A hA hS)) rfl rfl hl.1 rfl (lv_room (Nat.le_of_ble_eq_true rfl)) dX5_init_95 ⟨by show _ ≤ 29; omega, by show _ ≤ 7716; omega⟩) hS (fun S49 H locs48 h hG hS => ?_)
  have hk := h.1
  replace h := h.2
  obtain ⟨S50, eS50⟩ : ∃ z, z = sR S49 59 a0 (some q46) := ⟨_, rfl⟩
  replace h := h S50 eS50
  refine gg_putF (ci := 5) (C := RX5) (T := TX5) (N := 13) hx hb hts (fun _ h => List.mem_cons_of_mem _ (List.mem_append_left _ (List.mem_append_left _ (List.mem_append_left _ (List.mem_append_right _ (h)))))) tyX5 tyX5_ok nmX5 hown hK hG hS (kc_6 hk) rfl 9 (by decide) (hts (.fieldLink RX5 54 "FourStones" "reader" "LFourStones$ShopReader;") (List.mem_of_getElem? (i := 25) rfl)) (fun _ h9 => h9) rfl hin rfl (tyX5_ok 9 (by decide)) rfl rfl (Nat.le_of_ble_eq_true rfl) dX5_init_98 (S' := S50) (fun b hb9 => by rw [eS50]; exact cO_sR hb9) (by rw [eS50]; exact cs_59 hk) (fun H locs51 hG hS => ?_)
  refine lv_aload_n hx hb dX5_init_101 rfl (lv_at hl 0 rfl) ?_
  refine lv_sipush (v := (1000 : Int32)) hx hb dX5_init_102 (by decide) ?_
  refine gg_newi (N' := 1000) hx hb (hts (.arrayClass .int) (List.mem_of_getElem? (i := 26) rfl)) hK hG hS hA (by decide) (by decide) (Nat.le_of_ble_eq_true rfl) (by show _ ≤ 29; omega) (by show _ ≤ 7716; omega) dX5_init_105 (fun q52 H hq52 hG hS => ?_)
  obtain ⟨S53, eS53⟩ : ∃ z, z = nA S50 q52 8 1000 := ⟨_, rfl⟩
  replace h := h q52 hq52 S53 eS53
  rw [← eS53] at hG
  have hk := h.1
  replace h := h.2
  obtain ⟨S54, eS54⟩ : ∃ z, z = sR S53 60 a0 (some q52) := ⟨_, rfl⟩
  replace h := h S54 eS54
  refine gg_putF (ci := 5) (C := RX5) (T := TX5) (N := 13) hx hb hts (fun _ h => List.mem_cons_of_mem _ (List.mem_append_left _ (List.mem_append_left _ (List.mem_append_left _ (List.mem_append_right _ (h)))))) tyX5 tyX5_ok nmX5 hown hK hG hS (kc_6 hk) rfl 10 (by decide) (hts (.fieldLink RX5 58 "FourStones" "had" "[I") (List.mem_of_getElem? (i := 27) rfl)) (fun _ h9 => h9) rfl hin rfl (tyX5_ok 10 (by decide)) rfl rfl (Nat.le_of_ble_eq_true rfl) dX5_init_107 (S' := S54) (fun b hb9 => by rw [eS54]; exact cO_sR hb9) (by rw [eS54]; exact cs_60 hk) (fun H locs55 hG hS => ?_)
  refine lv_aload_n hx hb dX5_init_110 rfl (lv_at hl 0 rfl) ?_
  refine lv_bipush (v := (64 : Int32)) hx hb dX5_init_111 (by decide) ?_
  refine gg_newi (N' := 64) hx hb (hts (.arrayClass .int) (List.mem_of_getElem? (i := 26) rfl)) hK hG hS hA (by decide) (by decide) (Nat.le_of_ble_eq_true rfl) (by show _ ≤ 29; omega) (by show _ ≤ 7716; omega) dX5_init_113 (fun q56 H hq56 hG hS => ?_)
  obtain ⟨S57, eS57⟩ : ∃ z, z = nA S54 q56 8 64 := ⟨_, rfl⟩
  replace h := h q56 hq56 S57 eS57
  rw [← eS57] at hG
  have hk := h.1
  replace h := h.2
  obtain ⟨S58, eS58⟩ : ∃ z, z = sR S57 61 a0 (some q56) := ⟨_, rfl⟩
  replace h := h S58 eS58
  refine gg_putF (ci := 5) (C := RX5) (T := TX5) (N := 13) hx hb hts (fun _ h => List.mem_cons_of_mem _ (List.mem_append_left _ (List.mem_append_left _ (List.mem_append_left _ (List.mem_append_right _ (h)))))) tyX5 tyX5_ok nmX5 hown hK hG hS (kc_6 hk) rfl 11 (by decide) (hts (.fieldLink RX5 62 "FourStones" "listedBy" "[I") (List.mem_of_getElem? (i := 28) rfl)) (fun _ h9 => h9) rfl hin rfl (tyX5_ok 11 (by decide)) rfl rfl (Nat.le_of_ble_eq_true rfl) dX5_init_115 (S' := S58) (fun b hb9 => by rw [eS58]; exact cO_sR hb9) (by rw [eS58]; exact cs_61 hk) (fun H locs59 hG hS => ?_)
  refine lv_aload_n hx hb dX5_init_118 rfl (lv_at hl 0 rfl) ?_
  refine lv_sipush (v := (729 : Int32)) hx hb dX5_init_119 (by decide) ?_
  refine gg_newi (N' := 729) hx hb (hts (.arrayClass .int) (List.mem_of_getElem? (i := 26) rfl)) hK hG hS hA (by decide) (by decide) (Nat.le_of_ble_eq_true rfl) (by show _ ≤ 29; omega) (by show _ ≤ 7716; omega) dX5_init_122 (fun q60 H hq60 hG hS => ?_)
  obtain ⟨S61, eS61⟩ : ∃ z, z = nA S58 q60 8 729 := ⟨_, rfl⟩
  replace h := h q60 hq60 S61 eS61
  rw [← eS61] at hG
  have hk := h.1
  replace h := h.2
  obtain ⟨S62, eS62⟩ : ∃ z, z = sR S61 62 a0 (some q60) := ⟨_, rfl⟩
  replace h := h S62 eS62
  refine gg_putF (ci := 5) (C := RX5) (T := TX5) (N := 13) hx hb hts (fun _ h => List.mem_cons_of_mem _ (List.mem_append_left _ (List.mem_append_left _ (List.mem_append_left _ (List.mem_append_right _ (h)))))) tyX5 tyX5_ok nmX5 hown hK hG hS (kc_6 hk) rfl 12 (by decide) (hts (.fieldLink RX5 65 "FourStones" "otherLyings" "[I") (List.mem_of_getElem? (i := 29) rfl)) (fun _ h9 => h9) rfl hin rfl (tyX5_ok 12 (by decide)) rfl rfl (Nat.le_of_ble_eq_true rfl) dX5_init_124 (S' := S62) (fun b hb9 => by rw [eS62]; exact cO_sR hb9) (by rw [eS62]; exact cs_62 hk) (fun H locs63 hG hS => ?_)
  refine W.widen (k := 29) (n := 7716) (by omega) (by omega) ?_
  exact W.vret hx hb hr (gr_v h hG hK hX hS) hS.2.2 dX5_init_127
set_option maxHeartbeats 4000000 in
set_option maxRecDepth 100000 in
theorem c_X5_isShelf (l : Launch) (D : va_G) (κ : Nat → ClassId) (A : Nat → Prop) (S : Hp) (x0 : Int32) (Q : Int32 → Hp → Prop) (h : wp_X5_isShelf x0 S Q) : Met l yX5_isShelf wsX5_isShelf ({ frames := 1, cells := 0, slots := 0, locals := 48 } : Room) (PG D κ A S [.int x0]) (va_Qi Q (BG D κ A) A) 0 0 A := by
  refine Met.ofW (cc := cX5_isShelf) (maxL := 1) (ret := (some .boolean)) (by decide) rfl ?_
  intro p e s m args below meth c s₁ B hml hv
  obtain ⟨hargs, hA, hG, hK, hX⟩ := hv
  have hx := B.exec
  have hb := B.bytes
  have hr := B.returns
  have hts := atoms_spec (ws := wsX5_isShelf) B.pre
  have hown : s.vm.findClass RX5 = some m.cls := findClass_of_methodNamed B.named
  have hlocks := B.notSynchronized
  subst hargs
  clear B
  have hS : va_S A s.heap s.heap [] := va_S.rf
  have hl := lv_entry ([.int x0]) (n := 1) (Nat.le_of_ble_eq_true rfl)
  rw [lg_entry_eq]
  generalize (lg_sl ([.int x0]) ++ List.replicate (1 - (lg_sl ([.int x0])).length) Slot.unset).toArray = ls at hl ⊢
  have hl : lv_has ls 1 [(0, .int x0)] := hl
  have hG : GG D κ A S s.heap := hG
  refine lv_iload_n hx hb dX5_isShelf_0 rfl (lv_at hl 0 rfl) ?_
  refine lv_if_lt (tgt := 14) hx hb dX5_isShelf_1 rfl (fun hc => ?_) (fun hc => ?_)
  · replace h := h.1 hc
    refine lv_iconst (v := (0 : Int32)) hx hb dX5_isShelf_14 (by decide) ?_
    exact W.zret (ty := .boolean) hx hb hr (by decide) (gr_i h hG hK hX hS) hS.2.2 dX5_isShelf_15
  · replace h := h.2 hc
    refine lv_iload_n hx hb dX5_isShelf_4 rfl (lv_at hl 0 rfl) ?_
    refine lv_bipush (v := (8 : Int32)) hx hb dX5_isShelf_5 (by decide) ?_
    refine lv_icmp_ge (tgt := 14) hx hb dX5_isShelf_7 rfl (fun hc => ?_) (fun hc => ?_)
    · replace h := h.1 hc
      refine lv_iconst (v := (0 : Int32)) hx hb dX5_isShelf_14 (by decide) ?_
      exact W.zret (ty := .boolean) hx hb hr (by decide) (gr_i h hG hK hX hS) hS.2.2 dX5_isShelf_15
    · replace h := h.2 hc
      refine lv_iconst (v := (1 : Int32)) hx hb dX5_isShelf_10 (by decide) ?_
      refine lv_goto (tgt := 15) hx hb dX5_isShelf_11 rfl ?_
      exact W.zret (ty := .boolean) hx hb hr (by decide) (gr_i h hG hK hX hS) hS.2.2 dX5_isShelf_15
set_option maxHeartbeats 4000000 in
set_option maxRecDepth 100000 in
theorem c_X5_rowOfSort (l : Launch) (D : va_G) (κ : Nat → ClassId) (A : Nat → Prop) (S : Hp) (a0 : Nat) (x1 : Int32) (x2 : Int32) (Q : Option Nat → Hp → Prop) (h : wp_X5_rowOfSort a0 x1 x2 S Q) : Met l yX5_rowOfSort wsX5_rowOfSort ({ frames := 1, cells := 0, slots := 0, locals := 48 } : Room) (PG D κ A S [.ref a0, .int x1, .int x2]) (va_Qq Q (BG D κ A) A) 0 0 A := by
  refine Met.ofW (cc := cX5_rowOfSort) (maxL := 4) (ret := (some (.object "FourStones$Row"))) (by decide) rfl ?_
  intro p e s m args below meth c s₁ B hml hv
  obtain ⟨hargs, hA, hG, hK, hX⟩ := hv
  have hx := B.exec
  have hb := B.bytes
  have hr := B.returns
  have hts := atoms_spec (ws := wsX5_rowOfSort) B.pre
  have hown : s.vm.findClass RX5 = some m.cls := findClass_of_methodNamed B.named
  have hlocks := B.notSynchronized
  subst hargs
  clear B
  have hS : va_S A s.heap s.heap [] := va_S.rf
  have hl := lv_entry ([.ref a0, .int x1, .int x2]) (n := 4) (Nat.le_of_ble_eq_true rfl)
  rw [lg_entry_eq]
  generalize (lg_sl ([.ref a0, .int x1, .int x2]) ++ List.replicate (4 - (lg_sl ([.ref a0, .int x1, .int x2])).length) Slot.unset).toArray = ls at hl ⊢
  have hl : lv_has ls 4 [(0, .ref a0), (1, .int x1), (2, .int x2)] := hl
  have hG : GG D κ A S s.heap := hG
  refine lv_aload_n hx hb dX5_rowOfSort_0 rfl (lv_at hl 0 rfl) ?_
  have hk := h.1
  replace h := h.2
  obtain ⟨r1, hr1, h⟩ := h
  refine gg_get (v := .ref r1) (ci := 5) (C := RX5) (T := TX5) (N := 13) hx hb hts (fun _ h => List.mem_cons_of_mem _ (List.mem_append_left _ (List.mem_append_right _ (h)))) hown hK hG (kc_6 hk) rfl 7 (by decide) (hts (.fieldLink RX5 40 "FourStones" "rows" "[LFourStones$Row;") (List.mem_of_getElem? (i := 1) rfl)) (fun _ h9 => h9) (congrArg (fun z => some (va_rf z)) hr1) dX5_rowOfSort_1 ?_
  refine lv_iload_n hx hb dX5_rowOfSort_4 rfl (lv_at hl 1 rfl) ?_
  have hk := h.1
  replace h := h.2
  have hi := h.1
  replace h := h.2
  refine gg_aldq hx hb hK hG hk hi dX5_rowOfSort_5 (fun hc => ?_) (fun r2 hc => ?_)
  · replace h := h.1 hc
    refine lv_astore_nN (lv' := [(3, .null), (0, .ref a0), (1, .int x1), (2, .int x2)]) hx hb dX5_rowOfSort_6 rfl hl (by decide) rfl (fun ls hl => ?_)
    refine lv_aload_nN hx hb dX5_rowOfSort_7 rfl (lv_at hl 0 rfl) ?_
    refine lv_ifnullN (tgt := 23) hx hb dX5_rowOfSort_8 rfl ?_
    refine lv_null hx hb dX5_rowOfSort_23 ?_
    exact W.aret hx hb hr (Or.inl ⟨_, rfl⟩) (Or.inl rfl) (gr_n h hG hK hX hS) hS.2.2 dX5_rowOfSort_24
  · replace h := h.2 r2 hc
    refine lv_astore_n (lv' := [(3, .ref r2), (0, .ref a0), (1, .int x1), (2, .int x2)]) hx hb dX5_rowOfSort_6 rfl hl (by decide) rfl (fun ls hl => ?_)
    refine lv_aload_n hx hb dX5_rowOfSort_7 rfl (lv_at hl 0 rfl) ?_
    refine lv_ifnull hx hb dX5_rowOfSort_8 ?_
    refine lv_aload_n hx hb dX5_rowOfSort_11 rfl (lv_at hl 0 rfl) ?_
    have hk := h.1
    replace h := h.2
    refine gg_get (ci := 1) (C := RX1) (T := TX1) (N := 2) hx hb hts (fun _ h => List.mem_cons_of_mem _ (List.mem_append_right _ (h))) hown hK hG (kc_2 hk) rfl 0 (by decide) (hts (.fieldLink RX5 248 "FourStones$Row" "sort" "I") (List.mem_of_getElem? (i := 2) rfl)) (fun _ h9 => h9) rfl dX5_rowOfSort_12 ?_
    refine lv_iload_n hx hb dX5_rowOfSort_15 rfl (lv_at hl 3 rfl) ?_
    refine lv_icmp_ne (tgt := 23) hx hb dX5_rowOfSort_16 rfl (fun hc => ?_) (fun hc => ?_)
    · replace h := h.1 hc
      refine lv_null hx hb dX5_rowOfSort_23 ?_
      exact W.aret hx hb hr (Or.inl ⟨_, rfl⟩) (Or.inl rfl) (gr_n h hG hK hX hS) hS.2.2 dX5_rowOfSort_24
    · replace h := h.2 hc
      refine lv_aload_n hx hb dX5_rowOfSort_19 rfl (lv_at hl 0 rfl) ?_
      refine lv_goto (tgt := 24) hx hb dX5_rowOfSort_20 rfl ?_
      exact W.aret hx hb hr (Or.inl ⟨_, rfl⟩) (Or.inr ⟨_, rfl⟩) (gr_s h hG hK hX hS) hS.2.2 dX5_rowOfSort_24
set_option maxHeartbeats 4000000 in
set_option maxRecDepth 100000 in
theorem c_X5_holdsNothing (l : Launch) (D : va_G) (κ : Nat → ClassId) (A : Nat → Prop) (S : Hp) (a0 : Nat) (x1 : Int32) (Q : Int32 → Hp → Prop) (h : wp_X5_holdsNothing a0 x1 S Q) : Met l yX5_holdsNothing wsX5_holdsNothing ({ frames := 1, cells := 0, slots := 0, locals := 48 } : Room) (PG D κ A S [.ref a0, .int x1]) (va_Qi Q (BG D κ A) A) 0 0 A := by
  refine Met.ofW (cc := cX5_holdsNothing) (maxL := 2) (ret := (some .boolean)) (by decide) rfl ?_
  intro p e s m args below meth c s₁ B hml hv
  obtain ⟨hargs, hA, hG, hK, hX⟩ := hv
  have hx := B.exec
  have hb := B.bytes
  have hr := B.returns
  have hts := atoms_spec (ws := wsX5_holdsNothing) B.pre
  have hown : s.vm.findClass RX5 = some m.cls := findClass_of_methodNamed B.named
  have hlocks := B.notSynchronized
  subst hargs
  clear B
  have hS : va_S A s.heap s.heap [] := va_S.rf
  have hl := lv_entry ([.ref a0, .int x1]) (n := 2) (Nat.le_of_ble_eq_true rfl)
  rw [lg_entry_eq]
  generalize (lg_sl ([.ref a0, .int x1]) ++ List.replicate (2 - (lg_sl ([.ref a0, .int x1])).length) Slot.unset).toArray = ls at hl ⊢
  have hl : lv_has ls 2 [(0, .ref a0), (1, .int x1)] := hl
  have hG : GG D κ A S s.heap := hG
  refine lv_aload_n hx hb dX5_holdsNothing_0 rfl (lv_at hl 0 rfl) ?_
  have hk := h.1
  replace h := h.2
  obtain ⟨r1, hr1, h⟩ := h
  refine gg_get (v := .ref r1) (ci := 5) (C := RX5) (T := TX5) (N := 13) hx hb hts (fun _ h => List.mem_cons_of_mem _ (List.mem_append_right _ (h))) hown hK hG (kc_6 hk) rfl 6 (by decide) (hts (.fieldLink RX5 34 "FourStones" "scales" "[LFourStones$Scale;") (List.mem_of_getElem? (i := 1) rfl)) (fun _ h9 => h9) (congrArg (fun z => some (va_rf z)) hr1) dX5_holdsNothing_1 ?_
  refine lv_iload_n hx hb dX5_holdsNothing_4 rfl (lv_at hl 1 rfl) ?_
  have hk := h.1
  replace h := h.2
  have hi := h.1
  replace h := h.2
  refine gg_aldq hx hb hK hG hk hi dX5_holdsNothing_5 (fun hc => ?_) (fun r2 hc => ?_)
  · replace h := h.1 hc
    refine lv_ifnonnullN hx hb dX5_holdsNothing_6 ?_
    refine lv_aload_n hx hb dX5_holdsNothing_9 rfl (lv_at hl 0 rfl) ?_
    have hk := h.1
    replace h := h.2
    obtain ⟨r3, hr3, h⟩ := h
    refine gg_get (v := .ref r3) (ci := 5) (C := RX5) (T := TX5) (N := 13) hx hb hts (fun _ h => List.mem_cons_of_mem _ (List.mem_append_right _ (h))) hown hK hG (kc_6 hk) rfl 7 (by decide) (hts (.fieldLink RX5 40 "FourStones" "rows" "[LFourStones$Row;") (List.mem_of_getElem? (i := 2) rfl)) (fun _ h9 => h9) (congrArg (fun z => some (va_rf z)) hr3) dX5_holdsNothing_10 ?_
    refine lv_iload_n hx hb dX5_holdsNothing_13 rfl (lv_at hl 1 rfl) ?_
    have hk := h.1
    replace h := h.2
    have hi := h.1
    replace h := h.2
    refine gg_aldq hx hb hK hG hk hi dX5_holdsNothing_14 (fun hc => ?_) (fun r4 hc => ?_)
    · replace h := h.1 hc
      refine lv_ifnonnullN hx hb dX5_holdsNothing_15 ?_
      refine lv_iconst (v := (1 : Int32)) hx hb dX5_holdsNothing_18 (by decide) ?_
      refine lv_goto (tgt := 23) hx hb dX5_holdsNothing_19 rfl ?_
      exact W.zret (ty := .boolean) hx hb hr (by decide) (gr_i h hG hK hX hS) hS.2.2 dX5_holdsNothing_23
    · replace h := h.2 r4 hc
      refine lv_ifnonnull (tgt := 22) hx hb dX5_holdsNothing_15 rfl ?_
      refine lv_iconst (v := (0 : Int32)) hx hb dX5_holdsNothing_22 (by decide) ?_
      exact W.zret (ty := .boolean) hx hb hr (by decide) (gr_i h hG hK hX hS) hS.2.2 dX5_holdsNothing_23
  · replace h := h.2 r2 hc
    refine lv_ifnonnull (tgt := 22) hx hb dX5_holdsNothing_6 rfl ?_
    refine lv_iconst (v := (0 : Int32)) hx hb dX5_holdsNothing_22 (by decide) ?_
    exact W.zret (ty := .boolean) hx hb hr (by decide) (gr_i h hG hK hX hS) hS.2.2 dX5_holdsNothing_23
set_option maxHeartbeats 4000000 in
set_option maxRecDepth 100000 in
theorem c_X5_notHeld (l : Launch) (D : va_G) (κ : Nat → ClassId) (A : Nat → Prop) (S : Hp) (a0 : Nat) (x1 : Int32) (Q : Int32 → Hp → Prop) (h : wp_X5_notHeld a0 x1 S Q) : Met l yX5_notHeld wsX5_notHeld ({ frames := 2, cells := 0, slots := 0, locals := 96 } : Room) (PG D κ A S [.ref a0, .int x1]) (va_Qi Q (BG D κ A) A) 0 0 A := by
  refine Met.ofW (cc := cX5_notHeld) (maxL := 2) (ret := (some .int)) (by decide) rfl ?_
  intro p e s m args below meth c s₁ B hml hv
  obtain ⟨hargs, hA, hG, hK, hX⟩ := hv
  have hx := B.exec
  have hb := B.bytes
  have hr := B.returns
  have hts := atoms_spec (ws := wsX5_notHeld) B.pre
  have hown : s.vm.findClass RX5 = some m.cls := findClass_of_methodNamed B.named
  have hlocks := B.notSynchronized
  subst hargs
  clear B
  have hS : va_S A s.heap s.heap [] := va_S.rf
  have hl := lv_entry ([.ref a0, .int x1]) (n := 2) (Nat.le_of_ble_eq_true rfl)
  rw [lg_entry_eq]
  generalize (lg_sl ([.ref a0, .int x1]) ++ List.replicate (2 - (lg_sl ([.ref a0, .int x1])).length) Slot.unset).toArray = ls at hl ⊢
  have hl : lv_has ls 2 [(0, .ref a0), (1, .int x1)] := hl
  have hG : GG D κ A S s.heap := hG
  refine lv_aload_n hx hb dX5_notHeld_0 rfl (lv_at hl 0 rfl) ?_
  refine lv_iload_n hx hb dX5_notHeld_1 rfl (lv_at hl 1 rfl) ?_
  have hk := h.1
  replace h := h.2
  refine gc_i (va_runV (As := [.int x1]) (rest := []) ⟨hx, hb, hml, hown, hts⟩ (c_X5_holdsNothing l D κ A S a0 x1 _ h) (cwV 1 hts gX5_notHeld_X5_holdsNothing rfl rfl rfl (by decide +kernel) ⟨Nat.le_of_ble_eq_true rfl, Nat.le_of_ble_eq_true rfl⟩) (pg_V (q := (RX5, TX5, 13)) hK hX hG (pg_A hA hS) (kc_6 hk) rfl) rfl rfl hl.1 rfl (lv_room (Nat.le_of_ble_eq_true rfl)) dX5_notHeld_2 ⟨Nat.le_of_ble_eq_true rfl, Nat.le_of_ble_eq_true rfl⟩) hS (fun z3 S2 H locs1 h hG hS => ?_)
  refine lv_if_eq (tgt := 13) hx hb dX5_notHeld_5 rfl (fun hc => ?_) (fun hc => ?_)
  · replace h := h.1 hc
    refine lv_bipush (v := (-12 : Int32)) hx hb dX5_notHeld_13 (by decide) ?_
    exact W.iret hx hb hr (gr_i h hG hK hX hS) hS.2.2 dX5_notHeld_15
  · replace h := h.2 hc
    refine lv_bipush (v := (-11 : Int32)) hx hb dX5_notHeld_8 (by decide) ?_
    refine lv_goto (tgt := 15) hx hb dX5_notHeld_10 rfl ?_
    exact W.iret hx hb hr (gr_i h hG hK hX hS) hS.2.2 dX5_notHeld_15
set_option maxHeartbeats 4000000 in
set_option maxRecDepth 100000 in
theorem c_X5_shop (l : Launch) (D : va_G) (κ : Nat → ClassId) (A : Nat → Prop) (S : Hp) (a0 : Nat) (x1 : Int32) (Q : Int32 → Hp → Prop) (h : wp_X5_shop a0 x1 S Q) : Met l yX5_shop wsX5_shop ({ frames := 6, cells := 0, slots := 0, locals := 288 } : Room) (PG D κ A S [.ref a0, .int x1]) (va_Qi Q (BG D κ A) A) 0 0 A := by
  refine Met.ofW (cc := cX5_shop) (maxL := 4) (ret := (some .int)) (by decide) rfl ?_
  intro p e s m args below meth c s₁ B hml hv
  obtain ⟨hargs, hA, hG, hK, hX⟩ := hv
  have hx := B.exec
  have hb := B.bytes
  have hr := B.returns
  have hts := atoms_spec (ws := wsX5_shop) B.pre
  have hown : s.vm.findClass RX5 = some m.cls := findClass_of_methodNamed B.named
  have hlocks := B.notSynchronized
  subst hargs
  clear B
  have hS : va_S A s.heap s.heap [] := va_S.rf
  have hl := lv_entry ([.ref a0, .int x1]) (n := 4) (Nat.le_of_ble_eq_true rfl)
  rw [lg_entry_eq]
  generalize (lg_sl ([.ref a0, .int x1]) ++ List.replicate (4 - (lg_sl ([.ref a0, .int x1])).length) Slot.unset).toArray = ls at hl ⊢
  have hl : lv_has ls 4 [(0, .ref a0), (1, .int x1)] := hl
  have hG : GG D κ A S s.heap := hG
  refine lv_iload_n hx hb dX5_shop_0 rfl (lv_at hl 1 rfl) ?_
  refine gc_i (va_runS (As := [.int x1]) (rest := []) ⟨hx, hb, hml, hown, hts⟩ (c_X5_isShelf l D κ A S x1 _ h) (va_cwS 1 hts gX5_shop_X5_isShelf rfl rfl rfl (by decide +kernel) ⟨Nat.le_of_ble_eq_true rfl, Nat.le_of_ble_eq_true rfl⟩) (pg_S hK hX hG (pg_A hA hS)) rfl rfl hl.1 rfl (lv_room (Nat.le_of_ble_eq_true rfl)) dX5_shop_1 ⟨Nat.le_of_ble_eq_true rfl, Nat.le_of_ble_eq_true rfl⟩) hS (fun z3 S2 H locs1 h hG hS => ?_)
  refine lv_if_ne (tgt := 9) hx hb dX5_shop_4 rfl (fun hc => ?_) (fun hc => ?_)
  · replace h := h.1 hc
    refine lv_aload_n hx hb dX5_shop_9 rfl (lv_at hl 0 rfl) ?_
    refine lv_iload_n hx hb dX5_shop_10 rfl (lv_at hl 1 rfl) ?_
    refine lv_iconst (v := (0 : Int32)) hx hb dX5_shop_11 (by decide) ?_
    have hk := h.1
    replace h := h.2
    refine gc_q (va_runV (As := [.int x1, .int (0 : Int32)]) (rest := []) ⟨hx, hb, hml, hown, hts⟩ (c_X5_rowOfSort l D κ A S2 a0 x1 (0 : Int32) _ h) (cwV 2 hts gX5_shop_X5_rowOfSort rfl rfl rfl (by decide +kernel) ⟨Nat.le_of_ble_eq_true rfl, Nat.le_of_ble_eq_true rfl⟩) (pg_V (q := (RX5, TX5, 13)) hK hX hG (pg_A hA hS) (kc_6 hk) rfl) rfl rfl hl.1 rfl (lv_room (Nat.le_of_ble_eq_true rfl)) dX5_shop_12 ⟨Nat.le_of_ble_eq_true rfl, Nat.le_of_ble_eq_true rfl⟩) hS (fun z6 S5 H locs4 h hG hS hc => ?_) (fun z6 S5 H locs4 h hG hS r7 hc => ?_)
    · replace h := h.1 hc
      refine lv_astore_nN (lv' := [(2, .null), (0, .ref a0), (1, .int x1)]) hx hb dX5_shop_15 rfl hl (by decide) rfl (fun ls hl => ?_)
      refine lv_aload_nN hx hb dX5_shop_16 rfl (lv_at hl 0 rfl) ?_
      refine lv_ifnonnullN hx hb dX5_shop_17 ?_
      refine lv_aload_n hx hb dX5_shop_20 rfl (lv_at hl 1 rfl) ?_
      refine lv_iload_n hx hb dX5_shop_21 rfl (lv_at hl 2 rfl) ?_
      have hk := h.1
      replace h := h.2
      refine gc_i (va_runV (As := [.int x1]) (rest := []) ⟨hx, hb, hml, hown, hts⟩ (c_X5_notHeld l D κ A S5 a0 x1 _ h) (cwV 1 hts gX5_shop_X5_notHeld rfl rfl rfl (by decide +kernel) ⟨Nat.le_of_ble_eq_true rfl, Nat.le_of_ble_eq_true rfl⟩) (pg_V (q := (RX5, TX5, 13)) hK hX hG (pg_A hA hS) (kc_6 hk) rfl) rfl rfl hl.1 rfl (lv_room (Nat.le_of_ble_eq_true rfl)) dX5_shop_22 ⟨Nat.le_of_ble_eq_true rfl, Nat.le_of_ble_eq_true rfl⟩) hS (fun z10 S9 H locs8 h hG hS => ?_)
      exact W.iret hx hb hr (gr_i h hG hK hX hS) hS.2.2 dX5_shop_25
    · replace h := h.2 r7 hc
      refine lv_astore_n (lv' := [(2, .ref r7), (0, .ref a0), (1, .int x1)]) hx hb dX5_shop_15 rfl hl (by decide) rfl (fun ls hl => ?_)
      refine lv_aload_n hx hb dX5_shop_16 rfl (lv_at hl 0 rfl) ?_
      refine lv_ifnonnull (tgt := 26) hx hb dX5_shop_17 rfl ?_
      refine lv_aload_n hx hb dX5_shop_26 rfl (lv_at hl 1 rfl) ?_
      have hk := h.1
      replace h := h.2
      obtain ⟨r11, hr11, h⟩ := h
      refine gg_get (v := .ref r11) (ci := 5) (C := RX5) (T := TX5) (N := 13) hx hb hts (fun _ h => List.mem_cons_of_mem _ (List.mem_append_left _ (List.mem_append_left _ (List.mem_append_left _ (List.mem_append_left _ (List.mem_append_right _ (h))))))) hown hK hG (kc_6 hk) rfl 9 (by decide) (hts (.fieldLink RX5 54 "FourStones" "reader" "LFourStones$ShopReader;") (List.mem_of_getElem? (i := 1) rfl)) (fun _ h9 => h9) (congrArg (fun z => some (va_rf z)) hr11) dX5_shop_27 ?_
      refine lv_aload_n hx hb dX5_shop_30 rfl (lv_at hl 0 rfl) ?_
      refine lv_aload_n hx hb dX5_shop_31 rfl (lv_at hl 1 rfl) ?_
      have hk := h.1
      replace h := h.2
      obtain ⟨r12, hr12, h⟩ := h
      refine gg_get (v := .ref r12) (ci := 5) (C := RX5) (T := TX5) (N := 13) hx hb hts (fun _ h => List.mem_cons_of_mem _ (List.mem_append_left _ (List.mem_append_left _ (List.mem_append_left _ (List.mem_append_left _ (List.mem_append_right _ (h))))))) hown hK hG (kc_6 hk) rfl 0 (by decide) (hts (.fieldLink RX5 10 "FourStones" "stones" "LFourStones$Stones;") (List.mem_of_getElem? (i := 2) rfl)) (fun _ h9 => h9) (congrArg (fun z => some (va_rf z)) hr12) dX5_shop_32 ?_
      have hk := h.1
      replace h := h.2
      refine gc_i (va_runV (As := [.ref r7, .ref r12]) (rest := []) ⟨hx, hb, hml, hown, hts⟩ (c_X3_read l D κ A S5 r11 r7 r12 _ h) (cwV 2 hts gX5_shop_X3_read rfl rfl rfl (by decide +kernel) ⟨Nat.le_of_ble_eq_true rfl, Nat.le_of_ble_eq_true rfl⟩) (pg_V (q := (RX3, TX3, 3)) hK hX hG (pg_A hA hS) (kc_4 hk) rfl) rfl rfl hl.1 rfl (lv_room (Nat.le_of_ble_eq_true rfl)) dX5_shop_35 ⟨Nat.le_of_ble_eq_true rfl, Nat.le_of_ble_eq_true rfl⟩) hS (fun z15 S14 H locs13 h hG hS => ?_)
      refine lv_istore_n (lv' := [(3, .int z15), (2, .ref r7), (0, .ref a0), (1, .int x1)]) hx hb dX5_shop_38 rfl hl (by decide) rfl (fun ls hl => ?_)
      refine lv_aload_n hx hb dX5_shop_39 rfl (lv_at hl 2 rfl) ?_
      have hk := h.1
      replace h := h.2
      obtain ⟨r16, hr16, h⟩ := h
      refine gg_get (v := .ref r16) (ci := 5) (C := RX5) (T := TX5) (N := 13) hx hb hts (fun _ h => List.mem_cons_of_mem _ (List.mem_append_left _ (List.mem_append_left _ (List.mem_append_left _ (List.mem_append_left _ (List.mem_append_right _ (h))))))) hown hK hG (kc_6 hk) rfl 1 (by decide) (hts (.fieldLink RX5 19 "FourStones" "lyings" "LFourStones$Lyings;") (List.mem_of_getElem? (i := 3) rfl)) (fun _ h9 => h9) (congrArg (fun z => some (va_rf z)) hr16) dX5_shop_40 ?_
      refine lv_aload_n hx hb dX5_shop_43 rfl (lv_at hl 2 rfl) ?_
      have hk := h.1
      replace h := h.2
      obtain ⟨r17, hr17, h⟩ := h
      refine gg_get (v := .ref r17) (ci := 5) (C := RX5) (T := TX5) (N := 13) hx hb hts (fun _ h => List.mem_cons_of_mem _ (List.mem_append_left _ (List.mem_append_left _ (List.mem_append_left _ (List.mem_append_left _ (List.mem_append_right _ (h))))))) hown hK hG (kc_6 hk) rfl 0 (by decide) (hts (.fieldLink RX5 10 "FourStones" "stones" "LFourStones$Stones;") (List.mem_of_getElem? (i := 2) rfl)) (fun _ h9 => h9) (congrArg (fun z => some (va_rf z)) hr17) dX5_shop_44 ?_
      have hk := h.1
      replace h := h.2
      refine gc_v (va_runV (As := [.ref r17]) (rest := []) ⟨hx, hb, hml, hown, hts⟩ (c_X0_layOut l D κ A S14 r16 r17 _ h) (cwV 1 hts gX5_shop_X0_layOut rfl rfl rfl (by decide +kernel) ⟨Nat.le_of_ble_eq_true rfl, Nat.le_of_ble_eq_true rfl⟩) (pg_V (q := (RX0, TX0, 5)) hK hX hG (pg_A hA hS) (kc_1 hk) rfl) rfl rfl hl.1 rfl (lv_room (Nat.le_of_ble_eq_true rfl)) dX5_shop_47 ⟨Nat.le_of_ble_eq_true rfl, Nat.le_of_ble_eq_true rfl⟩) hS (fun S19 H locs18 h hG hS => ?_)
      refine lv_iload_n hx hb dX5_shop_50 rfl (lv_at hl 0 rfl) ?_
      exact W.iret hx hb hr (gr_i h hG hK hX hS) hS.2.2 dX5_shop_51
  · replace h := h.2 hc
    refine lv_iconst (v := (-1 : Int32)) hx hb dX5_shop_7 (by decide) ?_
    exact W.iret hx hb hr (gr_i h hG hK hX hS) hS.2.2 dX5_shop_8
set_option maxHeartbeats 4000000 in
set_option maxRecDepth 100000 in
theorem c_X5_stone (l : Launch) (D : va_G) (κ : Nat → ClassId) (A : Nat → Prop) (S : Hp) (a0 : Nat) (x1 : Int32) (x2 : Int32) (Q : Int32 → Hp → Prop) (h : wp_X5_stone a0 x1 x2 S Q) : Met l yX5_stone wsX5_stone ({ frames := 2, cells := 0, slots := 0, locals := 96 } : Room) (PG D κ A S [.ref a0, .int x1, .int x2]) (va_Qi Q (BG D κ A) A) 0 0 A := by
  refine Met.ofW (cc := cX5_stone) (maxL := 3) (ret := (some .int)) (by decide) rfl ?_
  intro p e s m args below meth c s₁ B hml hv
  obtain ⟨hargs, hA, hG, hK, hX⟩ := hv
  have hx := B.exec
  have hb := B.bytes
  have hr := B.returns
  have hts := atoms_spec (ws := wsX5_stone) B.pre
  have hown : s.vm.findClass RX5 = some m.cls := findClass_of_methodNamed B.named
  have hlocks := B.notSynchronized
  subst hargs
  clear B
  have hS : va_S A s.heap s.heap [] := va_S.rf
  have hl := lv_entry ([.ref a0, .int x1, .int x2]) (n := 3) (Nat.le_of_ble_eq_true rfl)
  rw [lg_entry_eq]
  generalize (lg_sl ([.ref a0, .int x1, .int x2]) ++ List.replicate (3 - (lg_sl ([.ref a0, .int x1, .int x2])).length) Slot.unset).toArray = ls at hl ⊢
  have hl : lv_has ls 3 [(0, .ref a0), (1, .int x1), (2, .int x2)] := hl
  have hG : GG D κ A S s.heap := hG
  refine lv_aload_n hx hb dX5_stone_0 rfl (lv_at hl 0 rfl) ?_
  have hk := h.1
  replace h := h.2
  obtain ⟨r1, hr1, h⟩ := h
  refine gg_get (v := .ref r1) (ci := 5) (C := RX5) (T := TX5) (N := 13) hx hb hts (fun _ h => List.mem_cons_of_mem _ (List.mem_append_left _ (List.mem_append_right _ (h)))) hown hK hG (kc_6 hk) rfl 0 (by decide) (hts (.fieldLink RX5 10 "FourStones" "stones" "LFourStones$Stones;") (List.mem_of_getElem? (i := 1) rfl)) (fun _ h9 => h9) (congrArg (fun z => some (va_rf z)) hr1) dX5_stone_1 ?_
  refine lv_iload_n hx hb dX5_stone_4 rfl (lv_at hl 1 rfl) ?_
  have hk := h.1
  replace h := h.2
  refine gc_i (va_runV (As := [.int x1]) (rest := []) ⟨hx, hb, hml, hown, hts⟩ (c_X4_isStone l D κ A S r1 x1 _ h) (cwV 1 hts gX5_stone_X4_isStone rfl rfl rfl (by decide +kernel) ⟨Nat.le_of_ble_eq_true rfl, Nat.le_of_ble_eq_true rfl⟩) (pg_V (q := (RX4, TX4, 3)) hK hX hG (pg_A hA hS) (kc_5 hk) rfl) rfl rfl hl.1 rfl (lv_room (Nat.le_of_ble_eq_true rfl)) dX5_stone_5 ⟨Nat.le_of_ble_eq_true rfl, Nat.le_of_ble_eq_true rfl⟩) hS (fun z4 S3 H locs2 h hG hS => ?_)
  refine lv_if_eq (tgt := 20) hx hb dX5_stone_8 rfl (fun hc => ?_) (fun hc => ?_)
  · replace h := h.1 hc
    refine lv_iconst (v := (-1 : Int32)) hx hb dX5_stone_20 (by decide) ?_
    exact W.iret hx hb hr (gr_i h hG hK hX hS) hS.2.2 dX5_stone_21
  · replace h := h.2 hc
    refine lv_iload_n hx hb dX5_stone_11 rfl (lv_at hl 2 rfl) ?_
    refine lv_if_lt (tgt := 20) hx hb dX5_stone_12 rfl (fun hc => ?_) (fun hc => ?_)
    · replace h := h.1 hc
      refine lv_iconst (v := (-1 : Int32)) hx hb dX5_stone_20 (by decide) ?_
      exact W.iret hx hb hr (gr_i h hG hK hX hS) hS.2.2 dX5_stone_21
    · replace h := h.2 hc
      refine lv_iload_n hx hb dX5_stone_15 rfl (lv_at hl 2 rfl) ?_
      refine lv_iconst (v := (1 : Int32)) hx hb dX5_stone_16 (by decide) ?_
      refine lv_icmp_le (tgt := 22) hx hb dX5_stone_17 rfl (fun hc => ?_) (fun hc => ?_)
      · replace h := h.1 hc
        refine lv_iload_n hx hb dX5_stone_22 rfl (lv_at hl 2 rfl) ?_
        refine lv_if_ne (tgt := 38) hx hb dX5_stone_23 rfl (fun hc => ?_) (fun hc => ?_)
        · replace h := h.1 hc
          refine lv_aload_n hx hb dX5_stone_38 rfl (lv_at hl 0 rfl) ?_
          have hk := h.1
          replace h := h.2
          obtain ⟨r5, hr5, h⟩ := h
          refine gg_get (v := .ref r5) (ci := 5) (C := RX5) (T := TX5) (N := 13) hx hb hts (fun _ h => List.mem_cons_of_mem _ (List.mem_append_left _ (List.mem_append_right _ (h)))) hown hK hG (kc_6 hk) rfl 0 (by decide) (hts (.fieldLink RX5 10 "FourStones" "stones" "LFourStones$Stones;") (List.mem_of_getElem? (i := 1) rfl)) (fun _ h9 => h9) (congrArg (fun z => some (va_rf z)) hr5) dX5_stone_39 ?_
          have hk := h.1
          replace h := h.2
          obtain ⟨r6, hr6, h⟩ := h
          refine gg_get (v := .ref r6) (ci := 4) (C := RX4) (T := TX4) (N := 3) hx hb hts (fun _ h => List.mem_cons_of_mem _ (List.mem_append_right _ (h))) hown hK hG (kc_5 hk) rfl 1 (by decide) (hts (.fieldLink RX5 94 "FourStones$Stones" "prices" "[I") (List.mem_of_getElem? (i := 3) rfl)) (fun _ h9 => h9) (congrArg (fun z => some (va_rf z)) hr6) dX5_stone_42 ?_
          refine lv_iload_n hx hb dX5_stone_45 rfl (lv_at hl 1 rfl) ?_
          have hk := h.1
          replace h := h.2
          have hi := h.1
          replace h := h.2
          refine gg_iald hx hb hK hG hk hi dX5_stone_46 ?_
          exact W.iret hx hb hr (gr_i h hG hK hX hS) hS.2.2 dX5_stone_47
        · replace h := h.2 hc
          refine lv_aload_n hx hb dX5_stone_26 rfl (lv_at hl 0 rfl) ?_
          have hk := h.1
          replace h := h.2
          obtain ⟨r7, hr7, h⟩ := h
          refine gg_get (v := .ref r7) (ci := 5) (C := RX5) (T := TX5) (N := 13) hx hb hts (fun _ h => List.mem_cons_of_mem _ (List.mem_append_left _ (List.mem_append_right _ (h)))) hown hK hG (kc_6 hk) rfl 0 (by decide) (hts (.fieldLink RX5 10 "FourStones" "stones" "LFourStones$Stones;") (List.mem_of_getElem? (i := 1) rfl)) (fun _ h9 => h9) (congrArg (fun z => some (va_rf z)) hr7) dX5_stone_27 ?_
          have hk := h.1
          replace h := h.2
          obtain ⟨r8, hr8, h⟩ := h
          refine gg_get (v := .ref r8) (ci := 4) (C := RX4) (T := TX4) (N := 3) hx hb hts (fun _ h => List.mem_cons_of_mem _ (List.mem_append_right _ (h))) hown hK hG (kc_5 hk) rfl 0 (by decide) (hts (.fieldLink RX5 91 "FourStones$Stones" "weights" "[I") (List.mem_of_getElem? (i := 2) rfl)) (fun _ h9 => h9) (congrArg (fun z => some (va_rf z)) hr8) dX5_stone_30 ?_
          refine lv_iload_n hx hb dX5_stone_33 rfl (lv_at hl 1 rfl) ?_
          have hk := h.1
          replace h := h.2
          have hi := h.1
          replace h := h.2
          refine gg_iald hx hb hK hG hk hi dX5_stone_34 ?_
          refine lv_goto (tgt := 47) hx hb dX5_stone_35 rfl ?_
          exact W.iret hx hb hr (gr_i h hG hK hX hS) hS.2.2 dX5_stone_47
      · replace h := h.2 hc
        refine lv_iconst (v := (-1 : Int32)) hx hb dX5_stone_20 (by decide) ?_
        exact W.iret hx hb hr (gr_i h hG hK hX hS) hS.2.2 dX5_stone_21
set_option maxHeartbeats 4000000 in
set_option maxRecDepth 100000 in
theorem c_X5_lying (l : Launch) (D : va_G) (κ : Nat → ClassId) (A : Nat → Prop) (S : Hp) (a0 : Nat) (x1 : Int32) (x2 : Int32) (Q : Int32 → Hp → Prop) (h : wp_X5_lying a0 x1 x2 S Q) : Met l yX5_lying wsX5_lying ({ frames := 3, cells := 0, slots := 0, locals := 144 } : Room) (PG D κ A S [.ref a0, .int x1, .int x2]) (va_Qi Q (BG D κ A) A) 0 0 A := by
  refine Met.ofW (cc := cX5_lying) (maxL := 3) (ret := (some .int)) (by decide) rfl ?_
  intro p e s m args below meth c s₁ B hml hv
  obtain ⟨hargs, hA, hG, hK, hX⟩ := hv
  have hx := B.exec
  have hb := B.bytes
  have hr := B.returns
  have hts := atoms_spec (ws := wsX5_lying) B.pre
  have hown : s.vm.findClass RX5 = some m.cls := findClass_of_methodNamed B.named
  have hlocks := B.notSynchronized
  subst hargs
  clear B
  have hS : va_S A s.heap s.heap [] := va_S.rf
  have hl := lv_entry ([.ref a0, .int x1, .int x2]) (n := 3) (Nat.le_of_ble_eq_true rfl)
  rw [lg_entry_eq]
  generalize (lg_sl ([.ref a0, .int x1, .int x2]) ++ List.replicate (3 - (lg_sl ([.ref a0, .int x1, .int x2])).length) Slot.unset).toArray = ls at hl ⊢
  have hl : lv_has ls 3 [(0, .ref a0), (1, .int x1), (2, .int x2)] := hl
  have hG : GG D κ A S s.heap := hG
  refine lv_aload_n hx hb dX5_lying_0 rfl (lv_at hl 0 rfl) ?_
  have hk := h.1
  replace h := h.2
  obtain ⟨r1, hr1, h⟩ := h
  refine gg_get (v := .ref r1) (ci := 5) (C := RX5) (T := TX5) (N := 13) hx hb hts (fun _ h => List.mem_cons_of_mem _ (List.mem_append_left _ (List.mem_append_left _ (List.mem_append_right _ (h))))) hown hK hG (kc_6 hk) rfl 1 (by decide) (hts (.fieldLink RX5 19 "FourStones" "lyings" "LFourStones$Lyings;") (List.mem_of_getElem? (i := 1) rfl)) (fun _ h9 => h9) (congrArg (fun z => some (va_rf z)) hr1) dX5_lying_1 ?_
  refine lv_iload_n hx hb dX5_lying_4 rfl (lv_at hl 1 rfl) ?_
  have hk := h.1
  replace h := h.2
  refine gc_i (va_runV (As := [.int x1]) (rest := []) ⟨hx, hb, hml, hown, hts⟩ (c_X0_isLying l D κ A S r1 x1 _ h) (cwV 1 hts gX5_lying_X0_isLying rfl rfl rfl (by decide +kernel) ⟨Nat.le_of_ble_eq_true rfl, Nat.le_of_ble_eq_true rfl⟩) (pg_V (q := (RX0, TX0, 5)) hK hX hG (pg_A hA hS) (kc_1 hk) rfl) rfl rfl hl.1 rfl (lv_room (Nat.le_of_ble_eq_true rfl)) dX5_lying_5 ⟨Nat.le_of_ble_eq_true rfl, Nat.le_of_ble_eq_true rfl⟩) hS (fun z4 S3 H locs2 h hG hS => ?_)
  refine lv_if_ne (tgt := 13) hx hb dX5_lying_8 rfl (fun hc => ?_) (fun hc => ?_)
  · replace h := h.1 hc
    refine lv_iload_n hx hb dX5_lying_13 rfl (lv_at hl 2 rfl) ?_
    by_cases hd : (x2).toInt < 0 ∨ 3 < (x2).toInt
    · replace h := h.2.2.2.2 hd
      refine lv_tableOut (tgt := 89) hx hb dX5_lying_14 hd rfl ?_
      refine lv_iconst (v := (-1 : Int32)) hx hb dX5_lying_89 (by decide) ?_
      exact W.iret hx hb hr (gr_i h hG hK hX hS) hS.2.2 dX5_lying_90
    · have hd2 : (x2).toInt = 0 ∨ (x2).toInt = 1 ∨ (x2).toInt = 2 ∨ (x2).toInt = 3 := by omega
      rcases hd2 with hc | hc | hc | hc
      · replace h := h.1 hc
        refine lv_tableIn (off := 30) (tgt := 44) hx hb dX5_lying_14 (by rw [hc]; decide) (by rw [hc]; decide) (by rw [hc]; rfl) rfl ?_
        refine lv_aload_n hx hb dX5_lying_44 rfl (lv_at hl 0 rfl) ?_
        have hk := h.1
        replace h := h.2
        obtain ⟨r5, hr5, h⟩ := h
        refine gg_get (v := .ref r5) (ci := 5) (C := RX5) (T := TX5) (N := 13) hx hb hts (fun _ h => List.mem_cons_of_mem _ (List.mem_append_left _ (List.mem_append_left _ (List.mem_append_right _ (h))))) hown hK hG (kc_6 hk) rfl 1 (by decide) (hts (.fieldLink RX5 19 "FourStones" "lyings" "LFourStones$Lyings;") (List.mem_of_getElem? (i := 1) rfl)) (fun _ h9 => h9) (congrArg (fun z => some (va_rf z)) hr5) dX5_lying_45 ?_
        have hk := h.1
        replace h := h.2
        obtain ⟨r6, hr6, h⟩ := h
        refine gg_get (v := .ref r6) (ci := 0) (C := RX0) (T := TX0) (N := 5) hx hb hts (fun _ h => List.mem_cons_of_mem _ (List.mem_append_left _ (List.mem_append_right _ (h)))) hown hK hG (kc_1 hk) rfl 0 (by decide) (hts (.fieldLink RX5 100 "FourStones$Lyings" "right" "[I") (List.mem_of_getElem? (i := 2) rfl)) (fun _ h9 => h9) (congrArg (fun z => some (va_rf z)) hr6) dX5_lying_48 ?_
        refine lv_iload_n hx hb dX5_lying_51 rfl (lv_at hl 1 rfl) ?_
        have hk := h.1
        replace h := h.2
        have hi := h.1
        replace h := h.2
        refine gg_iald hx hb hK hG hk hi dX5_lying_52 ?_
        exact W.iret hx hb hr (gr_i h hG hK hX hS) hS.2.2 dX5_lying_53
      · replace h := h.2.1 hc
        refine lv_tableIn (off := 40) (tgt := 54) hx hb dX5_lying_14 (by rw [hc]; decide) (by rw [hc]; decide) (by rw [hc]; rfl) rfl ?_
        refine lv_aload_n hx hb dX5_lying_54 rfl (lv_at hl 0 rfl) ?_
        have hk := h.1
        replace h := h.2
        obtain ⟨r7, hr7, h⟩ := h
        refine gg_get (v := .ref r7) (ci := 5) (C := RX5) (T := TX5) (N := 13) hx hb hts (fun _ h => List.mem_cons_of_mem _ (List.mem_append_left _ (List.mem_append_left _ (List.mem_append_right _ (h))))) hown hK hG (kc_6 hk) rfl 1 (by decide) (hts (.fieldLink RX5 19 "FourStones" "lyings" "LFourStones$Lyings;") (List.mem_of_getElem? (i := 1) rfl)) (fun _ h9 => h9) (congrArg (fun z => some (va_rf z)) hr7) dX5_lying_55 ?_
        have hk := h.1
        replace h := h.2
        obtain ⟨r8, hr8, h⟩ := h
        refine gg_get (v := .ref r8) (ci := 0) (C := RX0) (T := TX0) (N := 5) hx hb hts (fun _ h => List.mem_cons_of_mem _ (List.mem_append_left _ (List.mem_append_right _ (h)))) hown hK hG (kc_1 hk) rfl 1 (by decide) (hts (.fieldLink RX5 103 "FourStones$Lyings" "left" "[I") (List.mem_of_getElem? (i := 3) rfl)) (fun _ h9 => h9) (congrArg (fun z => some (va_rf z)) hr8) dX5_lying_58 ?_
        refine lv_iload_n hx hb dX5_lying_61 rfl (lv_at hl 1 rfl) ?_
        have hk := h.1
        replace h := h.2
        have hi := h.1
        replace h := h.2
        refine gg_iald hx hb hK hG hk hi dX5_lying_62 ?_
        exact W.iret hx hb hr (gr_i h hG hK hX hS) hS.2.2 dX5_lying_63
      · replace h := h.2.2.1 hc
        refine lv_tableIn (off := 50) (tgt := 64) hx hb dX5_lying_14 (by rw [hc]; decide) (by rw [hc]; decide) (by rw [hc]; rfl) rfl ?_
        refine lv_aload_n hx hb dX5_lying_64 rfl (lv_at hl 0 rfl) ?_
        have hk := h.1
        replace h := h.2
        obtain ⟨r9, hr9, h⟩ := h
        refine gg_get (v := .ref r9) (ci := 5) (C := RX5) (T := TX5) (N := 13) hx hb hts (fun _ h => List.mem_cons_of_mem _ (List.mem_append_left _ (List.mem_append_left _ (List.mem_append_right _ (h))))) hown hK hG (kc_6 hk) rfl 1 (by decide) (hts (.fieldLink RX5 19 "FourStones" "lyings" "LFourStones$Lyings;") (List.mem_of_getElem? (i := 1) rfl)) (fun _ h9 => h9) (congrArg (fun z => some (va_rf z)) hr9) dX5_lying_65 ?_
        refine lv_iload_n hx hb dX5_lying_68 rfl (lv_at hl 1 rfl) ?_
        have hk := h.1
        replace h := h.2
        refine gc_i (va_runV (As := [.int x1]) (rest := []) ⟨hx, hb, hml, hown, hts⟩ (c_X0_liftsOf l D κ A S3 r9 x1 _ h) (cwV 1 hts gX5_lying_X0_liftsOf rfl rfl rfl (by decide +kernel) ⟨Nat.le_of_ble_eq_true rfl, Nat.le_of_ble_eq_true rfl⟩) (pg_V (q := (RX0, TX0, 5)) hK hX hG (pg_A hA hS) (kc_1 hk) rfl) rfl rfl hl.1 rfl (lv_room (Nat.le_of_ble_eq_true rfl)) dX5_lying_69 ⟨Nat.le_of_ble_eq_true rfl, Nat.le_of_ble_eq_true rfl⟩) hS (fun z12 S11 H locs10 h hG hS => ?_)
        exact W.iret hx hb hr (gr_i h hG hK hX hS) hS.2.2 dX5_lying_72
      · replace h := h.2.2.2.1 hc
        refine lv_tableIn (off := 59) (tgt := 73) hx hb dX5_lying_14 (by rw [hc]; decide) (by rw [hc]; decide) (by rw [hc]; rfl) rfl ?_
        refine lv_aload_n hx hb dX5_lying_73 rfl (lv_at hl 0 rfl) ?_
        have hk := h.1
        replace h := h.2
        obtain ⟨r13, hr13, h⟩ := h
        refine gg_get (v := .ref r13) (ci := 5) (C := RX5) (T := TX5) (N := 13) hx hb hts (fun _ h => List.mem_cons_of_mem _ (List.mem_append_left _ (List.mem_append_left _ (List.mem_append_right _ (h))))) hown hK hG (kc_6 hk) rfl 0 (by decide) (hts (.fieldLink RX5 10 "FourStones" "stones" "LFourStones$Stones;") (List.mem_of_getElem? (i := 4) rfl)) (fun _ h9 => h9) (congrArg (fun z => some (va_rf z)) hr13) dX5_lying_74 ?_
        refine lv_aload_n hx hb dX5_lying_77 rfl (lv_at hl 0 rfl) ?_
        have hk := h.1
        replace h := h.2
        obtain ⟨r14, hr14, h⟩ := h
        refine gg_get (v := .ref r14) (ci := 5) (C := RX5) (T := TX5) (N := 13) hx hb hts (fun _ h => List.mem_cons_of_mem _ (List.mem_append_left _ (List.mem_append_left _ (List.mem_append_right _ (h))))) hown hK hG (kc_6 hk) rfl 1 (by decide) (hts (.fieldLink RX5 19 "FourStones" "lyings" "LFourStones$Lyings;") (List.mem_of_getElem? (i := 1) rfl)) (fun _ h9 => h9) (congrArg (fun z => some (va_rf z)) hr14) dX5_lying_78 ?_
        refine lv_iload_n hx hb dX5_lying_81 rfl (lv_at hl 1 rfl) ?_
        have hk := h.1
        replace h := h.2
        refine gc_i (va_runV (As := [.int x1]) (rest := [.ref r13]) ⟨hx, hb, hml, hown, hts⟩ (c_X0_notOff l D κ A S3 r14 x1 _ h) (cwV 1 hts gX5_lying_X0_notOff rfl rfl rfl (by decide +kernel) ⟨Nat.le_of_ble_eq_true rfl, Nat.le_of_ble_eq_true rfl⟩) (pg_V (q := (RX0, TX0, 5)) hK hX hG (pg_A hA hS) (kc_1 hk) rfl) rfl rfl hl.1 rfl (lv_room (Nat.le_of_ble_eq_true rfl)) dX5_lying_82 ⟨Nat.le_of_ble_eq_true rfl, Nat.le_of_ble_eq_true rfl⟩) hS (fun z17 S16 H locs15 h hG hS => ?_)
        have hk := h.1
        replace h := h.2
        refine gc_i (va_runV (As := [.int z17]) (rest := []) ⟨hx, hb, hml, hown, hts⟩ (c_X4_pricesOf l D κ A S16 r13 z17 _ h) (cwV 1 hts gX5_lying_X4_pricesOf rfl rfl rfl (by decide +kernel) ⟨Nat.le_of_ble_eq_true rfl, Nat.le_of_ble_eq_true rfl⟩) (pg_V (q := (RX4, TX4, 3)) hK hX hG (pg_A hA hS) (kc_5 hk) rfl) rfl rfl hl.1 rfl (lv_room (Nat.le_of_ble_eq_true rfl)) dX5_lying_85 ⟨Nat.le_of_ble_eq_true rfl, Nat.le_of_ble_eq_true rfl⟩) hS (fun z20 S19 H locs18 h hG hS => ?_)
        exact W.iret hx hb hr (gr_i h hG hK hX hS) hS.2.2 dX5_lying_88
  · replace h := h.2 hc
    refine lv_iconst (v := (-1 : Int32)) hx hb dX5_lying_11 (by decide) ?_
    exact W.iret hx hb hr (gr_i h hG hK hX hS) hS.2.2 dX5_lying_12
set_option maxHeartbeats 4000000 in
set_option maxRecDepth 100000 in
theorem c_X5_weighs (l : Launch) (D : va_G) (κ : Nat → ClassId) (A : Nat → Prop) (S : Hp) (a0 : Nat) (x1 : Int32) (x2 : Int32) (Q : Int32 → Hp → Prop) (h : wp_X5_weighs a0 x1 x2 S Q) : Met l yX5_weighs wsX5_weighs ({ frames := 3, cells := 0, slots := 0, locals := 144 } : Room) (PG D κ A S [.ref a0, .int x1, .int x2]) (va_Qi Q (BG D κ A) A) 0 0 A := by
  refine Met.ofW (cc := cX5_weighs) (maxL := 4) (ret := (some .int)) (by decide) rfl ?_
  intro p e s m args below meth c s₁ B hml hv
  obtain ⟨hargs, hA, hG, hK, hX⟩ := hv
  have hx := B.exec
  have hb := B.bytes
  have hr := B.returns
  have hts := atoms_spec (ws := wsX5_weighs) B.pre
  have hown : s.vm.findClass RX5 = some m.cls := findClass_of_methodNamed B.named
  have hlocks := B.notSynchronized
  subst hargs
  clear B
  have hS : va_S A s.heap s.heap [] := va_S.rf
  have hl := lv_entry ([.ref a0, .int x1, .int x2]) (n := 4) (Nat.le_of_ble_eq_true rfl)
  rw [lg_entry_eq]
  generalize (lg_sl ([.ref a0, .int x1, .int x2]) ++ List.replicate (4 - (lg_sl ([.ref a0, .int x1, .int x2])).length) Slot.unset).toArray = ls at hl ⊢
  have hl : lv_has ls 4 [(0, .ref a0), (1, .int x1), (2, .int x2)] := hl
  have hG : GG D κ A S s.heap := hG
  refine lv_iload_n hx hb dX5_weighs_0 rfl (lv_at hl 1 rfl) ?_
  refine gc_i (va_runS (As := [.int x1]) (rest := []) ⟨hx, hb, hml, hown, hts⟩ (c_X5_isShelf l D κ A S x1 _ h) (va_cwS 1 hts gX5_weighs_X5_isShelf rfl rfl rfl (by decide +kernel) ⟨Nat.le_of_ble_eq_true rfl, Nat.le_of_ble_eq_true rfl⟩) (pg_S hK hX hG (pg_A hA hS)) rfl rfl hl.1 rfl (lv_room (Nat.le_of_ble_eq_true rfl)) dX5_weighs_1 ⟨Nat.le_of_ble_eq_true rfl, Nat.le_of_ble_eq_true rfl⟩) hS (fun z3 S2 H locs1 h hG hS => ?_)
  refine lv_if_eq (tgt := 18) hx hb dX5_weighs_4 rfl (fun hc => ?_) (fun hc => ?_)
  · replace h := h.1 hc
    refine lv_ldc (v := (-1000000001 : Int32)) hx hb hown (hts (.constant RX5 115 (-1000000001)) (List.mem_of_getElem? (i := 2) rfl)) dX5_weighs_18 ?_
    exact W.iret hx hb hr (gr_i h hG hK hX hS) hS.2.2 dX5_weighs_20
  · replace h := h.2 hc
    refine lv_aload_n hx hb dX5_weighs_7 rfl (lv_at hl 0 rfl) ?_
    have hk := h.1
    replace h := h.2
    obtain ⟨r4, hr4, h⟩ := h
    refine gg_get (v := .ref r4) (ci := 5) (C := RX5) (T := TX5) (N := 13) hx hb hts (fun _ h => List.mem_cons_of_mem _ (List.mem_append_left _ (List.mem_append_left _ (List.mem_append_right _ (h))))) hown hK hG (kc_6 hk) rfl 1 (by decide) (hts (.fieldLink RX5 19 "FourStones" "lyings" "LFourStones$Lyings;") (List.mem_of_getElem? (i := 1) rfl)) (fun _ h9 => h9) (congrArg (fun z => some (va_rf z)) hr4) dX5_weighs_8 ?_
    refine lv_iload_n hx hb dX5_weighs_11 rfl (lv_at hl 2 rfl) ?_
    have hk := h.1
    replace h := h.2
    refine gc_i (va_runV (As := [.int x2]) (rest := []) ⟨hx, hb, hml, hown, hts⟩ (c_X0_isLying l D κ A S2 r4 x2 _ h) (cwV 1 hts gX5_weighs_X0_isLying rfl rfl rfl (by decide +kernel) ⟨Nat.le_of_ble_eq_true rfl, Nat.le_of_ble_eq_true rfl⟩) (pg_V (q := (RX0, TX0, 5)) hK hX hG (pg_A hA hS) (kc_1 hk) rfl) rfl rfl hl.1 rfl (lv_room (Nat.le_of_ble_eq_true rfl)) dX5_weighs_12 ⟨Nat.le_of_ble_eq_true rfl, Nat.le_of_ble_eq_true rfl⟩) hS (fun z7 S6 H locs5 h hG hS => ?_)
    refine lv_if_ne (tgt := 21) hx hb dX5_weighs_15 rfl (fun hc => ?_) (fun hc => ?_)
    · replace h := h.1 hc
      refine lv_aload_n hx hb dX5_weighs_21 rfl (lv_at hl 0 rfl) ?_
      have hk := h.1
      replace h := h.2
      obtain ⟨r8, hr8, h⟩ := h
      refine gg_get (v := .ref r8) (ci := 5) (C := RX5) (T := TX5) (N := 13) hx hb hts (fun _ h => List.mem_cons_of_mem _ (List.mem_append_left _ (List.mem_append_left _ (List.mem_append_right _ (h))))) hown hK hG (kc_6 hk) rfl 6 (by decide) (hts (.fieldLink RX5 34 "FourStones" "scales" "[LFourStones$Scale;") (List.mem_of_getElem? (i := 3) rfl)) (fun _ h9 => h9) (congrArg (fun z => some (va_rf z)) hr8) dX5_weighs_22 ?_
      refine lv_iload_n hx hb dX5_weighs_25 rfl (lv_at hl 1 rfl) ?_
      have hk := h.1
      replace h := h.2
      have hi := h.1
      replace h := h.2
      refine gg_aldq hx hb hK hG hk hi dX5_weighs_26 (fun hc => ?_) (fun r9 hc => ?_)
      · replace h := h.1 hc
        refine lv_astore_nN (lv' := [(3, .null), (0, .ref a0), (1, .int x1), (2, .int x2)]) hx hb dX5_weighs_27 rfl hl (by decide) rfl (fun ls hl => ?_)
        refine lv_aload_nN hx hb dX5_weighs_28 rfl (lv_at hl 0 rfl) ?_
        refine lv_ifnonnullN hx hb dX5_weighs_29 ?_
        refine lv_ldc (v := (-1000000000 : Int32)) hx hb hown (hts (.constant RX5 116 (-1000000000)) (List.mem_of_getElem? (i := 4) rfl)) dX5_weighs_32 ?_
        refine lv_aload_n hx hb dX5_weighs_34 rfl (lv_at hl 1 rfl) ?_
        refine lv_iload_n hx hb dX5_weighs_35 rfl (lv_at hl 2 rfl) ?_
        have hk := h.1
        replace h := h.2
        refine gc_i (va_runV (As := [.int x1]) (rest := [.int (-1000000000 : Int32)]) ⟨hx, hb, hml, hown, hts⟩ (c_X5_notHeld l D κ A S6 a0 x1 _ h) (cwV 1 hts gX5_weighs_X5_notHeld rfl rfl rfl (by decide +kernel) ⟨Nat.le_of_ble_eq_true rfl, Nat.le_of_ble_eq_true rfl⟩) (pg_V (q := (RX5, TX5, 13)) hK hX hG (pg_A hA hS) (kc_6 hk) rfl) rfl rfl hl.1 rfl (lv_room (Nat.le_of_ble_eq_true rfl)) dX5_weighs_36 ⟨Nat.le_of_ble_eq_true rfl, Nat.le_of_ble_eq_true rfl⟩) hS (fun z12 S11 H locs10 h hG hS => ?_)
        refine lv_iadd hx hb dX5_weighs_39 ?_
        exact W.iret hx hb hr (gr_i h hG hK hX hS) hS.2.2 dX5_weighs_40
      · replace h := h.2 r9 hc
        refine lv_astore_n (lv' := [(3, .ref r9), (0, .ref a0), (1, .int x1), (2, .int x2)]) hx hb dX5_weighs_27 rfl hl (by decide) rfl (fun ls hl => ?_)
        refine lv_aload_n hx hb dX5_weighs_28 rfl (lv_at hl 0 rfl) ?_
        refine lv_ifnonnull (tgt := 41) hx hb dX5_weighs_29 rfl ?_
        refine lv_aload_n hx hb dX5_weighs_41 rfl (lv_at hl 0 rfl) ?_
        refine lv_aload_n hx hb dX5_weighs_42 rfl (lv_at hl 1 rfl) ?_
        have hk := h.1
        replace h := h.2
        obtain ⟨r13, hr13, h⟩ := h
        refine gg_get (v := .ref r13) (ci := 5) (C := RX5) (T := TX5) (N := 13) hx hb hts (fun _ h => List.mem_cons_of_mem _ (List.mem_append_left _ (List.mem_append_left _ (List.mem_append_right _ (h))))) hown hK hG (kc_6 hk) rfl 1 (by decide) (hts (.fieldLink RX5 19 "FourStones" "lyings" "LFourStones$Lyings;") (List.mem_of_getElem? (i := 1) rfl)) (fun _ h9 => h9) (congrArg (fun z => some (va_rf z)) hr13) dX5_weighs_43 ?_
        refine lv_iload_n hx hb dX5_weighs_46 rfl (lv_at hl 3 rfl) ?_
        have hk := h.1
        replace h := h.2
        refine gc_i (va_runV (As := [.ref r13, .int x2]) (rest := []) ⟨hx, hb, hml, hown, hts⟩ (c_X2_allows l D κ A S6 r9 r13 x2 _ h) (cwV 2 hts gX5_weighs_X2_allows rfl rfl rfl (by decide +kernel) ⟨Nat.le_of_ble_eq_true rfl, Nat.le_of_ble_eq_true rfl⟩) (pg_V (q := (RX2, TX2, 2)) hK hX hG (pg_A hA hS) (kc_3 hk) rfl) rfl rfl hl.1 rfl (lv_room (Nat.le_of_ble_eq_true rfl)) dX5_weighs_47 ⟨Nat.le_of_ble_eq_true rfl, Nat.le_of_ble_eq_true rfl⟩) hS (fun z16 S15 H locs14 h hG hS => ?_)
        refine lv_if_eq (tgt := 65) hx hb dX5_weighs_50 rfl (fun hc => ?_) (fun hc => ?_)
        · replace h := h.1 hc
          refine lv_ldc (v := (-1000000003 : Int32)) hx hb hown (hts (.constant RX5 125 (-1000000003)) (List.mem_of_getElem? (i := 5) rfl)) dX5_weighs_65 ?_
          exact W.iret hx hb hr (gr_i h hG hK hX hS) hS.2.2 dX5_weighs_67
        · replace h := h.2 hc
          refine lv_aload_n hx hb dX5_weighs_53 rfl (lv_at hl 0 rfl) ?_
          refine lv_aload_n hx hb dX5_weighs_54 rfl (lv_at hl 1 rfl) ?_
          have hk := h.1
          replace h := h.2
          obtain ⟨r17, hr17, h⟩ := h
          refine gg_get (v := .ref r17) (ci := 5) (C := RX5) (T := TX5) (N := 13) hx hb hts (fun _ h => List.mem_cons_of_mem _ (List.mem_append_left _ (List.mem_append_left _ (List.mem_append_right _ (h))))) hown hK hG (kc_6 hk) rfl 1 (by decide) (hts (.fieldLink RX5 19 "FourStones" "lyings" "LFourStones$Lyings;") (List.mem_of_getElem? (i := 1) rfl)) (fun _ h9 => h9) (congrArg (fun z => some (va_rf z)) hr17) dX5_weighs_55 ?_
          refine lv_iload_n hx hb dX5_weighs_58 rfl (lv_at hl 3 rfl) ?_
          have hk := h.1
          replace h := h.2
          refine gc_i (va_runV (As := [.ref r17, .int x2]) (rest := []) ⟨hx, hb, hml, hown, hts⟩ (c_X2_weightOf l D κ A S15 r9 r17 x2 _ h) (cwV 2 hts gX5_weighs_X2_weightOf rfl rfl rfl (by decide +kernel) ⟨Nat.le_of_ble_eq_true rfl, Nat.le_of_ble_eq_true rfl⟩) (pg_V (q := (RX2, TX2, 2)) hK hX hG (pg_A hA hS) (kc_3 hk) rfl) rfl rfl hl.1 rfl (lv_room (Nat.le_of_ble_eq_true rfl)) dX5_weighs_59 ⟨Nat.le_of_ble_eq_true rfl, Nat.le_of_ble_eq_true rfl⟩) hS (fun z20 S19 H locs18 h hG hS => ?_)
          refine lv_goto (tgt := 67) hx hb dX5_weighs_62 rfl ?_
          exact W.iret hx hb hr (gr_i h hG hK hX hS) hS.2.2 dX5_weighs_67
    · replace h := h.2 hc
      refine lv_ldc (v := (-1000000001 : Int32)) hx hb hown (hts (.constant RX5 115 (-1000000001)) (List.mem_of_getElem? (i := 2) rfl)) dX5_weighs_18 ?_
      exact W.iret hx hb hr (gr_i h hG hK hX hS) hS.2.2 dX5_weighs_20
set_option maxHeartbeats 4000000 in
set_option maxRecDepth 100000 in
theorem c_X5_may (l : Launch) (D : va_G) (κ : Nat → ClassId) (A : Nat → Prop) (S : Hp) (a0 : Nat) (x1 : Int32) (x2 : Int32) (Q : Int32 → Hp → Prop) (h : wp_X5_may a0 x1 x2 S Q) : Met l yX5_may wsX5_may ({ frames := 3, cells := 0, slots := 0, locals := 144 } : Room) (PG D κ A S [.ref a0, .int x1, .int x2]) (va_Qi Q (BG D κ A) A) 0 0 A := by
  refine Met.ofW (cc := cX5_may) (maxL := 4) (ret := (some .int)) (by decide) rfl ?_
  intro p e s m args below meth c s₁ B hml hv
  obtain ⟨hargs, hA, hG, hK, hX⟩ := hv
  have hx := B.exec
  have hb := B.bytes
  have hr := B.returns
  have hts := atoms_spec (ws := wsX5_may) B.pre
  have hown : s.vm.findClass RX5 = some m.cls := findClass_of_methodNamed B.named
  have hlocks := B.notSynchronized
  subst hargs
  clear B
  have hS : va_S A s.heap s.heap [] := va_S.rf
  have hl := lv_entry ([.ref a0, .int x1, .int x2]) (n := 4) (Nat.le_of_ble_eq_true rfl)
  rw [lg_entry_eq]
  generalize (lg_sl ([.ref a0, .int x1, .int x2]) ++ List.replicate (4 - (lg_sl ([.ref a0, .int x1, .int x2])).length) Slot.unset).toArray = ls at hl ⊢
  have hl : lv_has ls 4 [(0, .ref a0), (1, .int x1), (2, .int x2)] := hl
  have hG : GG D κ A S s.heap := hG
  refine lv_iload_n hx hb dX5_may_0 rfl (lv_at hl 1 rfl) ?_
  refine gc_i (va_runS (As := [.int x1]) (rest := []) ⟨hx, hb, hml, hown, hts⟩ (c_X5_isShelf l D κ A S x1 _ h) (va_cwS 1 hts gX5_may_X5_isShelf rfl rfl rfl (by decide +kernel) ⟨Nat.le_of_ble_eq_true rfl, Nat.le_of_ble_eq_true rfl⟩) (pg_S hK hX hG (pg_A hA hS)) rfl rfl hl.1 rfl (lv_room (Nat.le_of_ble_eq_true rfl)) dX5_may_1 ⟨Nat.le_of_ble_eq_true rfl, Nat.le_of_ble_eq_true rfl⟩) hS (fun z3 S2 H locs1 h hG hS => ?_)
  refine lv_if_eq (tgt := 18) hx hb dX5_may_4 rfl (fun hc => ?_) (fun hc => ?_)
  · replace h := h.1 hc
    refine lv_iconst (v := (-1 : Int32)) hx hb dX5_may_18 (by decide) ?_
    exact W.iret hx hb hr (gr_i h hG hK hX hS) hS.2.2 dX5_may_19
  · replace h := h.2 hc
    refine lv_aload_n hx hb dX5_may_7 rfl (lv_at hl 0 rfl) ?_
    have hk := h.1
    replace h := h.2
    obtain ⟨r4, hr4, h⟩ := h
    refine gg_get (v := .ref r4) (ci := 5) (C := RX5) (T := TX5) (N := 13) hx hb hts (fun _ h => List.mem_cons_of_mem _ (List.mem_append_left _ (List.mem_append_left _ (List.mem_append_right _ (h))))) hown hK hG (kc_6 hk) rfl 1 (by decide) (hts (.fieldLink RX5 19 "FourStones" "lyings" "LFourStones$Lyings;") (List.mem_of_getElem? (i := 1) rfl)) (fun _ h9 => h9) (congrArg (fun z => some (va_rf z)) hr4) dX5_may_8 ?_
    refine lv_iload_n hx hb dX5_may_11 rfl (lv_at hl 2 rfl) ?_
    have hk := h.1
    replace h := h.2
    refine gc_i (va_runV (As := [.int x2]) (rest := []) ⟨hx, hb, hml, hown, hts⟩ (c_X0_isLying l D κ A S2 r4 x2 _ h) (cwV 1 hts gX5_may_X0_isLying rfl rfl rfl (by decide +kernel) ⟨Nat.le_of_ble_eq_true rfl, Nat.le_of_ble_eq_true rfl⟩) (pg_V (q := (RX0, TX0, 5)) hK hX hG (pg_A hA hS) (kc_1 hk) rfl) rfl rfl hl.1 rfl (lv_room (Nat.le_of_ble_eq_true rfl)) dX5_may_12 ⟨Nat.le_of_ble_eq_true rfl, Nat.le_of_ble_eq_true rfl⟩) hS (fun z7 S6 H locs5 h hG hS => ?_)
    refine lv_if_ne (tgt := 20) hx hb dX5_may_15 rfl (fun hc => ?_) (fun hc => ?_)
    · replace h := h.1 hc
      refine lv_aload_n hx hb dX5_may_20 rfl (lv_at hl 0 rfl) ?_
      have hk := h.1
      replace h := h.2
      obtain ⟨r8, hr8, h⟩ := h
      refine gg_get (v := .ref r8) (ci := 5) (C := RX5) (T := TX5) (N := 13) hx hb hts (fun _ h => List.mem_cons_of_mem _ (List.mem_append_left _ (List.mem_append_left _ (List.mem_append_right _ (h))))) hown hK hG (kc_6 hk) rfl 6 (by decide) (hts (.fieldLink RX5 34 "FourStones" "scales" "[LFourStones$Scale;") (List.mem_of_getElem? (i := 2) rfl)) (fun _ h9 => h9) (congrArg (fun z => some (va_rf z)) hr8) dX5_may_21 ?_
      refine lv_iload_n hx hb dX5_may_24 rfl (lv_at hl 1 rfl) ?_
      have hk := h.1
      replace h := h.2
      have hi := h.1
      replace h := h.2
      refine gg_aldq hx hb hK hG hk hi dX5_may_25 (fun hc => ?_) (fun r9 hc => ?_)
      · replace h := h.1 hc
        refine lv_astore_nN (lv' := [(3, .null), (0, .ref a0), (1, .int x1), (2, .int x2)]) hx hb dX5_may_26 rfl hl (by decide) rfl (fun ls hl => ?_)
        refine lv_aload_nN hx hb dX5_may_27 rfl (lv_at hl 0 rfl) ?_
        refine lv_ifnonnullN hx hb dX5_may_28 ?_
        refine lv_aload_n hx hb dX5_may_31 rfl (lv_at hl 1 rfl) ?_
        refine lv_iload_n hx hb dX5_may_32 rfl (lv_at hl 2 rfl) ?_
        have hk := h.1
        replace h := h.2
        refine gc_i (va_runV (As := [.int x1]) (rest := []) ⟨hx, hb, hml, hown, hts⟩ (c_X5_notHeld l D κ A S6 a0 x1 _ h) (cwV 1 hts gX5_may_X5_notHeld rfl rfl rfl (by decide +kernel) ⟨Nat.le_of_ble_eq_true rfl, Nat.le_of_ble_eq_true rfl⟩) (pg_V (q := (RX5, TX5, 13)) hK hX hG (pg_A hA hS) (kc_6 hk) rfl) rfl rfl hl.1 rfl (lv_room (Nat.le_of_ble_eq_true rfl)) dX5_may_33 ⟨Nat.le_of_ble_eq_true rfl, Nat.le_of_ble_eq_true rfl⟩) hS (fun z12 S11 H locs10 h hG hS => ?_)
        exact W.iret hx hb hr (gr_i h hG hK hX hS) hS.2.2 dX5_may_36
      · replace h := h.2 r9 hc
        refine lv_astore_n (lv' := [(3, .ref r9), (0, .ref a0), (1, .int x1), (2, .int x2)]) hx hb dX5_may_26 rfl hl (by decide) rfl (fun ls hl => ?_)
        refine lv_aload_n hx hb dX5_may_27 rfl (lv_at hl 0 rfl) ?_
        refine lv_ifnonnull (tgt := 37) hx hb dX5_may_28 rfl ?_
        refine lv_aload_n hx hb dX5_may_37 rfl (lv_at hl 0 rfl) ?_
        refine lv_aload_n hx hb dX5_may_38 rfl (lv_at hl 1 rfl) ?_
        have hk := h.1
        replace h := h.2
        obtain ⟨r13, hr13, h⟩ := h
        refine gg_get (v := .ref r13) (ci := 5) (C := RX5) (T := TX5) (N := 13) hx hb hts (fun _ h => List.mem_cons_of_mem _ (List.mem_append_left _ (List.mem_append_left _ (List.mem_append_right _ (h))))) hown hK hG (kc_6 hk) rfl 1 (by decide) (hts (.fieldLink RX5 19 "FourStones" "lyings" "LFourStones$Lyings;") (List.mem_of_getElem? (i := 1) rfl)) (fun _ h9 => h9) (congrArg (fun z => some (va_rf z)) hr13) dX5_may_39 ?_
        refine lv_iload_n hx hb dX5_may_42 rfl (lv_at hl 3 rfl) ?_
        have hk := h.1
        replace h := h.2
        refine gc_i (va_runV (As := [.ref r13, .int x2]) (rest := []) ⟨hx, hb, hml, hown, hts⟩ (c_X2_allows l D κ A S6 r9 r13 x2 _ h) (cwV 2 hts gX5_may_X2_allows rfl rfl rfl (by decide +kernel) ⟨Nat.le_of_ble_eq_true rfl, Nat.le_of_ble_eq_true rfl⟩) (pg_V (q := (RX2, TX2, 2)) hK hX hG (pg_A hA hS) (kc_3 hk) rfl) rfl rfl hl.1 rfl (lv_room (Nat.le_of_ble_eq_true rfl)) dX5_may_43 ⟨Nat.le_of_ble_eq_true rfl, Nat.le_of_ble_eq_true rfl⟩) hS (fun z16 S15 H locs14 h hG hS => ?_)
        refine lv_if_eq (tgt := 53) hx hb dX5_may_46 rfl (fun hc => ?_) (fun hc => ?_)
        · replace h := h.1 hc
          refine lv_iconst (v := (0 : Int32)) hx hb dX5_may_53 (by decide) ?_
          exact W.iret hx hb hr (gr_i h hG hK hX hS) hS.2.2 dX5_may_54
        · replace h := h.2 hc
          refine lv_iconst (v := (1 : Int32)) hx hb dX5_may_49 (by decide) ?_
          refine lv_goto (tgt := 54) hx hb dX5_may_50 rfl ?_
          exact W.iret hx hb hr (gr_i h hG hK hX hS) hS.2.2 dX5_may_54
    · replace h := h.2 hc
      refine lv_iconst (v := (-1 : Int32)) hx hb dX5_may_18 (by decide) ?_
      exact W.iret hx hb hr (gr_i h hG hK hX hS) hS.2.2 dX5_may_19
set_option maxHeartbeats 4000000 in
set_option maxRecDepth 100000 in
theorem c_X5_isNumber (l : Launch) (D : va_G) (κ : Nat → ClassId) (A : Nat → Prop) (S : Hp) (x0 : Int32) (Q : Int32 → Hp → Prop) (h : wp_X5_isNumber x0 S Q) : Met l yX5_isNumber wsX5_isNumber ({ frames := 1, cells := 0, slots := 0, locals := 48 } : Room) (PG D κ A S [.int x0]) (va_Qi Q (BG D κ A) A) 0 0 A := by
  refine Met.ofW (cc := cX5_isNumber) (maxL := 1) (ret := (some .boolean)) (by decide) rfl ?_
  intro p e s m args below meth c s₁ B hml hv
  obtain ⟨hargs, hA, hG, hK, hX⟩ := hv
  have hx := B.exec
  have hb := B.bytes
  have hr := B.returns
  have hts := atoms_spec (ws := wsX5_isNumber) B.pre
  have hown : s.vm.findClass RX5 = some m.cls := findClass_of_methodNamed B.named
  have hlocks := B.notSynchronized
  subst hargs
  clear B
  have hS : va_S A s.heap s.heap [] := va_S.rf
  have hl := lv_entry ([.int x0]) (n := 1) (Nat.le_of_ble_eq_true rfl)
  rw [lg_entry_eq]
  generalize (lg_sl ([.int x0]) ++ List.replicate (1 - (lg_sl ([.int x0])).length) Slot.unset).toArray = ls at hl ⊢
  have hl : lv_has ls 1 [(0, .int x0)] := hl
  have hG : GG D κ A S s.heap := hG
  refine lv_iload_n hx hb dX5_isNumber_0 rfl (lv_at hl 0 rfl) ?_
  refine lv_sipush (v := (-9999 : Int32)) hx hb dX5_isNumber_1 (by decide) ?_
  refine lv_icmp_lt (tgt := 18) hx hb dX5_isNumber_4 rfl (fun hc => ?_) (fun hc => ?_)
  · replace h := h.1 hc
    refine lv_iconst (v := (0 : Int32)) hx hb dX5_isNumber_18 (by decide) ?_
    exact W.zret (ty := .boolean) hx hb hr (by decide) (gr_i h hG hK hX hS) hS.2.2 dX5_isNumber_19
  · replace h := h.2 hc
    refine lv_iload_n hx hb dX5_isNumber_7 rfl (lv_at hl 0 rfl) ?_
    refine lv_sipush (v := (9999 : Int32)) hx hb dX5_isNumber_8 (by decide) ?_
    refine lv_icmp_gt (tgt := 18) hx hb dX5_isNumber_11 rfl (fun hc => ?_) (fun hc => ?_)
    · replace h := h.1 hc
      refine lv_iconst (v := (0 : Int32)) hx hb dX5_isNumber_18 (by decide) ?_
      exact W.zret (ty := .boolean) hx hb hr (by decide) (gr_i h hG hK hX hS) hS.2.2 dX5_isNumber_19
    · replace h := h.2 hc
      refine lv_iconst (v := (1 : Int32)) hx hb dX5_isNumber_14 (by decide) ?_
      refine lv_goto (tgt := 19) hx hb dX5_isNumber_15 rfl ?_
      exact W.zret (ty := .boolean) hx hb hr (by decide) (gr_i h hG hK hX hS) hS.2.2 dX5_isNumber_19
set_option maxHeartbeats 4000000 in
set_option maxRecDepth 100000 in
theorem c_X5_ways (l : Launch) (D : va_G) (κ : Nat → ClassId) (A : Nat → Prop) (S : Hp) (a0 : Nat) (x1 : Int32) (x2 : Int32) (Q : Int32 → Hp → Prop) (h : wp_X5_ways a0 x1 x2 S Q) : Met l yX5_ways wsX5_ways ({ frames := 4, cells := 0, slots := 0, locals := 192 } : Room) (PG D κ A S [.ref a0, .int x1, .int x2]) (va_Qi Q (BG D κ A) A) 0 0 A := by
  refine Met.ofW (cc := cX5_ways) (maxL := 6) (ret := (some .int)) (by decide) rfl ?_
  intro p e s m args below meth c s₁ B hml hv
  obtain ⟨hargs, hA, hG, hK, hX⟩ := hv
  have hx := B.exec
  have hb := B.bytes
  have hr := B.returns
  have hts := atoms_spec (ws := wsX5_ways) B.pre
  have hown : s.vm.findClass RX5 = some m.cls := findClass_of_methodNamed B.named
  have hlocks := B.notSynchronized
  subst hargs
  clear B
  have hS : va_S A s.heap s.heap [] := va_S.rf
  have hl := lv_entry ([.ref a0, .int x1, .int x2]) (n := 6) (Nat.le_of_ble_eq_true rfl)
  rw [lg_entry_eq]
  generalize (lg_sl ([.ref a0, .int x1, .int x2]) ++ List.replicate (6 - (lg_sl ([.ref a0, .int x1, .int x2])).length) Slot.unset).toArray = ls at hl ⊢
  have hl : lv_has ls 6 [(0, .ref a0), (1, .int x1), (2, .int x2)] := hl
  have hG : GG D κ A S s.heap := hG
  have j_68 : ∀ (C39 : Nat × Int32 × Nat × Int32 × Int32 × Hp → Prop) (hC39 : ∀ (v0 : Nat) (v2 : Int32) (v3 : Nat) (v4 : Int32) (v5 : Int32) (S : Hp) (ls : Array Slot) (H : Heap) (locs : List Loc), lv_has ls 6 [(0, .ref v0), (2, .int v2), (3, .ref v3), (4, .int v4), (5, .int v5)] → GG D κ A S H → va_S A s.heap H locs → C39 (v0, v2, v3, v4, v5, S) → W p l e ({ frames := 4, cells := 0, slots := 0, locals := 192 } : Room) s m ([.ref a0, .int x1, .int x2] : List Value).toArray below meth c H locs 0 0 (MQ below (va_Qi Q (BG D κ A) A) ([.ref a0, .int x1, .int x2] : List Value).toArray s 0 0 A) (F0 m 39 ls [])) (v0 : Nat) (v2 : Int32) (v3 : Nat) (v4 : Int32) (v5 : Int32) (S : Hp) (ls : Array Slot) (H : Heap) (locs : List Loc), lv_has ls 6 [(0, .ref v0), (2, .int v2), (3, .ref v3), (4, .int v4), (5, .int v5)] → GG D κ A S H → va_S A s.heap H locs → J_X5_ways_68 C39 Q v0 v2 v3 v4 v5 S → W p l e ({ frames := 4, cells := 0, slots := 0, locals := 192 } : Room) s m ([.ref a0, .int x1, .int x2] : List Value).toArray below meth c H locs 0 0 (MQ below (va_Qi Q (BG D κ A) A) ([.ref a0, .int x1, .int x2] : List Value).toArray s 0 0 A) (F0 m 68 ls []) := by
    intro C39 hC39 v0 v2 v3 v4 v5 S ls H locs hl hG hS h
    unfold J_X5_ways_68 at h
    obtain ⟨y1, ey1⟩ : ∃ z, z = v5 + (1 : Int32) := ⟨_, rfl⟩
    replace h := h y1 ey1
    refine lv_iinc (v := y1) (lv' := [(5, .int y1), (0, .ref v0), (2, .int v2), (3, .ref v3), (4, .int v4)]) hx hb dX5_ways_68 hl (k := 4) rfl (by rw [ey1]; rfl) (by decide) rfl (fun ls hl => ?_)
    refine lv_goto (tgt := 39) hx hb dX5_ways_71 rfl ?_
    exact hC39 v0 v2 v3 v4 y1 S ls _ _ (lv_sub hl [1, 2, 3, 4, 0] rfl) hG hS h
  have k_39 : ∀  (n : Nat), ∀ (v0 : Nat) (v2 : Int32) (v3 : Nat) (v4 : Int32) (v5 : Int32) (S : Hp) (ls : Array Slot) (H : Heap) (locs : List Loc), lv_has ls 6 [(0, .ref v0), (2, .int v2), (3, .ref v3), (4, .int v4), (5, .int v5)] → GG D κ A S H → va_S A s.heap H locs → it (L_X5_ways_39  Q) n (v0, v2, v3, v4, v5, S) → W p l e ({ frames := 4, cells := 0, slots := 0, locals := 192 } : Room) s m ([.ref a0, .int x1, .int x2] : List Value).toArray below meth c H locs 0 0 (MQ below (va_Qi Q (BG D κ A) A) ([.ref a0, .int x1, .int x2] : List Value).toArray s 0 0 A) (F0 m 39 ls []) := by
    intro  n
    induction n with
    | zero => intro v0 v2 v3 v4 v5 S ls H locs hl hG hS h; exact False.elim h
    | succ n hC39 =>
      intro v0 v2 v3 v4 v5 S ls H locs hl hG hS h
      replace h : L_X5_ways_39  Q (it (L_X5_ways_39  Q) n) (v0, v2, v3, v4, v5, S) := h
      simp only [L_X5_ways_39] at h
      refine lv_iload hx hb dX5_ways_39 (lv_at hl 4 rfl) ?_
      refine lv_aload_n hx hb dX5_ways_41 rfl (lv_at hl 0 rfl) ?_
      have hk := h.1
      replace h := h.2
      obtain ⟨r1, hr1, h⟩ := h
      refine gg_get (v := .ref r1) (ci := 5) (C := RX5) (T := TX5) (N := 13) hx hb hts (fun _ h => List.mem_cons_of_mem _ (List.mem_append_left _ (List.mem_append_left _ (List.mem_append_right _ (h))))) hown hK hG (kc_6 hk) rfl 1 (by decide) (hts (.fieldLink RX5 19 "FourStones" "lyings" "LFourStones$Lyings;") (List.mem_of_getElem? (i := 2) rfl)) (fun _ h9 => h9) (congrArg (fun z => some (va_rf z)) hr1) dX5_ways_42 ?_
      have hk := h.1
      replace h := h.2
      refine gg_get (ci := 0) (C := RX0) (T := TX0) (N := 5) hx hb hts (fun _ h => List.mem_cons_of_mem _ (List.mem_append_left _ (List.mem_append_right _ (h)))) hown hK hG (kc_1 hk) rfl 4 (by decide) (hts (.fieldLink RX5 129 "FourStones$Lyings" "count" "I") (List.mem_of_getElem? (i := 3) rfl)) (fun _ h9 => h9) rfl dX5_ways_45 ?_
      refine lv_icmp_ge (tgt := 74) hx hb dX5_ways_48 rfl (fun hc => ?_) (fun hc => ?_)
      · replace h := h.1 hc
        refine lv_iload hx hb dX5_ways_74 (lv_at hl 3 rfl) ?_
        exact W.iret hx hb hr (gr_i h hG hK hX hS) hS.2.2 dX5_ways_76
      · replace h := h.2 hc
        refine lv_aload_n hx hb dX5_ways_51 rfl (lv_at hl 2 rfl) ?_
        refine lv_aload_n hx hb dX5_ways_52 rfl (lv_at hl 0 rfl) ?_
        have hk := h.1
        replace h := h.2
        obtain ⟨r2, hr2, h⟩ := h
        refine gg_get (v := .ref r2) (ci := 5) (C := RX5) (T := TX5) (N := 13) hx hb hts (fun _ h => List.mem_cons_of_mem _ (List.mem_append_left _ (List.mem_append_left _ (List.mem_append_right _ (h))))) hown hK hG (kc_6 hk) rfl 1 (by decide) (hts (.fieldLink RX5 19 "FourStones" "lyings" "LFourStones$Lyings;") (List.mem_of_getElem? (i := 2) rfl)) (fun _ h9 => h9) (congrArg (fun z => some (va_rf z)) hr2) dX5_ways_53 ?_
        refine lv_iload hx hb dX5_ways_56 (lv_at hl 4 rfl) ?_
        refine lv_iload_n hx hb dX5_ways_58 rfl (lv_at hl 1 rfl) ?_
        have hk := h.1
        replace h := h.2
        refine gc_i (va_runV (As := [.ref r2, .int v5, .int v2]) (rest := []) ⟨hx, hb, hml, hown, hts⟩ (c_X2_hits l D κ A S v3 r2 v5 v2 _ h) (cwV 3 hts gX5_ways_X2_hits rfl rfl rfl (by decide +kernel) ⟨Nat.le_of_ble_eq_true rfl, Nat.le_of_ble_eq_true rfl⟩) (pg_V (q := (RX2, TX2, 2)) hK hX hG (pg_A hA hS) (kc_3 hk) rfl) rfl rfl hl.1 rfl (lv_room (Nat.le_of_ble_eq_true rfl)) dX5_ways_59 ⟨Nat.le_of_ble_eq_true rfl, Nat.le_of_ble_eq_true rfl⟩) hS (fun z5 S4 H locs3 h hG hS => ?_)
        refine lv_if_eq (tgt := 68) hx hb dX5_ways_62 rfl (fun hc => ?_) (fun hc => ?_)
        · replace h := h.1 hc
          exact j_68 _ hC39 v0 v2 v3 v4 v5 S4 ls _ _ (lv_sub hl [0, 1, 2, 3, 4] rfl) hG hS h
        · replace h := h.2 hc
          obtain ⟨y6, ey6⟩ : ∃ z, z = v4 + (1 : Int32) := ⟨_, rfl⟩
          replace h := h y6 ey6
          refine lv_iinc (v := y6) (lv' := [(4, .int y6), (0, .ref v0), (2, .int v2), (3, .ref v3), (5, .int v5)]) hx hb dX5_ways_65 hl (k := 3) rfl (by rw [ey6]; rfl) (by decide) rfl (fun ls hl => ?_)
          exact j_68 _ hC39 v0 v2 v3 y6 v5 S4 ls _ _ (lv_sub hl [1, 2, 3, 0, 4] rfl) hG hS h
  refine lv_iload_n hx hb dX5_ways_0 rfl (lv_at hl 1 rfl) ?_
  refine gc_i (va_runS (As := [.int x1]) (rest := []) ⟨hx, hb, hml, hown, hts⟩ (c_X5_isShelf l D κ A S x1 _ h) (va_cwS 1 hts gX5_ways_X5_isShelf rfl rfl rfl (by decide +kernel) ⟨Nat.le_of_ble_eq_true rfl, Nat.le_of_ble_eq_true rfl⟩) (pg_S hK hX hG (pg_A hA hS)) rfl rfl hl.1 rfl (lv_room (Nat.le_of_ble_eq_true rfl)) dX5_ways_1 ⟨Nat.le_of_ble_eq_true rfl, Nat.le_of_ble_eq_true rfl⟩) hS (fun z3 S2 H locs1 h hG hS => ?_)
  refine lv_if_eq (tgt := 14) hx hb dX5_ways_4 rfl (fun hc => ?_) (fun hc => ?_)
  · replace h := h.1 hc
    refine lv_iconst (v := (-1 : Int32)) hx hb dX5_ways_14 (by decide) ?_
    exact W.iret hx hb hr (gr_i h hG hK hX hS) hS.2.2 dX5_ways_15
  · replace h := h.2 hc
    refine lv_iload_n hx hb dX5_ways_7 rfl (lv_at hl 2 rfl) ?_
    refine gc_i (va_runS (As := [.int x2]) (rest := []) ⟨hx, hb, hml, hown, hts⟩ (c_X5_isNumber l D κ A S2 x2 _ h) (va_cwS 1 hts gX5_ways_X5_isNumber rfl rfl rfl (by decide +kernel) ⟨Nat.le_of_ble_eq_true rfl, Nat.le_of_ble_eq_true rfl⟩) (pg_S hK hX hG (pg_A hA hS)) rfl rfl hl.1 rfl (lv_room (Nat.le_of_ble_eq_true rfl)) dX5_ways_8 ⟨Nat.le_of_ble_eq_true rfl, Nat.le_of_ble_eq_true rfl⟩) hS (fun z6 S5 H locs4 h hG hS => ?_)
    refine lv_if_ne (tgt := 16) hx hb dX5_ways_11 rfl (fun hc => ?_) (fun hc => ?_)
    · replace h := h.1 hc
      refine lv_aload_n hx hb dX5_ways_16 rfl (lv_at hl 0 rfl) ?_
      have hk := h.1
      replace h := h.2
      obtain ⟨r7, hr7, h⟩ := h
      refine gg_get (v := .ref r7) (ci := 5) (C := RX5) (T := TX5) (N := 13) hx hb hts (fun _ h => List.mem_cons_of_mem _ (List.mem_append_left _ (List.mem_append_left _ (List.mem_append_right _ (h))))) hown hK hG (kc_6 hk) rfl 6 (by decide) (hts (.fieldLink RX5 34 "FourStones" "scales" "[LFourStones$Scale;") (List.mem_of_getElem? (i := 1) rfl)) (fun _ h9 => h9) (congrArg (fun z => some (va_rf z)) hr7) dX5_ways_17 ?_
      refine lv_iload_n hx hb dX5_ways_20 rfl (lv_at hl 1 rfl) ?_
      have hk := h.1
      replace h := h.2
      have hi := h.1
      replace h := h.2
      refine gg_aldq hx hb hK hG hk hi dX5_ways_21 (fun hc => ?_) (fun r8 hc => ?_)
      · replace h := h.1 hc
        refine lv_astore_nN (lv' := [(3, .null), (0, .ref a0), (1, .int x1), (2, .int x2)]) hx hb dX5_ways_22 rfl hl (by decide) rfl (fun ls hl => ?_)
        refine lv_aload_nN hx hb dX5_ways_23 rfl (lv_at hl 0 rfl) ?_
        refine lv_ifnonnullN hx hb dX5_ways_24 ?_
        refine lv_aload_n hx hb dX5_ways_27 rfl (lv_at hl 1 rfl) ?_
        refine lv_iload_n hx hb dX5_ways_28 rfl (lv_at hl 2 rfl) ?_
        have hk := h.1
        replace h := h.2
        refine gc_i (va_runV (As := [.int x1]) (rest := []) ⟨hx, hb, hml, hown, hts⟩ (c_X5_notHeld l D κ A S5 a0 x1 _ h) (cwV 1 hts gX5_ways_X5_notHeld rfl rfl rfl (by decide +kernel) ⟨Nat.le_of_ble_eq_true rfl, Nat.le_of_ble_eq_true rfl⟩) (pg_V (q := (RX5, TX5, 13)) hK hX hG (pg_A hA hS) (kc_6 hk) rfl) rfl rfl hl.1 rfl (lv_room (Nat.le_of_ble_eq_true rfl)) dX5_ways_29 ⟨Nat.le_of_ble_eq_true rfl, Nat.le_of_ble_eq_true rfl⟩) hS (fun z11 S10 H locs9 h hG hS => ?_)
        exact W.iret hx hb hr (gr_i h hG hK hX hS) hS.2.2 dX5_ways_32
      · replace h := h.2 r8 hc
        refine lv_astore_n (lv' := [(3, .ref r8), (0, .ref a0), (1, .int x1), (2, .int x2)]) hx hb dX5_ways_22 rfl hl (by decide) rfl (fun ls hl => ?_)
        refine lv_aload_n hx hb dX5_ways_23 rfl (lv_at hl 0 rfl) ?_
        refine lv_ifnonnull (tgt := 33) hx hb dX5_ways_24 rfl ?_
        refine lv_iconst (v := (0 : Int32)) hx hb dX5_ways_33 (by decide) ?_
        refine lv_istore (lv' := [(4, .int (0 : Int32)), (3, .ref r8), (0, .ref a0), (1, .int x1), (2, .int x2)]) hx hb dX5_ways_34 hl (by decide) rfl (fun ls hl => ?_)
        refine lv_iconst (v := (0 : Int32)) hx hb dX5_ways_36 (by decide) ?_
        refine lv_istore (lv' := [(5, .int (0 : Int32)), (4, .int (0 : Int32)), (3, .ref r8), (0, .ref a0), (1, .int x1), (2, .int x2)]) hx hb dX5_ways_37 hl (by decide) rfl (fun ls hl => ?_)
        obtain ⟨nn, h⟩ := h
        exact k_39  nn a0 x2 r8 (0 : Int32) (0 : Int32) S5 ls _ _ (lv_sub hl [3, 5, 2, 1, 0] rfl) hG hS h
    · replace h := h.2 hc
      refine lv_iconst (v := (-1 : Int32)) hx hb dX5_ways_14 (by decide) ?_
      exact W.iret hx hb hr (gr_i h hG hK hX hS) hS.2.2 dX5_ways_15
set_option maxHeartbeats 4000000 in
set_option maxRecDepth 100000 in
theorem c_X5_first (l : Launch) (D : va_G) (κ : Nat → ClassId) (A : Nat → Prop) (S : Hp) (a0 : Nat) (x1 : Int32) (x2 : Int32) (Q : Int32 → Hp → Prop) (h : wp_X5_first a0 x1 x2 S Q) : Met l yX5_first wsX5_first ({ frames := 4, cells := 0, slots := 0, locals := 192 } : Room) (PG D κ A S [.ref a0, .int x1, .int x2]) (va_Qi Q (BG D κ A) A) 0 0 A := by
  refine Met.ofW (cc := cX5_first) (maxL := 5) (ret := (some .int)) (by decide) rfl ?_
  intro p e s m args below meth c s₁ B hml hv
  obtain ⟨hargs, hA, hG, hK, hX⟩ := hv
  have hx := B.exec
  have hb := B.bytes
  have hr := B.returns
  have hts := atoms_spec (ws := wsX5_first) B.pre
  have hown : s.vm.findClass RX5 = some m.cls := findClass_of_methodNamed B.named
  have hlocks := B.notSynchronized
  subst hargs
  clear B
  have hS : va_S A s.heap s.heap [] := va_S.rf
  have hl := lv_entry ([.ref a0, .int x1, .int x2]) (n := 5) (Nat.le_of_ble_eq_true rfl)
  rw [lg_entry_eq]
  generalize (lg_sl ([.ref a0, .int x1, .int x2]) ++ List.replicate (5 - (lg_sl ([.ref a0, .int x1, .int x2])).length) Slot.unset).toArray = ls at hl ⊢
  have hl : lv_has ls 5 [(0, .ref a0), (1, .int x1), (2, .int x2)] := hl
  have hG : GG D κ A S s.heap := hG
  have k_36 : ∀  (n : Nat), ∀ (v0 : Nat) (v2 : Int32) (v3 : Nat) (v4 : Int32) (S : Hp) (ls : Array Slot) (H : Heap) (locs : List Loc), lv_has ls 5 [(0, .ref v0), (2, .int v2), (3, .ref v3), (4, .int v4)] → GG D κ A S H → va_S A s.heap H locs → it (L_X5_first_36  Q) n (v0, v2, v3, v4, S) → W p l e ({ frames := 4, cells := 0, slots := 0, locals := 192 } : Room) s m ([.ref a0, .int x1, .int x2] : List Value).toArray below meth c H locs 0 0 (MQ below (va_Qi Q (BG D κ A) A) ([.ref a0, .int x1, .int x2] : List Value).toArray s 0 0 A) (F0 m 36 ls []) := by
    intro  n
    induction n with
    | zero => intro v0 v2 v3 v4 S ls H locs hl hG hS h; exact False.elim h
    | succ n hC36 =>
      intro v0 v2 v3 v4 S ls H locs hl hG hS h
      replace h : L_X5_first_36  Q (it (L_X5_first_36  Q) n) (v0, v2, v3, v4, S) := h
      simp only [L_X5_first_36] at h
      refine lv_iload hx hb dX5_first_36 (lv_at hl 3 rfl) ?_
      refine lv_aload_n hx hb dX5_first_38 rfl (lv_at hl 0 rfl) ?_
      have hk := h.1
      replace h := h.2
      obtain ⟨r1, hr1, h⟩ := h
      refine gg_get (v := .ref r1) (ci := 5) (C := RX5) (T := TX5) (N := 13) hx hb hts (fun _ h => List.mem_cons_of_mem _ (List.mem_append_left _ (List.mem_append_left _ (List.mem_append_right _ (h))))) hown hK hG (kc_6 hk) rfl 1 (by decide) (hts (.fieldLink RX5 19 "FourStones" "lyings" "LFourStones$Lyings;") (List.mem_of_getElem? (i := 2) rfl)) (fun _ h9 => h9) (congrArg (fun z => some (va_rf z)) hr1) dX5_first_39 ?_
      have hk := h.1
      replace h := h.2
      refine gg_get (ci := 0) (C := RX0) (T := TX0) (N := 5) hx hb hts (fun _ h => List.mem_cons_of_mem _ (List.mem_append_left _ (List.mem_append_right _ (h)))) hown hK hG (kc_1 hk) rfl 4 (by decide) (hts (.fieldLink RX5 129 "FourStones$Lyings" "count" "I") (List.mem_of_getElem? (i := 3) rfl)) (fun _ h9 => h9) rfl dX5_first_42 ?_
      refine lv_icmp_ge (tgt := 71) hx hb dX5_first_45 rfl (fun hc => ?_) (fun hc => ?_)
      · replace h := h.1 hc
        refine lv_bipush (v := (-4 : Int32)) hx hb dX5_first_71 (by decide) ?_
        exact W.iret hx hb hr (gr_i h hG hK hX hS) hS.2.2 dX5_first_73
      · replace h := h.2 hc
        refine lv_aload_n hx hb dX5_first_48 rfl (lv_at hl 2 rfl) ?_
        refine lv_aload_n hx hb dX5_first_49 rfl (lv_at hl 0 rfl) ?_
        have hk := h.1
        replace h := h.2
        obtain ⟨r2, hr2, h⟩ := h
        refine gg_get (v := .ref r2) (ci := 5) (C := RX5) (T := TX5) (N := 13) hx hb hts (fun _ h => List.mem_cons_of_mem _ (List.mem_append_left _ (List.mem_append_left _ (List.mem_append_right _ (h))))) hown hK hG (kc_6 hk) rfl 1 (by decide) (hts (.fieldLink RX5 19 "FourStones" "lyings" "LFourStones$Lyings;") (List.mem_of_getElem? (i := 2) rfl)) (fun _ h9 => h9) (congrArg (fun z => some (va_rf z)) hr2) dX5_first_50 ?_
        refine lv_iload hx hb dX5_first_53 (lv_at hl 3 rfl) ?_
        refine lv_iload_n hx hb dX5_first_55 rfl (lv_at hl 1 rfl) ?_
        have hk := h.1
        replace h := h.2
        refine gc_i (va_runV (As := [.ref r2, .int v4, .int v2]) (rest := []) ⟨hx, hb, hml, hown, hts⟩ (c_X2_hits l D κ A S v3 r2 v4 v2 _ h) (cwV 3 hts gX5_first_X2_hits rfl rfl rfl (by decide +kernel) ⟨Nat.le_of_ble_eq_true rfl, Nat.le_of_ble_eq_true rfl⟩) (pg_V (q := (RX2, TX2, 2)) hK hX hG (pg_A hA hS) (kc_3 hk) rfl) rfl rfl hl.1 rfl (lv_room (Nat.le_of_ble_eq_true rfl)) dX5_first_56 ⟨Nat.le_of_ble_eq_true rfl, Nat.le_of_ble_eq_true rfl⟩) hS (fun z5 S4 H locs3 h hG hS => ?_)
        refine lv_if_eq (tgt := 65) hx hb dX5_first_59 rfl (fun hc => ?_) (fun hc => ?_)
        · replace h := h.1 hc
          obtain ⟨y6, ey6⟩ : ∃ z, z = v4 + (1 : Int32) := ⟨_, rfl⟩
          replace h := h y6 ey6
          refine lv_iinc (v := y6) (lv' := [(4, .int y6), (0, .ref v0), (2, .int v2), (3, .ref v3)]) hx hb dX5_first_65 hl (k := 3) rfl (by rw [ey6]; rfl) (by decide) rfl (fun ls hl => ?_)
          refine lv_goto (tgt := 36) hx hb dX5_first_68 rfl ?_
          exact hC36 v0 v2 v3 y6 S4 ls _ _ (lv_sub hl [1, 2, 3, 0] rfl) hG hS h
        · replace h := h.2 hc
          refine lv_iload hx hb dX5_first_62 (lv_at hl 3 rfl) ?_
          exact W.iret hx hb hr (gr_i h hG hK hX hS) hS.2.2 dX5_first_64
  refine lv_iload_n hx hb dX5_first_0 rfl (lv_at hl 1 rfl) ?_
  refine gc_i (va_runS (As := [.int x1]) (rest := []) ⟨hx, hb, hml, hown, hts⟩ (c_X5_isShelf l D κ A S x1 _ h) (va_cwS 1 hts gX5_first_X5_isShelf rfl rfl rfl (by decide +kernel) ⟨Nat.le_of_ble_eq_true rfl, Nat.le_of_ble_eq_true rfl⟩) (pg_S hK hX hG (pg_A hA hS)) rfl rfl hl.1 rfl (lv_room (Nat.le_of_ble_eq_true rfl)) dX5_first_1 ⟨Nat.le_of_ble_eq_true rfl, Nat.le_of_ble_eq_true rfl⟩) hS (fun z3 S2 H locs1 h hG hS => ?_)
  refine lv_if_eq (tgt := 14) hx hb dX5_first_4 rfl (fun hc => ?_) (fun hc => ?_)
  · replace h := h.1 hc
    refine lv_iconst (v := (-1 : Int32)) hx hb dX5_first_14 (by decide) ?_
    exact W.iret hx hb hr (gr_i h hG hK hX hS) hS.2.2 dX5_first_15
  · replace h := h.2 hc
    refine lv_iload_n hx hb dX5_first_7 rfl (lv_at hl 2 rfl) ?_
    refine gc_i (va_runS (As := [.int x2]) (rest := []) ⟨hx, hb, hml, hown, hts⟩ (c_X5_isNumber l D κ A S2 x2 _ h) (va_cwS 1 hts gX5_first_X5_isNumber rfl rfl rfl (by decide +kernel) ⟨Nat.le_of_ble_eq_true rfl, Nat.le_of_ble_eq_true rfl⟩) (pg_S hK hX hG (pg_A hA hS)) rfl rfl hl.1 rfl (lv_room (Nat.le_of_ble_eq_true rfl)) dX5_first_8 ⟨Nat.le_of_ble_eq_true rfl, Nat.le_of_ble_eq_true rfl⟩) hS (fun z6 S5 H locs4 h hG hS => ?_)
    refine lv_if_ne (tgt := 16) hx hb dX5_first_11 rfl (fun hc => ?_) (fun hc => ?_)
    · replace h := h.1 hc
      refine lv_aload_n hx hb dX5_first_16 rfl (lv_at hl 0 rfl) ?_
      have hk := h.1
      replace h := h.2
      obtain ⟨r7, hr7, h⟩ := h
      refine gg_get (v := .ref r7) (ci := 5) (C := RX5) (T := TX5) (N := 13) hx hb hts (fun _ h => List.mem_cons_of_mem _ (List.mem_append_left _ (List.mem_append_left _ (List.mem_append_right _ (h))))) hown hK hG (kc_6 hk) rfl 6 (by decide) (hts (.fieldLink RX5 34 "FourStones" "scales" "[LFourStones$Scale;") (List.mem_of_getElem? (i := 1) rfl)) (fun _ h9 => h9) (congrArg (fun z => some (va_rf z)) hr7) dX5_first_17 ?_
      refine lv_iload_n hx hb dX5_first_20 rfl (lv_at hl 1 rfl) ?_
      have hk := h.1
      replace h := h.2
      have hi := h.1
      replace h := h.2
      refine gg_aldq hx hb hK hG hk hi dX5_first_21 (fun hc => ?_) (fun r8 hc => ?_)
      · replace h := h.1 hc
        refine lv_astore_nN (lv' := [(3, .null), (0, .ref a0), (1, .int x1), (2, .int x2)]) hx hb dX5_first_22 rfl hl (by decide) rfl (fun ls hl => ?_)
        refine lv_aload_nN hx hb dX5_first_23 rfl (lv_at hl 0 rfl) ?_
        refine lv_ifnonnullN hx hb dX5_first_24 ?_
        refine lv_aload_n hx hb dX5_first_27 rfl (lv_at hl 1 rfl) ?_
        refine lv_iload_n hx hb dX5_first_28 rfl (lv_at hl 2 rfl) ?_
        have hk := h.1
        replace h := h.2
        refine gc_i (va_runV (As := [.int x1]) (rest := []) ⟨hx, hb, hml, hown, hts⟩ (c_X5_notHeld l D κ A S5 a0 x1 _ h) (cwV 1 hts gX5_first_X5_notHeld rfl rfl rfl (by decide +kernel) ⟨Nat.le_of_ble_eq_true rfl, Nat.le_of_ble_eq_true rfl⟩) (pg_V (q := (RX5, TX5, 13)) hK hX hG (pg_A hA hS) (kc_6 hk) rfl) rfl rfl hl.1 rfl (lv_room (Nat.le_of_ble_eq_true rfl)) dX5_first_29 ⟨Nat.le_of_ble_eq_true rfl, Nat.le_of_ble_eq_true rfl⟩) hS (fun z11 S10 H locs9 h hG hS => ?_)
        exact W.iret hx hb hr (gr_i h hG hK hX hS) hS.2.2 dX5_first_32
      · replace h := h.2 r8 hc
        refine lv_astore_n (lv' := [(3, .ref r8), (0, .ref a0), (1, .int x1), (2, .int x2)]) hx hb dX5_first_22 rfl hl (by decide) rfl (fun ls hl => ?_)
        refine lv_aload_n hx hb dX5_first_23 rfl (lv_at hl 0 rfl) ?_
        refine lv_ifnonnull (tgt := 33) hx hb dX5_first_24 rfl ?_
        refine lv_iconst (v := (0 : Int32)) hx hb dX5_first_33 (by decide) ?_
        refine lv_istore (lv' := [(4, .int (0 : Int32)), (3, .ref r8), (0, .ref a0), (1, .int x1), (2, .int x2)]) hx hb dX5_first_34 hl (by decide) rfl (fun ls hl => ?_)
        obtain ⟨nn, h⟩ := h
        exact k_36  nn a0 x2 r8 (0 : Int32) S5 ls _ _ (lv_sub hl [2, 4, 1, 0] rfl) hG hS h
    · replace h := h.2 hc
      refine lv_iconst (v := (-1 : Int32)) hx hb dX5_first_14 (by decide) ?_
      exact W.iret hx hb hr (gr_i h hG hK hX hS) hS.2.2 dX5_first_15
set_option maxHeartbeats 4000000 in
set_option maxRecDepth 100000 in
theorem c_X5_leastLifted (l : Launch) (D : va_G) (κ : Nat → ClassId) (A : Nat → Prop) (S : Hp) (a0 : Nat) (a1 : Nat) (x2 : Int32) (Q : Int32 → Hp → Prop) (h : wp_X5_leastLifted a0 a1 x2 S Q) : Met l yX5_leastLifted wsX5_leastLifted ({ frames := 4, cells := 0, slots := 0, locals := 192 } : Room) (PG D κ A S [.ref a0, .ref a1, .int x2]) (va_Qi Q (BG D κ A) A) 0 0 A := by
  refine Met.ofW (cc := cX5_leastLifted) (maxL := 7) (ret := (some .int)) (by decide) rfl ?_
  intro p e s m args below meth c s₁ B hml hv
  obtain ⟨hargs, hA, hG, hK, hX⟩ := hv
  have hx := B.exec
  have hb := B.bytes
  have hr := B.returns
  have hts := atoms_spec (ws := wsX5_leastLifted) B.pre
  have hown : s.vm.findClass RX5 = some m.cls := findClass_of_methodNamed B.named
  have hlocks := B.notSynchronized
  subst hargs
  clear B
  have hS : va_S A s.heap s.heap [] := va_S.rf
  have hl := lv_entry ([.ref a0, .ref a1, .int x2]) (n := 7) (Nat.le_of_ble_eq_true rfl)
  rw [lg_entry_eq]
  generalize (lg_sl ([.ref a0, .ref a1, .int x2]) ++ List.replicate (7 - (lg_sl ([.ref a0, .ref a1, .int x2])).length) Slot.unset).toArray = ls at hl ⊢
  have hl : lv_has ls 7 [(0, .ref a0), (1, .ref a1), (2, .int x2)] := hl
  have hG : GG D κ A S s.heap := hG
  have j_64 : ∀ (C9 : Nat × Nat × Int32 × Int32 × Int32 × Int32 × Hp → Prop) (hC9 : ∀ (v0 : Nat) (v1 : Nat) (v2 : Int32) (v3 : Int32) (v4 : Int32) (v5 : Int32) (S : Hp) (ls : Array Slot) (H : Heap) (locs : List Loc), lv_has ls 7 [(0, .ref v0), (1, .ref v1), (2, .int v2), (3, .int v3), (4, .int v4), (5, .int v5)] → GG D κ A S H → va_S A s.heap H locs → C9 (v0, v1, v2, v3, v4, v5, S) → W p l e ({ frames := 4, cells := 0, slots := 0, locals := 192 } : Room) s m ([.ref a0, .ref a1, .int x2] : List Value).toArray below meth c H locs 0 0 (MQ below (va_Qi Q (BG D κ A) A) ([.ref a0, .ref a1, .int x2] : List Value).toArray s 0 0 A) (F0 m 9 ls [])) (v0 : Nat) (v1 : Nat) (v2 : Int32) (v3 : Int32) (v4 : Int32) (v5 : Int32) (S : Hp) (ls : Array Slot) (H : Heap) (locs : List Loc), lv_has ls 7 [(0, .ref v0), (1, .ref v1), (2, .int v2), (3, .int v3), (4, .int v4), (5, .int v5)] → GG D κ A S H → va_S A s.heap H locs → J_X5_leastLifted_64 C9 Q v0 v1 v2 v3 v4 v5 S → W p l e ({ frames := 4, cells := 0, slots := 0, locals := 192 } : Room) s m ([.ref a0, .ref a1, .int x2] : List Value).toArray below meth c H locs 0 0 (MQ below (va_Qi Q (BG D κ A) A) ([.ref a0, .ref a1, .int x2] : List Value).toArray s 0 0 A) (F0 m 64 ls []) := by
    intro C9 hC9 v0 v1 v2 v3 v4 v5 S ls H locs hl hG hS h
    unfold J_X5_leastLifted_64 at h
    obtain ⟨y1, ey1⟩ : ∃ z, z = v5 + (1 : Int32) := ⟨_, rfl⟩
    replace h := h y1 ey1
    refine lv_iinc (v := y1) (lv' := [(5, .int y1), (0, .ref v0), (1, .ref v1), (2, .int v2), (3, .int v3), (4, .int v4)]) hx hb dX5_leastLifted_64 hl (k := 5) rfl (by rw [ey1]; rfl) (by decide) rfl (fun ls hl => ?_)
    refine lv_goto (tgt := 9) hx hb dX5_leastLifted_67 rfl ?_
    exact hC9 v0 v1 v2 v3 v4 y1 S ls _ _ (lv_sub hl [1, 2, 3, 4, 5, 0] rfl) hG hS h
  have j_57 : ∀ (C9 : Nat × Nat × Int32 × Int32 × Int32 × Int32 × Hp → Prop) (hC9 : ∀ (v0 : Nat) (v1 : Nat) (v2 : Int32) (v3 : Int32) (v4 : Int32) (v5 : Int32) (S : Hp) (ls : Array Slot) (H : Heap) (locs : List Loc), lv_has ls 7 [(0, .ref v0), (1, .ref v1), (2, .int v2), (3, .int v3), (4, .int v4), (5, .int v5)] → GG D κ A S H → va_S A s.heap H locs → C9 (v0, v1, v2, v3, v4, v5, S) → W p l e ({ frames := 4, cells := 0, slots := 0, locals := 192 } : Room) s m ([.ref a0, .ref a1, .int x2] : List Value).toArray below meth c H locs 0 0 (MQ below (va_Qi Q (BG D κ A) A) ([.ref a0, .ref a1, .int x2] : List Value).toArray s 0 0 A) (F0 m 9 ls [])) (v0 : Nat) (v1 : Nat) (v2 : Int32) (v5 : Int32) (v6 : Int32) (S : Hp) (ls : Array Slot) (H : Heap) (locs : List Loc), lv_has ls 7 [(0, .ref v0), (1, .ref v1), (2, .int v2), (5, .int v5), (6, .int v6)] → GG D κ A S H → va_S A s.heap H locs → J_X5_leastLifted_57 C9 Q v0 v1 v2 v5 v6 S → W p l e ({ frames := 4, cells := 0, slots := 0, locals := 192 } : Room) s m ([.ref a0, .ref a1, .int x2] : List Value).toArray below meth c H locs 0 0 (MQ below (va_Qi Q (BG D κ A) A) ([.ref a0, .ref a1, .int x2] : List Value).toArray s 0 0 A) (F0 m 57 ls []) := by
    intro C9 hC9 v0 v1 v2 v5 v6 S ls H locs hl hG hS h
    unfold J_X5_leastLifted_57 at h
    refine lv_iload hx hb dX5_leastLifted_57 (lv_at hl 3 rfl) ?_
    refine lv_istore_n (lv' := [(3, .int v5), (0, .ref v0), (1, .ref v1), (2, .int v2), (5, .int v5), (6, .int v6)]) hx hb dX5_leastLifted_59 rfl hl (by decide) rfl (fun ls hl => ?_)
    refine lv_iload hx hb dX5_leastLifted_60 (lv_at hl 5 rfl) ?_
    refine lv_istore (lv' := [(4, .int v6), (3, .int v5), (0, .ref v0), (1, .ref v1), (2, .int v2), (5, .int v5), (6, .int v6)]) hx hb dX5_leastLifted_62 hl (by decide) rfl (fun ls hl => ?_)
    exact j_64 _ hC9 v0 v1 v2 v5 v6 v5 S ls _ _ (lv_sub hl [2, 3, 4, 1, 0, 5] rfl) hG hS h
  have k_9 : ∀  (n : Nat), ∀ (v0 : Nat) (v1 : Nat) (v2 : Int32) (v3 : Int32) (v4 : Int32) (v5 : Int32) (S : Hp) (ls : Array Slot) (H : Heap) (locs : List Loc), lv_has ls 7 [(0, .ref v0), (1, .ref v1), (2, .int v2), (3, .int v3), (4, .int v4), (5, .int v5)] → GG D κ A S H → va_S A s.heap H locs → it (L_X5_leastLifted_9  Q) n (v0, v1, v2, v3, v4, v5, S) → W p l e ({ frames := 4, cells := 0, slots := 0, locals := 192 } : Room) s m ([.ref a0, .ref a1, .int x2] : List Value).toArray below meth c H locs 0 0 (MQ below (va_Qi Q (BG D κ A) A) ([.ref a0, .ref a1, .int x2] : List Value).toArray s 0 0 A) (F0 m 9 ls []) := by
    intro  n
    induction n with
    | zero => intro v0 v1 v2 v3 v4 v5 S ls H locs hl hG hS h; exact False.elim h
    | succ n hC9 =>
      intro v0 v1 v2 v3 v4 v5 S ls H locs hl hG hS h
      replace h : L_X5_leastLifted_9  Q (it (L_X5_leastLifted_9  Q) n) (v0, v1, v2, v3, v4, v5, S) := h
      simp only [L_X5_leastLifted_9] at h
      refine lv_iload hx hb dX5_leastLifted_9 (lv_at hl 5 rfl) ?_
      refine lv_aload_n hx hb dX5_leastLifted_11 rfl (lv_at hl 0 rfl) ?_
      have hk := h.1
      replace h := h.2
      obtain ⟨r1, hr1, h⟩ := h
      refine gg_get (v := .ref r1) (ci := 5) (C := RX5) (T := TX5) (N := 13) hx hb hts (fun _ h => List.mem_cons_of_mem _ (List.mem_append_left _ (List.mem_append_left _ (List.mem_append_right _ (h))))) hown hK hG (kc_6 hk) rfl 1 (by decide) (hts (.fieldLink RX5 19 "FourStones" "lyings" "LFourStones$Lyings;") (List.mem_of_getElem? (i := 1) rfl)) (fun _ h9 => h9) (congrArg (fun z => some (va_rf z)) hr1) dX5_leastLifted_12 ?_
      have hk := h.1
      replace h := h.2
      refine gg_get (ci := 0) (C := RX0) (T := TX0) (N := 5) hx hb hts (fun _ h => List.mem_cons_of_mem _ (List.mem_append_left _ (List.mem_append_right _ (h)))) hown hK hG (kc_1 hk) rfl 4 (by decide) (hts (.fieldLink RX5 129 "FourStones$Lyings" "count" "I") (List.mem_of_getElem? (i := 2) rfl)) (fun _ h9 => h9) rfl dX5_leastLifted_15 ?_
      refine lv_icmp_ge (tgt := 70) hx hb dX5_leastLifted_18 rfl (fun hc => ?_) (fun hc => ?_)
      · replace h := h.1 hc
        refine lv_iload_n hx hb dX5_leastLifted_70 rfl (lv_at hl 3 rfl) ?_
        exact W.iret hx hb hr (gr_i h hG hK hX hS) hS.2.2 dX5_leastLifted_71
      · replace h := h.2 hc
        refine lv_aload_n hx hb dX5_leastLifted_21 rfl (lv_at hl 1 rfl) ?_
        refine lv_aload_n hx hb dX5_leastLifted_22 rfl (lv_at hl 0 rfl) ?_
        have hk := h.1
        replace h := h.2
        obtain ⟨r2, hr2, h⟩ := h
        refine gg_get (v := .ref r2) (ci := 5) (C := RX5) (T := TX5) (N := 13) hx hb hts (fun _ h => List.mem_cons_of_mem _ (List.mem_append_left _ (List.mem_append_left _ (List.mem_append_right _ (h))))) hown hK hG (kc_6 hk) rfl 1 (by decide) (hts (.fieldLink RX5 19 "FourStones" "lyings" "LFourStones$Lyings;") (List.mem_of_getElem? (i := 1) rfl)) (fun _ h9 => h9) (congrArg (fun z => some (va_rf z)) hr2) dX5_leastLifted_23 ?_
        refine lv_iload hx hb dX5_leastLifted_26 (lv_at hl 5 rfl) ?_
        refine lv_iload_n hx hb dX5_leastLifted_28 rfl (lv_at hl 2 rfl) ?_
        have hk := h.1
        replace h := h.2
        refine gc_i (va_runV (As := [.ref r2, .int v5, .int v2]) (rest := []) ⟨hx, hb, hml, hown, hts⟩ (c_X2_hits l D κ A S v1 r2 v5 v2 _ h) (cwV 3 hts gX5_leastLifted_X2_hits rfl rfl rfl (by decide +kernel) ⟨Nat.le_of_ble_eq_true rfl, Nat.le_of_ble_eq_true rfl⟩) (pg_V (q := (RX2, TX2, 2)) hK hX hG (pg_A hA hS) (kc_3 hk) rfl) rfl rfl hl.1 rfl (lv_room (Nat.le_of_ble_eq_true rfl)) dX5_leastLifted_29 ⟨Nat.le_of_ble_eq_true rfl, Nat.le_of_ble_eq_true rfl⟩) hS (fun z5 S4 H locs3 h hG hS => ?_)
        refine lv_if_eq (tgt := 64) hx hb dX5_leastLifted_32 rfl (fun hc => ?_) (fun hc => ?_)
        · replace h := h.1 hc
          exact j_64 _ hC9 v0 v1 v2 v3 v4 v5 S4 ls _ _ (lv_sub hl [0, 1, 2, 3, 4, 5] rfl) hG hS h
        · replace h := h.2 hc
          refine lv_aload_n hx hb dX5_leastLifted_35 rfl (lv_at hl 0 rfl) ?_
          have hk := h.1
          replace h := h.2
          obtain ⟨r6, hr6, h⟩ := h
          refine gg_get (v := .ref r6) (ci := 5) (C := RX5) (T := TX5) (N := 13) hx hb hts (fun _ h => List.mem_cons_of_mem _ (List.mem_append_left _ (List.mem_append_left _ (List.mem_append_right _ (h))))) hown hK hG (kc_6 hk) rfl 1 (by decide) (hts (.fieldLink RX5 19 "FourStones" "lyings" "LFourStones$Lyings;") (List.mem_of_getElem? (i := 1) rfl)) (fun _ h9 => h9) (congrArg (fun z => some (va_rf z)) hr6) dX5_leastLifted_36 ?_
          refine lv_iload hx hb dX5_leastLifted_39 (lv_at hl 5 rfl) ?_
          have hk := h.1
          replace h := h.2
          refine gc_i (va_runV (As := [.int v5]) (rest := []) ⟨hx, hb, hml, hown, hts⟩ (c_X0_liftsOf l D κ A S4 r6 v5 _ h) (cwV 1 hts gX5_leastLifted_X0_liftsOf rfl rfl rfl (by decide +kernel) ⟨Nat.le_of_ble_eq_true rfl, Nat.le_of_ble_eq_true rfl⟩) (pg_V (q := (RX0, TX0, 5)) hK hX hG (pg_A hA hS) (kc_1 hk) rfl) rfl rfl hl.1 rfl (lv_room (Nat.le_of_ble_eq_true rfl)) dX5_leastLifted_41 ⟨Nat.le_of_ble_eq_true rfl, Nat.le_of_ble_eq_true rfl⟩) hS (fun z9 S8 H locs7 h hG hS => ?_)
          refine lv_istore (lv' := [(6, .int z9), (0, .ref v0), (1, .ref v1), (2, .int v2), (3, .int v3), (4, .int v4), (5, .int v5)]) hx hb dX5_leastLifted_44 hl (by decide) rfl (fun ls hl => ?_)
          refine lv_iload_n hx hb dX5_leastLifted_46 rfl (lv_at hl 4 rfl) ?_
          refine lv_if_lt (tgt := 57) hx hb dX5_leastLifted_47 rfl (fun hc => ?_) (fun hc => ?_)
          · replace h := h.1 hc
            exact j_57 _ hC9 v0 v1 v2 v5 z9 S8 ls _ _ (lv_sub hl [1, 2, 3, 6, 0] rfl) hG hS h
          · replace h := h.2 hc
            refine lv_iload hx hb dX5_leastLifted_50 (lv_at hl 0 rfl) ?_
            refine lv_iload hx hb dX5_leastLifted_52 (lv_at hl 5 rfl) ?_
            refine lv_icmp_ge (tgt := 64) hx hb dX5_leastLifted_54 rfl (fun hc => ?_) (fun hc => ?_)
            · replace h := h.1 hc
              exact j_64 _ hC9 v0 v1 v2 v3 v4 v5 S8 ls _ _ (lv_sub hl [1, 2, 3, 4, 5, 6] rfl) hG hS h
            · replace h := h.2 hc
              exact j_57 _ hC9 v0 v1 v2 v5 z9 S8 ls _ _ (lv_sub hl [1, 2, 3, 6, 0] rfl) hG hS h
  refine lv_bipush (v := (-4 : Int32)) hx hb dX5_leastLifted_0 (by decide) ?_
  refine lv_istore_n (lv' := [(3, .int (-4 : Int32)), (0, .ref a0), (1, .ref a1), (2, .int x2)]) hx hb dX5_leastLifted_2 rfl hl (by decide) rfl (fun ls hl => ?_)
  refine lv_iconst (v := (0 : Int32)) hx hb dX5_leastLifted_3 (by decide) ?_
  refine lv_istore (lv' := [(4, .int (0 : Int32)), (3, .int (-4 : Int32)), (0, .ref a0), (1, .ref a1), (2, .int x2)]) hx hb dX5_leastLifted_4 hl (by decide) rfl (fun ls hl => ?_)
  refine lv_iconst (v := (0 : Int32)) hx hb dX5_leastLifted_6 (by decide) ?_
  refine lv_istore (lv' := [(5, .int (0 : Int32)), (4, .int (0 : Int32)), (3, .int (-4 : Int32)), (0, .ref a0), (1, .ref a1), (2, .int x2)]) hx hb dX5_leastLifted_7 hl (by decide) rfl (fun ls hl => ?_)
  obtain ⟨nn, h⟩ := h
  exact k_9  nn a0 a1 x2 (-4 : Int32) (0 : Int32) (0 : Int32) S ls _ _ (lv_sub hl [3, 4, 5, 2, 1, 0] rfl) hG hS h
set_option maxHeartbeats 4000000 in
set_option maxRecDepth 100000 in
theorem c_X5_lifts (l : Launch) (D : va_G) (κ : Nat → ClassId) (A : Nat → Prop) (S : Hp) (a0 : Nat) (x1 : Int32) (x2 : Int32) (x3 : Int32) (Q : Int32 → Hp → Prop) (h : wp_X5_lifts a0 x1 x2 x3 S Q) : Met l yX5_lifts wsX5_lifts ({ frames := 5, cells := 0, slots := 0, locals := 240 } : Room) (PG D κ A S [.ref a0, .int x1, .int x2, .int x3]) (va_Qi Q (BG D κ A) A) 0 0 A := by
  refine Met.ofW (cc := cX5_lifts) (maxL := 6) (ret := (some .int)) (by decide) rfl ?_
  intro p e s m args below meth c s₁ B hml hv
  obtain ⟨hargs, hA, hG, hK, hX⟩ := hv
  have hx := B.exec
  have hb := B.bytes
  have hr := B.returns
  have hts := atoms_spec (ws := wsX5_lifts) B.pre
  have hown : s.vm.findClass RX5 = some m.cls := findClass_of_methodNamed B.named
  have hlocks := B.notSynchronized
  subst hargs
  clear B
  have hS : va_S A s.heap s.heap [] := va_S.rf
  have hl := lv_entry ([.ref a0, .int x1, .int x2, .int x3]) (n := 6) (Nat.le_of_ble_eq_true rfl)
  rw [lg_entry_eq]
  generalize (lg_sl ([.ref a0, .int x1, .int x2, .int x3]) ++ List.replicate (6 - (lg_sl ([.ref a0, .int x1, .int x2, .int x3])).length) Slot.unset).toArray = ls at hl ⊢
  have hl : lv_has ls 6 [(0, .ref a0), (1, .int x1), (2, .int x2), (3, .int x3)] := hl
  have hG : GG D κ A S s.heap := hG
  refine lv_iload_n hx hb dX5_lifts_0 rfl (lv_at hl 1 rfl) ?_
  refine gc_i (va_runS (As := [.int x1]) (rest := []) ⟨hx, hb, hml, hown, hts⟩ (c_X5_isShelf l D κ A S x1 _ h) (va_cwS 1 hts gX5_lifts_X5_isShelf rfl rfl rfl (by decide +kernel) ⟨Nat.le_of_ble_eq_true rfl, Nat.le_of_ble_eq_true rfl⟩) (pg_S hK hX hG (pg_A hA hS)) rfl rfl hl.1 rfl (lv_room (Nat.le_of_ble_eq_true rfl)) dX5_lifts_1 ⟨Nat.le_of_ble_eq_true rfl, Nat.le_of_ble_eq_true rfl⟩) hS (fun z3 S2 H locs1 h hG hS => ?_)
  refine lv_if_eq (tgt := 23) hx hb dX5_lifts_4 rfl (fun hc => ?_) (fun hc => ?_)
  · replace h := h.1 hc
    refine lv_iconst (v := (-1 : Int32)) hx hb dX5_lifts_23 (by decide) ?_
    exact W.iret hx hb hr (gr_i h hG hK hX hS) hS.2.2 dX5_lifts_24
  · replace h := h.2 hc
    refine lv_iload_n hx hb dX5_lifts_7 rfl (lv_at hl 2 rfl) ?_
    refine gc_i (va_runS (As := [.int x2]) (rest := []) ⟨hx, hb, hml, hown, hts⟩ (c_X5_isNumber l D κ A S2 x2 _ h) (va_cwS 1 hts gX5_lifts_X5_isNumber rfl rfl rfl (by decide +kernel) ⟨Nat.le_of_ble_eq_true rfl, Nat.le_of_ble_eq_true rfl⟩) (pg_S hK hX hG (pg_A hA hS)) rfl rfl hl.1 rfl (lv_room (Nat.le_of_ble_eq_true rfl)) dX5_lifts_8 ⟨Nat.le_of_ble_eq_true rfl, Nat.le_of_ble_eq_true rfl⟩) hS (fun z6 S5 H locs4 h hG hS => ?_)
    refine lv_if_eq (tgt := 23) hx hb dX5_lifts_11 rfl (fun hc => ?_) (fun hc => ?_)
    · replace h := h.1 hc
      refine lv_iconst (v := (-1 : Int32)) hx hb dX5_lifts_23 (by decide) ?_
      exact W.iret hx hb hr (gr_i h hG hK hX hS) hS.2.2 dX5_lifts_24
    · replace h := h.2 hc
      refine lv_iload_n hx hb dX5_lifts_14 rfl (lv_at hl 3 rfl) ?_
      refine lv_if_lt (tgt := 23) hx hb dX5_lifts_15 rfl (fun hc => ?_) (fun hc => ?_)
      · replace h := h.1 hc
        refine lv_iconst (v := (-1 : Int32)) hx hb dX5_lifts_23 (by decide) ?_
        exact W.iret hx hb hr (gr_i h hG hK hX hS) hS.2.2 dX5_lifts_24
      · replace h := h.2 hc
        refine lv_iload_n hx hb dX5_lifts_18 rfl (lv_at hl 3 rfl) ?_
        refine lv_iconst (v := (1 : Int32)) hx hb dX5_lifts_19 (by decide) ?_
        refine lv_icmp_le (tgt := 25) hx hb dX5_lifts_20 rfl (fun hc => ?_) (fun hc => ?_)
        · replace h := h.1 hc
          refine lv_aload_n hx hb dX5_lifts_25 rfl (lv_at hl 0 rfl) ?_
          have hk := h.1
          replace h := h.2
          obtain ⟨r7, hr7, h⟩ := h
          refine gg_get (v := .ref r7) (ci := 5) (C := RX5) (T := TX5) (N := 13) hx hb hts (fun _ h => List.mem_cons_of_mem _ (List.mem_append_left _ (List.mem_append_left _ (List.mem_append_right _ (h))))) hown hK hG (kc_6 hk) rfl 6 (by decide) (hts (.fieldLink RX5 34 "FourStones" "scales" "[LFourStones$Scale;") (List.mem_of_getElem? (i := 1) rfl)) (fun _ h9 => h9) (congrArg (fun z => some (va_rf z)) hr7) dX5_lifts_26 ?_
          refine lv_iload_n hx hb dX5_lifts_29 rfl (lv_at hl 1 rfl) ?_
          have hk := h.1
          replace h := h.2
          have hi := h.1
          replace h := h.2
          refine gg_aldq hx hb hK hG hk hi dX5_lifts_30 (fun hc => ?_) (fun r8 hc => ?_)
          · replace h := h.1 hc
            refine lv_astoreN (lv' := [(4, .null), (0, .ref a0), (1, .int x1), (2, .int x2), (3, .int x3)]) hx hb dX5_lifts_31 hl (by decide) rfl (fun ls hl => ?_)
            refine lv_aloadN hx hb dX5_lifts_33 (lv_at hl 0 rfl) ?_
            refine lv_ifnonnullN hx hb dX5_lifts_35 ?_
            refine lv_aload_n hx hb dX5_lifts_38 rfl (lv_at hl 1 rfl) ?_
            refine lv_iload_n hx hb dX5_lifts_39 rfl (lv_at hl 2 rfl) ?_
            have hk := h.1
            replace h := h.2
            refine gc_i (va_runV (As := [.int x1]) (rest := []) ⟨hx, hb, hml, hown, hts⟩ (c_X5_notHeld l D κ A S5 a0 x1 _ h) (cwV 1 hts gX5_lifts_X5_notHeld rfl rfl rfl (by decide +kernel) ⟨Nat.le_of_ble_eq_true rfl, Nat.le_of_ble_eq_true rfl⟩) (pg_V (q := (RX5, TX5, 13)) hK hX hG (pg_A hA hS) (kc_6 hk) rfl) rfl rfl hl.1 rfl (lv_room (Nat.le_of_ble_eq_true rfl)) dX5_lifts_40 ⟨Nat.le_of_ble_eq_true rfl, Nat.le_of_ble_eq_true rfl⟩) hS (fun z11 S10 H locs9 h hG hS => ?_)
            exact W.iret hx hb hr (gr_i h hG hK hX hS) hS.2.2 dX5_lifts_43
          · replace h := h.2 r8 hc
            refine lv_astore (lv' := [(4, .ref r8), (0, .ref a0), (1, .int x1), (2, .int x2), (3, .int x3)]) hx hb dX5_lifts_31 hl (by decide) rfl (fun ls hl => ?_)
            refine lv_aload hx hb dX5_lifts_33 (lv_at hl 0 rfl) ?_
            refine lv_ifnonnull (tgt := 44) hx hb dX5_lifts_35 rfl ?_
            refine lv_aload_n hx hb dX5_lifts_44 rfl (lv_at hl 1 rfl) ?_
            refine lv_aload hx hb dX5_lifts_45 (lv_at hl 0 rfl) ?_
            refine lv_iload_n hx hb dX5_lifts_47 rfl (lv_at hl 3 rfl) ?_
            have hk := h.1
            replace h := h.2
            refine gc_i (va_runV (As := [.ref r8, .int x2]) (rest := []) ⟨hx, hb, hml, hown, hts⟩ (c_X5_leastLifted l D κ A S5 a0 r8 x2 _ h) (cwV 2 hts gX5_lifts_X5_leastLifted rfl rfl rfl (by decide +kernel) ⟨Nat.le_of_ble_eq_true rfl, Nat.le_of_ble_eq_true rfl⟩) (pg_V (q := (RX5, TX5, 13)) hK hX hG (pg_A hA hS) (kc_6 hk) rfl) rfl rfl hl.1 rfl (lv_room (Nat.le_of_ble_eq_true rfl)) dX5_lifts_48 ⟨Nat.le_of_ble_eq_true rfl, Nat.le_of_ble_eq_true rfl⟩) hS (fun z14 S13 H locs12 h hG hS => ?_)
            refine lv_istore (lv' := [(5, .int z14), (4, .ref r8), (0, .ref a0), (1, .int x1), (2, .int x2), (3, .int x3)]) hx hb dX5_lifts_51 hl (by decide) rfl (fun ls hl => ?_)
            refine lv_iload hx hb dX5_lifts_53 (lv_at hl 0 rfl) ?_
            refine lv_if_lt (tgt := 63) hx hb dX5_lifts_55 rfl (fun hc => ?_) (fun hc => ?_)
            · replace h := h.1 hc
              refine lv_iload hx hb dX5_lifts_63 (lv_at hl 0 rfl) ?_
              refine lv_goto (tgt := 77) hx hb dX5_lifts_65 rfl ?_
              exact W.iret hx hb hr (gr_i h hG hK hX hS) hS.2.2 dX5_lifts_77
            · replace h := h.2 hc
              refine lv_iload_n hx hb dX5_lifts_58 rfl (lv_at hl 5 rfl) ?_
              refine lv_iconst (v := (1 : Int32)) hx hb dX5_lifts_59 (by decide) ?_
              refine lv_icmp_ne (tgt := 68) hx hb dX5_lifts_60 rfl (fun hc => ?_) (fun hc => ?_)
              · replace h := h.1 hc
                refine lv_aload_n hx hb dX5_lifts_68 rfl (lv_at hl 2 rfl) ?_
                have hk := h.1
                replace h := h.2
                obtain ⟨r15, hr15, h⟩ := h
                refine gg_get (v := .ref r15) (ci := 5) (C := RX5) (T := TX5) (N := 13) hx hb hts (fun _ h => List.mem_cons_of_mem _ (List.mem_append_left _ (List.mem_append_left _ (List.mem_append_right _ (h))))) hown hK hG (kc_6 hk) rfl 1 (by decide) (hts (.fieldLink RX5 19 "FourStones" "lyings" "LFourStones$Lyings;") (List.mem_of_getElem? (i := 2) rfl)) (fun _ h9 => h9) (congrArg (fun z => some (va_rf z)) hr15) dX5_lifts_69 ?_
                refine lv_iload hx hb dX5_lifts_72 (lv_at hl 0 rfl) ?_
                have hk := h.1
                replace h := h.2
                refine gc_i (va_runV (As := [.int z14]) (rest := []) ⟨hx, hb, hml, hown, hts⟩ (c_X0_liftsOf l D κ A S13 r15 z14 _ h) (cwV 1 hts gX5_lifts_X0_liftsOf rfl rfl rfl (by decide +kernel) ⟨Nat.le_of_ble_eq_true rfl, Nat.le_of_ble_eq_true rfl⟩) (pg_V (q := (RX0, TX0, 5)) hK hX hG (pg_A hA hS) (kc_1 hk) rfl) rfl rfl hl.1 rfl (lv_room (Nat.le_of_ble_eq_true rfl)) dX5_lifts_74 ⟨Nat.le_of_ble_eq_true rfl, Nat.le_of_ble_eq_true rfl⟩) hS (fun z18 S17 H locs16 h hG hS => ?_)
                exact W.iret hx hb hr (gr_i h hG hK hX hS) hS.2.2 dX5_lifts_77
              · replace h := h.2 hc
                refine lv_iload hx hb dX5_lifts_63 (lv_at hl 0 rfl) ?_
                refine lv_goto (tgt := 77) hx hb dX5_lifts_65 rfl ?_
                exact W.iret hx hb hr (gr_i h hG hK hX hS) hS.2.2 dX5_lifts_77
        · replace h := h.2 hc
          refine lv_iconst (v := (-1 : Int32)) hx hb dX5_lifts_23 (by decide) ?_
          exact W.iret hx hb hr (gr_i h hG hK hX hS) hS.2.2 dX5_lifts_24
set_option maxHeartbeats 4000000 in
set_option maxRecDepth 100000 in
theorem c_X5_canBeHad (l : Launch) (D : va_G) (κ : Nat → ClassId) (A : Nat → Prop) (S : Hp) (x0 : Int32) (Q : Int32 → Hp → Prop) (h : wp_X5_canBeHad x0 S Q) : Met l yX5_canBeHad wsX5_canBeHad ({ frames := 1, cells := 0, slots := 0, locals := 48 } : Room) (PG D κ A S [.int x0]) (va_Qi Q (BG D κ A) A) 0 0 A := by
  refine Met.ofW (cc := cX5_canBeHad) (maxL := 1) (ret := (some .boolean)) (by decide) rfl ?_
  intro p e s m args below meth c s₁ B hml hv
  obtain ⟨hargs, hA, hG, hK, hX⟩ := hv
  have hx := B.exec
  have hb := B.bytes
  have hr := B.returns
  have hts := atoms_spec (ws := wsX5_canBeHad) B.pre
  have hown : s.vm.findClass RX5 = some m.cls := findClass_of_methodNamed B.named
  have hlocks := B.notSynchronized
  subst hargs
  clear B
  have hS : va_S A s.heap s.heap [] := va_S.rf
  have hl := lv_entry ([.int x0]) (n := 1) (Nat.le_of_ble_eq_true rfl)
  rw [lg_entry_eq]
  generalize (lg_sl ([.int x0]) ++ List.replicate (1 - (lg_sl ([.int x0])).length) Slot.unset).toArray = ls at hl ⊢
  have hl : lv_has ls 1 [(0, .int x0)] := hl
  have hG : GG D κ A S s.heap := hG
  refine lv_iload_n hx hb dX5_canBeHad_0 rfl (lv_at hl 0 rfl) ?_
  refine lv_iconst (v := (1 : Int32)) hx hb dX5_canBeHad_1 (by decide) ?_
  refine lv_icmp_lt (tgt := 16) hx hb dX5_canBeHad_2 rfl (fun hc => ?_) (fun hc => ?_)
  · replace h := h.1 hc
    refine lv_iconst (v := (0 : Int32)) hx hb dX5_canBeHad_16 (by decide) ?_
    exact W.zret (ty := .boolean) hx hb hr (by decide) (gr_i h hG hK hX hS) hS.2.2 dX5_canBeHad_17
  · replace h := h.2 hc
    refine lv_iload_n hx hb dX5_canBeHad_5 rfl (lv_at hl 0 rfl) ?_
    refine lv_sipush (v := (999 : Int32)) hx hb dX5_canBeHad_6 (by decide) ?_
    refine lv_icmp_gt (tgt := 16) hx hb dX5_canBeHad_9 rfl (fun hc => ?_) (fun hc => ?_)
    · replace h := h.1 hc
      refine lv_iconst (v := (0 : Int32)) hx hb dX5_canBeHad_16 (by decide) ?_
      exact W.zret (ty := .boolean) hx hb hr (by decide) (gr_i h hG hK hX hS) hS.2.2 dX5_canBeHad_17
    · replace h := h.2 hc
      refine lv_iconst (v := (1 : Int32)) hx hb dX5_canBeHad_12 (by decide) ?_
      refine lv_goto (tgt := 17) hx hb dX5_canBeHad_13 rfl ?_
      exact W.zret (ty := .boolean) hx hb hr (by decide) (gr_i h hG hK hX hS) hS.2.2 dX5_canBeHad_17
set_option maxHeartbeats 4000000 in
set_option maxRecDepth 100000 in
theorem c_X5_markHad (l : Launch) (D : va_G) (κ : Nat → ClassId) (A : Nat → Prop) (S : Hp) (a0 : Nat) (a1 : Nat) (a2 : Nat) (x3 : Int32) (Q : Hp → Prop) (h : wp_X5_markHad a0 a1 a2 x3 S Q) : Met l yX5_markHad wsX5_markHad ({ frames := 3, cells := 0, slots := 0, locals := 144 } : Room) (PG D κ A S [.ref a0, .ref a1, .ref a2, .int x3]) (va_Qv Q (BG D κ A) A) 0 0 A := by
  refine Met.ofW (cc := cX5_markHad) (maxL := 6) (ret := none) (by decide) rfl ?_
  intro p e s m args below meth c s₁ B hml hv
  obtain ⟨hargs, hA, hG, hK, hX⟩ := hv
  have hx := B.exec
  have hb := B.bytes
  have hr := B.returns
  have hts := atoms_spec (ws := wsX5_markHad) B.pre
  have hown : s.vm.findClass RX5 = some m.cls := findClass_of_methodNamed B.named
  have hlocks := B.notSynchronized
  subst hargs
  clear B
  have hS : va_S A s.heap s.heap [] := va_S.rf
  have hl := lv_entry ([.ref a0, .ref a1, .ref a2, .int x3]) (n := 6) (Nat.le_of_ble_eq_true rfl)
  rw [lg_entry_eq]
  generalize (lg_sl ([.ref a0, .ref a1, .ref a2, .int x3]) ++ List.replicate (6 - (lg_sl ([.ref a0, .ref a1, .ref a2, .int x3])).length) Slot.unset).toArray = ls at hl ⊢
  have hl : lv_has ls 6 [(0, .ref a0), (1, .ref a1), (2, .ref a2), (3, .int x3)] := hl
  have hG : GG D κ A S s.heap := hG
  have j_66 : ∀ (C11 : Nat × Nat × Nat × Int32 × Int32 × Hp → Prop) (hC11 : ∀ (v0 : Nat) (v1 : Nat) (v2 : Nat) (v3 : Int32) (v4 : Int32) (S : Hp) (ls : Array Slot) (H : Heap) (locs : List Loc), lv_has ls 6 [(0, .ref v0), (1, .ref v1), (2, .ref v2), (3, .int v3), (4, .int v4)] → GG D κ A S H → va_S A s.heap H locs → C11 (v0, v1, v2, v3, v4, S) → W p l e ({ frames := 3, cells := 0, slots := 0, locals := 144 } : Room) s m ([.ref a0, .ref a1, .ref a2, .int x3] : List Value).toArray below meth c H locs 0 0 (MQ below (va_Qv Q (BG D κ A) A) ([.ref a0, .ref a1, .ref a2, .int x3] : List Value).toArray s 0 0 A) (F0 m 11 ls [])) (v0 : Nat) (v1 : Nat) (v2 : Nat) (v3 : Int32) (v4 : Int32) (S : Hp) (ls : Array Slot) (H : Heap) (locs : List Loc), lv_has ls 6 [(0, .ref v0), (1, .ref v1), (2, .ref v2), (3, .int v3), (4, .int v4)] → GG D κ A S H → va_S A s.heap H locs → J_X5_markHad_66 C11 Q v0 v1 v2 v3 v4 S → W p l e ({ frames := 3, cells := 0, slots := 0, locals := 144 } : Room) s m ([.ref a0, .ref a1, .ref a2, .int x3] : List Value).toArray below meth c H locs 0 0 (MQ below (va_Qv Q (BG D κ A) A) ([.ref a0, .ref a1, .ref a2, .int x3] : List Value).toArray s 0 0 A) (F0 m 66 ls []) := by
    intro C11 hC11 v0 v1 v2 v3 v4 S ls H locs hl hG hS h
    unfold J_X5_markHad_66 at h
    obtain ⟨y1, ey1⟩ : ∃ z, z = v4 + (1 : Int32) := ⟨_, rfl⟩
    replace h := h y1 ey1
    refine lv_iinc (v := y1) (lv' := [(4, .int y1), (0, .ref v0), (1, .ref v1), (2, .ref v2), (3, .int v3)]) hx hb dX5_markHad_66 hl (k := 4) rfl (by rw [ey1]; rfl) (by decide) rfl (fun ls hl => ?_)
    refine lv_goto (tgt := 11) hx hb dX5_markHad_69 rfl ?_
    exact hC11 v0 v1 v2 v3 y1 S ls _ _ (lv_sub hl [1, 2, 3, 4, 0] rfl) hG hS h
  have k_11 : ∀  (n : Nat), ∀ (v0 : Nat) (v1 : Nat) (v2 : Nat) (v3 : Int32) (v4 : Int32) (S : Hp) (ls : Array Slot) (H : Heap) (locs : List Loc), lv_has ls 6 [(0, .ref v0), (1, .ref v1), (2, .ref v2), (3, .int v3), (4, .int v4)] → GG D κ A S H → va_S A s.heap H locs → it (L_X5_markHad_11  Q) n (v0, v1, v2, v3, v4, S) → W p l e ({ frames := 3, cells := 0, slots := 0, locals := 144 } : Room) s m ([.ref a0, .ref a1, .ref a2, .int x3] : List Value).toArray below meth c H locs 0 0 (MQ below (va_Qv Q (BG D κ A) A) ([.ref a0, .ref a1, .ref a2, .int x3] : List Value).toArray s 0 0 A) (F0 m 11 ls []) := by
    intro  n
    induction n with
    | zero => intro v0 v1 v2 v3 v4 S ls H locs hl hG hS h; exact False.elim h
    | succ n hC11 =>
      intro v0 v1 v2 v3 v4 S ls H locs hl hG hS h
      replace h : L_X5_markHad_11  Q (it (L_X5_markHad_11  Q) n) (v0, v1, v2, v3, v4, S) := h
      simp only [L_X5_markHad_11] at h
      refine lv_iload hx hb dX5_markHad_11 (lv_at hl 4 rfl) ?_
      refine lv_aload_n hx hb dX5_markHad_13 rfl (lv_at hl 2 rfl) ?_
      have hk := h.1
      replace h := h.2
      refine gg_get (ci := 0) (C := RX0) (T := TX0) (N := 5) hx hb hts (fun _ h => List.mem_cons_of_mem _ (List.mem_append_left _ (List.mem_append_right _ (h)))) hown hK hG (kc_1 hk) rfl 4 (by decide) (hts (.fieldLink RX5 129 "FourStones$Lyings" "count" "I") (List.mem_of_getElem? (i := 2) rfl)) (fun _ h9 => h9) rfl dX5_markHad_14 ?_
      refine lv_icmp_ge (tgt := 72) hx hb dX5_markHad_17 rfl (fun hc => ?_) (fun hc => ?_)
      · replace h := h.1 hc
        exact W.vret hx hb hr (gr_v h hG hK hX hS) hS.2.2 dX5_markHad_72
      · replace h := h.2 hc
        refine lv_aload_n hx hb dX5_markHad_20 rfl (lv_at hl 2 rfl) ?_
        refine lv_iload hx hb dX5_markHad_21 (lv_at hl 4 rfl) ?_
        have hk := h.1
        replace h := h.2
        refine gc_i (va_runV (As := [.int v4]) (rest := []) ⟨hx, hb, hml, hown, hts⟩ (c_X0_notOff l D κ A S v2 v4 _ h) (cwV 1 hts gX5_markHad_X0_notOff rfl rfl rfl (by decide +kernel) ⟨Nat.le_of_ble_eq_true rfl, Nat.le_of_ble_eq_true rfl⟩) (pg_V (q := (RX0, TX0, 5)) hK hX hG (pg_A hA hS) (kc_1 hk) rfl) rfl rfl hl.1 rfl (lv_room (Nat.le_of_ble_eq_true rfl)) dX5_markHad_23 ⟨Nat.le_of_ble_eq_true rfl, Nat.le_of_ble_eq_true rfl⟩) hS (fun z3 S2 H locs1 h hG hS => ?_)
        refine lv_iload_n hx hb dX5_markHad_26 rfl (lv_at hl 3 rfl) ?_
        refine lv_iand hx hb dX5_markHad_27 ?_
        refine lv_if_ne (tgt := 66) hx hb dX5_markHad_28 rfl (fun hc => ?_) (fun hc => ?_)
        · replace h := h.1 hc
          exact j_66 _ hC11 v0 v1 v2 v3 v4 S2 ls _ _ (lv_sub hl [0, 1, 2, 3, 4] rfl) hG hS h
        · replace h := h.2 hc
          refine lv_aload_n hx hb dX5_markHad_31 rfl (lv_at hl 1 rfl) ?_
          refine lv_aload_n hx hb dX5_markHad_32 rfl (lv_at hl 2 rfl) ?_
          refine lv_iload hx hb dX5_markHad_33 (lv_at hl 4 rfl) ?_
          have hk := h.1
          replace h := h.2
          refine gc_i (va_runV (As := [.ref v2, .int v4]) (rest := []) ⟨hx, hb, hml, hown, hts⟩ (c_X2_allows l D κ A S2 v1 v2 v4 _ h) (cwV 2 hts gX5_markHad_X2_allows rfl rfl rfl (by decide +kernel) ⟨Nat.le_of_ble_eq_true rfl, Nat.le_of_ble_eq_true rfl⟩) (pg_V (q := (RX2, TX2, 2)) hK hX hG (pg_A hA hS) (kc_3 hk) rfl) rfl rfl hl.1 rfl (lv_room (Nat.le_of_ble_eq_true rfl)) dX5_markHad_35 ⟨Nat.le_of_ble_eq_true rfl, Nat.le_of_ble_eq_true rfl⟩) hS (fun z6 S5 H locs4 h hG hS => ?_)
          refine lv_if_eq (tgt := 66) hx hb dX5_markHad_38 rfl (fun hc => ?_) (fun hc => ?_)
          · replace h := h.1 hc
            exact j_66 _ hC11 v0 v1 v2 v3 v4 S5 ls _ _ (lv_sub hl [0, 1, 2, 3, 4] rfl) hG hS h
          · replace h := h.2 hc
            refine lv_aload_n hx hb dX5_markHad_41 rfl (lv_at hl 1 rfl) ?_
            refine lv_aload_n hx hb dX5_markHad_42 rfl (lv_at hl 2 rfl) ?_
            refine lv_iload hx hb dX5_markHad_43 (lv_at hl 4 rfl) ?_
            have hk := h.1
            replace h := h.2
            refine gc_i (va_runV (As := [.ref v2, .int v4]) (rest := []) ⟨hx, hb, hml, hown, hts⟩ (c_X2_weightOf l D κ A S5 v1 v2 v4 _ h) (cwV 2 hts gX5_markHad_X2_weightOf rfl rfl rfl (by decide +kernel) ⟨Nat.le_of_ble_eq_true rfl, Nat.le_of_ble_eq_true rfl⟩) (pg_V (q := (RX2, TX2, 2)) hK hX hG (pg_A hA hS) (kc_3 hk) rfl) rfl rfl hl.1 rfl (lv_room (Nat.le_of_ble_eq_true rfl)) dX5_markHad_45 ⟨Nat.le_of_ble_eq_true rfl, Nat.le_of_ble_eq_true rfl⟩) hS (fun z9 S8 H locs7 h hG hS => ?_)
            refine lv_istore (lv' := [(5, .int z9), (0, .ref v0), (1, .ref v1), (2, .ref v2), (3, .int v3), (4, .int v4)]) hx hb dX5_markHad_48 hl (by decide) rfl (fun ls hl => ?_)
            refine lv_iload hx hb dX5_markHad_50 (lv_at hl 0 rfl) ?_
            refine gc_i (va_runS (As := [.int z9]) (rest := []) ⟨hx, hb, hml, hown, hts⟩ (c_X5_canBeHad l D κ A S8 z9 _ h) (va_cwS 1 hts gX5_markHad_X5_canBeHad rfl rfl rfl (by decide +kernel) ⟨Nat.le_of_ble_eq_true rfl, Nat.le_of_ble_eq_true rfl⟩) (pg_S hK hX hG (pg_A hA hS)) rfl rfl hl.1 rfl (lv_room (Nat.le_of_ble_eq_true rfl)) dX5_markHad_52 ⟨Nat.le_of_ble_eq_true rfl, Nat.le_of_ble_eq_true rfl⟩) hS (fun z12 S11 H locs10 h hG hS => ?_)
            refine lv_if_eq (tgt := 66) hx hb dX5_markHad_55 rfl (fun hc => ?_) (fun hc => ?_)
            · replace h := h.1 hc
              exact j_66 _ hC11 v0 v1 v2 v3 v4 S11 ls _ _ (lv_sub hl [1, 2, 3, 4, 5] rfl) hG hS h
            · replace h := h.2 hc
              refine lv_aload_n hx hb dX5_markHad_58 rfl (lv_at hl 1 rfl) ?_
              have hk := h.1
              replace h := h.2
              obtain ⟨r13, hr13, h⟩ := h
              refine gg_get (v := .ref r13) (ci := 5) (C := RX5) (T := TX5) (N := 13) hx hb hts (fun _ h => List.mem_cons_of_mem _ (List.mem_append_left _ (List.mem_append_left _ (List.mem_append_right _ (h))))) hown hK hG (kc_6 hk) rfl 10 (by decide) (hts (.fieldLink RX5 58 "FourStones" "had" "[I") (List.mem_of_getElem? (i := 1) rfl)) (fun _ h9 => h9) (congrArg (fun z => some (va_rf z)) hr13) dX5_markHad_59 ?_
              refine lv_iload hx hb dX5_markHad_62 (lv_at hl 0 rfl) ?_
              refine lv_iconst (v := (1 : Int32)) hx hb dX5_markHad_64 (by decide) ?_
              have hk := h.1
              replace h := h.2
              have hi := h.1
              replace h := h.2
              obtain ⟨S14, eS14⟩ : ∃ z, z = sA S11 r13 (z9).toNatClampNeg (1 : Int32) := ⟨_, rfl⟩
              replace h := h S14 eS14
              refine gg_iast hx hb hK hG hS hk hi dX5_markHad_65 (fun H locs15 hG hS => ?_)
              rw [← eS14] at hG
              exact j_66 _ hC11 v0 v1 v2 v3 v4 S14 ls _ _ (lv_sub hl [1, 2, 3, 4, 5] rfl) hG hS h
  refine lv_aload_n hx hb dX5_markHad_0 rfl (lv_at hl 0 rfl) ?_
  have hk := h.1
  replace h := h.2
  obtain ⟨r1, hr1, h⟩ := h
  refine gg_get (v := .ref r1) (ci := 5) (C := RX5) (T := TX5) (N := 13) hx hb hts (fun _ h => List.mem_cons_of_mem _ (List.mem_append_left _ (List.mem_append_left _ (List.mem_append_right _ (h))))) hown hK hG (kc_6 hk) rfl 10 (by decide) (hts (.fieldLink RX5 58 "FourStones" "had" "[I") (List.mem_of_getElem? (i := 1) rfl)) (fun _ h9 => h9) (congrArg (fun z => some (va_rf z)) hr1) dX5_markHad_1 ?_
  refine lv_iconst (v := (0 : Int32)) hx hb dX5_markHad_4 (by decide) ?_
  refine gc_v (va_runS (As := [.ref r1, .int (0 : Int32)]) (rest := []) ⟨hx, hb, hml, hown, hts⟩ (c_J7_fill_53178 l D κ A S r1 (0 : Int32) _ h) (va_cwS 2 hts gX5_markHad_J7_fill_53178 rfl rfl rfl (by decide +kernel) ⟨Nat.le_of_ble_eq_true rfl, Nat.le_of_ble_eq_true rfl⟩) (pg_S hK hX hG (pg_A hA hS)) rfl rfl hl.1 rfl (lv_room (Nat.le_of_ble_eq_true rfl)) dX5_markHad_5 ⟨Nat.le_of_ble_eq_true rfl, Nat.le_of_ble_eq_true rfl⟩) hS (fun S3 H locs2 h hG hS => ?_)
  refine lv_iconst (v := (0 : Int32)) hx hb dX5_markHad_8 (by decide) ?_
  refine lv_istore (lv' := [(4, .int (0 : Int32)), (0, .ref a0), (1, .ref a1), (2, .ref a2), (3, .int x3)]) hx hb dX5_markHad_9 hl (by decide) rfl (fun ls hl => ?_)
  obtain ⟨nn, h⟩ := h
  exact k_11  nn a0 a1 a2 x3 (0 : Int32) S3 ls _ _ (lv_sub hl [1, 2, 3, 4, 0] rfl) hG hS h
set_option maxHeartbeats 4000000 in
set_option maxRecDepth 100000 in
theorem c_X5_firstNotHad (l : Launch) (D : va_G) (κ : Nat → ClassId) (A : Nat → Prop) (S : Hp) (a0 : Nat) (a1 : Nat) (a2 : Nat) (Q : Int32 → Hp → Prop) (h : wp_X5_firstNotHad a0 a1 a2 S Q) : Met l yX5_firstNotHad wsX5_firstNotHad ({ frames := 4, cells := 0, slots := 0, locals := 192 } : Room) (PG D κ A S [.ref a0, .ref a1, .ref a2]) (va_Qi Q (BG D κ A) A) 0 0 A := by
  refine Met.ofW (cc := cX5_firstNotHad) (maxL := 4) (ret := (some .int)) (by decide) rfl ?_
  intro p e s m args below meth c s₁ B hml hv
  obtain ⟨hargs, hA, hG, hK, hX⟩ := hv
  have hx := B.exec
  have hb := B.bytes
  have hr := B.returns
  have hts := atoms_spec (ws := wsX5_firstNotHad) B.pre
  have hown : s.vm.findClass RX5 = some m.cls := findClass_of_methodNamed B.named
  have hlocks := B.notSynchronized
  subst hargs
  clear B
  have hS : va_S A s.heap s.heap [] := va_S.rf
  have hl := lv_entry ([.ref a0, .ref a1, .ref a2]) (n := 4) (Nat.le_of_ble_eq_true rfl)
  rw [lg_entry_eq]
  generalize (lg_sl ([.ref a0, .ref a1, .ref a2]) ++ List.replicate (4 - (lg_sl ([.ref a0, .ref a1, .ref a2])).length) Slot.unset).toArray = ls at hl ⊢
  have hl : lv_has ls 4 [(0, .ref a0), (1, .ref a1), (2, .ref a2)] := hl
  have hG : GG D κ A S s.heap := hG
  have k_9 : ∀  (n : Nat), ∀ (v0 : Nat) (v3 : Int32) (S : Hp) (ls : Array Slot) (H : Heap) (locs : List Loc), lv_has ls 4 [(0, .ref v0), (3, .int v3)] → GG D κ A S H → va_S A s.heap H locs → it (L_X5_firstNotHad_9  Q) n (v0, v3, S) → W p l e ({ frames := 4, cells := 0, slots := 0, locals := 192 } : Room) s m ([.ref a0, .ref a1, .ref a2] : List Value).toArray below meth c H locs 0 0 (MQ below (va_Qi Q (BG D κ A) A) ([.ref a0, .ref a1, .ref a2] : List Value).toArray s 0 0 A) (F0 m 9 ls []) := by
    intro  n
    induction n with
    | zero => intro v0 v3 S ls H locs hl hG hS h; exact False.elim h
    | succ n hC9 =>
      intro v0 v3 S ls H locs hl hG hS h
      replace h : L_X5_firstNotHad_9  Q (it (L_X5_firstNotHad_9  Q) n) (v0, v3, S) := h
      simp only [L_X5_firstNotHad_9] at h
      refine lv_iload_n hx hb dX5_firstNotHad_9 rfl (lv_at hl 1 rfl) ?_
      refine lv_sipush (v := (999 : Int32)) hx hb dX5_firstNotHad_10 (by decide) ?_
      refine lv_icmp_gt (tgt := 32) hx hb dX5_firstNotHad_13 rfl (fun hc => ?_) (fun hc => ?_)
      · replace h := h.1 hc
        refine lv_iload_n hx hb dX5_firstNotHad_32 rfl (lv_at hl 1 rfl) ?_
        exact W.iret hx hb hr (gr_i h hG hK hX hS) hS.2.2 dX5_firstNotHad_33
      · replace h := h.2 hc
        refine lv_aload_n hx hb dX5_firstNotHad_16 rfl (lv_at hl 0 rfl) ?_
        have hk := h.1
        replace h := h.2
        obtain ⟨r1, hr1, h⟩ := h
        refine gg_get (v := .ref r1) (ci := 5) (C := RX5) (T := TX5) (N := 13) hx hb hts (fun _ h => List.mem_cons_of_mem _ (List.mem_append_left _ (List.mem_append_left _ (List.mem_append_right _ (h))))) hown hK hG (kc_6 hk) rfl 10 (by decide) (hts (.fieldLink RX5 58 "FourStones" "had" "[I") (List.mem_of_getElem? (i := 1) rfl)) (fun _ h9 => h9) (congrArg (fun z => some (va_rf z)) hr1) dX5_firstNotHad_17 ?_
        refine lv_iload_n hx hb dX5_firstNotHad_20 rfl (lv_at hl 1 rfl) ?_
        have hk := h.1
        replace h := h.2
        have hi := h.1
        replace h := h.2
        refine gg_iald hx hb hK hG hk hi dX5_firstNotHad_21 ?_
        refine lv_iconst (v := (1 : Int32)) hx hb dX5_firstNotHad_22 (by decide) ?_
        refine lv_icmp_ne (tgt := 32) hx hb dX5_firstNotHad_23 rfl (fun hc => ?_) (fun hc => ?_)
        · replace h := h.1 hc
          refine lv_iload_n hx hb dX5_firstNotHad_32 rfl (lv_at hl 1 rfl) ?_
          exact W.iret hx hb hr (gr_i h hG hK hX hS) hS.2.2 dX5_firstNotHad_33
        · replace h := h.2 hc
          obtain ⟨y2, ey2⟩ : ∃ z, z = v3 + (1 : Int32) := ⟨_, rfl⟩
          replace h := h y2 ey2
          refine lv_iinc (v := y2) (lv' := [(3, .int y2), (0, .ref v0)]) hx hb dX5_firstNotHad_26 hl (k := 1) rfl (by rw [ey2]; rfl) (by decide) rfl (fun ls hl => ?_)
          refine lv_goto (tgt := 9) hx hb dX5_firstNotHad_29 rfl ?_
          exact hC9 v0 y2 S ls _ _ (lv_sub hl [1, 0] rfl) hG hS h
  refine lv_aload_n hx hb dX5_firstNotHad_0 rfl (lv_at hl 0 rfl) ?_
  refine lv_aload_n hx hb dX5_firstNotHad_1 rfl (lv_at hl 1 rfl) ?_
  refine lv_aload_n hx hb dX5_firstNotHad_2 rfl (lv_at hl 2 rfl) ?_
  refine lv_iconst (v := (0 : Int32)) hx hb dX5_firstNotHad_3 (by decide) ?_
  have hk := h.1
  replace h := h.2
  refine gc_v (va_runV (As := [.ref a1, .ref a2, .int (0 : Int32)]) (rest := []) ⟨hx, hb, hml, hown, hts⟩ (c_X5_markHad l D κ A S a0 a1 a2 (0 : Int32) _ h) (cwV 3 hts gX5_firstNotHad_X5_markHad rfl rfl rfl (by decide +kernel) ⟨Nat.le_of_ble_eq_true rfl, Nat.le_of_ble_eq_true rfl⟩) (pg_V (q := (RX5, TX5, 13)) hK hX hG (pg_A hA hS) (kc_6 hk) rfl) rfl rfl hl.1 rfl (lv_room (Nat.le_of_ble_eq_true rfl)) dX5_firstNotHad_4 ⟨Nat.le_of_ble_eq_true rfl, Nat.le_of_ble_eq_true rfl⟩) hS (fun S2 H locs1 h hG hS => ?_)
  refine lv_iconst (v := (1 : Int32)) hx hb dX5_firstNotHad_7 (by decide) ?_
  refine lv_istore_n (lv' := [(3, .int (1 : Int32)), (0, .ref a0), (1, .ref a1), (2, .ref a2)]) hx hb dX5_firstNotHad_8 rfl hl (by decide) rfl (fun ls hl => ?_)
  obtain ⟨nn, h⟩ := h
  exact k_9  nn a0 (1 : Int32) S2 ls _ _ (lv_sub hl [1, 0] rfl) hG hS h
set_option maxHeartbeats 4000000 in
set_option maxRecDepth 100000 in
theorem c_X5_reach (l : Launch) (D : va_G) (κ : Nat → ClassId) (A : Nat → Prop) (S : Hp) (a0 : Nat) (x1 : Int32) (Q : Int32 → Hp → Prop) (h : wp_X5_reach a0 x1 S Q) : Met l yX5_reach wsX5_reach ({ frames := 5, cells := 0, slots := 0, locals := 240 } : Room) (PG D κ A S [.ref a0, .int x1]) (va_Qi Q (BG D κ A) A) 0 0 A := by
  refine Met.ofW (cc := cX5_reach) (maxL := 3) (ret := (some .int)) (by decide) rfl ?_
  intro p e s m args below meth c s₁ B hml hv
  obtain ⟨hargs, hA, hG, hK, hX⟩ := hv
  have hx := B.exec
  have hb := B.bytes
  have hr := B.returns
  have hts := atoms_spec (ws := wsX5_reach) B.pre
  have hown : s.vm.findClass RX5 = some m.cls := findClass_of_methodNamed B.named
  have hlocks := B.notSynchronized
  subst hargs
  clear B
  have hS : va_S A s.heap s.heap [] := va_S.rf
  have hl := lv_entry ([.ref a0, .int x1]) (n := 3) (Nat.le_of_ble_eq_true rfl)
  rw [lg_entry_eq]
  generalize (lg_sl ([.ref a0, .int x1]) ++ List.replicate (3 - (lg_sl ([.ref a0, .int x1])).length) Slot.unset).toArray = ls at hl ⊢
  have hl : lv_has ls 3 [(0, .ref a0), (1, .int x1)] := hl
  have hG : GG D κ A S s.heap := hG
  refine lv_iload_n hx hb dX5_reach_0 rfl (lv_at hl 1 rfl) ?_
  refine gc_i (va_runS (As := [.int x1]) (rest := []) ⟨hx, hb, hml, hown, hts⟩ (c_X5_isShelf l D κ A S x1 _ h) (va_cwS 1 hts gX5_reach_X5_isShelf rfl rfl rfl (by decide +kernel) ⟨Nat.le_of_ble_eq_true rfl, Nat.le_of_ble_eq_true rfl⟩) (pg_S hK hX hG (pg_A hA hS)) rfl rfl hl.1 rfl (lv_room (Nat.le_of_ble_eq_true rfl)) dX5_reach_1 ⟨Nat.le_of_ble_eq_true rfl, Nat.le_of_ble_eq_true rfl⟩) hS (fun z3 S2 H locs1 h hG hS => ?_)
  refine lv_if_ne (tgt := 9) hx hb dX5_reach_4 rfl (fun hc => ?_) (fun hc => ?_)
  · replace h := h.1 hc
    refine lv_aload_n hx hb dX5_reach_9 rfl (lv_at hl 0 rfl) ?_
    have hk := h.1
    replace h := h.2
    obtain ⟨r4, hr4, h⟩ := h
    refine gg_get (v := .ref r4) (ci := 5) (C := RX5) (T := TX5) (N := 13) hx hb hts (fun _ h => List.mem_cons_of_mem _ (List.mem_append_left _ (List.mem_append_left _ (List.mem_append_right _ (h))))) hown hK hG (kc_6 hk) rfl 6 (by decide) (hts (.fieldLink RX5 34 "FourStones" "scales" "[LFourStones$Scale;") (List.mem_of_getElem? (i := 1) rfl)) (fun _ h9 => h9) (congrArg (fun z => some (va_rf z)) hr4) dX5_reach_10 ?_
    refine lv_iload_n hx hb dX5_reach_13 rfl (lv_at hl 1 rfl) ?_
    have hk := h.1
    replace h := h.2
    have hi := h.1
    replace h := h.2
    refine gg_aldq hx hb hK hG hk hi dX5_reach_14 (fun hc => ?_) (fun r5 hc => ?_)
    · replace h := h.1 hc
      refine lv_astore_nN (lv' := [(2, .null), (0, .ref a0), (1, .int x1)]) hx hb dX5_reach_15 rfl hl (by decide) rfl (fun ls hl => ?_)
      refine lv_aload_nN hx hb dX5_reach_16 rfl (lv_at hl 0 rfl) ?_
      refine lv_ifnonnullN hx hb dX5_reach_17 ?_
      refine lv_aload_n hx hb dX5_reach_20 rfl (lv_at hl 1 rfl) ?_
      refine lv_iload_n hx hb dX5_reach_21 rfl (lv_at hl 2 rfl) ?_
      have hk := h.1
      replace h := h.2
      refine gc_i (va_runV (As := [.int x1]) (rest := []) ⟨hx, hb, hml, hown, hts⟩ (c_X5_notHeld l D κ A S2 a0 x1 _ h) (cwV 1 hts gX5_reach_X5_notHeld rfl rfl rfl (by decide +kernel) ⟨Nat.le_of_ble_eq_true rfl, Nat.le_of_ble_eq_true rfl⟩) (pg_V (q := (RX5, TX5, 13)) hK hX hG (pg_A hA hS) (kc_6 hk) rfl) rfl rfl hl.1 rfl (lv_room (Nat.le_of_ble_eq_true rfl)) dX5_reach_22 ⟨Nat.le_of_ble_eq_true rfl, Nat.le_of_ble_eq_true rfl⟩) hS (fun z8 S7 H locs6 h hG hS => ?_)
      exact W.iret hx hb hr (gr_i h hG hK hX hS) hS.2.2 dX5_reach_25
    · replace h := h.2 r5 hc
      refine lv_astore_n (lv' := [(2, .ref r5), (0, .ref a0), (1, .int x1)]) hx hb dX5_reach_15 rfl hl (by decide) rfl (fun ls hl => ?_)
      refine lv_aload_n hx hb dX5_reach_16 rfl (lv_at hl 0 rfl) ?_
      refine lv_ifnonnull (tgt := 26) hx hb dX5_reach_17 rfl ?_
      refine lv_aload_n hx hb dX5_reach_26 rfl (lv_at hl 1 rfl) ?_
      refine lv_aload_n hx hb dX5_reach_27 rfl (lv_at hl 0 rfl) ?_
      refine lv_aload_n hx hb dX5_reach_28 rfl (lv_at hl 1 rfl) ?_
      have hk := h.1
      replace h := h.2
      obtain ⟨r9, hr9, h⟩ := h
      refine gg_get (v := .ref r9) (ci := 5) (C := RX5) (T := TX5) (N := 13) hx hb hts (fun _ h => List.mem_cons_of_mem _ (List.mem_append_left _ (List.mem_append_left _ (List.mem_append_right _ (h))))) hown hK hG (kc_6 hk) rfl 1 (by decide) (hts (.fieldLink RX5 19 "FourStones" "lyings" "LFourStones$Lyings;") (List.mem_of_getElem? (i := 2) rfl)) (fun _ h9 => h9) (congrArg (fun z => some (va_rf z)) hr9) dX5_reach_29 ?_
      have hk := h.1
      replace h := h.2
      refine gc_i (va_runV (As := [.ref r5, .ref r9]) (rest := []) ⟨hx, hb, hml, hown, hts⟩ (c_X5_firstNotHad l D κ A S2 a0 r5 r9 _ h) (cwV 2 hts gX5_reach_X5_firstNotHad rfl rfl rfl (by decide +kernel) ⟨Nat.le_of_ble_eq_true rfl, Nat.le_of_ble_eq_true rfl⟩) (pg_V (q := (RX5, TX5, 13)) hK hX hG (pg_A hA hS) (kc_6 hk) rfl) rfl rfl hl.1 rfl (lv_room (Nat.le_of_ble_eq_true rfl)) dX5_reach_32 ⟨Nat.le_of_ble_eq_true rfl, Nat.le_of_ble_eq_true rfl⟩) hS (fun z12 S11 H locs10 h hG hS => ?_)
      refine lv_iconst (v := (1 : Int32)) hx hb dX5_reach_35 (by decide) ?_
      refine lv_isub hx hb dX5_reach_36 ?_
      exact W.iret hx hb hr (gr_i h hG hK hX hS) hS.2.2 dX5_reach_37
  · replace h := h.2 hc
    refine lv_iconst (v := (-1 : Int32)) hx hb dX5_reach_7 (by decide) ?_
    exact W.iret hx hb hr (gr_i h hG hK hX hS) hS.2.2 dX5_reach_8
set_option maxHeartbeats 4000000 in
set_option maxRecDepth 100000 in
theorem c_X5_hole (l : Launch) (D : va_G) (κ : Nat → ClassId) (A : Nat → Prop) (S : Hp) (a0 : Nat) (x1 : Int32) (Q : Int32 → Hp → Prop) (h : wp_X5_hole a0 x1 S Q) : Met l yX5_hole wsX5_hole ({ frames := 5, cells := 0, slots := 0, locals := 240 } : Room) (PG D κ A S [.ref a0, .int x1]) (va_Qi Q (BG D κ A) A) 0 0 A := by
  refine Met.ofW (cc := cX5_hole) (maxL := 4) (ret := (some .int)) (by decide) rfl ?_
  intro p e s m args below meth c s₁ B hml hv
  obtain ⟨hargs, hA, hG, hK, hX⟩ := hv
  have hx := B.exec
  have hb := B.bytes
  have hr := B.returns
  have hts := atoms_spec (ws := wsX5_hole) B.pre
  have hown : s.vm.findClass RX5 = some m.cls := findClass_of_methodNamed B.named
  have hlocks := B.notSynchronized
  subst hargs
  clear B
  have hS : va_S A s.heap s.heap [] := va_S.rf
  have hl := lv_entry ([.ref a0, .int x1]) (n := 4) (Nat.le_of_ble_eq_true rfl)
  rw [lg_entry_eq]
  generalize (lg_sl ([.ref a0, .int x1]) ++ List.replicate (4 - (lg_sl ([.ref a0, .int x1])).length) Slot.unset).toArray = ls at hl ⊢
  have hl : lv_has ls 4 [(0, .ref a0), (1, .int x1)] := hl
  have hG : GG D κ A S s.heap := hG
  refine lv_iload_n hx hb dX5_hole_0 rfl (lv_at hl 1 rfl) ?_
  refine gc_i (va_runS (As := [.int x1]) (rest := []) ⟨hx, hb, hml, hown, hts⟩ (c_X5_isShelf l D κ A S x1 _ h) (va_cwS 1 hts gX5_hole_X5_isShelf rfl rfl rfl (by decide +kernel) ⟨Nat.le_of_ble_eq_true rfl, Nat.le_of_ble_eq_true rfl⟩) (pg_S hK hX hG (pg_A hA hS)) rfl rfl hl.1 rfl (lv_room (Nat.le_of_ble_eq_true rfl)) dX5_hole_1 ⟨Nat.le_of_ble_eq_true rfl, Nat.le_of_ble_eq_true rfl⟩) hS (fun z3 S2 H locs1 h hG hS => ?_)
  refine lv_if_ne (tgt := 9) hx hb dX5_hole_4 rfl (fun hc => ?_) (fun hc => ?_)
  · replace h := h.1 hc
    refine lv_aload_n hx hb dX5_hole_9 rfl (lv_at hl 0 rfl) ?_
    have hk := h.1
    replace h := h.2
    obtain ⟨r4, hr4, h⟩ := h
    refine gg_get (v := .ref r4) (ci := 5) (C := RX5) (T := TX5) (N := 13) hx hb hts (fun _ h => List.mem_cons_of_mem _ (List.mem_append_left _ (List.mem_append_left _ (List.mem_append_right _ (h))))) hown hK hG (kc_6 hk) rfl 6 (by decide) (hts (.fieldLink RX5 34 "FourStones" "scales" "[LFourStones$Scale;") (List.mem_of_getElem? (i := 1) rfl)) (fun _ h9 => h9) (congrArg (fun z => some (va_rf z)) hr4) dX5_hole_10 ?_
    refine lv_iload_n hx hb dX5_hole_13 rfl (lv_at hl 1 rfl) ?_
    have hk := h.1
    replace h := h.2
    have hi := h.1
    replace h := h.2
    refine gg_aldq hx hb hK hG hk hi dX5_hole_14 (fun hc => ?_) (fun r5 hc => ?_)
    · replace h := h.1 hc
      refine lv_astore_nN (lv' := [(2, .null), (0, .ref a0), (1, .int x1)]) hx hb dX5_hole_15 rfl hl (by decide) rfl (fun ls hl => ?_)
      refine lv_aload_nN hx hb dX5_hole_16 rfl (lv_at hl 0 rfl) ?_
      refine lv_ifnonnullN hx hb dX5_hole_17 ?_
      refine lv_aload_n hx hb dX5_hole_20 rfl (lv_at hl 1 rfl) ?_
      refine lv_iload_n hx hb dX5_hole_21 rfl (lv_at hl 2 rfl) ?_
      have hk := h.1
      replace h := h.2
      refine gc_i (va_runV (As := [.int x1]) (rest := []) ⟨hx, hb, hml, hown, hts⟩ (c_X5_notHeld l D κ A S2 a0 x1 _ h) (cwV 1 hts gX5_hole_X5_notHeld rfl rfl rfl (by decide +kernel) ⟨Nat.le_of_ble_eq_true rfl, Nat.le_of_ble_eq_true rfl⟩) (pg_V (q := (RX5, TX5, 13)) hK hX hG (pg_A hA hS) (kc_6 hk) rfl) rfl rfl hl.1 rfl (lv_room (Nat.le_of_ble_eq_true rfl)) dX5_hole_22 ⟨Nat.le_of_ble_eq_true rfl, Nat.le_of_ble_eq_true rfl⟩) hS (fun z8 S7 H locs6 h hG hS => ?_)
      exact W.iret hx hb hr (gr_i h hG hK hX hS) hS.2.2 dX5_hole_25
    · replace h := h.2 r5 hc
      refine lv_astore_n (lv' := [(2, .ref r5), (0, .ref a0), (1, .int x1)]) hx hb dX5_hole_15 rfl hl (by decide) rfl (fun ls hl => ?_)
      refine lv_aload_n hx hb dX5_hole_16 rfl (lv_at hl 0 rfl) ?_
      refine lv_ifnonnull (tgt := 26) hx hb dX5_hole_17 rfl ?_
      refine lv_aload_n hx hb dX5_hole_26 rfl (lv_at hl 1 rfl) ?_
      refine lv_aload_n hx hb dX5_hole_27 rfl (lv_at hl 0 rfl) ?_
      refine lv_aload_n hx hb dX5_hole_28 rfl (lv_at hl 1 rfl) ?_
      have hk := h.1
      replace h := h.2
      obtain ⟨r9, hr9, h⟩ := h
      refine gg_get (v := .ref r9) (ci := 5) (C := RX5) (T := TX5) (N := 13) hx hb hts (fun _ h => List.mem_cons_of_mem _ (List.mem_append_left _ (List.mem_append_left _ (List.mem_append_right _ (h))))) hown hK hG (kc_6 hk) rfl 1 (by decide) (hts (.fieldLink RX5 19 "FourStones" "lyings" "LFourStones$Lyings;") (List.mem_of_getElem? (i := 2) rfl)) (fun _ h9 => h9) (congrArg (fun z => some (va_rf z)) hr9) dX5_hole_29 ?_
      have hk := h.1
      replace h := h.2
      refine gc_i (va_runV (As := [.ref r5, .ref r9]) (rest := []) ⟨hx, hb, hml, hown, hts⟩ (c_X5_firstNotHad l D κ A S2 a0 r5 r9 _ h) (cwV 2 hts gX5_hole_X5_firstNotHad rfl rfl rfl (by decide +kernel) ⟨Nat.le_of_ble_eq_true rfl, Nat.le_of_ble_eq_true rfl⟩) (pg_V (q := (RX5, TX5, 13)) hK hX hG (pg_A hA hS) (kc_6 hk) rfl) rfl rfl hl.1 rfl (lv_room (Nat.le_of_ble_eq_true rfl)) dX5_hole_32 ⟨Nat.le_of_ble_eq_true rfl, Nat.le_of_ble_eq_true rfl⟩) hS (fun z12 S11 H locs10 h hG hS => ?_)
      refine lv_istore_n (lv' := [(3, .int z12), (2, .ref r5), (0, .ref a0), (1, .int x1)]) hx hb dX5_hole_35 rfl hl (by decide) rfl (fun ls hl => ?_)
      refine lv_iload_n hx hb dX5_hole_36 rfl (lv_at hl 0 rfl) ?_
      refine lv_sipush (v := (999 : Int32)) hx hb dX5_hole_37 (by decide) ?_
      refine lv_icmp_gt (tgt := 47) hx hb dX5_hole_40 rfl (fun hc => ?_) (fun hc => ?_)
      · replace h := h.1 hc
        refine lv_bipush (v := (-4 : Int32)) hx hb dX5_hole_47 (by decide) ?_
        exact W.iret hx hb hr (gr_i h hG hK hX hS) hS.2.2 dX5_hole_49
      · replace h := h.2 hc
        refine lv_iload_n hx hb dX5_hole_43 rfl (lv_at hl 0 rfl) ?_
        refine lv_goto (tgt := 49) hx hb dX5_hole_44 rfl ?_
        exact W.iret hx hb hr (gr_i h hG hK hX hS) hS.2.2 dX5_hole_49
  · replace h := h.2 hc
    refine lv_iconst (v := (-1 : Int32)) hx hb dX5_hole_7 (by decide) ?_
    exact W.iret hx hb hr (gr_i h hG hK hX hS) hS.2.2 dX5_hole_8
set_option maxHeartbeats 4000000 in
set_option maxRecDepth 100000 in
theorem c_X5_isList (l : Launch) (D : va_G) (κ : Nat → ClassId) (A : Nat → Prop) (S : Hp) (a0 : Nat) (Q : Int32 → Hp → Prop) (h : wp_X5_isList a0 S Q) : Met l yX5_isList wsX5_isList ({ frames := 2, cells := 0, slots := 0, locals := 96 } : Room) (PG D κ A S [.ref a0]) (va_Qi Q (BG D κ A) A) 0 0 A := by
  refine Met.ofW (cc := cX5_isList) (maxL := 3) (ret := (some .boolean)) (by decide) rfl ?_
  intro p e s m args below meth c s₁ B hml hv
  obtain ⟨hargs, hA, hG, hK, hX⟩ := hv
  have hx := B.exec
  have hb := B.bytes
  have hr := B.returns
  have hts := atoms_spec (ws := wsX5_isList) B.pre
  have hown : s.vm.findClass RX5 = some m.cls := findClass_of_methodNamed B.named
  have hlocks := B.notSynchronized
  subst hargs
  clear B
  have hS : va_S A s.heap s.heap [] := va_S.rf
  have hl := lv_entry ([.ref a0]) (n := 3) (Nat.le_of_ble_eq_true rfl)
  rw [lg_entry_eq]
  generalize (lg_sl ([.ref a0]) ++ List.replicate (3 - (lg_sl ([.ref a0])).length) Slot.unset).toArray = ls at hl ⊢
  have hl : lv_has ls 3 [(0, .ref a0)] := hl
  have hG : GG D κ A S s.heap := hG
  have k_21 : ∀  (n : Nat), ∀ (v0 : Nat) (v1 : Int32) (v2 : Int32) (S : Hp) (ls : Array Slot) (H : Heap) (locs : List Loc), lv_has ls 3 [(0, .ref v0), (1, .int v1), (2, .int v2)] → GG D κ A S H → va_S A s.heap H locs → it (L_X5_isList_21  Q) n (v0, v1, v2, S) → W p l e ({ frames := 2, cells := 0, slots := 0, locals := 96 } : Room) s m ([.ref a0] : List Value).toArray below meth c H locs 0 0 (MQ below (va_Qi Q (BG D κ A) A) ([.ref a0] : List Value).toArray s 0 0 A) (F0 m 21 ls []) := by
    intro  n
    induction n with
    | zero => intro v0 v1 v2 S ls H locs hl hG hS h; exact False.elim h
    | succ n hC21 =>
      intro v0 v1 v2 S ls H locs hl hG hS h
      replace h : L_X5_isList_21  Q (it (L_X5_isList_21  Q) n) (v0, v1, v2, S) := h
      simp only [L_X5_isList_21] at h
      refine lv_iload_n hx hb dX5_isList_21 rfl (lv_at hl 2 rfl) ?_
      refine lv_iload_n hx hb dX5_isList_22 rfl (lv_at hl 1 rfl) ?_
      refine lv_icmp_ge (tgt := 46) hx hb dX5_isList_23 rfl (fun hc => ?_) (fun hc => ?_)
      · replace h := h.1 hc
        refine lv_iconst (v := (1 : Int32)) hx hb dX5_isList_46 (by decide) ?_
        exact W.zret (ty := .boolean) hx hb hr (by decide) (gr_i h hG hK hX hS) hS.2.2 dX5_isList_47
      · replace h := h.2 hc
        refine lv_aload_n hx hb dX5_isList_26 rfl (lv_at hl 0 rfl) ?_
        have hk := h.1
        replace h := h.2
        obtain ⟨r1, hr1, h⟩ := h
        refine gg_get (v := .ref r1) (ci := 1) (C := RX1) (T := TX1) (N := 2) hx hb hts (fun _ h => List.mem_cons_of_mem _ (List.mem_append_right _ (h))) hown hK hG (kc_2 hk) rfl 1 (by decide) (hts (.fieldLink RX5 209 "FourStones$Row" "cells" "[I") (List.mem_of_getElem? (i := 1) rfl)) (fun _ h9 => h9) (congrArg (fun z => some (va_rf z)) hr1) dX5_isList_27 ?_
        refine lv_iload_n hx hb dX5_isList_30 rfl (lv_at hl 2 rfl) ?_
        have hk := h.1
        replace h := h.2
        have hi := h.1
        replace h := h.2
        refine gg_iald hx hb hK hG hk hi dX5_isList_31 ?_
        refine gc_i (va_runS (As := [.int (gA S r1 (v2).toNatClampNeg)]) (rest := []) ⟨hx, hb, hml, hown, hts⟩ (c_X5_canBeHad l D κ A S (gA S r1 (v2).toNatClampNeg) _ h) (va_cwS 1 hts gX5_isList_X5_canBeHad rfl rfl rfl (by decide +kernel) ⟨Nat.le_of_ble_eq_true rfl, Nat.le_of_ble_eq_true rfl⟩) (pg_S hK hX hG (pg_A hA hS)) rfl rfl hl.1 rfl (lv_room (Nat.le_of_ble_eq_true rfl)) dX5_isList_32 ⟨Nat.le_of_ble_eq_true rfl, Nat.le_of_ble_eq_true rfl⟩) hS (fun z4 S3 H locs2 h hG hS => ?_)
        refine lv_if_ne (tgt := 40) hx hb dX5_isList_35 rfl (fun hc => ?_) (fun hc => ?_)
        · replace h := h.1 hc
          obtain ⟨y5, ey5⟩ : ∃ z, z = v2 + (1 : Int32) := ⟨_, rfl⟩
          replace h := h y5 ey5
          refine lv_iinc (v := y5) (lv' := [(2, .int y5), (0, .ref v0), (1, .int v1)]) hx hb dX5_isList_40 hl (k := 2) rfl (by rw [ey5]; rfl) (by decide) rfl (fun ls hl => ?_)
          refine lv_goto (tgt := 21) hx hb dX5_isList_43 rfl ?_
          exact hC21 v0 v1 y5 S3 ls _ _ (lv_sub hl [1, 2, 0] rfl) hG hS h
        · replace h := h.2 hc
          refine lv_iconst (v := (0 : Int32)) hx hb dX5_isList_38 (by decide) ?_
          exact W.zret (ty := .boolean) hx hb hr (by decide) (gr_i h hG hK hX hS) hS.2.2 dX5_isList_39
  refine lv_aload_n hx hb dX5_isList_0 rfl (lv_at hl 0 rfl) ?_
  have hk := h.1
  replace h := h.2
  obtain ⟨r1, hr1, h⟩ := h
  refine gg_get (v := .ref r1) (ci := 1) (C := RX1) (T := TX1) (N := 2) hx hb hts (fun _ h => List.mem_cons_of_mem _ (List.mem_append_right _ (h))) hown hK hG (kc_2 hk) rfl 1 (by decide) (hts (.fieldLink RX5 209 "FourStones$Row" "cells" "[I") (List.mem_of_getElem? (i := 1) rfl)) (fun _ h9 => h9) (congrArg (fun z => some (va_rf z)) hr1) dX5_isList_1 ?_
  have hk := h.1
  replace h := h.2
  refine gg_alen8 hx hb hK hG hk dX5_isList_4 ?_
  refine lv_topi (fun y2 ey2 => ?_)
  replace h := h y2 ey2
  refine lv_istore_n (lv' := [(1, .int y2), (0, .ref a0)]) hx hb dX5_isList_5 rfl hl (by decide) rfl (fun ls hl => ?_)
  refine lv_iload_n hx hb dX5_isList_6 rfl (lv_at hl 0 rfl) ?_
  refine lv_iconst (v := (1 : Int32)) hx hb dX5_isList_7 (by decide) ?_
  refine lv_icmp_lt (tgt := 17) hx hb dX5_isList_8 rfl (fun hc => ?_) (fun hc => ?_)
  · replace h := h.1 hc
    refine lv_iconst (v := (0 : Int32)) hx hb dX5_isList_17 (by decide) ?_
    exact W.zret (ty := .boolean) hx hb hr (by decide) (gr_i h hG hK hX hS) hS.2.2 dX5_isList_18
  · replace h := h.2 hc
    refine lv_iload_n hx hb dX5_isList_11 rfl (lv_at hl 0 rfl) ?_
    refine lv_bipush (v := (8 : Int32)) hx hb dX5_isList_12 (by decide) ?_
    refine lv_icmp_le (tgt := 19) hx hb dX5_isList_14 rfl (fun hc => ?_) (fun hc => ?_)
    · replace h := h.1 hc
      refine lv_iconst (v := (0 : Int32)) hx hb dX5_isList_19 (by decide) ?_
      refine lv_istore_n (lv' := [(2, .int (0 : Int32)), (1, .int y2), (0, .ref a0)]) hx hb dX5_isList_20 rfl hl (by decide) rfl (fun ls hl => ?_)
      obtain ⟨nn, h⟩ := h
      exact k_21  nn a0 y2 (0 : Int32) S ls _ _ (lv_sub hl [2, 1, 0] rfl) hG hS h
    · replace h := h.2 hc
      refine lv_iconst (v := (0 : Int32)) hx hb dX5_isList_17 (by decide) ?_
      exact W.zret (ty := .boolean) hx hb hr (by decide) (gr_i h hG hK hX hS) hS.2.2 dX5_isList_18
set_option maxHeartbeats 4000000 in
set_option maxRecDepth 100000 in
theorem c_X5_markListed (l : Launch) (D : va_G) (κ : Nat → ClassId) (A : Nat → Prop) (S : Hp) (a0 : Nat) (a1 : Nat) (a2 : Nat) (Q : Hp → Prop) (h : wp_X5_markListed a0 a1 a2 S Q) : Met l yX5_markListed wsX5_markListed ({ frames := 3, cells := 0, slots := 0, locals := 144 } : Room) (PG D κ A S [.ref a0, .ref a1, .ref a2]) (va_Qv Q (BG D κ A) A) 0 0 A := by
  refine Met.ofW (cc := cX5_markListed) (maxL := 5) (ret := none) (by decide) rfl ?_
  intro p e s m args below meth c s₁ B hml hv
  obtain ⟨hargs, hA, hG, hK, hX⟩ := hv
  have hx := B.exec
  have hb := B.bytes
  have hr := B.returns
  have hts := atoms_spec (ws := wsX5_markListed) B.pre
  have hown : s.vm.findClass RX5 = some m.cls := findClass_of_methodNamed B.named
  have hlocks := B.notSynchronized
  subst hargs
  clear B
  have hS : va_S A s.heap s.heap [] := va_S.rf
  have hl := lv_entry ([.ref a0, .ref a1, .ref a2]) (n := 5) (Nat.le_of_ble_eq_true rfl)
  rw [lg_entry_eq]
  generalize (lg_sl ([.ref a0, .ref a1, .ref a2]) ++ List.replicate (5 - (lg_sl ([.ref a0, .ref a1, .ref a2])).length) Slot.unset).toArray = ls at hl ⊢
  have hl : lv_has ls 5 [(0, .ref a0), (1, .ref a1), (2, .ref a2)] := hl
  have hG : GG D κ A S s.heap := hG
  have j_66 : ∀ (C10 : Nat × Nat × Nat × Int32 × Hp → Prop) (hC10 : ∀ (v0 : Nat) (v1 : Nat) (v2 : Nat) (v3 : Int32) (S : Hp) (ls : Array Slot) (H : Heap) (locs : List Loc), lv_has ls 5 [(0, .ref v0), (1, .ref v1), (2, .ref v2), (3, .int v3)] → GG D κ A S H → va_S A s.heap H locs → C10 (v0, v1, v2, v3, S) → W p l e ({ frames := 3, cells := 0, slots := 0, locals := 144 } : Room) s m ([.ref a0, .ref a1, .ref a2] : List Value).toArray below meth c H locs 0 0 (MQ below (va_Qv Q (BG D κ A) A) ([.ref a0, .ref a1, .ref a2] : List Value).toArray s 0 0 A) (F0 m 10 ls [])) (v0 : Nat) (v1 : Nat) (v2 : Nat) (v3 : Int32) (S : Hp) (ls : Array Slot) (H : Heap) (locs : List Loc), lv_has ls 5 [(0, .ref v0), (1, .ref v1), (2, .ref v2), (3, .int v3)] → GG D κ A S H → va_S A s.heap H locs → J_X5_markListed_66 C10 Q v0 v1 v2 v3 S → W p l e ({ frames := 3, cells := 0, slots := 0, locals := 144 } : Room) s m ([.ref a0, .ref a1, .ref a2] : List Value).toArray below meth c H locs 0 0 (MQ below (va_Qv Q (BG D κ A) A) ([.ref a0, .ref a1, .ref a2] : List Value).toArray s 0 0 A) (F0 m 66 ls []) := by
    intro C10 hC10 v0 v1 v2 v3 S ls H locs hl hG hS h
    unfold J_X5_markListed_66 at h
    obtain ⟨y1, ey1⟩ : ∃ z, z = v3 + (1 : Int32) := ⟨_, rfl⟩
    replace h := h y1 ey1
    refine lv_iinc (v := y1) (lv' := [(3, .int y1), (0, .ref v0), (1, .ref v1), (2, .ref v2)]) hx hb dX5_markListed_66 hl (k := 3) rfl (by rw [ey1]; rfl) (by decide) rfl (fun ls hl => ?_)
    refine lv_goto (tgt := 10) hx hb dX5_markListed_69 rfl ?_
    exact hC10 v0 v1 v2 y1 S ls _ _ (lv_sub hl [1, 2, 3, 0] rfl) hG hS h
  have k_10 : ∀  (n : Nat), ∀ (v0 : Nat) (v1 : Nat) (v2 : Nat) (v3 : Int32) (S : Hp) (ls : Array Slot) (H : Heap) (locs : List Loc), lv_has ls 5 [(0, .ref v0), (1, .ref v1), (2, .ref v2), (3, .int v3)] → GG D κ A S H → va_S A s.heap H locs → it (L_X5_markListed_10  Q) n (v0, v1, v2, v3, S) → W p l e ({ frames := 3, cells := 0, slots := 0, locals := 144 } : Room) s m ([.ref a0, .ref a1, .ref a2] : List Value).toArray below meth c H locs 0 0 (MQ below (va_Qv Q (BG D κ A) A) ([.ref a0, .ref a1, .ref a2] : List Value).toArray s 0 0 A) (F0 m 10 ls []) := by
    intro  n
    induction n with
    | zero => intro v0 v1 v2 v3 S ls H locs hl hG hS h; exact False.elim h
    | succ n hC10 =>
      intro v0 v1 v2 v3 S ls H locs hl hG hS h
      replace h : L_X5_markListed_10  Q (it (L_X5_markListed_10  Q) n) (v0, v1, v2, v3, S) := h
      simp only [L_X5_markListed_10] at h
      refine lv_iload_n hx hb dX5_markListed_10 rfl (lv_at hl 3 rfl) ?_
      refine lv_aload_n hx hb dX5_markListed_11 rfl (lv_at hl 0 rfl) ?_
      have hk := h.1
      replace h := h.2
      obtain ⟨r1, hr1, h⟩ := h
      refine gg_get (v := .ref r1) (ci := 5) (C := RX5) (T := TX5) (N := 13) hx hb hts (fun _ h => List.mem_cons_of_mem _ (List.mem_append_left _ (List.mem_append_left _ (List.mem_append_left _ (List.mem_append_right _ (h)))))) hown hK hG (kc_6 hk) rfl 1 (by decide) (hts (.fieldLink RX5 19 "FourStones" "lyings" "LFourStones$Lyings;") (List.mem_of_getElem? (i := 2) rfl)) (fun _ h9 => h9) (congrArg (fun z => some (va_rf z)) hr1) dX5_markListed_12 ?_
      have hk := h.1
      replace h := h.2
      refine gg_get (ci := 0) (C := RX0) (T := TX0) (N := 5) hx hb hts (fun _ h => List.mem_cons_of_mem _ (List.mem_append_left _ (List.mem_append_left _ (List.mem_append_right _ (h))))) hown hK hG (kc_1 hk) rfl 4 (by decide) (hts (.fieldLink RX5 129 "FourStones$Lyings" "count" "I") (List.mem_of_getElem? (i := 3) rfl)) (fun _ h9 => h9) rfl dX5_markListed_15 ?_
      refine lv_icmp_ge (tgt := 72) hx hb dX5_markListed_18 rfl (fun hc => ?_) (fun hc => ?_)
      · replace h := h.1 hc
        exact W.vret hx hb hr (gr_v h hG hK hX hS) hS.2.2 dX5_markListed_72
      · replace h := h.2 hc
        refine lv_aload_n hx hb dX5_markListed_21 rfl (lv_at hl 1 rfl) ?_
        refine lv_aload_n hx hb dX5_markListed_22 rfl (lv_at hl 0 rfl) ?_
        have hk := h.1
        replace h := h.2
        obtain ⟨r2, hr2, h⟩ := h
        refine gg_get (v := .ref r2) (ci := 5) (C := RX5) (T := TX5) (N := 13) hx hb hts (fun _ h => List.mem_cons_of_mem _ (List.mem_append_left _ (List.mem_append_left _ (List.mem_append_left _ (List.mem_append_right _ (h)))))) hown hK hG (kc_6 hk) rfl 1 (by decide) (hts (.fieldLink RX5 19 "FourStones" "lyings" "LFourStones$Lyings;") (List.mem_of_getElem? (i := 2) rfl)) (fun _ h9 => h9) (congrArg (fun z => some (va_rf z)) hr2) dX5_markListed_23 ?_
        refine lv_iload_n hx hb dX5_markListed_26 rfl (lv_at hl 3 rfl) ?_
        have hk := h.1
        replace h := h.2
        refine gc_i (va_runV (As := [.ref r2, .int v3]) (rest := []) ⟨hx, hb, hml, hown, hts⟩ (c_X2_allows l D κ A S v1 r2 v3 _ h) (cwV 2 hts gX5_markListed_X2_allows rfl rfl rfl (by decide +kernel) ⟨Nat.le_of_ble_eq_true rfl, Nat.le_of_ble_eq_true rfl⟩) (pg_V (q := (RX2, TX2, 2)) hK hX hG (pg_A hA hS) (kc_3 hk) rfl) rfl rfl hl.1 rfl (lv_room (Nat.le_of_ble_eq_true rfl)) dX5_markListed_27 ⟨Nat.le_of_ble_eq_true rfl, Nat.le_of_ble_eq_true rfl⟩) hS (fun z5 S4 H locs3 h hG hS => ?_)
        refine lv_if_eq (tgt := 66) hx hb dX5_markListed_30 rfl (fun hc => ?_) (fun hc => ?_)
        · replace h := h.1 hc
          exact j_66 _ hC10 v0 v1 v2 v3 S4 ls _ _ (lv_sub hl [0, 1, 2, 3] rfl) hG hS h
        · replace h := h.2 hc
          refine lv_aload_n hx hb dX5_markListed_33 rfl (lv_at hl 2 rfl) ?_
          refine lv_aload_n hx hb dX5_markListed_34 rfl (lv_at hl 1 rfl) ?_
          refine lv_aload_n hx hb dX5_markListed_35 rfl (lv_at hl 0 rfl) ?_
          have hk := h.1
          replace h := h.2
          obtain ⟨r6, hr6, h⟩ := h
          refine gg_get (v := .ref r6) (ci := 5) (C := RX5) (T := TX5) (N := 13) hx hb hts (fun _ h => List.mem_cons_of_mem _ (List.mem_append_left _ (List.mem_append_left _ (List.mem_append_left _ (List.mem_append_right _ (h)))))) hown hK hG (kc_6 hk) rfl 1 (by decide) (hts (.fieldLink RX5 19 "FourStones" "lyings" "LFourStones$Lyings;") (List.mem_of_getElem? (i := 2) rfl)) (fun _ h9 => h9) (congrArg (fun z => some (va_rf z)) hr6) dX5_markListed_36 ?_
          refine lv_iload_n hx hb dX5_markListed_39 rfl (lv_at hl 3 rfl) ?_
          have hk := h.1
          replace h := h.2
          refine gc_i (va_runV (As := [.ref r6, .int v3]) (rest := [.ref v2]) ⟨hx, hb, hml, hown, hts⟩ (c_X2_weightOf l D κ A S4 v1 r6 v3 _ h) (cwV 2 hts gX5_markListed_X2_weightOf rfl rfl rfl (by decide +kernel) ⟨Nat.le_of_ble_eq_true rfl, Nat.le_of_ble_eq_true rfl⟩) (pg_V (q := (RX2, TX2, 2)) hK hX hG (pg_A hA hS) (kc_3 hk) rfl) rfl rfl hl.1 rfl (lv_room (Nat.le_of_ble_eq_true rfl)) dX5_markListed_40 ⟨Nat.le_of_ble_eq_true rfl, Nat.le_of_ble_eq_true rfl⟩) hS (fun z9 S8 H locs7 h hG hS => ?_)
          have hk := h.1
          replace h := h.2
          refine gc_i (va_runV (As := [.int z9]) (rest := []) ⟨hx, hb, hml, hown, hts⟩ (c_X1_placesOf l D κ A S8 v2 z9 _ h) (cwV 1 hts gX5_markListed_X1_placesOf rfl rfl rfl (by decide +kernel) ⟨Nat.le_of_ble_eq_true rfl, Nat.le_of_ble_eq_true rfl⟩) (pg_V (q := (RX1, TX1, 2)) hK hX hG (pg_A hA hS) (kc_2 hk) rfl) rfl rfl hl.1 rfl (lv_room (Nat.le_of_ble_eq_true rfl)) dX5_markListed_43 ⟨Nat.le_of_ble_eq_true rfl, Nat.le_of_ble_eq_true rfl⟩) hS (fun z12 S11 H locs10 h hG hS => ?_)
          refine lv_istore (lv' := [(4, .int z12), (0, .ref v0), (1, .ref v1), (2, .ref v2), (3, .int v3)]) hx hb dX5_markListed_46 hl (by decide) rfl (fun ls hl => ?_)
          refine lv_aload_n hx hb dX5_markListed_48 rfl (lv_at hl 1 rfl) ?_
          have hk := h.1
          replace h := h.2
          obtain ⟨r13, hr13, h⟩ := h
          refine gg_get (v := .ref r13) (ci := 5) (C := RX5) (T := TX5) (N := 13) hx hb hts (fun _ h => List.mem_cons_of_mem _ (List.mem_append_left _ (List.mem_append_left _ (List.mem_append_left _ (List.mem_append_right _ (h)))))) hown hK hG (kc_6 hk) rfl 11 (by decide) (hts (.fieldLink RX5 62 "FourStones" "listedBy" "[I") (List.mem_of_getElem? (i := 1) rfl)) (fun _ h9 => h9) (congrArg (fun z => some (va_rf z)) hr13) dX5_markListed_49 ?_
          refine lv_aload_n hx hb dX5_markListed_52 rfl (lv_at hl 1 rfl) ?_
          have hk := h.1
          replace h := h.2
          obtain ⟨r14, hr14, h⟩ := h
          refine gg_get (v := .ref r14) (ci := 5) (C := RX5) (T := TX5) (N := 13) hx hb hts (fun _ h => List.mem_cons_of_mem _ (List.mem_append_left _ (List.mem_append_left _ (List.mem_append_left _ (List.mem_append_right _ (h)))))) hown hK hG (kc_6 hk) rfl 1 (by decide) (hts (.fieldLink RX5 19 "FourStones" "lyings" "LFourStones$Lyings;") (List.mem_of_getElem? (i := 2) rfl)) (fun _ h9 => h9) (congrArg (fun z => some (va_rf z)) hr14) dX5_markListed_53 ?_
          refine lv_iload_n hx hb dX5_markListed_56 rfl (lv_at hl 4 rfl) ?_
          have hk := h.1
          replace h := h.2
          refine gc_i (va_runV (As := [.int v3]) (rest := [.ref r13]) ⟨hx, hb, hml, hown, hts⟩ (c_X0_notOff l D κ A S11 r14 v3 _ h) (cwV 1 hts gX5_markListed_X0_notOff rfl rfl rfl (by decide +kernel) ⟨Nat.le_of_ble_eq_true rfl, Nat.le_of_ble_eq_true rfl⟩) (pg_V (q := (RX0, TX0, 5)) hK hX hG (pg_A hA hS) (kc_1 hk) rfl) rfl rfl hl.1 rfl (lv_room (Nat.le_of_ble_eq_true rfl)) dX5_markListed_57 ⟨Nat.le_of_ble_eq_true rfl, Nat.le_of_ble_eq_true rfl⟩) hS (fun z17 S16 H locs15 h hG hS => ?_)
          refine lv_dup2_11 hx hb dX5_markListed_60 rfl rfl ?_
          have hk := h.1
          replace h := h.2
          have hi := h.1
          replace h := h.2
          refine gg_iald hx hb hK hG hk hi dX5_markListed_61 ?_
          refine lv_iload hx hb dX5_markListed_62 (lv_at hl 0 rfl) ?_
          refine lv_ior hx hb dX5_markListed_64 ?_
          have hk := h.1
          replace h := h.2
          have hi := h.1
          replace h := h.2
          obtain ⟨S18, eS18⟩ : ∃ z, z = sA S16 r13 (z17).toNatClampNeg ((gA S16 r13 (z17).toNatClampNeg) ||| z12) := ⟨_, rfl⟩
          replace h := h S18 eS18
          refine gg_iast hx hb hK hG hS hk hi dX5_markListed_65 (fun H locs19 hG hS => ?_)
          rw [← eS18] at hG
          exact j_66 _ hC10 v0 v1 v2 v3 S18 ls _ _ (lv_sub hl [1, 2, 3, 4] rfl) hG hS h
  refine lv_aload_n hx hb dX5_markListed_0 rfl (lv_at hl 0 rfl) ?_
  have hk := h.1
  replace h := h.2
  obtain ⟨r1, hr1, h⟩ := h
  refine gg_get (v := .ref r1) (ci := 5) (C := RX5) (T := TX5) (N := 13) hx hb hts (fun _ h => List.mem_cons_of_mem _ (List.mem_append_left _ (List.mem_append_left _ (List.mem_append_left _ (List.mem_append_right _ (h)))))) hown hK hG (kc_6 hk) rfl 11 (by decide) (hts (.fieldLink RX5 62 "FourStones" "listedBy" "[I") (List.mem_of_getElem? (i := 1) rfl)) (fun _ h9 => h9) (congrArg (fun z => some (va_rf z)) hr1) dX5_markListed_1 ?_
  refine lv_iconst (v := (0 : Int32)) hx hb dX5_markListed_4 (by decide) ?_
  refine gc_v (va_runS (As := [.ref r1, .int (0 : Int32)]) (rest := []) ⟨hx, hb, hml, hown, hts⟩ (c_J7_fill_53178 l D κ A S r1 (0 : Int32) _ h) (va_cwS 2 hts gX5_markListed_J7_fill_53178 rfl rfl rfl (by decide +kernel) ⟨Nat.le_of_ble_eq_true rfl, Nat.le_of_ble_eq_true rfl⟩) (pg_S hK hX hG (pg_A hA hS)) rfl rfl hl.1 rfl (lv_room (Nat.le_of_ble_eq_true rfl)) dX5_markListed_5 ⟨Nat.le_of_ble_eq_true rfl, Nat.le_of_ble_eq_true rfl⟩) hS (fun S3 H locs2 h hG hS => ?_)
  refine lv_iconst (v := (0 : Int32)) hx hb dX5_markListed_8 (by decide) ?_
  refine lv_istore_n (lv' := [(3, .int (0 : Int32)), (0, .ref a0), (1, .ref a1), (2, .ref a2)]) hx hb dX5_markListed_9 rfl hl (by decide) rfl (fun ls hl => ?_)
  obtain ⟨nn, h⟩ := h
  exact k_10  nn a0 a1 a2 (0 : Int32) S3 ls _ _ (lv_sub hl [1, 2, 3, 0] rfl) hG hS h
set_option maxHeartbeats 4000000 in
set_option maxRecDepth 100000 in
theorem c_X5_listedWithin (l : Launch) (D : va_G) (κ : Nat → ClassId) (A : Nat → Prop) (S : Hp) (a0 : Nat) (x1 : Int32) (Q : Int32 → Hp → Prop) (h : wp_X5_listedWithin a0 x1 S Q) : Met l yX5_listedWithin wsX5_listedWithin ({ frames := 1, cells := 0, slots := 0, locals := 48 } : Room) (PG D κ A S [.ref a0, .int x1]) (va_Qi Q (BG D κ A) A) 0 0 A := by
  refine Met.ofW (cc := cX5_listedWithin) (maxL := 4) (ret := (some .int)) (by decide) rfl ?_
  intro p e s m args below meth c s₁ B hml hv
  obtain ⟨hargs, hA, hG, hK, hX⟩ := hv
  have hx := B.exec
  have hb := B.bytes
  have hr := B.returns
  have hts := atoms_spec (ws := wsX5_listedWithin) B.pre
  have hown : s.vm.findClass RX5 = some m.cls := findClass_of_methodNamed B.named
  have hlocks := B.notSynchronized
  subst hargs
  clear B
  have hS : va_S A s.heap s.heap [] := va_S.rf
  have hl := lv_entry ([.ref a0, .int x1]) (n := 4) (Nat.le_of_ble_eq_true rfl)
  rw [lg_entry_eq]
  generalize (lg_sl ([.ref a0, .int x1]) ++ List.replicate (4 - (lg_sl ([.ref a0, .int x1])).length) Slot.unset).toArray = ls at hl ⊢
  have hl : lv_has ls 4 [(0, .ref a0), (1, .int x1)] := hl
  have hG : GG D κ A S s.heap := hG
  have j_26 : ∀ (C4 : Nat × Int32 × Int32 × Int32 × Hp → Prop) (hC4 : ∀ (v0 : Nat) (v1 : Int32) (v2 : Int32) (v3 : Int32) (S : Hp) (ls : Array Slot) (H : Heap) (locs : List Loc), lv_has ls 4 [(0, .ref v0), (1, .int v1), (2, .int v2), (3, .int v3)] → GG D κ A S H → va_S A s.heap H locs → C4 (v0, v1, v2, v3, S) → W p l e ({ frames := 1, cells := 0, slots := 0, locals := 48 } : Room) s m ([.ref a0, .int x1] : List Value).toArray below meth c H locs 0 0 (MQ below (va_Qi Q (BG D κ A) A) ([.ref a0, .int x1] : List Value).toArray s 0 0 A) (F0 m 4 ls [])) (v0 : Nat) (v1 : Int32) (v2 : Int32) (v3 : Int32) (S : Hp) (ls : Array Slot) (H : Heap) (locs : List Loc), lv_has ls 4 [(0, .ref v0), (1, .int v1), (2, .int v2), (3, .int v3)] → GG D κ A S H → va_S A s.heap H locs → J_X5_listedWithin_26 C4 Q v0 v1 v2 v3 S → W p l e ({ frames := 1, cells := 0, slots := 0, locals := 48 } : Room) s m ([.ref a0, .int x1] : List Value).toArray below meth c H locs 0 0 (MQ below (va_Qi Q (BG D κ A) A) ([.ref a0, .int x1] : List Value).toArray s 0 0 A) (F0 m 26 ls []) := by
    intro C4 hC4 v0 v1 v2 v3 S ls H locs hl hG hS h
    unfold J_X5_listedWithin_26 at h
    obtain ⟨y1, ey1⟩ : ∃ z, z = v3 + (1 : Int32) := ⟨_, rfl⟩
    replace h := h y1 ey1
    refine lv_iinc (v := y1) (lv' := [(3, .int y1), (0, .ref v0), (1, .int v1), (2, .int v2)]) hx hb dX5_listedWithin_26 hl (k := 3) rfl (by rw [ey1]; rfl) (by decide) rfl (fun ls hl => ?_)
    refine lv_goto (tgt := 4) hx hb dX5_listedWithin_29 rfl ?_
    exact hC4 v0 v1 v2 y1 S ls _ _ (lv_sub hl [1, 2, 3, 0] rfl) hG hS h
  have k_4 : ∀  (n : Nat), ∀ (v0 : Nat) (v1 : Int32) (v2 : Int32) (v3 : Int32) (S : Hp) (ls : Array Slot) (H : Heap) (locs : List Loc), lv_has ls 4 [(0, .ref v0), (1, .int v1), (2, .int v2), (3, .int v3)] → GG D κ A S H → va_S A s.heap H locs → it (L_X5_listedWithin_4  Q) n (v0, v1, v2, v3, S) → W p l e ({ frames := 1, cells := 0, slots := 0, locals := 48 } : Room) s m ([.ref a0, .int x1] : List Value).toArray below meth c H locs 0 0 (MQ below (va_Qi Q (BG D κ A) A) ([.ref a0, .int x1] : List Value).toArray s 0 0 A) (F0 m 4 ls []) := by
    intro  n
    induction n with
    | zero => intro v0 v1 v2 v3 S ls H locs hl hG hS h; exact False.elim h
    | succ n hC4 =>
      intro v0 v1 v2 v3 S ls H locs hl hG hS h
      replace h : L_X5_listedWithin_4  Q (it (L_X5_listedWithin_4  Q) n) (v0, v1, v2, v3, S) := h
      simp only [L_X5_listedWithin_4] at h
      refine lv_iload_n hx hb dX5_listedWithin_4 rfl (lv_at hl 3 rfl) ?_
      refine lv_iload_n hx hb dX5_listedWithin_5 rfl (lv_at hl 1 rfl) ?_
      refine lv_icmp_gt (tgt := 32) hx hb dX5_listedWithin_6 rfl (fun hc => ?_) (fun hc => ?_)
      · replace h := h.1 hc
        refine lv_iload_n hx hb dX5_listedWithin_32 rfl (lv_at hl 2 rfl) ?_
        exact W.iret hx hb hr (gr_i h hG hK hX hS) hS.2.2 dX5_listedWithin_33
      · replace h := h.2 hc
        refine lv_iload_n hx hb dX5_listedWithin_9 rfl (lv_at hl 3 rfl) ?_
        refine lv_iload_n hx hb dX5_listedWithin_10 rfl (lv_at hl 1 rfl) ?_
        refine lv_iconst (v := (-1 : Int32)) hx hb dX5_listedWithin_11 (by decide) ?_
        refine lv_ixor hx hb dX5_listedWithin_12 ?_
        refine lv_iand hx hb dX5_listedWithin_13 ?_
        refine lv_if_ne (tgt := 26) hx hb dX5_listedWithin_14 rfl (fun hc => ?_) (fun hc => ?_)
        · replace h := h.1 hc
          exact j_26 _ hC4 v0 v1 v2 v3 S ls _ _ (lv_sub hl [0, 1, 2, 3] rfl) hG hS h
        · replace h := h.2 hc
          refine lv_iload_n hx hb dX5_listedWithin_17 rfl (lv_at hl 2 rfl) ?_
          refine lv_aload_n hx hb dX5_listedWithin_18 rfl (lv_at hl 0 rfl) ?_
          have hk := h.1
          replace h := h.2
          obtain ⟨r1, hr1, h⟩ := h
          refine gg_get (v := .ref r1) (ci := 5) (C := RX5) (T := TX5) (N := 13) hx hb hts (fun _ h => List.mem_cons_of_mem _ (List.mem_append_right _ (h))) hown hK hG (kc_6 hk) rfl 11 (by decide) (hts (.fieldLink RX5 62 "FourStones" "listedBy" "[I") (List.mem_of_getElem? (i := 1) rfl)) (fun _ h9 => h9) (congrArg (fun z => some (va_rf z)) hr1) dX5_listedWithin_19 ?_
          refine lv_iload_n hx hb dX5_listedWithin_22 rfl (lv_at hl 3 rfl) ?_
          have hk := h.1
          replace h := h.2
          have hi := h.1
          replace h := h.2
          refine gg_iald hx hb hK hG hk hi dX5_listedWithin_23 ?_
          refine lv_ior hx hb dX5_listedWithin_24 ?_
          refine lv_topi (fun y2 ey2 => ?_)
          replace h := h y2 ey2
          refine lv_istore_n (lv' := [(2, .int y2), (0, .ref v0), (1, .int v1), (3, .int v3)]) hx hb dX5_listedWithin_25 rfl hl (by decide) rfl (fun ls hl => ?_)
          exact j_26 _ hC4 v0 v1 y2 v3 S ls _ _ (lv_sub hl [1, 2, 0, 3] rfl) hG hS h
  refine lv_iconst (v := (0 : Int32)) hx hb dX5_listedWithin_0 (by decide) ?_
  refine lv_istore_n (lv' := [(2, .int (0 : Int32)), (0, .ref a0), (1, .int x1)]) hx hb dX5_listedWithin_1 rfl hl (by decide) rfl (fun ls hl => ?_)
  refine lv_iconst (v := (0 : Int32)) hx hb dX5_listedWithin_2 (by decide) ?_
  refine lv_istore_n (lv' := [(3, .int (0 : Int32)), (2, .int (0 : Int32)), (0, .ref a0), (1, .int x1)]) hx hb dX5_listedWithin_3 rfl hl (by decide) rfl (fun ls hl => ?_)
  obtain ⟨nn, h⟩ := h
  exact k_4  nn a0 x1 (0 : Int32) (0 : Int32) S ls _ _ (lv_sub hl [2, 3, 1, 0] rfl) hG hS h
set_option maxHeartbeats 4000000 in
set_option maxRecDepth 100000 in
theorem c_X5_rankOf (l : Launch) (D : va_G) (κ : Nat → ClassId) (A : Nat → Prop) (S : Hp) (a0 : Nat) (x1 : Int32) (x2 : Int32) (x3 : Int32) (Q : Int32 → Hp → Prop) (h : wp_X5_rankOf a0 x1 x2 x3 S Q) : Met l yX5_rankOf wsX5_rankOf ({ frames := 3, cells := 0, slots := 0, locals := 144 } : Room) (PG D κ A S [.ref a0, .int x1, .int x2, .int x3]) (va_Qi Q (BG D κ A) A) 0 0 A := by
  refine Met.ofW (cc := cX5_rankOf) (maxL := 6) (ret := (some .int)) (by decide) rfl ?_
  intro p e s m args below meth c s₁ B hml hv
  obtain ⟨hargs, hA, hG, hK, hX⟩ := hv
  have hx := B.exec
  have hb := B.bytes
  have hr := B.returns
  have hts := atoms_spec (ws := wsX5_rankOf) B.pre
  have hown : s.vm.findClass RX5 = some m.cls := findClass_of_methodNamed B.named
  have hlocks := B.notSynchronized
  subst hargs
  clear B
  have hS : va_S A s.heap s.heap [] := va_S.rf
  have hl := lv_entry ([.ref a0, .int x1, .int x2, .int x3]) (n := 6) (Nat.le_of_ble_eq_true rfl)
  rw [lg_entry_eq]
  generalize (lg_sl ([.ref a0, .int x1, .int x2, .int x3]) ++ List.replicate (6 - (lg_sl ([.ref a0, .int x1, .int x2, .int x3])).length) Slot.unset).toArray = ls at hl ⊢
  have hl : lv_has ls 6 [(0, .ref a0), (1, .int x1), (2, .int x2), (3, .int x3)] := hl
  have hG : GG D κ A S s.heap := hG
  refine lv_iload_n hx hb dX5_rankOf_0 rfl (lv_at hl 1 rfl) ?_
  refine gc_i (va_runS (As := [.int x1]) (rest := []) ⟨hx, hb, hml, hown, hts⟩ (c_J6_bitCount_0f7a4 l D κ A S x1 _ h) (va_cwS 1 hts gX5_rankOf_J6_bitCount_0f7a4 rfl rfl rfl (by decide +kernel) ⟨Nat.le_of_ble_eq_true rfl, Nat.le_of_ble_eq_true rfl⟩) (pg_S hK hX hG (pg_A hA hS)) rfl rfl hl.1 rfl (lv_room (Nat.le_of_ble_eq_true rfl)) dX5_rankOf_1 ⟨Nat.le_of_ble_eq_true rfl, Nat.le_of_ble_eq_true rfl⟩) hS (fun z3 S2 H locs1 h hG hS => ?_)
  refine lv_istore (lv' := [(4, .int z3), (0, .ref a0), (1, .int x1), (2, .int x2), (3, .int x3)]) hx hb dX5_rankOf_4 hl (by decide) rfl (fun ls hl => ?_)
  refine lv_aload_n hx hb dX5_rankOf_6 rfl (lv_at hl 1 rfl) ?_
  have hk := h.1
  replace h := h.2
  obtain ⟨r4, hr4, h⟩ := h
  refine gg_get (v := .ref r4) (ci := 5) (C := RX5) (T := TX5) (N := 13) hx hb hts (fun _ h => List.mem_cons_of_mem _ (List.mem_append_left _ (List.mem_append_right _ (h)))) hown hK hG (kc_6 hk) rfl 0 (by decide) (hts (.fieldLink RX5 10 "FourStones" "stones" "LFourStones$Stones;") (List.mem_of_getElem? (i := 1) rfl)) (fun _ h9 => h9) (congrArg (fun z => some (va_rf z)) hr4) dX5_rankOf_7 ?_
  refine lv_iload_n hx hb dX5_rankOf_10 rfl (lv_at hl 2 rfl) ?_
  refine lv_iload_n hx hb dX5_rankOf_11 rfl (lv_at hl 3 rfl) ?_
  refine lv_iconst (v := (-1 : Int32)) hx hb dX5_rankOf_12 (by decide) ?_
  refine lv_ixor hx hb dX5_rankOf_13 ?_
  refine lv_iand hx hb dX5_rankOf_14 ?_
  have hk := h.1
  replace h := h.2
  refine gc_i (va_runV (As := [.int (x1 &&& (x2 ^^^ (-1 : Int32)))]) (rest := []) ⟨hx, hb, hml, hown, hts⟩ (c_X4_pricesOf l D κ A S2 r4 (x1 &&& (x2 ^^^ (-1 : Int32))) _ h) (cwV 1 hts gX5_rankOf_X4_pricesOf rfl rfl rfl (by decide +kernel) ⟨Nat.le_of_ble_eq_true rfl, Nat.le_of_ble_eq_true rfl⟩) (pg_V (q := (RX4, TX4, 3)) hK hX hG (pg_A hA hS) (kc_5 hk) rfl) rfl rfl hl.1 rfl (lv_room (Nat.le_of_ble_eq_true rfl)) dX5_rankOf_15 ⟨Nat.le_of_ble_eq_true rfl, Nat.le_of_ble_eq_true rfl⟩) hS (fun z7 S6 H locs5 h hG hS => ?_)
  refine lv_istore (lv' := [(5, .int z7), (4, .int z3), (0, .ref a0), (1, .int x1), (2, .int x2), (3, .int x3)]) hx hb dX5_rankOf_18 hl (by decide) rfl (fun ls hl => ?_)
  refine lv_iload_n hx hb dX5_rankOf_20 rfl (lv_at hl 5 rfl) ?_
  refine lv_if_eq (tgt := 36) hx hb dX5_rankOf_21 rfl (fun hc => ?_) (fun hc => ?_)
  · replace h := h.1 hc
    refine lv_iload hx hb dX5_rankOf_36 (lv_at hl 0 rfl) ?_
    refine lv_sipush (v := (1000 : Int32)) hx hb dX5_rankOf_38 (by decide) ?_
    refine lv_imul hx hb dX5_rankOf_41 ?_
    refine lv_iload hx hb dX5_rankOf_42 (lv_at hl 1 rfl) ?_
    refine lv_iadd hx hb dX5_rankOf_44 ?_
    exact W.iret hx hb hr (gr_i h hG hK hX hS) hS.2.2 dX5_rankOf_45
  · replace h := h.2 hc
    refine lv_iload hx hb dX5_rankOf_24 (lv_at hl 1 rfl) ?_
    refine lv_sipush (v := (1000 : Int32)) hx hb dX5_rankOf_26 (by decide) ?_
    refine lv_imul hx hb dX5_rankOf_29 ?_
    refine lv_iload hx hb dX5_rankOf_30 (lv_at hl 0 rfl) ?_
    refine lv_iadd hx hb dX5_rankOf_32 ?_
    refine lv_goto (tgt := 45) hx hb dX5_rankOf_33 rfl ?_
    exact W.iret hx hb hr (gr_i h hG hK hX hS) hS.2.2 dX5_rankOf_45
set_option maxHeartbeats 4000000 in
set_option maxRecDepth 100000 in
theorem c_X5_bestSet (l : Launch) (D : va_G) (κ : Nat → ClassId) (A : Nat → Prop) (S : Hp) (a0 : Nat) (x1 : Int32) (x2 : Int32) (x3 : Int32) (x4 : Int32) (Q : Int32 → Hp → Prop) (h : wp_X5_bestSet a0 x1 x2 x3 x4 S Q) : Met l yX5_bestSet wsX5_bestSet ({ frames := 4, cells := 0, slots := 0, locals := 192 } : Room) (PG D κ A S [.ref a0, .int x1, .int x2, .int x3, .int x4]) (va_Qi Q (BG D κ A) A) 0 0 A := by
  refine Met.ofW (cc := cX5_bestSet) (maxL := 12) (ret := (some .int)) (by decide) rfl ?_
  intro p e s m args below meth c s₁ B hml hv
  obtain ⟨hargs, hA, hG, hK, hX⟩ := hv
  have hx := B.exec
  have hb := B.bytes
  have hr := B.returns
  have hts := atoms_spec (ws := wsX5_bestSet) B.pre
  have hown : s.vm.findClass RX5 = some m.cls := findClass_of_methodNamed B.named
  have hlocks := B.notSynchronized
  subst hargs
  clear B
  have hS : va_S A s.heap s.heap [] := va_S.rf
  have hl := lv_entry ([.ref a0, .int x1, .int x2, .int x3, .int x4]) (n := 12) (Nat.le_of_ble_eq_true rfl)
  rw [lg_entry_eq]
  generalize (lg_sl ([.ref a0, .int x1, .int x2, .int x3, .int x4]) ++ List.replicate (12 - (lg_sl ([.ref a0, .int x1, .int x2, .int x3, .int x4])).length) Slot.unset).toArray = ls at hl ⊢
  have hl : lv_has ls 12 [(0, .ref a0), (1, .int x1), (2, .int x2), (3, .int x3), (4, .int x4)] := hl
  have hG : GG D κ A S s.heap := hG
  have j_141 : ∀ (C79 : Nat × Int32 × Int32 × Int32 × Int32 × Int32 × Int32 × Hp → Prop) (hC79 : ∀ (v0 : Nat) (v3 : Int32) (v4 : Int32) (v7 : Int32) (v8 : Int32) (v9 : Int32) (v10 : Int32) (S : Hp) (ls : Array Slot) (H : Heap) (locs : List Loc), lv_has ls 12 [(0, .ref v0), (3, .int v3), (4, .int v4), (7, .int v7), (8, .int v8), (9, .int v9), (10, .int v10)] → GG D κ A S H → va_S A s.heap H locs → C79 (v0, v3, v4, v7, v8, v9, v10, S) → W p l e ({ frames := 4, cells := 0, slots := 0, locals := 192 } : Room) s m ([.ref a0, .int x1, .int x2, .int x3, .int x4] : List Value).toArray below meth c H locs 0 0 (MQ below (va_Qi Q (BG D κ A) A) ([.ref a0, .int x1, .int x2, .int x3, .int x4] : List Value).toArray s 0 0 A) (F0 m 79 ls [])) (v0 : Nat) (v3 : Int32) (v4 : Int32) (v7 : Int32) (v8 : Int32) (v9 : Int32) (v10 : Int32) (S : Hp) (ls : Array Slot) (H : Heap) (locs : List Loc), lv_has ls 12 [(0, .ref v0), (3, .int v3), (4, .int v4), (7, .int v7), (8, .int v8), (9, .int v9), (10, .int v10)] → GG D κ A S H → va_S A s.heap H locs → J_X5_bestSet_141 C79 Q v0 v3 v4 v7 v8 v9 v10 S → W p l e ({ frames := 4, cells := 0, slots := 0, locals := 192 } : Room) s m ([.ref a0, .int x1, .int x2, .int x3, .int x4] : List Value).toArray below meth c H locs 0 0 (MQ below (va_Qi Q (BG D κ A) A) ([.ref a0, .int x1, .int x2, .int x3, .int x4] : List Value).toArray s 0 0 A) (F0 m 141 ls []) := by
    intro C79 hC79 v0 v3 v4 v7 v8 v9 v10 S ls H locs hl hG hS h
    unfold J_X5_bestSet_141 at h
    obtain ⟨y1, ey1⟩ : ∃ z, z = v10 + (1 : Int32) := ⟨_, rfl⟩
    replace h := h y1 ey1
    refine lv_iinc (v := y1) (lv' := [(10, .int y1), (0, .ref v0), (3, .int v3), (4, .int v4), (7, .int v7), (8, .int v8), (9, .int v9)]) hx hb dX5_bestSet_141 hl (k := 6) rfl (by rw [ey1]; rfl) (by decide) rfl (fun ls hl => ?_)
    refine lv_goto (tgt := 79) hx hb dX5_bestSet_144 rfl ?_
    exact hC79 v0 v3 v4 v7 v8 v9 y1 S ls _ _ (lv_sub hl [1, 2, 3, 4, 5, 6, 0] rfl) hG hS h
  have j_133 : ∀ (C79 : Nat × Int32 × Int32 × Int32 × Int32 × Int32 × Int32 × Hp → Prop) (hC79 : ∀ (v0 : Nat) (v3 : Int32) (v4 : Int32) (v7 : Int32) (v8 : Int32) (v9 : Int32) (v10 : Int32) (S : Hp) (ls : Array Slot) (H : Heap) (locs : List Loc), lv_has ls 12 [(0, .ref v0), (3, .int v3), (4, .int v4), (7, .int v7), (8, .int v8), (9, .int v9), (10, .int v10)] → GG D κ A S H → va_S A s.heap H locs → C79 (v0, v3, v4, v7, v8, v9, v10, S) → W p l e ({ frames := 4, cells := 0, slots := 0, locals := 192 } : Room) s m ([.ref a0, .int x1, .int x2, .int x3, .int x4] : List Value).toArray below meth c H locs 0 0 (MQ below (va_Qi Q (BG D κ A) A) ([.ref a0, .int x1, .int x2, .int x3, .int x4] : List Value).toArray s 0 0 A) (F0 m 79 ls [])) (v0 : Nat) (v3 : Int32) (v4 : Int32) (v7 : Int32) (v10 : Int32) (v11 : Int32) (S : Hp) (ls : Array Slot) (H : Heap) (locs : List Loc), lv_has ls 12 [(0, .ref v0), (3, .int v3), (4, .int v4), (7, .int v7), (10, .int v10), (11, .int v11)] → GG D κ A S H → va_S A s.heap H locs → J_X5_bestSet_133 C79 Q v0 v3 v4 v7 v10 v11 S → W p l e ({ frames := 4, cells := 0, slots := 0, locals := 192 } : Room) s m ([.ref a0, .int x1, .int x2, .int x3, .int x4] : List Value).toArray below meth c H locs 0 0 (MQ below (va_Qi Q (BG D κ A) A) ([.ref a0, .int x1, .int x2, .int x3, .int x4] : List Value).toArray s 0 0 A) (F0 m 133 ls []) := by
    intro C79 hC79 v0 v3 v4 v7 v10 v11 S ls H locs hl hG hS h
    unfold J_X5_bestSet_133 at h
    refine lv_iload hx hb dX5_bestSet_133 (lv_at hl 4 rfl) ?_
    refine lv_istore (lv' := [(8, .int v10), (0, .ref v0), (3, .int v3), (4, .int v4), (7, .int v7), (10, .int v10), (11, .int v11)]) hx hb dX5_bestSet_135 hl (by decide) rfl (fun ls hl => ?_)
    refine lv_iload hx hb dX5_bestSet_137 (lv_at hl 6 rfl) ?_
    refine lv_istore (lv' := [(9, .int v11), (8, .int v10), (0, .ref v0), (3, .int v3), (4, .int v4), (7, .int v7), (10, .int v10), (11, .int v11)]) hx hb dX5_bestSet_139 hl (by decide) rfl (fun ls hl => ?_)
    exact j_141 _ hC79 v0 v3 v4 v7 v10 v11 v10 S ls _ _ (lv_sub hl [2, 3, 4, 5, 1, 0, 6] rfl) hG hS h
  have k_79 : ∀  (n : Nat), ∀ (v0 : Nat) (v3 : Int32) (v4 : Int32) (v7 : Int32) (v8 : Int32) (v9 : Int32) (v10 : Int32) (S : Hp) (ls : Array Slot) (H : Heap) (locs : List Loc), lv_has ls 12 [(0, .ref v0), (3, .int v3), (4, .int v4), (7, .int v7), (8, .int v8), (9, .int v9), (10, .int v10)] → GG D κ A S H → va_S A s.heap H locs → it (L_X5_bestSet_79  Q) n (v0, v3, v4, v7, v8, v9, v10, S) → W p l e ({ frames := 4, cells := 0, slots := 0, locals := 192 } : Room) s m ([.ref a0, .int x1, .int x2, .int x3, .int x4] : List Value).toArray below meth c H locs 0 0 (MQ below (va_Qi Q (BG D κ A) A) ([.ref a0, .int x1, .int x2, .int x3, .int x4] : List Value).toArray s 0 0 A) (F0 m 79 ls []) := by
    intro  n
    induction n with
    | zero => intro v0 v3 v4 v7 v8 v9 v10 S ls H locs hl hG hS h; exact False.elim h
    | succ n hC79 =>
      intro v0 v3 v4 v7 v8 v9 v10 S ls H locs hl hG hS h
      replace h : L_X5_bestSet_79  Q (it (L_X5_bestSet_79  Q) n) (v0, v3, v4, v7, v8, v9, v10, S) := h
      simp only [L_X5_bestSet_79] at h
      refine lv_iload hx hb dX5_bestSet_79 (lv_at hl 6 rfl) ?_
      refine lv_aload_n hx hb dX5_bestSet_81 rfl (lv_at hl 0 rfl) ?_
      have hk := h.1
      replace h := h.2
      obtain ⟨r1, hr1, h⟩ := h
      refine gg_get (v := .ref r1) (ci := 5) (C := RX5) (T := TX5) (N := 13) hx hb hts (fun _ h => List.mem_cons_of_mem _ (List.mem_append_left _ (List.mem_append_left _ (List.mem_append_left _ (List.mem_append_left _ (List.mem_append_right _ (h))))))) hown hK hG (kc_6 hk) rfl 0 (by decide) (hts (.fieldLink RX5 10 "FourStones" "stones" "LFourStones$Stones;") (List.mem_of_getElem? (i := 3) rfl)) (fun _ h9 => h9) (congrArg (fun z => some (va_rf z)) hr1) dX5_bestSet_82 ?_
      have hk := h.1
      replace h := h.2
      refine gc_i (va_runV (As := []) (rest := [.int v10]) ⟨hx, hb, hml, hown, hts⟩ (c_X4_all l D κ A S r1 _ h) (cwV 0 hts gX5_bestSet_X4_all rfl rfl rfl (by decide +kernel) ⟨Nat.le_of_ble_eq_true rfl, Nat.le_of_ble_eq_true rfl⟩) (pg_V (q := (RX4, TX4, 3)) hK hX hG (pg_A hA hS) (kc_5 hk) rfl) rfl rfl hl.1 rfl (lv_room (Nat.le_of_ble_eq_true rfl)) dX5_bestSet_85 ⟨Nat.le_of_ble_eq_true rfl, Nat.le_of_ble_eq_true rfl⟩) hS (fun z4 S3 H locs2 h hG hS => ?_)
      refine lv_icmp_gt (tgt := 147) hx hb dX5_bestSet_88 rfl (fun hc => ?_) (fun hc => ?_)
      · replace h := h.1 hc
        refine lv_iload hx hb dX5_bestSet_147 (lv_at hl 4 rfl) ?_
        exact W.iret hx hb hr (gr_i h hG hK hX hS) hS.2.2 dX5_bestSet_149
      · replace h := h.2 hc
        refine lv_iload hx hb dX5_bestSet_91 (lv_at hl 6 rfl) ?_
        refine lv_iload_n hx hb dX5_bestSet_93 rfl (lv_at hl 1 rfl) ?_
        refine lv_iand hx hb dX5_bestSet_94 ?_
        refine lv_iload_n hx hb dX5_bestSet_95 rfl (lv_at hl 1 rfl) ?_
        refine lv_icmp_ne (tgt := 141) hx hb dX5_bestSet_96 rfl (fun hc => ?_) (fun hc => ?_)
        · replace h := h.1 hc
          exact j_141 _ hC79 v0 v3 v4 v7 v8 v9 v10 S3 ls _ _ (lv_sub hl [0, 1, 2, 3, 4, 5, 6] rfl) hG hS h
        · replace h := h.2 hc
          refine lv_aload_n hx hb dX5_bestSet_99 rfl (lv_at hl 0 rfl) ?_
          refine lv_iload hx hb dX5_bestSet_100 (lv_at hl 6 rfl) ?_
          have hk := h.1
          replace h := h.2
          refine gc_i (va_runV (As := [.int v10]) (rest := []) ⟨hx, hb, hml, hown, hts⟩ (c_X5_listedWithin l D κ A S3 v0 v10 _ h) (cwV 1 hts gX5_bestSet_X5_listedWithin rfl rfl rfl (by decide +kernel) ⟨Nat.le_of_ble_eq_true rfl, Nat.le_of_ble_eq_true rfl⟩) (pg_V (q := (RX5, TX5, 13)) hK hX hG (pg_A hA hS) (kc_6 hk) rfl) rfl rfl hl.1 rfl (lv_room (Nat.le_of_ble_eq_true rfl)) dX5_bestSet_102 ⟨Nat.le_of_ble_eq_true rfl, Nat.le_of_ble_eq_true rfl⟩) hS (fun z7 S6 H locs5 h hG hS => ?_)
          refine lv_iload hx hb dX5_bestSet_105 (lv_at hl 3 rfl) ?_
          refine lv_icmp_ne (tgt := 141) hx hb dX5_bestSet_107 rfl (fun hc => ?_) (fun hc => ?_)
          · replace h := h.1 hc
            exact j_141 _ hC79 v0 v3 v4 v7 v8 v9 v10 S6 ls _ _ (lv_sub hl [0, 1, 2, 3, 4, 5, 6] rfl) hG hS h
          · replace h := h.2 hc
            refine lv_aload_n hx hb dX5_bestSet_110 rfl (lv_at hl 0 rfl) ?_
            refine lv_iload hx hb dX5_bestSet_111 (lv_at hl 6 rfl) ?_
            refine lv_iload_n hx hb dX5_bestSet_113 rfl (lv_at hl 1 rfl) ?_
            refine lv_iload hx hb dX5_bestSet_114 (lv_at hl 2 rfl) ?_
            have hk := h.1
            replace h := h.2
            refine gc_i (va_runV (As := [.int v10, .int v3, .int v4]) (rest := []) ⟨hx, hb, hml, hown, hts⟩ (c_X5_rankOf l D κ A S6 v0 v10 v3 v4 _ h) (cwV 3 hts gX5_bestSet_X5_rankOf rfl rfl rfl (by decide +kernel) ⟨Nat.le_of_ble_eq_true rfl, Nat.le_of_ble_eq_true rfl⟩) (pg_V (q := (RX5, TX5, 13)) hK hX hG (pg_A hA hS) (kc_6 hk) rfl) rfl rfl hl.1 rfl (lv_room (Nat.le_of_ble_eq_true rfl)) dX5_bestSet_116 ⟨Nat.le_of_ble_eq_true rfl, Nat.le_of_ble_eq_true rfl⟩) hS (fun z10 S9 H locs8 h hG hS => ?_)
            refine lv_istore (lv' := [(11, .int z10), (0, .ref v0), (3, .int v3), (4, .int v4), (7, .int v7), (8, .int v8), (9, .int v9), (10, .int v10)]) hx hb dX5_bestSet_119 hl (by decide) rfl (fun ls hl => ?_)
            refine lv_iload hx hb dX5_bestSet_121 (lv_at hl 5 rfl) ?_
            refine lv_if_lt (tgt := 133) hx hb dX5_bestSet_123 rfl (fun hc => ?_) (fun hc => ?_)
            · replace h := h.1 hc
              exact j_133 _ hC79 v0 v3 v4 v7 v10 z10 S9 ls _ _ (lv_sub hl [1, 2, 3, 4, 7, 0] rfl) hG hS h
            · replace h := h.2 hc
              refine lv_iload hx hb dX5_bestSet_126 (lv_at hl 0 rfl) ?_
              refine lv_iload hx hb dX5_bestSet_128 (lv_at hl 6 rfl) ?_
              refine lv_icmp_ge (tgt := 141) hx hb dX5_bestSet_130 rfl (fun hc => ?_) (fun hc => ?_)
              · replace h := h.1 hc
                exact j_141 _ hC79 v0 v3 v4 v7 v8 v9 v10 S9 ls _ _ (lv_sub hl [1, 2, 3, 4, 5, 6, 7] rfl) hG hS h
              · replace h := h.2 hc
                exact j_133 _ hC79 v0 v3 v4 v7 v10 z10 S9 ls _ _ (lv_sub hl [1, 2, 3, 4, 7, 0] rfl) hG hS h
  refine lv_aload_n hx hb dX5_bestSet_0 rfl (lv_at hl 0 rfl) ?_
  have hk := h.1
  replace h := h.2
  obtain ⟨r1, hr1, h⟩ := h
  refine gg_get (v := .ref r1) (ci := 5) (C := RX5) (T := TX5) (N := 13) hx hb hts (fun _ h => List.mem_cons_of_mem _ (List.mem_append_left _ (List.mem_append_left _ (List.mem_append_left _ (List.mem_append_left _ (List.mem_append_right _ (h))))))) hown hK hG (kc_6 hk) rfl 6 (by decide) (hts (.fieldLink RX5 34 "FourStones" "scales" "[LFourStones$Scale;") (List.mem_of_getElem? (i := 1) rfl)) (fun _ h9 => h9) (congrArg (fun z => some (va_rf z)) hr1) dX5_bestSet_1 ?_
  refine lv_iload_n hx hb dX5_bestSet_4 rfl (lv_at hl 1 rfl) ?_
  have hk := h.1
  replace h := h.2
  have hi := h.1
  replace h := h.2
  refine gg_aldq hx hb hK hG hk hi dX5_bestSet_5 (fun hc => ?_) (fun r2 hc => ?_)
  · replace h := h.1 hc
    refine lv_astoreN (lv' := [(5, .null), (0, .ref a0), (1, .int x1), (2, .int x2), (3, .int x3), (4, .int x4)]) hx hb dX5_bestSet_6 hl (by decide) rfl (fun ls hl => ?_)
    refine lv_aloadN hx hb dX5_bestSet_8 (lv_at hl 0 rfl) ?_
    refine lv_ifnonnullN hx hb dX5_bestSet_10 ?_
    refine lv_aload_n hx hb dX5_bestSet_13 rfl (lv_at hl 1 rfl) ?_
    refine lv_iload_n hx hb dX5_bestSet_14 rfl (lv_at hl 2 rfl) ?_
    have hk := h.1
    replace h := h.2
    refine gc_i (va_runV (As := [.int x1]) (rest := []) ⟨hx, hb, hml, hown, hts⟩ (c_X5_notHeld l D κ A S a0 x1 _ h) (cwV 1 hts gX5_bestSet_X5_notHeld rfl rfl rfl (by decide +kernel) ⟨Nat.le_of_ble_eq_true rfl, Nat.le_of_ble_eq_true rfl⟩) (pg_V (q := (RX5, TX5, 13)) hK hX hG (pg_A hA hS) (kc_6 hk) rfl) rfl rfl hl.1 rfl (lv_room (Nat.le_of_ble_eq_true rfl)) dX5_bestSet_15 ⟨Nat.le_of_ble_eq_true rfl, Nat.le_of_ble_eq_true rfl⟩) hS (fun z5 S4 H locs3 h hG hS => ?_)
    exact W.iret hx hb hr (gr_i h hG hK hX hS) hS.2.2 dX5_bestSet_18
  · replace h := h.2 r2 hc
    refine lv_astore (lv' := [(5, .ref r2), (0, .ref a0), (1, .int x1), (2, .int x2), (3, .int x3), (4, .int x4)]) hx hb dX5_bestSet_6 hl (by decide) rfl (fun ls hl => ?_)
    refine lv_aload hx hb dX5_bestSet_8 (lv_at hl 0 rfl) ?_
    refine lv_ifnonnull (tgt := 19) hx hb dX5_bestSet_10 rfl ?_
    refine lv_aload_n hx hb dX5_bestSet_19 rfl (lv_at hl 1 rfl) ?_
    refine lv_iload_n hx hb dX5_bestSet_20 rfl (lv_at hl 3 rfl) ?_
    refine lv_iconst (v := (1 : Int32)) hx hb dX5_bestSet_21 (by decide) ?_
    have hk := h.1
    replace h := h.2
    refine gc_q (va_runV (As := [.int x2, .int (1 : Int32)]) (rest := []) ⟨hx, hb, hml, hown, hts⟩ (c_X5_rowOfSort l D κ A S a0 x2 (1 : Int32) _ h) (cwV 2 hts gX5_bestSet_X5_rowOfSort rfl rfl rfl (by decide +kernel) ⟨Nat.le_of_ble_eq_true rfl, Nat.le_of_ble_eq_true rfl⟩) (pg_V (q := (RX5, TX5, 13)) hK hX hG (pg_A hA hS) (kc_6 hk) rfl) rfl rfl hl.1 rfl (lv_room (Nat.le_of_ble_eq_true rfl)) dX5_bestSet_22 ⟨Nat.le_of_ble_eq_true rfl, Nat.le_of_ble_eq_true rfl⟩) hS (fun z8 S7 H locs6 h hG hS hc => ?_) (fun z8 S7 H locs6 h hG hS r9 hc => ?_)
    · replace h := h.1 hc
      refine lv_astoreN (lv' := [(6, .null), (5, .ref r2), (0, .ref a0), (1, .int x1), (2, .int x2), (3, .int x3), (4, .int x4)]) hx hb dX5_bestSet_25 hl (by decide) rfl (fun ls hl => ?_)
      refine lv_aloadN hx hb dX5_bestSet_27 (lv_at hl 0 rfl) ?_
      refine lv_ifnonnullN hx hb dX5_bestSet_29 ?_
      refine lv_aload_n hx hb dX5_bestSet_32 rfl (lv_at hl 2 rfl) ?_
      refine lv_iload_n hx hb dX5_bestSet_33 rfl (lv_at hl 4 rfl) ?_
      have hk := h.1
      replace h := h.2
      refine gc_i (va_runV (As := [.int x2]) (rest := []) ⟨hx, hb, hml, hown, hts⟩ (c_X5_notHeld l D κ A S7 a0 x2 _ h) (cwV 1 hts gX5_bestSet_X5_notHeld rfl rfl rfl (by decide +kernel) ⟨Nat.le_of_ble_eq_true rfl, Nat.le_of_ble_eq_true rfl⟩) (pg_V (q := (RX5, TX5, 13)) hK hX hG (pg_A hA hS) (kc_6 hk) rfl) rfl rfl hl.1 rfl (lv_room (Nat.le_of_ble_eq_true rfl)) dX5_bestSet_34 ⟨Nat.le_of_ble_eq_true rfl, Nat.le_of_ble_eq_true rfl⟩) hS (fun z12 S11 H locs10 h hG hS => ?_)
      exact W.iret hx hb hr (gr_i h hG hK hX hS) hS.2.2 dX5_bestSet_37
    · replace h := h.2 r9 hc
      refine lv_astore (lv' := [(6, .ref r9), (5, .ref r2), (0, .ref a0), (1, .int x1), (2, .int x2), (3, .int x3), (4, .int x4)]) hx hb dX5_bestSet_25 hl (by decide) rfl (fun ls hl => ?_)
      refine lv_aload hx hb dX5_bestSet_27 (lv_at hl 0 rfl) ?_
      refine lv_ifnonnull (tgt := 38) hx hb dX5_bestSet_29 rfl ?_
      refine lv_aload hx hb dX5_bestSet_38 (lv_at hl 0 rfl) ?_
      refine gc_i (va_runS (As := [.ref r9]) (rest := []) ⟨hx, hb, hml, hown, hts⟩ (c_X5_isList l D κ A S7 r9 _ h) (va_cwS 1 hts gX5_bestSet_X5_isList rfl rfl rfl (by decide +kernel) ⟨Nat.le_of_ble_eq_true rfl, Nat.le_of_ble_eq_true rfl⟩) (pg_S hK hX hG (pg_A hA hS)) rfl rfl hl.1 rfl (lv_room (Nat.le_of_ble_eq_true rfl)) dX5_bestSet_40 ⟨Nat.le_of_ble_eq_true rfl, Nat.le_of_ble_eq_true rfl⟩) hS (fun z15 S14 H locs13 h hG hS => ?_)
      refine lv_if_ne (tgt := 49) hx hb dX5_bestSet_43 rfl (fun hc => ?_) (fun hc => ?_)
      · replace h := h.1 hc
        refine lv_aload_n hx hb dX5_bestSet_49 rfl (lv_at hl 2 rfl) ?_
        refine lv_aload hx hb dX5_bestSet_50 (lv_at hl 1 rfl) ?_
        refine lv_aload hx hb dX5_bestSet_52 (lv_at hl 0 rfl) ?_
        have hk := h.1
        replace h := h.2
        refine gc_v (va_runV (As := [.ref r2, .ref r9]) (rest := []) ⟨hx, hb, hml, hown, hts⟩ (c_X5_markListed l D κ A S14 a0 r2 r9 _ h) (cwV 2 hts gX5_bestSet_X5_markListed rfl rfl rfl (by decide +kernel) ⟨Nat.le_of_ble_eq_true rfl, Nat.le_of_ble_eq_true rfl⟩) (pg_V (q := (RX5, TX5, 13)) hK hX hG (pg_A hA hS) (kc_6 hk) rfl) rfl rfl hl.1 rfl (lv_room (Nat.le_of_ble_eq_true rfl)) dX5_bestSet_54 ⟨Nat.le_of_ble_eq_true rfl, Nat.le_of_ble_eq_true rfl⟩) hS (fun S17 H locs16 h hG hS => ?_)
        refine lv_iconst (v := (1 : Int32)) hx hb dX5_bestSet_57 (by decide) ?_
        refine lv_aload hx hb dX5_bestSet_58 (lv_at hl 0 rfl) ?_
        have hk := h.1
        replace h := h.2
        obtain ⟨r18, hr18, h⟩ := h
        refine gg_get (v := .ref r18) (ci := 1) (C := RX1) (T := TX1) (N := 2) hx hb hts (fun _ h => List.mem_cons_of_mem _ (List.mem_append_left _ (List.mem_append_left _ (List.mem_append_left _ (List.mem_append_right _ (h)))))) hown hK hG (kc_2 hk) rfl 1 (by decide) (hts (.fieldLink RX5 209 "FourStones$Row" "cells" "[I") (List.mem_of_getElem? (i := 2) rfl)) (fun _ h9 => h9) (congrArg (fun z => some (va_rf z)) hr18) dX5_bestSet_60 ?_
        have hk := h.1
        replace h := h.2
        refine gg_alen8 hx hb hK hG hk dX5_bestSet_63 ?_
        refine lv_ishl hx hb dX5_bestSet_64 ?_
        refine lv_iconst (v := (1 : Int32)) hx hb dX5_bestSet_65 (by decide) ?_
        refine lv_isub hx hb dX5_bestSet_66 ?_
        refine lv_topi (fun y19 ey19 => ?_)
        replace h := h y19 ey19
        refine lv_istore (lv' := [(7, .int y19), (6, .ref r9), (5, .ref r2), (0, .ref a0), (1, .int x1), (2, .int x2), (3, .int x3), (4, .int x4)]) hx hb dX5_bestSet_67 hl (by decide) rfl (fun ls hl => ?_)
        refine lv_bipush (v := (-4 : Int32)) hx hb dX5_bestSet_69 (by decide) ?_
        refine lv_istore (lv' := [(8, .int (-4 : Int32)), (7, .int y19), (6, .ref r9), (5, .ref r2), (0, .ref a0), (1, .int x1), (2, .int x2), (3, .int x3), (4, .int x4)]) hx hb dX5_bestSet_71 hl (by decide) rfl (fun ls hl => ?_)
        refine lv_iconst (v := (0 : Int32)) hx hb dX5_bestSet_73 (by decide) ?_
        refine lv_istore (lv' := [(9, .int (0 : Int32)), (8, .int (-4 : Int32)), (7, .int y19), (6, .ref r9), (5, .ref r2), (0, .ref a0), (1, .int x1), (2, .int x2), (3, .int x3), (4, .int x4)]) hx hb dX5_bestSet_74 hl (by decide) rfl (fun ls hl => ?_)
        refine lv_iconst (v := (0 : Int32)) hx hb dX5_bestSet_76 (by decide) ?_
        refine lv_istore (lv' := [(10, .int (0 : Int32)), (9, .int (0 : Int32)), (8, .int (-4 : Int32)), (7, .int y19), (6, .ref r9), (5, .ref r2), (0, .ref a0), (1, .int x1), (2, .int x2), (3, .int x3), (4, .int x4)]) hx hb dX5_bestSet_77 hl (by decide) rfl (fun ls hl => ?_)
        obtain ⟨nn, h⟩ := h
        exact k_79  nn a0 x3 x4 y19 (-4 : Int32) (0 : Int32) (0 : Int32) S17 ls _ _ (lv_sub hl [6, 9, 10, 3, 2, 1, 0] rfl) hG hS h
      · replace h := h.2 hc
        refine lv_bipush (v := (-13 : Int32)) hx hb dX5_bestSet_46 (by decide) ?_
        exact W.iret hx hb hr (gr_i h hG hK hX hS) hS.2.2 dX5_bestSet_48
set_option maxHeartbeats 4000000 in
set_option maxRecDepth 100000 in
theorem c_X5_list (l : Launch) (D : va_G) (κ : Nat → ClassId) (A : Nat → Prop) (S : Hp) (a0 : Nat) (x1 : Int32) (x2 : Int32) (Q : Int32 → Hp → Prop) (h : wp_X5_list a0 x1 x2 S Q) : Met l yX5_list wsX5_list ({ frames := 5, cells := 0, slots := 0, locals := 240 } : Room) (PG D κ A S [.ref a0, .int x1, .int x2]) (va_Qi Q (BG D κ A) A) 0 0 A := by
  refine Met.ofW (cc := cX5_list) (maxL := 3) (ret := (some .int)) (by decide) rfl ?_
  intro p e s m args below meth c s₁ B hml hv
  obtain ⟨hargs, hA, hG, hK, hX⟩ := hv
  have hx := B.exec
  have hb := B.bytes
  have hr := B.returns
  have hts := atoms_spec (ws := wsX5_list) B.pre
  have hown : s.vm.findClass RX5 = some m.cls := findClass_of_methodNamed B.named
  have hlocks := B.notSynchronized
  subst hargs
  clear B
  have hS : va_S A s.heap s.heap [] := va_S.rf
  have hl := lv_entry ([.ref a0, .int x1, .int x2]) (n := 3) (Nat.le_of_ble_eq_true rfl)
  rw [lg_entry_eq]
  generalize (lg_sl ([.ref a0, .int x1, .int x2]) ++ List.replicate (3 - (lg_sl ([.ref a0, .int x1, .int x2])).length) Slot.unset).toArray = ls at hl ⊢
  have hl : lv_has ls 3 [(0, .ref a0), (1, .int x1), (2, .int x2)] := hl
  have hG : GG D κ A S s.heap := hG
  refine lv_iload_n hx hb dX5_list_0 rfl (lv_at hl 1 rfl) ?_
  refine gc_i (va_runS (As := [.int x1]) (rest := []) ⟨hx, hb, hml, hown, hts⟩ (c_X5_isShelf l D κ A S x1 _ h) (va_cwS 1 hts gX5_list_X5_isShelf rfl rfl rfl (by decide +kernel) ⟨Nat.le_of_ble_eq_true rfl, Nat.le_of_ble_eq_true rfl⟩) (pg_S hK hX hG (pg_A hA hS)) rfl rfl hl.1 rfl (lv_room (Nat.le_of_ble_eq_true rfl)) dX5_list_1 ⟨Nat.le_of_ble_eq_true rfl, Nat.le_of_ble_eq_true rfl⟩) hS (fun z3 S2 H locs1 h hG hS => ?_)
  refine lv_if_eq (tgt := 14) hx hb dX5_list_4 rfl (fun hc => ?_) (fun hc => ?_)
  · replace h := h.1 hc
    refine lv_iconst (v := (-1 : Int32)) hx hb dX5_list_14 (by decide) ?_
    exact W.iret hx hb hr (gr_i h hG hK hX hS) hS.2.2 dX5_list_15
  · replace h := h.2 hc
    refine lv_iload_n hx hb dX5_list_7 rfl (lv_at hl 2 rfl) ?_
    refine gc_i (va_runS (As := [.int x2]) (rest := []) ⟨hx, hb, hml, hown, hts⟩ (c_X5_isShelf l D κ A S2 x2 _ h) (va_cwS 1 hts gX5_list_X5_isShelf rfl rfl rfl (by decide +kernel) ⟨Nat.le_of_ble_eq_true rfl, Nat.le_of_ble_eq_true rfl⟩) (pg_S hK hX hG (pg_A hA hS)) rfl rfl hl.1 rfl (lv_room (Nat.le_of_ble_eq_true rfl)) dX5_list_8 ⟨Nat.le_of_ble_eq_true rfl, Nat.le_of_ble_eq_true rfl⟩) hS (fun z6 S5 H locs4 h hG hS => ?_)
    refine lv_if_ne (tgt := 16) hx hb dX5_list_11 rfl (fun hc => ?_) (fun hc => ?_)
    · replace h := h.1 hc
      refine lv_aload_n hx hb dX5_list_16 rfl (lv_at hl 0 rfl) ?_
      refine lv_iload_n hx hb dX5_list_17 rfl (lv_at hl 1 rfl) ?_
      refine lv_iload_n hx hb dX5_list_18 rfl (lv_at hl 2 rfl) ?_
      refine lv_iconst (v := (0 : Int32)) hx hb dX5_list_19 (by decide) ?_
      refine lv_iconst (v := (1 : Int32)) hx hb dX5_list_20 (by decide) ?_
      have hk := h.1
      replace h := h.2
      refine gc_i (va_runV (As := [.int x1, .int x2, .int (0 : Int32), .int (1 : Int32)]) (rest := []) ⟨hx, hb, hml, hown, hts⟩ (c_X5_bestSet l D κ A S5 a0 x1 x2 (0 : Int32) (1 : Int32) _ h) (cwV 4 hts gX5_list_X5_bestSet rfl rfl rfl (by decide +kernel) ⟨Nat.le_of_ble_eq_true rfl, Nat.le_of_ble_eq_true rfl⟩) (pg_V (q := (RX5, TX5, 13)) hK hX hG (pg_A hA hS) (kc_6 hk) rfl) rfl rfl hl.1 rfl (lv_room (Nat.le_of_ble_eq_true rfl)) dX5_list_21 ⟨Nat.le_of_ble_eq_true rfl, Nat.le_of_ble_eq_true rfl⟩) hS (fun z9 S8 H locs7 h hG hS => ?_)
      exact W.iret hx hb hr (gr_i h hG hK hX hS) hS.2.2 dX5_list_24
    · replace h := h.2 hc
      refine lv_iconst (v := (-1 : Int32)) hx hb dX5_list_14 (by decide) ?_
      exact W.iret hx hb hr (gr_i h hG hK hX hS) hS.2.2 dX5_list_15
set_option maxHeartbeats 4000000 in
set_option maxRecDepth 100000 in
theorem c_X5_cheapest (l : Launch) (D : va_G) (κ : Nat → ClassId) (A : Nat → Prop) (S : Hp) (a0 : Nat) (x1 : Int32) (x2 : Int32) (x3 : Int32) (x4 : Int32) (Q : Int32 → Hp → Prop) (h : wp_X5_cheapest a0 x1 x2 x3 x4 S Q) : Met l yX5_cheapest wsX5_cheapest ({ frames := 5, cells := 0, slots := 0, locals := 240 } : Room) (PG D κ A S [.ref a0, .int x1, .int x2, .int x3, .int x4]) (va_Qi Q (BG D κ A) A) 0 0 A := by
  refine Met.ofW (cc := cX5_cheapest) (maxL := 6) (ret := (some .int)) (by decide) rfl ?_
  intro p e s m args below meth c s₁ B hml hv
  obtain ⟨hargs, hA, hG, hK, hX⟩ := hv
  have hx := B.exec
  have hb := B.bytes
  have hr := B.returns
  have hts := atoms_spec (ws := wsX5_cheapest) B.pre
  have hown : s.vm.findClass RX5 = some m.cls := findClass_of_methodNamed B.named
  have hlocks := B.notSynchronized
  subst hargs
  clear B
  have hS : va_S A s.heap s.heap [] := va_S.rf
  have hl := lv_entry ([.ref a0, .int x1, .int x2, .int x3, .int x4]) (n := 6) (Nat.le_of_ble_eq_true rfl)
  rw [lg_entry_eq]
  generalize (lg_sl ([.ref a0, .int x1, .int x2, .int x3, .int x4]) ++ List.replicate (6 - (lg_sl ([.ref a0, .int x1, .int x2, .int x3, .int x4])).length) Slot.unset).toArray = ls at hl ⊢
  have hl : lv_has ls 6 [(0, .ref a0), (1, .int x1), (2, .int x2), (3, .int x3), (4, .int x4)] := hl
  have hG : GG D κ A S s.heap := hG
  refine lv_iload_n hx hb dX5_cheapest_0 rfl (lv_at hl 1 rfl) ?_
  refine gc_i (va_runS (As := [.int x1]) (rest := []) ⟨hx, hb, hml, hown, hts⟩ (c_X5_isShelf l D κ A S x1 _ h) (va_cwS 1 hts gX5_cheapest_X5_isShelf rfl rfl rfl (by decide +kernel) ⟨Nat.le_of_ble_eq_true rfl, Nat.le_of_ble_eq_true rfl⟩) (pg_S hK hX hG (pg_A hA hS)) rfl rfl hl.1 rfl (lv_room (Nat.le_of_ble_eq_true rfl)) dX5_cheapest_1 ⟨Nat.le_of_ble_eq_true rfl, Nat.le_of_ble_eq_true rfl⟩) hS (fun z3 S2 H locs1 h hG hS => ?_)
  refine lv_if_eq (tgt := 36) hx hb dX5_cheapest_4 rfl (fun hc => ?_) (fun hc => ?_)
  · replace h := h.1 hc
    refine lv_iconst (v := (-1 : Int32)) hx hb dX5_cheapest_36 (by decide) ?_
    exact W.iret hx hb hr (gr_i h hG hK hX hS) hS.2.2 dX5_cheapest_37
  · replace h := h.2 hc
    refine lv_iload_n hx hb dX5_cheapest_7 rfl (lv_at hl 2 rfl) ?_
    refine gc_i (va_runS (As := [.int x2]) (rest := []) ⟨hx, hb, hml, hown, hts⟩ (c_X5_isShelf l D κ A S2 x2 _ h) (va_cwS 1 hts gX5_cheapest_X5_isShelf rfl rfl rfl (by decide +kernel) ⟨Nat.le_of_ble_eq_true rfl, Nat.le_of_ble_eq_true rfl⟩) (pg_S hK hX hG (pg_A hA hS)) rfl rfl hl.1 rfl (lv_room (Nat.le_of_ble_eq_true rfl)) dX5_cheapest_8 ⟨Nat.le_of_ble_eq_true rfl, Nat.le_of_ble_eq_true rfl⟩) hS (fun z6 S5 H locs4 h hG hS => ?_)
    refine lv_if_eq (tgt := 36) hx hb dX5_cheapest_11 rfl (fun hc => ?_) (fun hc => ?_)
    · replace h := h.1 hc
      refine lv_iconst (v := (-1 : Int32)) hx hb dX5_cheapest_36 (by decide) ?_
      exact W.iret hx hb hr (gr_i h hG hK hX hS) hS.2.2 dX5_cheapest_37
    · replace h := h.2 hc
      refine lv_aload_n hx hb dX5_cheapest_14 rfl (lv_at hl 0 rfl) ?_
      have hk := h.1
      replace h := h.2
      obtain ⟨r7, hr7, h⟩ := h
      refine gg_get (v := .ref r7) (ci := 5) (C := RX5) (T := TX5) (N := 13) hx hb hts (fun _ h => List.mem_cons_of_mem _ (List.mem_append_left _ (List.mem_append_left _ (List.mem_append_left _ (List.mem_append_left _ (List.mem_append_right _ (h))))))) hown hK hG (kc_6 hk) rfl 0 (by decide) (hts (.fieldLink RX5 10 "FourStones" "stones" "LFourStones$Stones;") (List.mem_of_getElem? (i := 1) rfl)) (fun _ h9 => h9) (congrArg (fun z => some (va_rf z)) hr7) dX5_cheapest_15 ?_
      refine lv_iload_n hx hb dX5_cheapest_18 rfl (lv_at hl 3 rfl) ?_
      have hk := h.1
      replace h := h.2
      refine gc_i (va_runV (As := [.int x3]) (rest := []) ⟨hx, hb, hml, hown, hts⟩ (c_X4_areStones l D κ A S5 r7 x3 _ h) (cwV 1 hts gX5_cheapest_X4_areStones rfl rfl rfl (by decide +kernel) ⟨Nat.le_of_ble_eq_true rfl, Nat.le_of_ble_eq_true rfl⟩) (pg_V (q := (RX4, TX4, 3)) hK hX hG (pg_A hA hS) (kc_5 hk) rfl) rfl rfl hl.1 rfl (lv_room (Nat.le_of_ble_eq_true rfl)) dX5_cheapest_19 ⟨Nat.le_of_ble_eq_true rfl, Nat.le_of_ble_eq_true rfl⟩) hS (fun z10 S9 H locs8 h hG hS => ?_)
      refine lv_if_eq (tgt := 36) hx hb dX5_cheapest_22 rfl (fun hc => ?_) (fun hc => ?_)
      · replace h := h.1 hc
        refine lv_iconst (v := (-1 : Int32)) hx hb dX5_cheapest_36 (by decide) ?_
        exact W.iret hx hb hr (gr_i h hG hK hX hS) hS.2.2 dX5_cheapest_37
      · replace h := h.2 hc
        refine lv_iload hx hb dX5_cheapest_25 (lv_at hl 4 rfl) ?_
        refine lv_if_lt (tgt := 36) hx hb dX5_cheapest_27 rfl (fun hc => ?_) (fun hc => ?_)
        · replace h := h.1 hc
          refine lv_iconst (v := (-1 : Int32)) hx hb dX5_cheapest_36 (by decide) ?_
          exact W.iret hx hb hr (gr_i h hG hK hX hS) hS.2.2 dX5_cheapest_37
        · replace h := h.2 hc
          refine lv_iload hx hb dX5_cheapest_30 (lv_at hl 4 rfl) ?_
          refine lv_iconst (v := (1 : Int32)) hx hb dX5_cheapest_32 (by decide) ?_
          refine lv_icmp_le (tgt := 38) hx hb dX5_cheapest_33 rfl (fun hc => ?_) (fun hc => ?_)
          · replace h := h.1 hc
            refine lv_aload_n hx hb dX5_cheapest_38 rfl (lv_at hl 0 rfl) ?_
            refine lv_iload_n hx hb dX5_cheapest_39 rfl (lv_at hl 1 rfl) ?_
            refine lv_iload_n hx hb dX5_cheapest_40 rfl (lv_at hl 2 rfl) ?_
            refine lv_iload_n hx hb dX5_cheapest_41 rfl (lv_at hl 3 rfl) ?_
            refine lv_iconst (v := (0 : Int32)) hx hb dX5_cheapest_42 (by decide) ?_
            have hk := h.1
            replace h := h.2
            refine gc_i (va_runV (As := [.int x1, .int x2, .int x3, .int (0 : Int32)]) (rest := []) ⟨hx, hb, hml, hown, hts⟩ (c_X5_bestSet l D κ A S9 a0 x1 x2 x3 (0 : Int32) _ h) (cwV 4 hts gX5_cheapest_X5_bestSet rfl rfl rfl (by decide +kernel) ⟨Nat.le_of_ble_eq_true rfl, Nat.le_of_ble_eq_true rfl⟩) (pg_V (q := (RX5, TX5, 13)) hK hX hG (pg_A hA hS) (kc_6 hk) rfl) rfl rfl hl.1 rfl (lv_room (Nat.le_of_ble_eq_true rfl)) dX5_cheapest_43 ⟨Nat.le_of_ble_eq_true rfl, Nat.le_of_ble_eq_true rfl⟩) hS (fun z13 S12 H locs11 h hG hS => ?_)
            refine lv_istore (lv' := [(5, .int z13), (0, .ref a0), (1, .int x1), (2, .int x2), (3, .int x3), (4, .int x4)]) hx hb dX5_cheapest_46 hl (by decide) rfl (fun ls hl => ?_)
            refine lv_iload hx hb dX5_cheapest_48 (lv_at hl 0 rfl) ?_
            refine lv_if_lt (tgt := 58) hx hb dX5_cheapest_50 rfl (fun hc => ?_) (fun hc => ?_)
            · replace h := h.1 hc
              refine lv_iload hx hb dX5_cheapest_58 (lv_at hl 0 rfl) ?_
              refine lv_goto (tgt := 76) hx hb dX5_cheapest_60 rfl ?_
              exact W.iret hx hb hr (gr_i h hG hK hX hS) hS.2.2 dX5_cheapest_76
            · replace h := h.2 hc
              refine lv_iload hx hb dX5_cheapest_53 (lv_at hl 5 rfl) ?_
              refine lv_if_ne (tgt := 63) hx hb dX5_cheapest_55 rfl (fun hc => ?_) (fun hc => ?_)
              · replace h := h.1 hc
                refine lv_aload_n hx hb dX5_cheapest_63 rfl (lv_at hl 1 rfl) ?_
                have hk := h.1
                replace h := h.2
                obtain ⟨r14, hr14, h⟩ := h
                refine gg_get (v := .ref r14) (ci := 5) (C := RX5) (T := TX5) (N := 13) hx hb hts (fun _ h => List.mem_cons_of_mem _ (List.mem_append_left _ (List.mem_append_left _ (List.mem_append_left _ (List.mem_append_left _ (List.mem_append_right _ (h))))))) hown hK hG (kc_6 hk) rfl 0 (by decide) (hts (.fieldLink RX5 10 "FourStones" "stones" "LFourStones$Stones;") (List.mem_of_getElem? (i := 1) rfl)) (fun _ h9 => h9) (congrArg (fun z => some (va_rf z)) hr14) dX5_cheapest_64 ?_
                refine lv_iload hx hb dX5_cheapest_67 (lv_at hl 0 rfl) ?_
                refine lv_iload_n hx hb dX5_cheapest_69 rfl (lv_at hl 4 rfl) ?_
                refine lv_iconst (v := (-1 : Int32)) hx hb dX5_cheapest_70 (by decide) ?_
                refine lv_ixor hx hb dX5_cheapest_71 ?_
                refine lv_iand hx hb dX5_cheapest_72 ?_
                have hk := h.1
                replace h := h.2
                refine gc_i (va_runV (As := [.int (z13 &&& (x3 ^^^ (-1 : Int32)))]) (rest := []) ⟨hx, hb, hml, hown, hts⟩ (c_X4_pricesOf l D κ A S12 r14 (z13 &&& (x3 ^^^ (-1 : Int32))) _ h) (cwV 1 hts gX5_cheapest_X4_pricesOf rfl rfl rfl (by decide +kernel) ⟨Nat.le_of_ble_eq_true rfl, Nat.le_of_ble_eq_true rfl⟩) (pg_V (q := (RX4, TX4, 3)) hK hX hG (pg_A hA hS) (kc_5 hk) rfl) rfl rfl hl.1 rfl (lv_room (Nat.le_of_ble_eq_true rfl)) dX5_cheapest_73 ⟨Nat.le_of_ble_eq_true rfl, Nat.le_of_ble_eq_true rfl⟩) hS (fun z17 S16 H locs15 h hG hS => ?_)
                exact W.iret hx hb hr (gr_i h hG hK hX hS) hS.2.2 dX5_cheapest_76
              · replace h := h.2 hc
                refine lv_iload hx hb dX5_cheapest_58 (lv_at hl 0 rfl) ?_
                refine lv_goto (tgt := 76) hx hb dX5_cheapest_60 rfl ?_
                exact W.iret hx hb hr (gr_i h hG hK hX hS) hS.2.2 dX5_cheapest_76
          · replace h := h.2 hc
            refine lv_iconst (v := (-1 : Int32)) hx hb dX5_cheapest_36 (by decide) ?_
            exact W.iret hx hb hr (gr_i h hG hK hX hS) hS.2.2 dX5_cheapest_37
set_option maxHeartbeats 4000000 in
set_option maxRecDepth 100000 in
theorem c_X5_ofSeries (l : Launch) (D : va_G) (κ : Nat → ClassId) (A : Nat → Prop) (S : Hp) (x0 : Int32) (x1 : Int32) (x2 : Int32) (Q : Int32 → Hp → Prop) (h : wp_X5_ofSeries x0 x1 x2 S Q) : Met l yX5_ofSeries wsX5_ofSeries ({ frames := 1, cells := 0, slots := 0, locals := 48 } : Room) (PG D κ A S [.int x0, .int x1, .int x2]) (va_Qi Q (BG D κ A) A) 0 0 A := by
  refine Met.ofW (cc := cX5_ofSeries) (maxL := 6) (ret := (some .int)) (by decide) rfl ?_
  intro p e s m args below meth c s₁ B hml hv
  obtain ⟨hargs, hA, hG, hK, hX⟩ := hv
  have hx := B.exec
  have hb := B.bytes
  have hr := B.returns
  have hts := atoms_spec (ws := wsX5_ofSeries) B.pre
  have hown : s.vm.findClass RX5 = some m.cls := findClass_of_methodNamed B.named
  have hlocks := B.notSynchronized
  subst hargs
  clear B
  have hS : va_S A s.heap s.heap [] := va_S.rf
  have hl := lv_entry ([.int x0, .int x1, .int x2]) (n := 6) (Nat.le_of_ble_eq_true rfl)
  rw [lg_entry_eq]
  generalize (lg_sl ([.int x0, .int x1, .int x2]) ++ List.replicate (6 - (lg_sl ([.int x0, .int x1, .int x2])).length) Slot.unset).toArray = ls at hl ⊢
  have hl : lv_has ls 6 [(0, .int x0), (1, .int x1), (2, .int x2)] := hl
  have hG : GG D κ A S s.heap := hG
  have j_55 : ∀  (v2 : Int32) (v3 : Int32) (v5 : Int32) (S : Hp) (ls : Array Slot) (H : Heap) (locs : List Loc), lv_has ls 6 [(2, .int v2), (3, .int v3), (5, .int v5)] → GG D κ A S H → va_S A s.heap H locs → J_X5_ofSeries_55  Q v2 v3 v5 S → W p l e ({ frames := 1, cells := 0, slots := 0, locals := 48 } : Room) s m ([.int x0, .int x1, .int x2] : List Value).toArray below meth c H locs 0 0 (MQ below (va_Qi Q (BG D κ A) A) ([.int x0, .int x1, .int x2] : List Value).toArray s 0 0 A) (F0 m 55 ls []) := by
    intro  v2 v3 v5 S ls H locs hl hG hS h
    unfold J_X5_ofSeries_55 at h
    refine lv_iload_n hx hb dX5_ofSeries_55 rfl (lv_at hl 0 rfl) ?_
    refine lv_iconst (v := (-1 : Int32)) hx hb dX5_ofSeries_56 (by decide) ?_
    refine lv_icmp_ne (tgt := 65) hx hb dX5_ofSeries_57 rfl (fun hc => ?_) (fun hc => ?_)
    · replace h := h.1 hc
      refine lv_iload hx hb dX5_ofSeries_65 (lv_at hl 2 rfl) ?_
      refine lv_iload_n hx hb dX5_ofSeries_67 rfl (lv_at hl 0 rfl) ?_
      refine lv_icmp_ne (tgt := 75) hx hb dX5_ofSeries_68 rfl (fun hc => ?_) (fun hc => ?_)
      · replace h := h.1 hc
        refine lv_bipush (v := (-4 : Int32)) hx hb dX5_ofSeries_75 (by decide) ?_
        exact W.iret hx hb hr (gr_i h hG hK hX hS) hS.2.2 dX5_ofSeries_77
      · replace h := h.2 hc
        refine lv_iload_n hx hb dX5_ofSeries_71 rfl (lv_at hl 1 rfl) ?_
        refine lv_goto (tgt := 77) hx hb dX5_ofSeries_72 rfl ?_
        exact W.iret hx hb hr (gr_i h hG hK hX hS) hS.2.2 dX5_ofSeries_77
    · replace h := h.2 hc
      refine lv_iload hx hb dX5_ofSeries_60 (lv_at hl 2 rfl) ?_
      refine lv_iconst (v := (1 : Int32)) hx hb dX5_ofSeries_62 (by decide) ?_
      refine lv_iadd hx hb dX5_ofSeries_63 ?_
      exact W.iret hx hb hr (gr_i h hG hK hX hS) hS.2.2 dX5_ofSeries_64
  have k_27 : ∀  (n : Nat), ∀ (v0 : Int32) (v1 : Int32) (v2 : Int32) (v3 : Int32) (v4 : Int32) (v5 : Int32) (S : Hp) (ls : Array Slot) (H : Heap) (locs : List Loc), lv_has ls 6 [(0, .int v0), (1, .int v1), (2, .int v2), (3, .int v3), (4, .int v4), (5, .int v5)] → GG D κ A S H → va_S A s.heap H locs → it (L_X5_ofSeries_27  Q) n (v0, v1, v2, v3, v4, v5, S) → W p l e ({ frames := 1, cells := 0, slots := 0, locals := 48 } : Room) s m ([.int x0, .int x1, .int x2] : List Value).toArray below meth c H locs 0 0 (MQ below (va_Qi Q (BG D κ A) A) ([.int x0, .int x1, .int x2] : List Value).toArray s 0 0 A) (F0 m 27 ls []) := by
    intro  n
    induction n with
    | zero => intro v0 v1 v2 v3 v4 v5 S ls H locs hl hG hS h; exact False.elim h
    | succ n hC27 =>
      intro v0 v1 v2 v3 v4 v5 S ls H locs hl hG hS h
      replace h : L_X5_ofSeries_27  Q (it (L_X5_ofSeries_27  Q) n) (v0, v1, v2, v3, v4, v5, S) := h
      simp only [L_X5_ofSeries_27] at h
      refine lv_iload hx hb dX5_ofSeries_27 (lv_at hl 4 rfl) ?_
      refine lv_iload_n hx hb dX5_ofSeries_29 rfl (lv_at hl 1 rfl) ?_
      refine lv_icmp_ge (tgt := 55) hx hb dX5_ofSeries_30 rfl (fun hc => ?_) (fun hc => ?_)
      · replace h := h.1 hc
        exact j_55  v2 v3 v5 S ls _ _ (lv_sub hl [2, 3, 5] rfl) hG hS h
      · replace h := h.2 hc
        refine lv_iload hx hb dX5_ofSeries_33 (lv_at hl 5 rfl) ?_
        refine lv_iload_n hx hb dX5_ofSeries_35 rfl (lv_at hl 2 rfl) ?_
        refine lv_icmp_eq (tgt := 55) hx hb dX5_ofSeries_36 rfl (fun hc => ?_) (fun hc => ?_)
        · replace h := h.1 hc
          exact j_55  v2 v3 v5 S ls _ _ (lv_sub hl [2, 3, 5] rfl) hG hS h
        · replace h := h.2 hc
          refine lv_iload_n hx hb dX5_ofSeries_39 rfl (lv_at hl 3 rfl) ?_
          refine lv_iload_n hx hb dX5_ofSeries_40 rfl (lv_at hl 0 rfl) ?_
          refine lv_imul hx hb dX5_ofSeries_41 ?_
          refine lv_topi (fun y1 ey1 => ?_)
          replace h := h y1 ey1
          refine lv_istore_n (lv' := [(3, .int y1), (0, .int v0), (1, .int v1), (2, .int v2), (4, .int v4), (5, .int v5)]) hx hb dX5_ofSeries_42 rfl hl (by decide) rfl (fun ls hl => ?_)
          refine lv_iload hx hb dX5_ofSeries_43 (lv_at hl 4 rfl) ?_
          refine lv_iload_n hx hb dX5_ofSeries_45 rfl (lv_at hl 0 rfl) ?_
          refine lv_iadd hx hb dX5_ofSeries_46 ?_
          refine lv_topi (fun y2 ey2 => ?_)
          replace h := h y2 ey2
          refine lv_istore (lv' := [(4, .int y2), (3, .int y1), (0, .int v0), (1, .int v1), (2, .int v2), (5, .int v5)]) hx hb dX5_ofSeries_47 hl (by decide) rfl (fun ls hl => ?_)
          obtain ⟨y3, ey3⟩ : ∃ z, z = v5 + (1 : Int32) := ⟨_, rfl⟩
          replace h := h y3 ey3
          refine lv_iinc (v := y3) (lv' := [(5, .int y3), (4, .int y2), (3, .int y1), (0, .int v0), (1, .int v1), (2, .int v2)]) hx hb dX5_ofSeries_49 hl (k := 5) rfl (by rw [ey3]; rfl) (by decide) rfl (fun ls hl => ?_)
          refine lv_goto (tgt := 27) hx hb dX5_ofSeries_52 rfl ?_
          exact hC27 v0 v1 v2 y1 y2 y3 S ls _ _ (lv_sub hl [3, 4, 5, 2, 1, 0] rfl) hG hS h
  refine lv_iload_n hx hb dX5_ofSeries_0 rfl (lv_at hl 1 rfl) ?_
  refine lv_iconst (v := (1 : Int32)) hx hb dX5_ofSeries_1 (by decide) ?_
  refine lv_icmp_lt (tgt := 17) hx hb dX5_ofSeries_2 rfl (fun hc => ?_) (fun hc => ?_)
  · replace h := h.1 hc
    refine lv_iconst (v := (-1 : Int32)) hx hb dX5_ofSeries_17 (by decide) ?_
    exact W.iret hx hb hr (gr_i h hG hK hX hS) hS.2.2 dX5_ofSeries_18
  · replace h := h.2 hc
    refine lv_iload_n hx hb dX5_ofSeries_5 rfl (lv_at hl 1 rfl) ?_
    refine lv_sipush (v := (9999 : Int32)) hx hb dX5_ofSeries_6 (by decide) ?_
    refine lv_icmp_gt (tgt := 17) hx hb dX5_ofSeries_9 rfl (fun hc => ?_) (fun hc => ?_)
    · replace h := h.1 hc
      refine lv_iconst (v := (-1 : Int32)) hx hb dX5_ofSeries_17 (by decide) ?_
      exact W.iret hx hb hr (gr_i h hG hK hX hS) hS.2.2 dX5_ofSeries_18
    · replace h := h.2 hc
      refine lv_iload_n hx hb dX5_ofSeries_12 rfl (lv_at hl 2 rfl) ?_
      refine lv_iconst (v := (-1 : Int32)) hx hb dX5_ofSeries_13 (by decide) ?_
      refine lv_icmp_ge (tgt := 19) hx hb dX5_ofSeries_14 rfl (fun hc => ?_) (fun hc => ?_)
      · replace h := h.1 hc
        refine lv_iconst (v := (1 : Int32)) hx hb dX5_ofSeries_19 (by decide) ?_
        refine lv_istore_n (lv' := [(3, .int (1 : Int32)), (0, .int x0), (1, .int x1), (2, .int x2)]) hx hb dX5_ofSeries_20 rfl hl (by decide) rfl (fun ls hl => ?_)
        refine lv_iconst (v := (1 : Int32)) hx hb dX5_ofSeries_21 (by decide) ?_
        refine lv_istore (lv' := [(4, .int (1 : Int32)), (3, .int (1 : Int32)), (0, .int x0), (1, .int x1), (2, .int x2)]) hx hb dX5_ofSeries_22 hl (by decide) rfl (fun ls hl => ?_)
        refine lv_iconst (v := (0 : Int32)) hx hb dX5_ofSeries_24 (by decide) ?_
        refine lv_istore (lv' := [(5, .int (0 : Int32)), (4, .int (1 : Int32)), (3, .int (1 : Int32)), (0, .int x0), (1, .int x1), (2, .int x2)]) hx hb dX5_ofSeries_25 hl (by decide) rfl (fun ls hl => ?_)
        obtain ⟨nn, h⟩ := h
        exact k_27  nn x0 x1 x2 (1 : Int32) (1 : Int32) (0 : Int32) S ls _ _ (lv_sub hl [3, 4, 5, 2, 1, 0] rfl) hG hS h
      · replace h := h.2 hc
        refine lv_iconst (v := (-1 : Int32)) hx hb dX5_ofSeries_17 (by decide) ?_
        exact W.iret hx hb hr (gr_i h hG hK hX hS) hS.2.2 dX5_ofSeries_18
set_option maxHeartbeats 4000000 in
set_option maxRecDepth 100000 in
theorem c_X5_threes (l : Launch) (D : va_G) (κ : Nat → ClassId) (A : Nat → Prop) (S : Hp) (a0 : Nat) (x1 : Int32) (x2 : Int32) (Q : Int32 → Hp → Prop) (h : wp_X5_threes a0 x1 x2 S Q) : Met l yX5_threes wsX5_threes ({ frames := 2, cells := 0, slots := 0, locals := 96 } : Room) (PG D κ A S [.ref a0, .int x1, .int x2]) (va_Qi Q (BG D κ A) A) 0 0 A := by
  refine Met.ofW (cc := cX5_threes) (maxL := 3) (ret := (some .int)) (by decide) rfl ?_
  intro p e s m args below meth c s₁ B hml hv
  obtain ⟨hargs, hA, hG, hK, hX⟩ := hv
  have hx := B.exec
  have hb := B.bytes
  have hr := B.returns
  have hts := atoms_spec (ws := wsX5_threes) B.pre
  have hown : s.vm.findClass RX5 = some m.cls := findClass_of_methodNamed B.named
  have hlocks := B.notSynchronized
  subst hargs
  clear B
  have hS : va_S A s.heap s.heap [] := va_S.rf
  have hl := lv_entry ([.ref a0, .int x1, .int x2]) (n := 3) (Nat.le_of_ble_eq_true rfl)
  rw [lg_entry_eq]
  generalize (lg_sl ([.ref a0, .int x1, .int x2]) ++ List.replicate (3 - (lg_sl ([.ref a0, .int x1, .int x2])).length) Slot.unset).toArray = ls at hl ⊢
  have hl : lv_has ls 3 [(0, .ref a0), (1, .int x1), (2, .int x2)] := hl
  have hG : GG D κ A S s.heap := hG
  refine lv_iconst (v := (3 : Int32)) hx hb dX5_threes_0 (by decide) ?_
  refine lv_iload_n hx hb dX5_threes_1 rfl (lv_at hl 1 rfl) ?_
  refine lv_iload_n hx hb dX5_threes_2 rfl (lv_at hl 2 rfl) ?_
  refine gc_i (va_runS (As := [.int (3 : Int32), .int x1, .int x2]) (rest := []) ⟨hx, hb, hml, hown, hts⟩ (c_X5_ofSeries l D κ A S (3 : Int32) x1 x2 _ h) (va_cwS 3 hts gX5_threes_X5_ofSeries rfl rfl rfl (by decide +kernel) ⟨Nat.le_of_ble_eq_true rfl, Nat.le_of_ble_eq_true rfl⟩) (pg_S hK hX hG (pg_A hA hS)) rfl rfl hl.1 rfl (lv_room (Nat.le_of_ble_eq_true rfl)) dX5_threes_3 ⟨Nat.le_of_ble_eq_true rfl, Nat.le_of_ble_eq_true rfl⟩) hS (fun z3 S2 H locs1 h hG hS => ?_)
  exact W.iret hx hb hr (gr_i h hG hK hX hS) hS.2.2 dX5_threes_6
set_option maxHeartbeats 4000000 in
set_option maxRecDepth 100000 in
theorem c_X5_doubles (l : Launch) (D : va_G) (κ : Nat → ClassId) (A : Nat → Prop) (S : Hp) (a0 : Nat) (x1 : Int32) (x2 : Int32) (Q : Int32 → Hp → Prop) (h : wp_X5_doubles a0 x1 x2 S Q) : Met l yX5_doubles wsX5_doubles ({ frames := 2, cells := 0, slots := 0, locals := 96 } : Room) (PG D κ A S [.ref a0, .int x1, .int x2]) (va_Qi Q (BG D κ A) A) 0 0 A := by
  refine Met.ofW (cc := cX5_doubles) (maxL := 3) (ret := (some .int)) (by decide) rfl ?_
  intro p e s m args below meth c s₁ B hml hv
  obtain ⟨hargs, hA, hG, hK, hX⟩ := hv
  have hx := B.exec
  have hb := B.bytes
  have hr := B.returns
  have hts := atoms_spec (ws := wsX5_doubles) B.pre
  have hown : s.vm.findClass RX5 = some m.cls := findClass_of_methodNamed B.named
  have hlocks := B.notSynchronized
  subst hargs
  clear B
  have hS : va_S A s.heap s.heap [] := va_S.rf
  have hl := lv_entry ([.ref a0, .int x1, .int x2]) (n := 3) (Nat.le_of_ble_eq_true rfl)
  rw [lg_entry_eq]
  generalize (lg_sl ([.ref a0, .int x1, .int x2]) ++ List.replicate (3 - (lg_sl ([.ref a0, .int x1, .int x2])).length) Slot.unset).toArray = ls at hl ⊢
  have hl : lv_has ls 3 [(0, .ref a0), (1, .int x1), (2, .int x2)] := hl
  have hG : GG D κ A S s.heap := hG
  refine lv_iconst (v := (2 : Int32)) hx hb dX5_doubles_0 (by decide) ?_
  refine lv_iload_n hx hb dX5_doubles_1 rfl (lv_at hl 1 rfl) ?_
  refine lv_iload_n hx hb dX5_doubles_2 rfl (lv_at hl 2 rfl) ?_
  refine gc_i (va_runS (As := [.int (2 : Int32), .int x1, .int x2]) (rest := []) ⟨hx, hb, hml, hown, hts⟩ (c_X5_ofSeries l D κ A S (2 : Int32) x1 x2 _ h) (va_cwS 3 hts gX5_doubles_X5_ofSeries rfl rfl rfl (by decide +kernel) ⟨Nat.le_of_ble_eq_true rfl, Nat.le_of_ble_eq_true rfl⟩) (pg_S hK hX hG (pg_A hA hS)) rfl rfl hl.1 rfl (lv_room (Nat.le_of_ble_eq_true rfl)) dX5_doubles_3 ⟨Nat.le_of_ble_eq_true rfl, Nat.le_of_ble_eq_true rfl⟩) hS (fun z3 S2 H locs1 h hG hS => ?_)
  exact W.iret hx hb hr (gr_i h hG hK hX hS) hS.2.2 dX5_doubles_6
