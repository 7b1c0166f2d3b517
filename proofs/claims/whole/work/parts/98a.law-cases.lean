/-! the 36 cases of the law -/
set_option maxHeartbeats 4000000 in
set_option maxRecDepth 100000 in
theorem law_c0 {p : Program} {l : Launch} {e : Env} {s : State} {m : MethodId} {below : List Frame} {meth : Method} {c : Code} {b L : Nat} {xs : Nat → Int32} {D : va_G} {κ : Nat → ClassId} {cL : ClassId} {x y out : Nat} (C0 : lwC p l s m c b L xs D κ cL) {i : Nat} (hi : i + 6 ≤ L) {a b' : Nat → Nat} {v : AS} {S1 S2 : Hp} {f : Nat → Int64} {H : Heap} {locs : List Loc} (X0 : lwS D κ cL s x y out a b' v S1 S2 f H locs) {C N : Nat} (hC : C + 2 ≤ 601024) (hN : N + 102 ≤ 7293034) {ls : Array Slot} (hl : lv_has ls 8 [(4, .int (nI i)), (0, .ref b), (1, .ref x), (2, .ref y), (3, .ref out)])
    (J : ∀ (a b' : Nat → Nat) (v : AS) (S1 S2 : Hp) (f : Nat → Int64) (H : Heap) (locs : List Loc) (ls : Array Slot) (C' N' : Nat), lwS D κ cL s x y out a b' v S1 S2 f H locs → C' ≤ C + 2 → N' ≤ N + 102 → lv_has ls 8 [(4, .int (nI i)), (0, .ref b), (1, .ref x), (2, .ref y), (3, .ref out)] → W p l e room_1 s m #[Value.ref b] below meth c H locs C' N' (lw_Z below #[Value.ref b] s) (F0 m 1598 ls [])) : W p l e room_1 s m #[Value.ref b] below meth c H locs C N (lw_Z below #[Value.ref b] s) (F0 m 200 ls []) := by
  obtain ⟨hx, hb, hml, hown, hts, hscr, hbl, hK, hXX, hKo, hE, hnt, hL⟩ := C0
  obtain ⟨ea, eb, hX, hM, hW, hS⟩ := X0
  subst ea
  subst eb
  have hcR : ∀ j : Nat, j ≤ 2 → C + j ≤ room_1.cells := fun j hj => by
    show C + j ≤ 601024
    omega
  have hsR : ∀ j : Nat, j ≤ 102 → N + j ≤ room_1.slots := fun j hj => by
    show N + j ≤ 7293034
    omega
  have h4 := lv_at hl 0 rfl
  have h0 := lv_at hl 1 rfl
  refine lv_aload_n hx hb dL_law_200 rfl (lv_at hl 2 rfl) ?_
  refine lw_arg hx hb hscr hbl hS hL hi h4 h0 1 (by decide) (by decide) dL_law_201 dL_law_202 dL_law_204 dL_law_205 dL_law_206 ?_
  refine lw_c1 (va_runV (As := [.int (xs (nI (i + 1)).toNatClampNeg)]) (rest := []) ⟨hx, hb, hml, hown, hts⟩ (c_X5_shop l D κ _ S1 (a 0) (xs (nI (i + 1)).toNatClampNeg) (fun r S9 => r = sp_shop v (xs (nI (i + 1)).toNatClampNeg) ∧ XI a (ef_shop v (xs (nI (i + 1)).toNatClampNeg)) S9) (x_shop hX (fun _ h => ⟨rfl, h⟩))) (cwV 1 hts gL_law_X5_shop rfl rfl rfl (by decide +kernel) ⟨Nat.le_of_ble_eq_true rfl, Nat.le_of_ble_eq_true rfl⟩) (pg_V (q := (RX5, TX5, 13)) hK hXX hW.1 (hW.A1 hS.1) (kc_6 hX.1.k0) rfl) rfl rfl hl.1 rfl (lv_room (Nat.le_of_ble_eq_true rfl)) dL_law_207 ⟨hcR 0 (by decide), hsR 0 (by decide)⟩) hW hS (fun r1 S1 H locs h1 hW hS => ?_)
  obtain ⟨h1, hX⟩ := h1
  refine lv_aload_n hx hb dL_law_210 rfl (lv_at hl 3 rfl) ?_
  refine lw_arg hx hb hscr hbl hS hL hi h4 h0 1 (by decide) (by decide) dL_law_211 dL_law_212 dL_law_214 dL_law_215 dL_law_216 ?_
  refine lw_c2 (va_runV (As := [.int (xs (nI (i + 1)).toNatClampNeg)]) (rest := [.int r1]) ⟨hx, hb, hml, hown, hts⟩ (c_X6_shop l D κ _ S2 (b' 0) (xs (nI (i + 1)).toNatClampNeg) (fun r S9 => r = sp_shop v (xs (nI (i + 1)).toNatClampNeg) ∧ MI b' (ef_shop v (xs (nI (i + 1)).toNatClampNeg)) S9) (m_shop hM (fun _ h => ⟨rfl, h⟩))) (cwV 1 hts gL_law_X6_shop rfl rfl rfl (by decide +kernel) ⟨Nat.le_of_ble_eq_true rfl, Nat.le_of_ble_eq_true rfl⟩) (pg_V (q := (RX6, TX6, 32)) hK hXX hW.2.1 (hW.A2 hS.1) (kc_7 hM.1.all.1) rfl) rfl rfl hl.1 rfl (lv_room (Nat.le_of_ble_eq_true rfl)) dL_law_217 ⟨hcR 0 (by decide), hsR 0 (by decide)⟩) hW hS (fun r2 S2 H locs h2 hW hS => ?_)
  obtain ⟨h2, hM⟩ := h2
  refine lv_icmp_eq (tgt := 1598) hx hb dL_law_220 (by decide) (fun _ => ?_) (fun hc => absurd (h1.trans h2.symm) hc)
  exact J _ _ _ _ _ _ _ _ ls _ _ ⟨rfl, rfl, hX, hM, hW, hS⟩ (by omega) (by omega) hl
set_option maxHeartbeats 4000000 in
set_option maxRecDepth 100000 in
theorem law_c1 {p : Program} {l : Launch} {e : Env} {s : State} {m : MethodId} {below : List Frame} {meth : Method} {c : Code} {b L : Nat} {xs : Nat → Int32} {D : va_G} {κ : Nat → ClassId} {cL : ClassId} {x y out : Nat} (C0 : lwC p l s m c b L xs D κ cL) {i : Nat} (hi : i + 6 ≤ L) {a b' : Nat → Nat} {v : AS} {S1 S2 : Hp} {f : Nat → Int64} {H : Heap} {locs : List Loc} (X0 : lwS D κ cL s x y out a b' v S1 S2 f H locs) {C N : Nat} (hC : C + 2 ≤ 601024) (hN : N + 102 ≤ 7293034) {ls : Array Slot} (hl : lv_has ls 8 [(4, .int (nI i)), (0, .ref b), (1, .ref x), (2, .ref y), (3, .ref out)])
    (J : ∀ (a b' : Nat → Nat) (v : AS) (S1 S2 : Hp) (f : Nat → Int64) (H : Heap) (locs : List Loc) (ls : Array Slot) (C' N' : Nat), lwS D κ cL s x y out a b' v S1 S2 f H locs → C' ≤ C + 2 → N' ≤ N + 102 → lv_has ls 8 [(4, .int (nI i)), (0, .ref b), (1, .ref x), (2, .ref y), (3, .ref out)] → W p l e room_1 s m #[Value.ref b] below meth c H locs C' N' (lw_Z below #[Value.ref b] s) (F0 m 1598 ls [])) : W p l e room_1 s m #[Value.ref b] below meth c H locs C N (lw_Z below #[Value.ref b] s) (F0 m 225 ls []) := by
  obtain ⟨hx, hb, hml, hown, hts, hscr, hbl, hK, hXX, hKo, hE, hnt, hL⟩ := C0
  obtain ⟨ea, eb, hX, hM, hW, hS⟩ := X0
  subst ea
  subst eb
  have hcR : ∀ j : Nat, j ≤ 2 → C + j ≤ room_1.cells := fun j hj => by
    show C + j ≤ 601024
    omega
  have hsR : ∀ j : Nat, j ≤ 102 → N + j ≤ room_1.slots := fun j hj => by
    show N + j ≤ 7293034
    omega
  have h4 := lv_at hl 0 rfl
  have h0 := lv_at hl 1 rfl
  refine lv_aload_n hx hb dL_law_225 rfl (lv_at hl 2 rfl) ?_
  refine lw_arg hx hb hscr hbl hS hL hi h4 h0 1 (by decide) (by decide) dL_law_226 dL_law_227 dL_law_229 dL_law_230 dL_law_231 ?_
  refine lw_arg hx hb hscr hbl hS hL hi h4 h0 2 (by decide) (by decide) dL_law_232 dL_law_233 dL_law_235 dL_law_236 dL_law_237 ?_
  refine lw_c1 (va_runV (As := [.int (xs (nI (i + 1)).toNatClampNeg), .int (xs (nI (i + 2)).toNatClampNeg)]) (rest := []) ⟨hx, hb, hml, hown, hts⟩ (c_X5_stone l D κ _ S1 (a 0) (xs (nI (i + 1)).toNatClampNeg) (xs (nI (i + 2)).toNatClampNeg) (fun r S9 => r = sp_stone v (xs (nI (i + 1)).toNatClampNeg) (xs (nI (i + 2)).toNatClampNeg) ∧ XI a v S9) (x_stone hX ⟨rfl, hX⟩)) (cwV 2 hts gL_law_X5_stone rfl rfl rfl (by decide +kernel) ⟨Nat.le_of_ble_eq_true rfl, Nat.le_of_ble_eq_true rfl⟩) (pg_V (q := (RX5, TX5, 13)) hK hXX hW.1 (hW.A1 hS.1) (kc_6 hX.1.k0) rfl) rfl rfl hl.1 rfl (lv_room (Nat.le_of_ble_eq_true rfl)) dL_law_238 ⟨hcR 0 (by decide), hsR 0 (by decide)⟩) hW hS (fun r1 S1 H locs h1 hW hS => ?_)
  obtain ⟨h1, hX⟩ := h1
  refine lv_aload_n hx hb dL_law_241 rfl (lv_at hl 3 rfl) ?_
  refine lw_arg hx hb hscr hbl hS hL hi h4 h0 1 (by decide) (by decide) dL_law_242 dL_law_243 dL_law_245 dL_law_246 dL_law_247 ?_
  refine lw_arg hx hb hscr hbl hS hL hi h4 h0 2 (by decide) (by decide) dL_law_248 dL_law_249 dL_law_251 dL_law_252 dL_law_253 ?_
  refine lw_c2 (va_runV (As := [.int (xs (nI (i + 1)).toNatClampNeg), .int (xs (nI (i + 2)).toNatClampNeg)]) (rest := [.int r1]) ⟨hx, hb, hml, hown, hts⟩ (c_X6_stone l D κ _ S2 (b' 0) (xs (nI (i + 1)).toNatClampNeg) (xs (nI (i + 2)).toNatClampNeg) (fun r S9 => r = sp_stone v (xs (nI (i + 1)).toNatClampNeg) (xs (nI (i + 2)).toNatClampNeg) ∧ MI b' v S9) (m_stone hM (fun _ h => ⟨rfl, h⟩))) (cwV 2 hts gL_law_X6_stone rfl rfl rfl (by decide +kernel) ⟨Nat.le_of_ble_eq_true rfl, Nat.le_of_ble_eq_true rfl⟩) (pg_V (q := (RX6, TX6, 32)) hK hXX hW.2.1 (hW.A2 hS.1) (kc_7 hM.1.all.1) rfl) rfl rfl hl.1 rfl (lv_room (Nat.le_of_ble_eq_true rfl)) dL_law_254 ⟨hcR 0 (by decide), hsR 0 (by decide)⟩) hW hS (fun r2 S2 H locs h2 hW hS => ?_)
  obtain ⟨h2, hM⟩ := h2
  refine lv_icmp_eq (tgt := 1598) hx hb dL_law_257 (by decide) (fun _ => ?_) (fun hc => absurd (h1.trans h2.symm) hc)
  exact J _ _ _ _ _ _ _ _ ls _ _ ⟨rfl, rfl, hX, hM, hW, hS⟩ (by omega) (by omega) hl
set_option maxHeartbeats 4000000 in
set_option maxRecDepth 100000 in
theorem law_c2 {p : Program} {l : Launch} {e : Env} {s : State} {m : MethodId} {below : List Frame} {meth : Method} {c : Code} {b L : Nat} {xs : Nat → Int32} {D : va_G} {κ : Nat → ClassId} {cL : ClassId} {x y out : Nat} (C0 : lwC p l s m c b L xs D κ cL) {i : Nat} (hi : i + 6 ≤ L) {a b' : Nat → Nat} {v : AS} {S1 S2 : Hp} {f : Nat → Int64} {H : Heap} {locs : List Loc} (X0 : lwS D κ cL s x y out a b' v S1 S2 f H locs) {C N : Nat} (hC : C + 2 ≤ 601024) (hN : N + 102 ≤ 7293034) {ls : Array Slot} (hl : lv_has ls 8 [(4, .int (nI i)), (0, .ref b), (1, .ref x), (2, .ref y), (3, .ref out)])
    (J : ∀ (a b' : Nat → Nat) (v : AS) (S1 S2 : Hp) (f : Nat → Int64) (H : Heap) (locs : List Loc) (ls : Array Slot) (C' N' : Nat), lwS D κ cL s x y out a b' v S1 S2 f H locs → C' ≤ C + 2 → N' ≤ N + 102 → lv_has ls 8 [(4, .int (nI i)), (0, .ref b), (1, .ref x), (2, .ref y), (3, .ref out)] → W p l e room_1 s m #[Value.ref b] below meth c H locs C' N' (lw_Z below #[Value.ref b] s) (F0 m 1598 ls [])) : W p l e room_1 s m #[Value.ref b] below meth c H locs C N (lw_Z below #[Value.ref b] s) (F0 m 262 ls []) := by
  obtain ⟨hx, hb, hml, hown, hts, hscr, hbl, hK, hXX, hKo, hE, hnt, hL⟩ := C0
  obtain ⟨ea, eb, hX, hM, hW, hS⟩ := X0
  subst ea
  subst eb
  have hcR : ∀ j : Nat, j ≤ 2 → C + j ≤ room_1.cells := fun j hj => by
    show C + j ≤ 601024
    omega
  have hsR : ∀ j : Nat, j ≤ 102 → N + j ≤ room_1.slots := fun j hj => by
    show N + j ≤ 7293034
    omega
  have h4 := lv_at hl 0 rfl
  have h0 := lv_at hl 1 rfl
  refine lv_aload_n hx hb dL_law_262 rfl (lv_at hl 2 rfl) ?_
  refine lw_arg hx hb hscr hbl hS hL hi h4 h0 1 (by decide) (by decide) dL_law_263 dL_law_264 dL_law_266 dL_law_267 dL_law_268 ?_
  refine lw_arg hx hb hscr hbl hS hL hi h4 h0 2 (by decide) (by decide) dL_law_269 dL_law_270 dL_law_272 dL_law_273 dL_law_274 ?_
  refine lw_c1 (va_runV (As := [.int (xs (nI (i + 1)).toNatClampNeg), .int (xs (nI (i + 2)).toNatClampNeg)]) (rest := []) ⟨hx, hb, hml, hown, hts⟩ (c_X5_lying l D κ _ S1 (a 0) (xs (nI (i + 1)).toNatClampNeg) (xs (nI (i + 2)).toNatClampNeg) (fun r S9 => r = sp_lying v (xs (nI (i + 1)).toNatClampNeg) (xs (nI (i + 2)).toNatClampNeg) ∧ XI a v S9) (x_lying hX ⟨rfl, hX⟩)) (cwV 2 hts gL_law_X5_lying rfl rfl rfl (by decide +kernel) ⟨Nat.le_of_ble_eq_true rfl, Nat.le_of_ble_eq_true rfl⟩) (pg_V (q := (RX5, TX5, 13)) hK hXX hW.1 (hW.A1 hS.1) (kc_6 hX.1.k0) rfl) rfl rfl hl.1 rfl (lv_room (Nat.le_of_ble_eq_true rfl)) dL_law_275 ⟨hcR 0 (by decide), hsR 0 (by decide)⟩) hW hS (fun r1 S1 H locs h1 hW hS => ?_)
  obtain ⟨h1, hX⟩ := h1
  refine lv_aload_n hx hb dL_law_278 rfl (lv_at hl 3 rfl) ?_
  refine lw_arg hx hb hscr hbl hS hL hi h4 h0 1 (by decide) (by decide) dL_law_279 dL_law_280 dL_law_282 dL_law_283 dL_law_284 ?_
  refine lw_arg hx hb hscr hbl hS hL hi h4 h0 2 (by decide) (by decide) dL_law_285 dL_law_286 dL_law_288 dL_law_289 dL_law_290 ?_
  refine lw_c2 (va_runV (As := [.int (xs (nI (i + 1)).toNatClampNeg), .int (xs (nI (i + 2)).toNatClampNeg)]) (rest := [.int r1]) ⟨hx, hb, hml, hown, hts⟩ (c_X6_lying l D κ _ S2 (b' 0) (xs (nI (i + 1)).toNatClampNeg) (xs (nI (i + 2)).toNatClampNeg) (fun r S9 => r = sp_lying v (xs (nI (i + 1)).toNatClampNeg) (xs (nI (i + 2)).toNatClampNeg) ∧ MI b' v S9) (m_lying hM (fun _ h => ⟨rfl, h⟩))) (cwV 2 hts gL_law_X6_lying rfl rfl rfl (by decide +kernel) ⟨Nat.le_of_ble_eq_true rfl, Nat.le_of_ble_eq_true rfl⟩) (pg_V (q := (RX6, TX6, 32)) hK hXX hW.2.1 (hW.A2 hS.1) (kc_7 hM.1.all.1) rfl) rfl rfl hl.1 rfl (lv_room (Nat.le_of_ble_eq_true rfl)) dL_law_291 ⟨hcR 0 (by decide), hsR 0 (by decide)⟩) hW hS (fun r2 S2 H locs h2 hW hS => ?_)
  obtain ⟨h2, hM⟩ := h2
  refine lv_icmp_eq (tgt := 1598) hx hb dL_law_294 (by decide) (fun _ => ?_) (fun hc => absurd (h1.trans h2.symm) hc)
  exact J _ _ _ _ _ _ _ _ ls _ _ ⟨rfl, rfl, hX, hM, hW, hS⟩ (by omega) (by omega) hl
set_option maxHeartbeats 4000000 in
set_option maxRecDepth 100000 in
theorem law_c3 {p : Program} {l : Launch} {e : Env} {s : State} {m : MethodId} {below : List Frame} {meth : Method} {c : Code} {b L : Nat} {xs : Nat → Int32} {D : va_G} {κ : Nat → ClassId} {cL : ClassId} {x y out : Nat} (C0 : lwC p l s m c b L xs D κ cL) {i : Nat} (hi : i + 6 ≤ L) {a b' : Nat → Nat} {v : AS} {S1 S2 : Hp} {f : Nat → Int64} {H : Heap} {locs : List Loc} (X0 : lwS D κ cL s x y out a b' v S1 S2 f H locs) {C N : Nat} (hC : C + 2 ≤ 601024) (hN : N + 102 ≤ 7293034) {ls : Array Slot} (hl : lv_has ls 8 [(4, .int (nI i)), (0, .ref b), (1, .ref x), (2, .ref y), (3, .ref out)])
    (J : ∀ (a b' : Nat → Nat) (v : AS) (S1 S2 : Hp) (f : Nat → Int64) (H : Heap) (locs : List Loc) (ls : Array Slot) (C' N' : Nat), lwS D κ cL s x y out a b' v S1 S2 f H locs → C' ≤ C + 2 → N' ≤ N + 102 → lv_has ls 8 [(4, .int (nI i)), (0, .ref b), (1, .ref x), (2, .ref y), (3, .ref out)] → W p l e room_1 s m #[Value.ref b] below meth c H locs C' N' (lw_Z below #[Value.ref b] s) (F0 m 1598 ls [])) : W p l e room_1 s m #[Value.ref b] below meth c H locs C N (lw_Z below #[Value.ref b] s) (F0 m 299 ls []) := by
  obtain ⟨hx, hb, hml, hown, hts, hscr, hbl, hK, hXX, hKo, hE, hnt, hL⟩ := C0
  obtain ⟨ea, eb, hX, hM, hW, hS⟩ := X0
  subst ea
  subst eb
  have hcR : ∀ j : Nat, j ≤ 2 → C + j ≤ room_1.cells := fun j hj => by
    show C + j ≤ 601024
    omega
  have hsR : ∀ j : Nat, j ≤ 102 → N + j ≤ room_1.slots := fun j hj => by
    show N + j ≤ 7293034
    omega
  have h4 := lv_at hl 0 rfl
  have h0 := lv_at hl 1 rfl
  refine lv_aload_n hx hb dL_law_299 rfl (lv_at hl 2 rfl) ?_
  refine lw_arg hx hb hscr hbl hS hL hi h4 h0 1 (by decide) (by decide) dL_law_300 dL_law_301 dL_law_303 dL_law_304 dL_law_305 ?_
  refine lw_arg hx hb hscr hbl hS hL hi h4 h0 2 (by decide) (by decide) dL_law_306 dL_law_307 dL_law_309 dL_law_310 dL_law_311 ?_
  refine lw_c1 (va_runV (As := [.int (xs (nI (i + 1)).toNatClampNeg), .int (xs (nI (i + 2)).toNatClampNeg)]) (rest := []) ⟨hx, hb, hml, hown, hts⟩ (c_X5_weighs l D κ _ S1 (a 0) (xs (nI (i + 1)).toNatClampNeg) (xs (nI (i + 2)).toNatClampNeg) (fun r S9 => r = sp_weighs v (xs (nI (i + 1)).toNatClampNeg) (xs (nI (i + 2)).toNatClampNeg) ∧ XI a v S9) (x_weighs hX ⟨rfl, hX⟩)) (cwV 2 hts gL_law_X5_weighs rfl rfl rfl (by decide +kernel) ⟨Nat.le_of_ble_eq_true rfl, Nat.le_of_ble_eq_true rfl⟩) (pg_V (q := (RX5, TX5, 13)) hK hXX hW.1 (hW.A1 hS.1) (kc_6 hX.1.k0) rfl) rfl rfl hl.1 rfl (lv_room (Nat.le_of_ble_eq_true rfl)) dL_law_312 ⟨hcR 0 (by decide), hsR 0 (by decide)⟩) hW hS (fun r1 S1 H locs h1 hW hS => ?_)
  obtain ⟨h1, hX⟩ := h1
  refine lv_aload_n hx hb dL_law_315 rfl (lv_at hl 3 rfl) ?_
  refine lw_arg hx hb hscr hbl hS hL hi h4 h0 1 (by decide) (by decide) dL_law_316 dL_law_317 dL_law_319 dL_law_320 dL_law_321 ?_
  refine lw_arg hx hb hscr hbl hS hL hi h4 h0 2 (by decide) (by decide) dL_law_322 dL_law_323 dL_law_325 dL_law_326 dL_law_327 ?_
  refine lw_c2 (va_runV (As := [.int (xs (nI (i + 1)).toNatClampNeg), .int (xs (nI (i + 2)).toNatClampNeg)]) (rest := [.int r1]) ⟨hx, hb, hml, hown, hts⟩ (c_X6_weighs l D κ _ S2 (b' 0) (xs (nI (i + 1)).toNatClampNeg) (xs (nI (i + 2)).toNatClampNeg) (fun r S9 => r = sp_weighs v (xs (nI (i + 1)).toNatClampNeg) (xs (nI (i + 2)).toNatClampNeg) ∧ MI b' v S9) (m_weighs hM (fun _ h => ⟨rfl, h⟩))) (cwV 2 hts gL_law_X6_weighs rfl rfl rfl (by decide +kernel) ⟨Nat.le_of_ble_eq_true rfl, Nat.le_of_ble_eq_true rfl⟩) (pg_V (q := (RX6, TX6, 32)) hK hXX hW.2.1 (hW.A2 hS.1) (kc_7 hM.1.all.1) rfl) rfl rfl hl.1 rfl (lv_room (Nat.le_of_ble_eq_true rfl)) dL_law_328 ⟨hcR 0 (by decide), hsR 0 (by decide)⟩) hW hS (fun r2 S2 H locs h2 hW hS => ?_)
  obtain ⟨h2, hM⟩ := h2
  refine lv_icmp_eq (tgt := 1598) hx hb dL_law_331 (by decide) (fun _ => ?_) (fun hc => absurd (h1.trans h2.symm) hc)
  exact J _ _ _ _ _ _ _ _ ls _ _ ⟨rfl, rfl, hX, hM, hW, hS⟩ (by omega) (by omega) hl
set_option maxHeartbeats 4000000 in
set_option maxRecDepth 100000 in
theorem law_c4 {p : Program} {l : Launch} {e : Env} {s : State} {m : MethodId} {below : List Frame} {meth : Method} {c : Code} {b L : Nat} {xs : Nat → Int32} {D : va_G} {κ : Nat → ClassId} {cL : ClassId} {x y out : Nat} (C0 : lwC p l s m c b L xs D κ cL) {i : Nat} (hi : i + 6 ≤ L) {a b' : Nat → Nat} {v : AS} {S1 S2 : Hp} {f : Nat → Int64} {H : Heap} {locs : List Loc} (X0 : lwS D κ cL s x y out a b' v S1 S2 f H locs) {C N : Nat} (hC : C + 2 ≤ 601024) (hN : N + 102 ≤ 7293034) {ls : Array Slot} (hl : lv_has ls 8 [(4, .int (nI i)), (0, .ref b), (1, .ref x), (2, .ref y), (3, .ref out)])
    (J : ∀ (a b' : Nat → Nat) (v : AS) (S1 S2 : Hp) (f : Nat → Int64) (H : Heap) (locs : List Loc) (ls : Array Slot) (C' N' : Nat), lwS D κ cL s x y out a b' v S1 S2 f H locs → C' ≤ C + 2 → N' ≤ N + 102 → lv_has ls 8 [(4, .int (nI i)), (0, .ref b), (1, .ref x), (2, .ref y), (3, .ref out)] → W p l e room_1 s m #[Value.ref b] below meth c H locs C' N' (lw_Z below #[Value.ref b] s) (F0 m 1598 ls [])) : W p l e room_1 s m #[Value.ref b] below meth c H locs C N (lw_Z below #[Value.ref b] s) (F0 m 336 ls []) := by
  obtain ⟨hx, hb, hml, hown, hts, hscr, hbl, hK, hXX, hKo, hE, hnt, hL⟩ := C0
  obtain ⟨ea, eb, hX, hM, hW, hS⟩ := X0
  subst ea
  subst eb
  have hcR : ∀ j : Nat, j ≤ 2 → C + j ≤ room_1.cells := fun j hj => by
    show C + j ≤ 601024
    omega
  have hsR : ∀ j : Nat, j ≤ 102 → N + j ≤ room_1.slots := fun j hj => by
    show N + j ≤ 7293034
    omega
  have h4 := lv_at hl 0 rfl
  have h0 := lv_at hl 1 rfl
  refine lv_aload_n hx hb dL_law_336 rfl (lv_at hl 2 rfl) ?_
  refine lw_arg hx hb hscr hbl hS hL hi h4 h0 1 (by decide) (by decide) dL_law_337 dL_law_338 dL_law_340 dL_law_341 dL_law_342 ?_
  refine lw_arg hx hb hscr hbl hS hL hi h4 h0 2 (by decide) (by decide) dL_law_343 dL_law_344 dL_law_346 dL_law_347 dL_law_348 ?_
  refine lw_c1 (va_runV (As := [.int (xs (nI (i + 1)).toNatClampNeg), .int (xs (nI (i + 2)).toNatClampNeg)]) (rest := []) ⟨hx, hb, hml, hown, hts⟩ (c_X5_may l D κ _ S1 (a 0) (xs (nI (i + 1)).toNatClampNeg) (xs (nI (i + 2)).toNatClampNeg) (fun r S9 => r = sp_may v (xs (nI (i + 1)).toNatClampNeg) (xs (nI (i + 2)).toNatClampNeg) ∧ XI a v S9) (x_may hX ⟨rfl, hX⟩)) (cwV 2 hts gL_law_X5_may rfl rfl rfl (by decide +kernel) ⟨Nat.le_of_ble_eq_true rfl, Nat.le_of_ble_eq_true rfl⟩) (pg_V (q := (RX5, TX5, 13)) hK hXX hW.1 (hW.A1 hS.1) (kc_6 hX.1.k0) rfl) rfl rfl hl.1 rfl (lv_room (Nat.le_of_ble_eq_true rfl)) dL_law_349 ⟨hcR 0 (by decide), hsR 0 (by decide)⟩) hW hS (fun r1 S1 H locs h1 hW hS => ?_)
  obtain ⟨h1, hX⟩ := h1
  refine lv_aload_n hx hb dL_law_352 rfl (lv_at hl 3 rfl) ?_
  refine lw_arg hx hb hscr hbl hS hL hi h4 h0 1 (by decide) (by decide) dL_law_353 dL_law_354 dL_law_356 dL_law_357 dL_law_358 ?_
  refine lw_arg hx hb hscr hbl hS hL hi h4 h0 2 (by decide) (by decide) dL_law_359 dL_law_360 dL_law_362 dL_law_363 dL_law_364 ?_
  refine lw_c2 (va_runV (As := [.int (xs (nI (i + 1)).toNatClampNeg), .int (xs (nI (i + 2)).toNatClampNeg)]) (rest := [.int r1]) ⟨hx, hb, hml, hown, hts⟩ (c_X6_may l D κ _ S2 (b' 0) (xs (nI (i + 1)).toNatClampNeg) (xs (nI (i + 2)).toNatClampNeg) (fun r S9 => r = sp_may v (xs (nI (i + 1)).toNatClampNeg) (xs (nI (i + 2)).toNatClampNeg) ∧ MI b' v S9) (m_may hM (fun _ h => ⟨rfl, h⟩))) (cwV 2 hts gL_law_X6_may rfl rfl rfl (by decide +kernel) ⟨Nat.le_of_ble_eq_true rfl, Nat.le_of_ble_eq_true rfl⟩) (pg_V (q := (RX6, TX6, 32)) hK hXX hW.2.1 (hW.A2 hS.1) (kc_7 hM.1.all.1) rfl) rfl rfl hl.1 rfl (lv_room (Nat.le_of_ble_eq_true rfl)) dL_law_365 ⟨hcR 0 (by decide), hsR 0 (by decide)⟩) hW hS (fun r2 S2 H locs h2 hW hS => ?_)
  obtain ⟨h2, hM⟩ := h2
  refine lv_icmp_eq (tgt := 1598) hx hb dL_law_368 (by decide) (fun _ => ?_) (fun hc => absurd (h1.trans h2.symm) hc)
  exact J _ _ _ _ _ _ _ _ ls _ _ ⟨rfl, rfl, hX, hM, hW, hS⟩ (by omega) (by omega) hl
set_option maxHeartbeats 4000000 in
set_option maxRecDepth 100000 in
theorem law_c5 {p : Program} {l : Launch} {e : Env} {s : State} {m : MethodId} {below : List Frame} {meth : Method} {c : Code} {b L : Nat} {xs : Nat → Int32} {D : va_G} {κ : Nat → ClassId} {cL : ClassId} {x y out : Nat} (C0 : lwC p l s m c b L xs D κ cL) {i : Nat} (hi : i + 6 ≤ L) {a b' : Nat → Nat} {v : AS} {S1 S2 : Hp} {f : Nat → Int64} {H : Heap} {locs : List Loc} (X0 : lwS D κ cL s x y out a b' v S1 S2 f H locs) {C N : Nat} (hC : C + 2 ≤ 601024) (hN : N + 102 ≤ 7293034) {ls : Array Slot} (hl : lv_has ls 8 [(4, .int (nI i)), (0, .ref b), (1, .ref x), (2, .ref y), (3, .ref out)])
    (J : ∀ (a b' : Nat → Nat) (v : AS) (S1 S2 : Hp) (f : Nat → Int64) (H : Heap) (locs : List Loc) (ls : Array Slot) (C' N' : Nat), lwS D κ cL s x y out a b' v S1 S2 f H locs → C' ≤ C + 2 → N' ≤ N + 102 → lv_has ls 8 [(4, .int (nI i)), (0, .ref b), (1, .ref x), (2, .ref y), (3, .ref out)] → W p l e room_1 s m #[Value.ref b] below meth c H locs C' N' (lw_Z below #[Value.ref b] s) (F0 m 1598 ls [])) : W p l e room_1 s m #[Value.ref b] below meth c H locs C N (lw_Z below #[Value.ref b] s) (F0 m 373 ls []) := by
  obtain ⟨hx, hb, hml, hown, hts, hscr, hbl, hK, hXX, hKo, hE, hnt, hL⟩ := C0
  obtain ⟨ea, eb, hX, hM, hW, hS⟩ := X0
  subst ea
  subst eb
  have hcR : ∀ j : Nat, j ≤ 2 → C + j ≤ room_1.cells := fun j hj => by
    show C + j ≤ 601024
    omega
  have hsR : ∀ j : Nat, j ≤ 102 → N + j ≤ room_1.slots := fun j hj => by
    show N + j ≤ 7293034
    omega
  have h4 := lv_at hl 0 rfl
  have h0 := lv_at hl 1 rfl
  refine lv_aload_n hx hb dL_law_373 rfl (lv_at hl 2 rfl) ?_
  refine lw_arg hx hb hscr hbl hS hL hi h4 h0 1 (by decide) (by decide) dL_law_374 dL_law_375 dL_law_377 dL_law_378 dL_law_379 ?_
  refine lw_arg hx hb hscr hbl hS hL hi h4 h0 2 (by decide) (by decide) dL_law_380 dL_law_381 dL_law_383 dL_law_384 dL_law_385 ?_
  refine lw_c1 (va_runV (As := [.int (xs (nI (i + 1)).toNatClampNeg), .int (xs (nI (i + 2)).toNatClampNeg)]) (rest := []) ⟨hx, hb, hml, hown, hts⟩ (c_X5_ways l D κ _ S1 (a 0) (xs (nI (i + 1)).toNatClampNeg) (xs (nI (i + 2)).toNatClampNeg) (fun r S9 => r = sp_ways v (xs (nI (i + 1)).toNatClampNeg) (xs (nI (i + 2)).toNatClampNeg) ∧ XI a v S9) (x_ways hX ⟨rfl, hX⟩)) (cwV 2 hts gL_law_X5_ways rfl rfl rfl (by decide +kernel) ⟨Nat.le_of_ble_eq_true rfl, Nat.le_of_ble_eq_true rfl⟩) (pg_V (q := (RX5, TX5, 13)) hK hXX hW.1 (hW.A1 hS.1) (kc_6 hX.1.k0) rfl) rfl rfl hl.1 rfl (lv_room (Nat.le_of_ble_eq_true rfl)) dL_law_386 ⟨hcR 0 (by decide), hsR 0 (by decide)⟩) hW hS (fun r1 S1 H locs h1 hW hS => ?_)
  obtain ⟨h1, hX⟩ := h1
  refine lv_aload_n hx hb dL_law_389 rfl (lv_at hl 3 rfl) ?_
  refine lw_arg hx hb hscr hbl hS hL hi h4 h0 1 (by decide) (by decide) dL_law_390 dL_law_391 dL_law_393 dL_law_394 dL_law_395 ?_
  refine lw_arg hx hb hscr hbl hS hL hi h4 h0 2 (by decide) (by decide) dL_law_396 dL_law_397 dL_law_399 dL_law_400 dL_law_401 ?_
  refine lw_c2 (va_runV (As := [.int (xs (nI (i + 1)).toNatClampNeg), .int (xs (nI (i + 2)).toNatClampNeg)]) (rest := [.int r1]) ⟨hx, hb, hml, hown, hts⟩ (c_X6_ways l D κ _ S2 (b' 0) (xs (nI (i + 1)).toNatClampNeg) (xs (nI (i + 2)).toNatClampNeg) (fun r S9 => r = sp_ways v (xs (nI (i + 1)).toNatClampNeg) (xs (nI (i + 2)).toNatClampNeg) ∧ MI b' v S9) (m_ways hM (fun _ h => ⟨rfl, h⟩))) (cwV 2 hts gL_law_X6_ways rfl rfl rfl (by decide +kernel) ⟨Nat.le_of_ble_eq_true rfl, Nat.le_of_ble_eq_true rfl⟩) (pg_V (q := (RX6, TX6, 32)) hK hXX hW.2.1 (hW.A2 hS.1) (kc_7 hM.1.all.1) rfl) rfl rfl hl.1 rfl (lv_room (Nat.le_of_ble_eq_true rfl)) dL_law_402 ⟨hcR 0 (by decide), hsR 0 (by decide)⟩) hW hS (fun r2 S2 H locs h2 hW hS => ?_)
  obtain ⟨h2, hM⟩ := h2
  refine lv_icmp_eq (tgt := 1598) hx hb dL_law_405 (by decide) (fun _ => ?_) (fun hc => absurd (h1.trans h2.symm) hc)
  exact J _ _ _ _ _ _ _ _ ls _ _ ⟨rfl, rfl, hX, hM, hW, hS⟩ (by omega) (by omega) hl
set_option maxHeartbeats 4000000 in
set_option maxRecDepth 100000 in
theorem law_c6 {p : Program} {l : Launch} {e : Env} {s : State} {m : MethodId} {below : List Frame} {meth : Method} {c : Code} {b L : Nat} {xs : Nat → Int32} {D : va_G} {κ : Nat → ClassId} {cL : ClassId} {x y out : Nat} (C0 : lwC p l s m c b L xs D κ cL) {i : Nat} (hi : i + 6 ≤ L) {a b' : Nat → Nat} {v : AS} {S1 S2 : Hp} {f : Nat → Int64} {H : Heap} {locs : List Loc} (X0 : lwS D κ cL s x y out a b' v S1 S2 f H locs) {C N : Nat} (hC : C + 2 ≤ 601024) (hN : N + 102 ≤ 7293034) {ls : Array Slot} (hl : lv_has ls 8 [(4, .int (nI i)), (0, .ref b), (1, .ref x), (2, .ref y), (3, .ref out)])
    (J : ∀ (a b' : Nat → Nat) (v : AS) (S1 S2 : Hp) (f : Nat → Int64) (H : Heap) (locs : List Loc) (ls : Array Slot) (C' N' : Nat), lwS D κ cL s x y out a b' v S1 S2 f H locs → C' ≤ C + 2 → N' ≤ N + 102 → lv_has ls 8 [(4, .int (nI i)), (0, .ref b), (1, .ref x), (2, .ref y), (3, .ref out)] → W p l e room_1 s m #[Value.ref b] below meth c H locs C' N' (lw_Z below #[Value.ref b] s) (F0 m 1598 ls [])) : W p l e room_1 s m #[Value.ref b] below meth c H locs C N (lw_Z below #[Value.ref b] s) (F0 m 410 ls []) := by
  obtain ⟨hx, hb, hml, hown, hts, hscr, hbl, hK, hXX, hKo, hE, hnt, hL⟩ := C0
  obtain ⟨ea, eb, hX, hM, hW, hS⟩ := X0
  subst ea
  subst eb
  have hcR : ∀ j : Nat, j ≤ 2 → C + j ≤ room_1.cells := fun j hj => by
    show C + j ≤ 601024
    omega
  have hsR : ∀ j : Nat, j ≤ 102 → N + j ≤ room_1.slots := fun j hj => by
    show N + j ≤ 7293034
    omega
  have h4 := lv_at hl 0 rfl
  have h0 := lv_at hl 1 rfl
  refine lv_aload_n hx hb dL_law_410 rfl (lv_at hl 2 rfl) ?_
  refine lw_arg hx hb hscr hbl hS hL hi h4 h0 1 (by decide) (by decide) dL_law_411 dL_law_412 dL_law_414 dL_law_415 dL_law_416 ?_
  refine lw_arg hx hb hscr hbl hS hL hi h4 h0 2 (by decide) (by decide) dL_law_417 dL_law_418 dL_law_420 dL_law_421 dL_law_422 ?_
  refine lw_c1 (va_runV (As := [.int (xs (nI (i + 1)).toNatClampNeg), .int (xs (nI (i + 2)).toNatClampNeg)]) (rest := []) ⟨hx, hb, hml, hown, hts⟩ (c_X5_first l D κ _ S1 (a 0) (xs (nI (i + 1)).toNatClampNeg) (xs (nI (i + 2)).toNatClampNeg) (fun r S9 => r = sp_first v (xs (nI (i + 1)).toNatClampNeg) (xs (nI (i + 2)).toNatClampNeg) ∧ XI a v S9) (x_first hX ⟨rfl, hX⟩)) (cwV 2 hts gL_law_X5_first rfl rfl rfl (by decide +kernel) ⟨Nat.le_of_ble_eq_true rfl, Nat.le_of_ble_eq_true rfl⟩) (pg_V (q := (RX5, TX5, 13)) hK hXX hW.1 (hW.A1 hS.1) (kc_6 hX.1.k0) rfl) rfl rfl hl.1 rfl (lv_room (Nat.le_of_ble_eq_true rfl)) dL_law_423 ⟨hcR 0 (by decide), hsR 0 (by decide)⟩) hW hS (fun r1 S1 H locs h1 hW hS => ?_)
  obtain ⟨h1, hX⟩ := h1
  refine lv_aload_n hx hb dL_law_426 rfl (lv_at hl 3 rfl) ?_
  refine lw_arg hx hb hscr hbl hS hL hi h4 h0 1 (by decide) (by decide) dL_law_427 dL_law_428 dL_law_430 dL_law_431 dL_law_432 ?_
  refine lw_arg hx hb hscr hbl hS hL hi h4 h0 2 (by decide) (by decide) dL_law_433 dL_law_434 dL_law_436 dL_law_437 dL_law_438 ?_
  refine lw_c2 (va_runV (As := [.int (xs (nI (i + 1)).toNatClampNeg), .int (xs (nI (i + 2)).toNatClampNeg)]) (rest := [.int r1]) ⟨hx, hb, hml, hown, hts⟩ (c_X6_first l D κ _ S2 (b' 0) (xs (nI (i + 1)).toNatClampNeg) (xs (nI (i + 2)).toNatClampNeg) (fun r S9 => r = sp_first v (xs (nI (i + 1)).toNatClampNeg) (xs (nI (i + 2)).toNatClampNeg) ∧ MI b' v S9) (m_first hM (fun _ h => ⟨rfl, h⟩))) (cwV 2 hts gL_law_X6_first rfl rfl rfl (by decide +kernel) ⟨Nat.le_of_ble_eq_true rfl, Nat.le_of_ble_eq_true rfl⟩) (pg_V (q := (RX6, TX6, 32)) hK hXX hW.2.1 (hW.A2 hS.1) (kc_7 hM.1.all.1) rfl) rfl rfl hl.1 rfl (lv_room (Nat.le_of_ble_eq_true rfl)) dL_law_439 ⟨hcR 0 (by decide), hsR 0 (by decide)⟩) hW hS (fun r2 S2 H locs h2 hW hS => ?_)
  obtain ⟨h2, hM⟩ := h2
  refine lv_icmp_eq (tgt := 1598) hx hb dL_law_442 (by decide) (fun _ => ?_) (fun hc => absurd (h1.trans h2.symm) hc)
  exact J _ _ _ _ _ _ _ _ ls _ _ ⟨rfl, rfl, hX, hM, hW, hS⟩ (by omega) (by omega) hl
set_option maxHeartbeats 4000000 in
set_option maxRecDepth 100000 in
theorem law_c7 {p : Program} {l : Launch} {e : Env} {s : State} {m : MethodId} {below : List Frame} {meth : Method} {c : Code} {b L : Nat} {xs : Nat → Int32} {D : va_G} {κ : Nat → ClassId} {cL : ClassId} {x y out : Nat} (C0 : lwC p l s m c b L xs D κ cL) {i : Nat} (hi : i + 6 ≤ L) {a b' : Nat → Nat} {v : AS} {S1 S2 : Hp} {f : Nat → Int64} {H : Heap} {locs : List Loc} (X0 : lwS D κ cL s x y out a b' v S1 S2 f H locs) {C N : Nat} (hC : C + 2 ≤ 601024) (hN : N + 102 ≤ 7293034) {ls : Array Slot} (hl : lv_has ls 8 [(4, .int (nI i)), (0, .ref b), (1, .ref x), (2, .ref y), (3, .ref out)])
    (J : ∀ (a b' : Nat → Nat) (v : AS) (S1 S2 : Hp) (f : Nat → Int64) (H : Heap) (locs : List Loc) (ls : Array Slot) (C' N' : Nat), lwS D κ cL s x y out a b' v S1 S2 f H locs → C' ≤ C + 2 → N' ≤ N + 102 → lv_has ls 8 [(4, .int (nI i)), (0, .ref b), (1, .ref x), (2, .ref y), (3, .ref out)] → W p l e room_1 s m #[Value.ref b] below meth c H locs C' N' (lw_Z below #[Value.ref b] s) (F0 m 1598 ls [])) : W p l e room_1 s m #[Value.ref b] below meth c H locs C N (lw_Z below #[Value.ref b] s) (F0 m 447 ls []) := by
  obtain ⟨hx, hb, hml, hown, hts, hscr, hbl, hK, hXX, hKo, hE, hnt, hL⟩ := C0
  obtain ⟨ea, eb, hX, hM, hW, hS⟩ := X0
  subst ea
  subst eb
  have hcR : ∀ j : Nat, j ≤ 2 → C + j ≤ room_1.cells := fun j hj => by
    show C + j ≤ 601024
    omega
  have hsR : ∀ j : Nat, j ≤ 102 → N + j ≤ room_1.slots := fun j hj => by
    show N + j ≤ 7293034
    omega
  have h4 := lv_at hl 0 rfl
  have h0 := lv_at hl 1 rfl
  refine lv_aload_n hx hb dL_law_447 rfl (lv_at hl 2 rfl) ?_
  refine lw_arg hx hb hscr hbl hS hL hi h4 h0 1 (by decide) (by decide) dL_law_448 dL_law_449 dL_law_451 dL_law_452 dL_law_453 ?_
  refine lw_arg hx hb hscr hbl hS hL hi h4 h0 2 (by decide) (by decide) dL_law_454 dL_law_455 dL_law_457 dL_law_458 dL_law_459 ?_
  refine lw_arg hx hb hscr hbl hS hL hi h4 h0 3 (by decide) (by decide) dL_law_460 dL_law_461 dL_law_463 dL_law_464 dL_law_465 ?_
  refine lw_c1 (va_runV (As := [.int (xs (nI (i + 1)).toNatClampNeg), .int (xs (nI (i + 2)).toNatClampNeg), .int (xs (nI (i + 3)).toNatClampNeg)]) (rest := []) ⟨hx, hb, hml, hown, hts⟩ (c_X5_lifts l D κ _ S1 (a 0) (xs (nI (i + 1)).toNatClampNeg) (xs (nI (i + 2)).toNatClampNeg) (xs (nI (i + 3)).toNatClampNeg) (fun r S9 => r = sp_lifts v (xs (nI (i + 1)).toNatClampNeg) (xs (nI (i + 2)).toNatClampNeg) (xs (nI (i + 3)).toNatClampNeg) ∧ XI a v S9) (x_lifts hX ⟨rfl, hX⟩)) (cwV 3 hts gL_law_X5_lifts rfl rfl rfl (by decide +kernel) ⟨Nat.le_of_ble_eq_true rfl, Nat.le_of_ble_eq_true rfl⟩) (pg_V (q := (RX5, TX5, 13)) hK hXX hW.1 (hW.A1 hS.1) (kc_6 hX.1.k0) rfl) rfl rfl hl.1 rfl (lv_room (Nat.le_of_ble_eq_true rfl)) dL_law_466 ⟨hcR 0 (by decide), hsR 0 (by decide)⟩) hW hS (fun r1 S1 H locs h1 hW hS => ?_)
  obtain ⟨h1, hX⟩ := h1
  refine lv_aload_n hx hb dL_law_469 rfl (lv_at hl 3 rfl) ?_
  refine lw_arg hx hb hscr hbl hS hL hi h4 h0 1 (by decide) (by decide) dL_law_470 dL_law_471 dL_law_473 dL_law_474 dL_law_475 ?_
  refine lw_arg hx hb hscr hbl hS hL hi h4 h0 2 (by decide) (by decide) dL_law_476 dL_law_477 dL_law_479 dL_law_480 dL_law_481 ?_
  refine lw_arg hx hb hscr hbl hS hL hi h4 h0 3 (by decide) (by decide) dL_law_482 dL_law_483 dL_law_485 dL_law_486 dL_law_487 ?_
  refine lw_c2 (va_runV (As := [.int (xs (nI (i + 1)).toNatClampNeg), .int (xs (nI (i + 2)).toNatClampNeg), .int (xs (nI (i + 3)).toNatClampNeg)]) (rest := [.int r1]) ⟨hx, hb, hml, hown, hts⟩ (c_X6_lifts l D κ _ S2 (b' 0) (xs (nI (i + 1)).toNatClampNeg) (xs (nI (i + 2)).toNatClampNeg) (xs (nI (i + 3)).toNatClampNeg) (fun r S9 => r = sp_lifts v (xs (nI (i + 1)).toNatClampNeg) (xs (nI (i + 2)).toNatClampNeg) (xs (nI (i + 3)).toNatClampNeg) ∧ MI b' v S9) (m_lifts hM (fun _ h => ⟨rfl, h⟩))) (cwV 3 hts gL_law_X6_lifts rfl rfl rfl (by decide +kernel) ⟨Nat.le_of_ble_eq_true rfl, Nat.le_of_ble_eq_true rfl⟩) (pg_V (q := (RX6, TX6, 32)) hK hXX hW.2.1 (hW.A2 hS.1) (kc_7 hM.1.all.1) rfl) rfl rfl hl.1 rfl (lv_room (Nat.le_of_ble_eq_true rfl)) dL_law_488 ⟨hcR 0 (by decide), hsR 0 (by decide)⟩) hW hS (fun r2 S2 H locs h2 hW hS => ?_)
  obtain ⟨h2, hM⟩ := h2
  refine lv_icmp_eq (tgt := 1598) hx hb dL_law_491 (by decide) (fun _ => ?_) (fun hc => absurd (h1.trans h2.symm) hc)
  exact J _ _ _ _ _ _ _ _ ls _ _ ⟨rfl, rfl, hX, hM, hW, hS⟩ (by omega) (by omega) hl
set_option maxHeartbeats 4000000 in
set_option maxRecDepth 100000 in
theorem law_c8 {p : Program} {l : Launch} {e : Env} {s : State} {m : MethodId} {below : List Frame} {meth : Method} {c : Code} {b L : Nat} {xs : Nat → Int32} {D : va_G} {κ : Nat → ClassId} {cL : ClassId} {x y out : Nat} (C0 : lwC p l s m c b L xs D κ cL) {i : Nat} (hi : i + 6 ≤ L) {a b' : Nat → Nat} {v : AS} {S1 S2 : Hp} {f : Nat → Int64} {H : Heap} {locs : List Loc} (X0 : lwS D κ cL s x y out a b' v S1 S2 f H locs) {C N : Nat} (hC : C + 2 ≤ 601024) (hN : N + 102 ≤ 7293034) {ls : Array Slot} (hl : lv_has ls 8 [(4, .int (nI i)), (0, .ref b), (1, .ref x), (2, .ref y), (3, .ref out)])
    (J : ∀ (a b' : Nat → Nat) (v : AS) (S1 S2 : Hp) (f : Nat → Int64) (H : Heap) (locs : List Loc) (ls : Array Slot) (C' N' : Nat), lwS D κ cL s x y out a b' v S1 S2 f H locs → C' ≤ C + 2 → N' ≤ N + 102 → lv_has ls 8 [(4, .int (nI i)), (0, .ref b), (1, .ref x), (2, .ref y), (3, .ref out)] → W p l e room_1 s m #[Value.ref b] below meth c H locs C' N' (lw_Z below #[Value.ref b] s) (F0 m 1598 ls [])) : W p l e room_1 s m #[Value.ref b] below meth c H locs C N (lw_Z below #[Value.ref b] s) (F0 m 496 ls []) := by
  obtain ⟨hx, hb, hml, hown, hts, hscr, hbl, hK, hXX, hKo, hE, hnt, hL⟩ := C0
  obtain ⟨ea, eb, hX, hM, hW, hS⟩ := X0
  subst ea
  subst eb
  have hcR : ∀ j : Nat, j ≤ 2 → C + j ≤ room_1.cells := fun j hj => by
    show C + j ≤ 601024
    omega
  have hsR : ∀ j : Nat, j ≤ 102 → N + j ≤ room_1.slots := fun j hj => by
    show N + j ≤ 7293034
    omega
  have h4 := lv_at hl 0 rfl
  have h0 := lv_at hl 1 rfl
  refine lv_aload_n hx hb dL_law_496 rfl (lv_at hl 2 rfl) ?_
  refine lw_arg hx hb hscr hbl hS hL hi h4 h0 1 (by decide) (by decide) dL_law_497 dL_law_498 dL_law_500 dL_law_501 dL_law_502 ?_
  refine lw_c1 (va_runV (As := [.int (xs (nI (i + 1)).toNatClampNeg)]) (rest := []) ⟨hx, hb, hml, hown, hts⟩ (c_X5_reach l D κ _ S1 (a 0) (xs (nI (i + 1)).toNatClampNeg) (fun r S9 => r = sp_reach v (xs (nI (i + 1)).toNatClampNeg) ∧ XI a v S9) (x_reach hX (fun _ h => ⟨rfl, h⟩))) (cwV 1 hts gL_law_X5_reach rfl rfl rfl (by decide +kernel) ⟨Nat.le_of_ble_eq_true rfl, Nat.le_of_ble_eq_true rfl⟩) (pg_V (q := (RX5, TX5, 13)) hK hXX hW.1 (hW.A1 hS.1) (kc_6 hX.1.k0) rfl) rfl rfl hl.1 rfl (lv_room (Nat.le_of_ble_eq_true rfl)) dL_law_503 ⟨hcR 0 (by decide), hsR 0 (by decide)⟩) hW hS (fun r1 S1 H locs h1 hW hS => ?_)
  obtain ⟨h1, hX⟩ := h1
  refine lv_aload_n hx hb dL_law_506 rfl (lv_at hl 3 rfl) ?_
  refine lw_arg hx hb hscr hbl hS hL hi h4 h0 1 (by decide) (by decide) dL_law_507 dL_law_508 dL_law_510 dL_law_511 dL_law_512 ?_
  refine lw_c2 (va_runV (As := [.int (xs (nI (i + 1)).toNatClampNeg)]) (rest := [.int r1]) ⟨hx, hb, hml, hown, hts⟩ (c_X6_reach l D κ _ S2 (b' 0) (xs (nI (i + 1)).toNatClampNeg) (fun r S9 => r = sp_reach v (xs (nI (i + 1)).toNatClampNeg) ∧ MI b' v S9) (m_reach hM (fun _ h => ⟨rfl, h⟩))) (cwV 1 hts gL_law_X6_reach rfl rfl rfl (by decide +kernel) ⟨Nat.le_of_ble_eq_true rfl, Nat.le_of_ble_eq_true rfl⟩) (pg_V (q := (RX6, TX6, 32)) hK hXX hW.2.1 (hW.A2 hS.1) (kc_7 hM.1.all.1) rfl) rfl rfl hl.1 rfl (lv_room (Nat.le_of_ble_eq_true rfl)) dL_law_513 ⟨hcR 0 (by decide), hsR 0 (by decide)⟩) hW hS (fun r2 S2 H locs h2 hW hS => ?_)
  obtain ⟨h2, hM⟩ := h2
  refine lv_icmp_eq (tgt := 1598) hx hb dL_law_516 (by decide) (fun _ => ?_) (fun hc => absurd (h1.trans h2.symm) hc)
  exact J _ _ _ _ _ _ _ _ ls _ _ ⟨rfl, rfl, hX, hM, hW, hS⟩ (by omega) (by omega) hl
set_option maxHeartbeats 4000000 in
set_option maxRecDepth 100000 in
theorem law_c9 {p : Program} {l : Launch} {e : Env} {s : State} {m : MethodId} {below : List Frame} {meth : Method} {c : Code} {b L : Nat} {xs : Nat → Int32} {D : va_G} {κ : Nat → ClassId} {cL : ClassId} {x y out : Nat} (C0 : lwC p l s m c b L xs D κ cL) {i : Nat} (hi : i + 6 ≤ L) {a b' : Nat → Nat} {v : AS} {S1 S2 : Hp} {f : Nat → Int64} {H : Heap} {locs : List Loc} (X0 : lwS D κ cL s x y out a b' v S1 S2 f H locs) {C N : Nat} (hC : C + 2 ≤ 601024) (hN : N + 102 ≤ 7293034) {ls : Array Slot} (hl : lv_has ls 8 [(4, .int (nI i)), (0, .ref b), (1, .ref x), (2, .ref y), (3, .ref out)])
    (J : ∀ (a b' : Nat → Nat) (v : AS) (S1 S2 : Hp) (f : Nat → Int64) (H : Heap) (locs : List Loc) (ls : Array Slot) (C' N' : Nat), lwS D κ cL s x y out a b' v S1 S2 f H locs → C' ≤ C + 2 → N' ≤ N + 102 → lv_has ls 8 [(4, .int (nI i)), (0, .ref b), (1, .ref x), (2, .ref y), (3, .ref out)] → W p l e room_1 s m #[Value.ref b] below meth c H locs C' N' (lw_Z below #[Value.ref b] s) (F0 m 1598 ls [])) : W p l e room_1 s m #[Value.ref b] below meth c H locs C N (lw_Z below #[Value.ref b] s) (F0 m 521 ls []) := by
  obtain ⟨hx, hb, hml, hown, hts, hscr, hbl, hK, hXX, hKo, hE, hnt, hL⟩ := C0
  obtain ⟨ea, eb, hX, hM, hW, hS⟩ := X0
  subst ea
  subst eb
  have hcR : ∀ j : Nat, j ≤ 2 → C + j ≤ room_1.cells := fun j hj => by
    show C + j ≤ 601024
    omega
  have hsR : ∀ j : Nat, j ≤ 102 → N + j ≤ room_1.slots := fun j hj => by
    show N + j ≤ 7293034
    omega
  have h4 := lv_at hl 0 rfl
  have h0 := lv_at hl 1 rfl
  refine lv_aload_n hx hb dL_law_521 rfl (lv_at hl 2 rfl) ?_
  refine lw_arg hx hb hscr hbl hS hL hi h4 h0 1 (by decide) (by decide) dL_law_522 dL_law_523 dL_law_525 dL_law_526 dL_law_527 ?_
  refine lw_c1 (va_runV (As := [.int (xs (nI (i + 1)).toNatClampNeg)]) (rest := []) ⟨hx, hb, hml, hown, hts⟩ (c_X5_hole l D κ _ S1 (a 0) (xs (nI (i + 1)).toNatClampNeg) (fun r S9 => r = sp_hole v (xs (nI (i + 1)).toNatClampNeg) ∧ XI a v S9) (x_hole hX (fun _ h => ⟨rfl, h⟩))) (cwV 1 hts gL_law_X5_hole rfl rfl rfl (by decide +kernel) ⟨Nat.le_of_ble_eq_true rfl, Nat.le_of_ble_eq_true rfl⟩) (pg_V (q := (RX5, TX5, 13)) hK hXX hW.1 (hW.A1 hS.1) (kc_6 hX.1.k0) rfl) rfl rfl hl.1 rfl (lv_room (Nat.le_of_ble_eq_true rfl)) dL_law_528 ⟨hcR 0 (by decide), hsR 0 (by decide)⟩) hW hS (fun r1 S1 H locs h1 hW hS => ?_)
  obtain ⟨h1, hX⟩ := h1
  refine lv_aload_n hx hb dL_law_531 rfl (lv_at hl 3 rfl) ?_
  refine lw_arg hx hb hscr hbl hS hL hi h4 h0 1 (by decide) (by decide) dL_law_532 dL_law_533 dL_law_535 dL_law_536 dL_law_537 ?_
  refine lw_c2 (va_runV (As := [.int (xs (nI (i + 1)).toNatClampNeg)]) (rest := [.int r1]) ⟨hx, hb, hml, hown, hts⟩ (c_X6_hole l D κ _ S2 (b' 0) (xs (nI (i + 1)).toNatClampNeg) (fun r S9 => r = sp_hole v (xs (nI (i + 1)).toNatClampNeg) ∧ MI b' v S9) (m_hole hM (fun _ h => ⟨rfl, h⟩))) (cwV 1 hts gL_law_X6_hole rfl rfl rfl (by decide +kernel) ⟨Nat.le_of_ble_eq_true rfl, Nat.le_of_ble_eq_true rfl⟩) (pg_V (q := (RX6, TX6, 32)) hK hXX hW.2.1 (hW.A2 hS.1) (kc_7 hM.1.all.1) rfl) rfl rfl hl.1 rfl (lv_room (Nat.le_of_ble_eq_true rfl)) dL_law_538 ⟨hcR 0 (by decide), hsR 0 (by decide)⟩) hW hS (fun r2 S2 H locs h2 hW hS => ?_)
  obtain ⟨h2, hM⟩ := h2
  refine lv_icmp_eq (tgt := 1598) hx hb dL_law_541 (by decide) (fun _ => ?_) (fun hc => absurd (h1.trans h2.symm) hc)
  exact J _ _ _ _ _ _ _ _ ls _ _ ⟨rfl, rfl, hX, hM, hW, hS⟩ (by omega) (by omega) hl
set_option maxHeartbeats 4000000 in
set_option maxRecDepth 100000 in
theorem law_c10 {p : Program} {l : Launch} {e : Env} {s : State} {m : MethodId} {below : List Frame} {meth : Method} {c : Code} {b L : Nat} {xs : Nat → Int32} {D : va_G} {κ : Nat → ClassId} {cL : ClassId} {x y out : Nat} (C0 : lwC p l s m c b L xs D κ cL) {i : Nat} (hi : i + 6 ≤ L) {a b' : Nat → Nat} {v : AS} {S1 S2 : Hp} {f : Nat → Int64} {H : Heap} {locs : List Loc} (X0 : lwS D κ cL s x y out a b' v S1 S2 f H locs) {C N : Nat} (hC : C + 2 ≤ 601024) (hN : N + 102 ≤ 7293034) {ls : Array Slot} (hl : lv_has ls 8 [(4, .int (nI i)), (0, .ref b), (1, .ref x), (2, .ref y), (3, .ref out)])
    (J : ∀ (a b' : Nat → Nat) (v : AS) (S1 S2 : Hp) (f : Nat → Int64) (H : Heap) (locs : List Loc) (ls : Array Slot) (C' N' : Nat), lwS D κ cL s x y out a b' v S1 S2 f H locs → C' ≤ C + 2 → N' ≤ N + 102 → lv_has ls 8 [(4, .int (nI i)), (0, .ref b), (1, .ref x), (2, .ref y), (3, .ref out)] → W p l e room_1 s m #[Value.ref b] below meth c H locs C' N' (lw_Z below #[Value.ref b] s) (F0 m 1598 ls [])) : W p l e room_1 s m #[Value.ref b] below meth c H locs C N (lw_Z below #[Value.ref b] s) (F0 m 546 ls []) := by
  obtain ⟨hx, hb, hml, hown, hts, hscr, hbl, hK, hXX, hKo, hE, hnt, hL⟩ := C0
  obtain ⟨ea, eb, hX, hM, hW, hS⟩ := X0
  subst ea
  subst eb
  have hcR : ∀ j : Nat, j ≤ 2 → C + j ≤ room_1.cells := fun j hj => by
    show C + j ≤ 601024
    omega
  have hsR : ∀ j : Nat, j ≤ 102 → N + j ≤ room_1.slots := fun j hj => by
    show N + j ≤ 7293034
    omega
  have h4 := lv_at hl 0 rfl
  have h0 := lv_at hl 1 rfl
  refine lv_aload_n hx hb dL_law_546 rfl (lv_at hl 2 rfl) ?_
  refine lw_arg hx hb hscr hbl hS hL hi h4 h0 1 (by decide) (by decide) dL_law_547 dL_law_548 dL_law_550 dL_law_551 dL_law_552 ?_
  refine lw_arg hx hb hscr hbl hS hL hi h4 h0 2 (by decide) (by decide) dL_law_553 dL_law_554 dL_law_556 dL_law_557 dL_law_558 ?_
  refine lw_c1 (va_runV (As := [.int (xs (nI (i + 1)).toNatClampNeg), .int (xs (nI (i + 2)).toNatClampNeg)]) (rest := []) ⟨hx, hb, hml, hown, hts⟩ (c_X5_list l D κ _ S1 (a 0) (xs (nI (i + 1)).toNatClampNeg) (xs (nI (i + 2)).toNatClampNeg) (fun r S9 => r = sp_list v (xs (nI (i + 1)).toNatClampNeg) (xs (nI (i + 2)).toNatClampNeg) ∧ XI a v S9) (x_list hX (fun _ h => ⟨rfl, h⟩))) (cwV 2 hts gL_law_X5_list rfl rfl rfl (by decide +kernel) ⟨Nat.le_of_ble_eq_true rfl, Nat.le_of_ble_eq_true rfl⟩) (pg_V (q := (RX5, TX5, 13)) hK hXX hW.1 (hW.A1 hS.1) (kc_6 hX.1.k0) rfl) rfl rfl hl.1 rfl (lv_room (Nat.le_of_ble_eq_true rfl)) dL_law_559 ⟨hcR 0 (by decide), hsR 0 (by decide)⟩) hW hS (fun r1 S1 H locs h1 hW hS => ?_)
  obtain ⟨h1, hX⟩ := h1
  refine lv_aload_n hx hb dL_law_562 rfl (lv_at hl 3 rfl) ?_
  refine lw_arg hx hb hscr hbl hS hL hi h4 h0 1 (by decide) (by decide) dL_law_563 dL_law_564 dL_law_566 dL_law_567 dL_law_568 ?_
  refine lw_arg hx hb hscr hbl hS hL hi h4 h0 2 (by decide) (by decide) dL_law_569 dL_law_570 dL_law_572 dL_law_573 dL_law_574 ?_
  refine lw_c2 (va_runV (As := [.int (xs (nI (i + 1)).toNatClampNeg), .int (xs (nI (i + 2)).toNatClampNeg)]) (rest := [.int r1]) ⟨hx, hb, hml, hown, hts⟩ (c_X6_list l D κ _ S2 (b' 0) (xs (nI (i + 1)).toNatClampNeg) (xs (nI (i + 2)).toNatClampNeg) (fun r S9 => r = sp_list v (xs (nI (i + 1)).toNatClampNeg) (xs (nI (i + 2)).toNatClampNeg) ∧ MI b' v S9) (m_list hM hX.2.1 (fun _ h => ⟨rfl, h⟩))) (cwV 2 hts gL_law_X6_list rfl rfl rfl (by decide +kernel) ⟨Nat.le_of_ble_eq_true rfl, Nat.le_of_ble_eq_true rfl⟩) (pg_V (q := (RX6, TX6, 32)) hK hXX hW.2.1 (hW.A2 hS.1) (kc_7 hM.1.all.1) rfl) rfl rfl hl.1 rfl (lv_room (Nat.le_of_ble_eq_true rfl)) dL_law_575 ⟨hcR 0 (by decide), hsR 0 (by decide)⟩) hW hS (fun r2 S2 H locs h2 hW hS => ?_)
  obtain ⟨h2, hM⟩ := h2
  refine lv_icmp_eq (tgt := 1598) hx hb dL_law_578 (by decide) (fun _ => ?_) (fun hc => absurd (h1.trans h2.symm) hc)
  exact J _ _ _ _ _ _ _ _ ls _ _ ⟨rfl, rfl, hX, hM, hW, hS⟩ (by omega) (by omega) hl
set_option maxHeartbeats 4000000 in
set_option maxRecDepth 100000 in
theorem law_c11 {p : Program} {l : Launch} {e : Env} {s : State} {m : MethodId} {below : List Frame} {meth : Method} {c : Code} {b L : Nat} {xs : Nat → Int32} {D : va_G} {κ : Nat → ClassId} {cL : ClassId} {x y out : Nat} (C0 : lwC p l s m c b L xs D κ cL) {i : Nat} (hi : i + 6 ≤ L) {a b' : Nat → Nat} {v : AS} {S1 S2 : Hp} {f : Nat → Int64} {H : Heap} {locs : List Loc} (X0 : lwS D κ cL s x y out a b' v S1 S2 f H locs) {C N : Nat} (hC : C + 2 ≤ 601024) (hN : N + 102 ≤ 7293034) {ls : Array Slot} (hl : lv_has ls 8 [(4, .int (nI i)), (0, .ref b), (1, .ref x), (2, .ref y), (3, .ref out)])
    (J : ∀ (a b' : Nat → Nat) (v : AS) (S1 S2 : Hp) (f : Nat → Int64) (H : Heap) (locs : List Loc) (ls : Array Slot) (C' N' : Nat), lwS D κ cL s x y out a b' v S1 S2 f H locs → C' ≤ C + 2 → N' ≤ N + 102 → lv_has ls 8 [(4, .int (nI i)), (0, .ref b), (1, .ref x), (2, .ref y), (3, .ref out)] → W p l e room_1 s m #[Value.ref b] below meth c H locs C' N' (lw_Z below #[Value.ref b] s) (F0 m 1598 ls [])) : W p l e room_1 s m #[Value.ref b] below meth c H locs C N (lw_Z below #[Value.ref b] s) (F0 m 583 ls []) := by
  obtain ⟨hx, hb, hml, hown, hts, hscr, hbl, hK, hXX, hKo, hE, hnt, hL⟩ := C0
  obtain ⟨ea, eb, hX, hM, hW, hS⟩ := X0
  subst ea
  subst eb
  have hcR : ∀ j : Nat, j ≤ 2 → C + j ≤ room_1.cells := fun j hj => by
    show C + j ≤ 601024
    omega
  have hsR : ∀ j : Nat, j ≤ 102 → N + j ≤ room_1.slots := fun j hj => by
    show N + j ≤ 7293034
    omega
  have h4 := lv_at hl 0 rfl
  have h0 := lv_at hl 1 rfl
  refine lv_aload_n hx hb dL_law_583 rfl (lv_at hl 2 rfl) ?_
  refine lw_arg hx hb hscr hbl hS hL hi h4 h0 1 (by decide) (by decide) dL_law_584 dL_law_585 dL_law_587 dL_law_588 dL_law_589 ?_
  refine lw_arg hx hb hscr hbl hS hL hi h4 h0 2 (by decide) (by decide) dL_law_590 dL_law_591 dL_law_593 dL_law_594 dL_law_595 ?_
  refine lw_arg hx hb hscr hbl hS hL hi h4 h0 3 (by decide) (by decide) dL_law_596 dL_law_597 dL_law_599 dL_law_600 dL_law_601 ?_
  refine lw_arg hx hb hscr hbl hS hL hi h4 h0 4 (by decide) (by decide) dL_law_602 dL_law_603 dL_law_605 dL_law_606 dL_law_607 ?_
  refine lw_c1 (va_runV (As := [.int (xs (nI (i + 1)).toNatClampNeg), .int (xs (nI (i + 2)).toNatClampNeg), .int (xs (nI (i + 3)).toNatClampNeg), .int (xs (nI (i + 4)).toNatClampNeg)]) (rest := []) ⟨hx, hb, hml, hown, hts⟩ (c_X5_cheapest l D κ _ S1 (a 0) (xs (nI (i + 1)).toNatClampNeg) (xs (nI (i + 2)).toNatClampNeg) (xs (nI (i + 3)).toNatClampNeg) (xs (nI (i + 4)).toNatClampNeg) (fun r S9 => r = sp_cheap v (xs (nI (i + 1)).toNatClampNeg) (xs (nI (i + 2)).toNatClampNeg) (xs (nI (i + 3)).toNatClampNeg) (xs (nI (i + 4)).toNatClampNeg) ∧ XI a v S9) (x_cheapest hX (fun _ h => ⟨rfl, h⟩))) (cwV 4 hts gL_law_X5_cheapest rfl rfl rfl (by decide +kernel) ⟨Nat.le_of_ble_eq_true rfl, Nat.le_of_ble_eq_true rfl⟩) (pg_V (q := (RX5, TX5, 13)) hK hXX hW.1 (hW.A1 hS.1) (kc_6 hX.1.k0) rfl) rfl rfl hl.1 rfl (lv_room (Nat.le_of_ble_eq_true rfl)) dL_law_608 ⟨hcR 0 (by decide), hsR 0 (by decide)⟩) hW hS (fun r1 S1 H locs h1 hW hS => ?_)
  obtain ⟨h1, hX⟩ := h1
  refine lv_aload_n hx hb dL_law_611 rfl (lv_at hl 3 rfl) ?_
  refine lw_arg hx hb hscr hbl hS hL hi h4 h0 1 (by decide) (by decide) dL_law_612 dL_law_613 dL_law_615 dL_law_616 dL_law_617 ?_
  refine lw_arg hx hb hscr hbl hS hL hi h4 h0 2 (by decide) (by decide) dL_law_618 dL_law_619 dL_law_621 dL_law_622 dL_law_623 ?_
  refine lw_arg hx hb hscr hbl hS hL hi h4 h0 3 (by decide) (by decide) dL_law_624 dL_law_625 dL_law_627 dL_law_628 dL_law_629 ?_
  refine lw_arg hx hb hscr hbl hS hL hi h4 h0 4 (by decide) (by decide) dL_law_630 dL_law_631 dL_law_633 dL_law_634 dL_law_635 ?_
  refine lw_c2 (va_runV (As := [.int (xs (nI (i + 1)).toNatClampNeg), .int (xs (nI (i + 2)).toNatClampNeg), .int (xs (nI (i + 3)).toNatClampNeg), .int (xs (nI (i + 4)).toNatClampNeg)]) (rest := [.int r1]) ⟨hx, hb, hml, hown, hts⟩ (c_X6_cheapest l D κ _ S2 (b' 0) (xs (nI (i + 1)).toNatClampNeg) (xs (nI (i + 2)).toNatClampNeg) (xs (nI (i + 3)).toNatClampNeg) (xs (nI (i + 4)).toNatClampNeg) (fun r S9 => r = sp_cheap v (xs (nI (i + 1)).toNatClampNeg) (xs (nI (i + 2)).toNatClampNeg) (xs (nI (i + 3)).toNatClampNeg) (xs (nI (i + 4)).toNatClampNeg) ∧ MI b' v S9) (m_cheapest hM hX.2.1 (fun _ h => ⟨rfl, h⟩))) (cwV 4 hts gL_law_X6_cheapest rfl rfl rfl (by decide +kernel) ⟨Nat.le_of_ble_eq_true rfl, Nat.le_of_ble_eq_true rfl⟩) (pg_V (q := (RX6, TX6, 32)) hK hXX hW.2.1 (hW.A2 hS.1) (kc_7 hM.1.all.1) rfl) rfl rfl hl.1 rfl (lv_room (Nat.le_of_ble_eq_true rfl)) dL_law_636 ⟨hcR 0 (by decide), hsR 0 (by decide)⟩) hW hS (fun r2 S2 H locs h2 hW hS => ?_)
  obtain ⟨h2, hM⟩ := h2
  refine lv_icmp_eq (tgt := 1598) hx hb dL_law_639 (by decide) (fun _ => ?_) (fun hc => absurd (h1.trans h2.symm) hc)
  exact J _ _ _ _ _ _ _ _ ls _ _ ⟨rfl, rfl, hX, hM, hW, hS⟩ (by omega) (by omega) hl
set_option maxHeartbeats 4000000 in
set_option maxRecDepth 100000 in
theorem law_c12 {p : Program} {l : Launch} {e : Env} {s : State} {m : MethodId} {below : List Frame} {meth : Method} {c : Code} {b L : Nat} {xs : Nat → Int32} {D : va_G} {κ : Nat → ClassId} {cL : ClassId} {x y out : Nat} (C0 : lwC p l s m c b L xs D κ cL) {i : Nat} (hi : i + 6 ≤ L) {a b' : Nat → Nat} {v : AS} {S1 S2 : Hp} {f : Nat → Int64} {H : Heap} {locs : List Loc} (X0 : lwS D κ cL s x y out a b' v S1 S2 f H locs) {C N : Nat} (hC : C + 2 ≤ 601024) (hN : N + 102 ≤ 7293034) {ls : Array Slot} (hl : lv_has ls 8 [(4, .int (nI i)), (0, .ref b), (1, .ref x), (2, .ref y), (3, .ref out)])
    (J : ∀ (a b' : Nat → Nat) (v : AS) (S1 S2 : Hp) (f : Nat → Int64) (H : Heap) (locs : List Loc) (ls : Array Slot) (C' N' : Nat), lwS D κ cL s x y out a b' v S1 S2 f H locs → C' ≤ C + 2 → N' ≤ N + 102 → lv_has ls 8 [(4, .int (nI i)), (0, .ref b), (1, .ref x), (2, .ref y), (3, .ref out)] → W p l e room_1 s m #[Value.ref b] below meth c H locs C' N' (lw_Z below #[Value.ref b] s) (F0 m 1598 ls [])) : W p l e room_1 s m #[Value.ref b] below meth c H locs C N (lw_Z below #[Value.ref b] s) (F0 m 644 ls []) := by
  obtain ⟨hx, hb, hml, hown, hts, hscr, hbl, hK, hXX, hKo, hE, hnt, hL⟩ := C0
  obtain ⟨ea, eb, hX, hM, hW, hS⟩ := X0
  subst ea
  subst eb
  have hcR : ∀ j : Nat, j ≤ 2 → C + j ≤ room_1.cells := fun j hj => by
    show C + j ≤ 601024
    omega
  have hsR : ∀ j : Nat, j ≤ 102 → N + j ≤ room_1.slots := fun j hj => by
    show N + j ≤ 7293034
    omega
  have h4 := lv_at hl 0 rfl
  have h0 := lv_at hl 1 rfl
  refine lv_aload_n hx hb dL_law_644 rfl (lv_at hl 2 rfl) ?_
  refine lw_arg hx hb hscr hbl hS hL hi h4 h0 1 (by decide) (by decide) dL_law_645 dL_law_646 dL_law_648 dL_law_649 dL_law_650 ?_
  refine lw_arg hx hb hscr hbl hS hL hi h4 h0 2 (by decide) (by decide) dL_law_651 dL_law_652 dL_law_654 dL_law_655 dL_law_656 ?_
  refine lw_c1 (va_runV (As := [.int (xs (nI (i + 1)).toNatClampNeg), .int (xs (nI (i + 2)).toNatClampNeg)]) (rest := []) ⟨hx, hb, hml, hown, hts⟩ (c_X5_threes l D κ _ S1 (a 0) (xs (nI (i + 1)).toNatClampNeg) (xs (nI (i + 2)).toNatClampNeg) (fun r S9 => r = sp_ser 3 (xs (nI (i + 1)).toNatClampNeg) (xs (nI (i + 2)).toNatClampNeg) ∧ XI a v S9) (x_threes _ ⟨rfl, hX⟩)) (cwV 2 hts gL_law_X5_threes rfl rfl rfl (by decide +kernel) ⟨Nat.le_of_ble_eq_true rfl, Nat.le_of_ble_eq_true rfl⟩) (pg_V (q := (RX5, TX5, 13)) hK hXX hW.1 (hW.A1 hS.1) (kc_6 hX.1.k0) rfl) rfl rfl hl.1 rfl (lv_room (Nat.le_of_ble_eq_true rfl)) dL_law_657 ⟨hcR 0 (by decide), hsR 0 (by decide)⟩) hW hS (fun r1 S1 H locs h1 hW hS => ?_)
  obtain ⟨h1, hX⟩ := h1
  refine lv_aload_n hx hb dL_law_660 rfl (lv_at hl 3 rfl) ?_
  refine lw_arg hx hb hscr hbl hS hL hi h4 h0 1 (by decide) (by decide) dL_law_661 dL_law_662 dL_law_664 dL_law_665 dL_law_666 ?_
  refine lw_arg hx hb hscr hbl hS hL hi h4 h0 2 (by decide) (by decide) dL_law_667 dL_law_668 dL_law_670 dL_law_671 dL_law_672 ?_
  refine lw_c2 (va_runV (As := [.int (xs (nI (i + 1)).toNatClampNeg), .int (xs (nI (i + 2)).toNatClampNeg)]) (rest := [.int r1]) ⟨hx, hb, hml, hown, hts⟩ (c_X6_threes l D κ _ S2 (b' 0) (xs (nI (i + 1)).toNatClampNeg) (xs (nI (i + 2)).toNatClampNeg) (fun r S9 => r = sp_ser 3 (xs (nI (i + 1)).toNatClampNeg) (xs (nI (i + 2)).toNatClampNeg) ∧ MI b' v S9) (m_threes _ ⟨rfl, hM⟩)) (cwV 2 hts gL_law_X6_threes rfl rfl rfl (by decide +kernel) ⟨Nat.le_of_ble_eq_true rfl, Nat.le_of_ble_eq_true rfl⟩) (pg_V (q := (RX6, TX6, 32)) hK hXX hW.2.1 (hW.A2 hS.1) (kc_7 hM.1.all.1) rfl) rfl rfl hl.1 rfl (lv_room (Nat.le_of_ble_eq_true rfl)) dL_law_673 ⟨hcR 0 (by decide), hsR 0 (by decide)⟩) hW hS (fun r2 S2 H locs h2 hW hS => ?_)
  obtain ⟨h2, hM⟩ := h2
  refine lv_icmp_eq (tgt := 1598) hx hb dL_law_676 (by decide) (fun _ => ?_) (fun hc => absurd (h1.trans h2.symm) hc)
  exact J _ _ _ _ _ _ _ _ ls _ _ ⟨rfl, rfl, hX, hM, hW, hS⟩ (by omega) (by omega) hl
set_option maxHeartbeats 4000000 in
set_option maxRecDepth 100000 in
theorem law_c13 {p : Program} {l : Launch} {e : Env} {s : State} {m : MethodId} {below : List Frame} {meth : Method} {c : Code} {b L : Nat} {xs : Nat → Int32} {D : va_G} {κ : Nat → ClassId} {cL : ClassId} {x y out : Nat} (C0 : lwC p l s m c b L xs D κ cL) {i : Nat} (hi : i + 6 ≤ L) {a b' : Nat → Nat} {v : AS} {S1 S2 : Hp} {f : Nat → Int64} {H : Heap} {locs : List Loc} (X0 : lwS D κ cL s x y out a b' v S1 S2 f H locs) {C N : Nat} (hC : C + 2 ≤ 601024) (hN : N + 102 ≤ 7293034) {ls : Array Slot} (hl : lv_has ls 8 [(4, .int (nI i)), (0, .ref b), (1, .ref x), (2, .ref y), (3, .ref out)])
    (J : ∀ (a b' : Nat → Nat) (v : AS) (S1 S2 : Hp) (f : Nat → Int64) (H : Heap) (locs : List Loc) (ls : Array Slot) (C' N' : Nat), lwS D κ cL s x y out a b' v S1 S2 f H locs → C' ≤ C + 2 → N' ≤ N + 102 → lv_has ls 8 [(4, .int (nI i)), (0, .ref b), (1, .ref x), (2, .ref y), (3, .ref out)] → W p l e room_1 s m #[Value.ref b] below meth c H locs C' N' (lw_Z below #[Value.ref b] s) (F0 m 1598 ls [])) : W p l e room_1 s m #[Value.ref b] below meth c H locs C N (lw_Z below #[Value.ref b] s) (F0 m 681 ls []) := by
  obtain ⟨hx, hb, hml, hown, hts, hscr, hbl, hK, hXX, hKo, hE, hnt, hL⟩ := C0
  obtain ⟨ea, eb, hX, hM, hW, hS⟩ := X0
  subst ea
  subst eb
  have hcR : ∀ j : Nat, j ≤ 2 → C + j ≤ room_1.cells := fun j hj => by
    show C + j ≤ 601024
    omega
  have hsR : ∀ j : Nat, j ≤ 102 → N + j ≤ room_1.slots := fun j hj => by
    show N + j ≤ 7293034
    omega
  have h4 := lv_at hl 0 rfl
  have h0 := lv_at hl 1 rfl
  refine lv_aload_n hx hb dL_law_681 rfl (lv_at hl 2 rfl) ?_
  refine lw_arg hx hb hscr hbl hS hL hi h4 h0 1 (by decide) (by decide) dL_law_682 dL_law_683 dL_law_685 dL_law_686 dL_law_687 ?_
  refine lw_arg hx hb hscr hbl hS hL hi h4 h0 2 (by decide) (by decide) dL_law_688 dL_law_689 dL_law_691 dL_law_692 dL_law_693 ?_
  refine lw_c1 (va_runV (As := [.int (xs (nI (i + 1)).toNatClampNeg), .int (xs (nI (i + 2)).toNatClampNeg)]) (rest := []) ⟨hx, hb, hml, hown, hts⟩ (c_X5_doubles l D κ _ S1 (a 0) (xs (nI (i + 1)).toNatClampNeg) (xs (nI (i + 2)).toNatClampNeg) (fun r S9 => r = sp_ser 2 (xs (nI (i + 1)).toNatClampNeg) (xs (nI (i + 2)).toNatClampNeg) ∧ XI a v S9) (x_doubles _ ⟨rfl, hX⟩)) (cwV 2 hts gL_law_X5_doubles rfl rfl rfl (by decide +kernel) ⟨Nat.le_of_ble_eq_true rfl, Nat.le_of_ble_eq_true rfl⟩) (pg_V (q := (RX5, TX5, 13)) hK hXX hW.1 (hW.A1 hS.1) (kc_6 hX.1.k0) rfl) rfl rfl hl.1 rfl (lv_room (Nat.le_of_ble_eq_true rfl)) dL_law_694 ⟨hcR 0 (by decide), hsR 0 (by decide)⟩) hW hS (fun r1 S1 H locs h1 hW hS => ?_)
  obtain ⟨h1, hX⟩ := h1
  refine lv_aload_n hx hb dL_law_697 rfl (lv_at hl 3 rfl) ?_
  refine lw_arg hx hb hscr hbl hS hL hi h4 h0 1 (by decide) (by decide) dL_law_698 dL_law_699 dL_law_701 dL_law_702 dL_law_703 ?_
  refine lw_arg hx hb hscr hbl hS hL hi h4 h0 2 (by decide) (by decide) dL_law_704 dL_law_705 dL_law_707 dL_law_708 dL_law_709 ?_
  refine lw_c2 (va_runV (As := [.int (xs (nI (i + 1)).toNatClampNeg), .int (xs (nI (i + 2)).toNatClampNeg)]) (rest := [.int r1]) ⟨hx, hb, hml, hown, hts⟩ (c_X6_doubles l D κ _ S2 (b' 0) (xs (nI (i + 1)).toNatClampNeg) (xs (nI (i + 2)).toNatClampNeg) (fun r S9 => r = sp_ser 2 (xs (nI (i + 1)).toNatClampNeg) (xs (nI (i + 2)).toNatClampNeg) ∧ MI b' v S9) (m_doubles _ ⟨rfl, hM⟩)) (cwV 2 hts gL_law_X6_doubles rfl rfl rfl (by decide +kernel) ⟨Nat.le_of_ble_eq_true rfl, Nat.le_of_ble_eq_true rfl⟩) (pg_V (q := (RX6, TX6, 32)) hK hXX hW.2.1 (hW.A2 hS.1) (kc_7 hM.1.all.1) rfl) rfl rfl hl.1 rfl (lv_room (Nat.le_of_ble_eq_true rfl)) dL_law_710 ⟨hcR 0 (by decide), hsR 0 (by decide)⟩) hW hS (fun r2 S2 H locs h2 hW hS => ?_)
  obtain ⟨h2, hM⟩ := h2
  refine lv_icmp_eq (tgt := 1598) hx hb dL_law_713 (by decide) (fun _ => ?_) (fun hc => absurd (h1.trans h2.symm) hc)
  exact J _ _ _ _ _ _ _ _ ls _ _ ⟨rfl, rfl, hX, hM, hW, hS⟩ (by omega) (by omega) hl
set_option maxHeartbeats 4000000 in
set_option maxRecDepth 100000 in
theorem law_c14 {p : Program} {l : Launch} {e : Env} {s : State} {m : MethodId} {below : List Frame} {meth : Method} {c : Code} {b L : Nat} {xs : Nat → Int32} {D : va_G} {κ : Nat → ClassId} {cL : ClassId} {x y out : Nat} (C0 : lwC p l s m c b L xs D κ cL) {i : Nat} (hi : i + 6 ≤ L) {a b' : Nat → Nat} {v : AS} {S1 S2 : Hp} {f : Nat → Int64} {H : Heap} {locs : List Loc} (X0 : lwS D κ cL s x y out a b' v S1 S2 f H locs) {C N : Nat} (hC : C + 2 ≤ 601024) (hN : N + 102 ≤ 7293034) {ls : Array Slot} (hl : lv_has ls 8 [(4, .int (nI i)), (0, .ref b), (1, .ref x), (2, .ref y), (3, .ref out)])
    (J : ∀ (a b' : Nat → Nat) (v : AS) (S1 S2 : Hp) (f : Nat → Int64) (H : Heap) (locs : List Loc) (ls : Array Slot) (C' N' : Nat), lwS D κ cL s x y out a b' v S1 S2 f H locs → C' ≤ C + 2 → N' ≤ N + 102 → lv_has ls 8 [(4, .int (nI i)), (0, .ref b), (1, .ref x), (2, .ref y), (3, .ref out)] → W p l e room_1 s m #[Value.ref b] below meth c H locs C' N' (lw_Z below #[Value.ref b] s) (F0 m 1598 ls [])) : W p l e room_1 s m #[Value.ref b] below meth c H locs C N (lw_Z below #[Value.ref b] s) (F0 m 718 ls []) := by
  obtain ⟨hx, hb, hml, hown, hts, hscr, hbl, hK, hXX, hKo, hE, hnt, hL⟩ := C0
  obtain ⟨ea, eb, hX, hM, hW, hS⟩ := X0
  subst ea
  subst eb
  have hcR : ∀ j : Nat, j ≤ 2 → C + j ≤ room_1.cells := fun j hj => by
    show C + j ≤ 601024
    omega
  have hsR : ∀ j : Nat, j ≤ 102 → N + j ≤ room_1.slots := fun j hj => by
    show N + j ≤ 7293034
    omega
  have h4 := lv_at hl 0 rfl
  have h0 := lv_at hl 1 rfl
  refine lv_aload_n hx hb dL_law_718 rfl (lv_at hl 2 rfl) ?_
  refine lw_arg hx hb hscr hbl hS hL hi h4 h0 1 (by decide) (by decide) dL_law_719 dL_law_720 dL_law_722 dL_law_723 dL_law_724 ?_
  refine lw_arg hx hb hscr hbl hS hL hi h4 h0 2 (by decide) (by decide) dL_law_725 dL_law_726 dL_law_728 dL_law_729 dL_law_730 ?_
  refine lw_c1 (va_runV (As := [.int (xs (nI (i + 1)).toNatClampNeg), .int (xs (nI (i + 2)).toNatClampNeg)]) (rest := []) ⟨hx, hb, hml, hown, hts⟩ (c_X5_digits l D κ _ S1 (a 0) (xs (nI (i + 1)).toNatClampNeg) (xs (nI (i + 2)).toNatClampNeg) (fun r S9 => r = sp_digits (xs (nI (i + 1)).toNatClampNeg) (xs (nI (i + 2)).toNatClampNeg) ∧ XI a v S9) (x_digits _ ⟨rfl, hX⟩)) (cwV 2 hts gL_law_X5_digits rfl rfl rfl (by decide +kernel) ⟨Nat.le_of_ble_eq_true rfl, Nat.le_of_ble_eq_true rfl⟩) (pg_V (q := (RX5, TX5, 13)) hK hXX hW.1 (hW.A1 hS.1) (kc_6 hX.1.k0) rfl) rfl rfl hl.1 rfl (lv_room (Nat.le_of_ble_eq_true rfl)) dL_law_731 ⟨hcR 0 (by decide), hsR 0 (by decide)⟩) hW hS (fun r1 S1 H locs h1 hW hS => ?_)
  obtain ⟨h1, hX⟩ := h1
  refine lv_aload_n hx hb dL_law_734 rfl (lv_at hl 3 rfl) ?_
  refine lw_arg hx hb hscr hbl hS hL hi h4 h0 1 (by decide) (by decide) dL_law_735 dL_law_736 dL_law_738 dL_law_739 dL_law_740 ?_
  refine lw_arg hx hb hscr hbl hS hL hi h4 h0 2 (by decide) (by decide) dL_law_741 dL_law_742 dL_law_744 dL_law_745 dL_law_746 ?_
  refine lw_c2 (va_runV (As := [.int (xs (nI (i + 1)).toNatClampNeg), .int (xs (nI (i + 2)).toNatClampNeg)]) (rest := [.int r1]) ⟨hx, hb, hml, hown, hts⟩ (c_X6_digits l D κ _ S2 (b' 0) (xs (nI (i + 1)).toNatClampNeg) (xs (nI (i + 2)).toNatClampNeg) (fun r S9 => r = sp_digits (xs (nI (i + 1)).toNatClampNeg) (xs (nI (i + 2)).toNatClampNeg) ∧ MI b' v S9) (m_digits _ ⟨rfl, hM⟩)) (cwV 2 hts gL_law_X6_digits rfl rfl rfl (by decide +kernel) ⟨Nat.le_of_ble_eq_true rfl, Nat.le_of_ble_eq_true rfl⟩) (pg_V (q := (RX6, TX6, 32)) hK hXX hW.2.1 (hW.A2 hS.1) (kc_7 hM.1.all.1) rfl) rfl rfl hl.1 rfl (lv_room (Nat.le_of_ble_eq_true rfl)) dL_law_747 ⟨hcR 0 (by decide), hsR 0 (by decide)⟩) hW hS (fun r2 S2 H locs h2 hW hS => ?_)
  obtain ⟨h2, hM⟩ := h2
  refine lv_icmp_eq (tgt := 1598) hx hb dL_law_750 (by decide) (fun _ => ?_) (fun hc => absurd (h1.trans h2.symm) hc)
  exact J _ _ _ _ _ _ _ _ ls _ _ ⟨rfl, rfl, hX, hM, hW, hS⟩ (by omega) (by omega) hl
set_option maxHeartbeats 4000000 in
set_option maxRecDepth 100000 in
theorem law_c15 {p : Program} {l : Launch} {e : Env} {s : State} {m : MethodId} {below : List Frame} {meth : Method} {c : Code} {b L : Nat} {xs : Nat → Int32} {D : va_G} {κ : Nat → ClassId} {cL : ClassId} {x y out : Nat} (C0 : lwC p l s m c b L xs D κ cL) {i : Nat} (hi : i + 6 ≤ L) {a b' : Nat → Nat} {v : AS} {S1 S2 : Hp} {f : Nat → Int64} {H : Heap} {locs : List Loc} (X0 : lwS D κ cL s x y out a b' v S1 S2 f H locs) {C N : Nat} (hC : C + 2 ≤ 601024) (hN : N + 102 ≤ 7293034) {ls : Array Slot} (hl : lv_has ls 8 [(4, .int (nI i)), (0, .ref b), (1, .ref x), (2, .ref y), (3, .ref out)])
    (J : ∀ (a b' : Nat → Nat) (v : AS) (S1 S2 : Hp) (f : Nat → Int64) (H : Heap) (locs : List Loc) (ls : Array Slot) (C' N' : Nat), lwS D κ cL s x y out a b' v S1 S2 f H locs → C' ≤ C + 2 → N' ≤ N + 102 → lv_has ls 8 [(4, .int (nI i)), (0, .ref b), (1, .ref x), (2, .ref y), (3, .ref out)] → W p l e room_1 s m #[Value.ref b] below meth c H locs C' N' (lw_Z below #[Value.ref b] s) (F0 m 1598 ls [])) : W p l e room_1 s m #[Value.ref b] below meth c H locs C N (lw_Z below #[Value.ref b] s) (F0 m 755 ls []) := by
  obtain ⟨hx, hb, hml, hown, hts, hscr, hbl, hK, hXX, hKo, hE, hnt, hL⟩ := C0
  obtain ⟨ea, eb, hX, hM, hW, hS⟩ := X0
  subst ea
  subst eb
  have hcR : ∀ j : Nat, j ≤ 2 → C + j ≤ room_1.cells := fun j hj => by
    show C + j ≤ 601024
    omega
  have hsR : ∀ j : Nat, j ≤ 102 → N + j ≤ room_1.slots := fun j hj => by
    show N + j ≤ 7293034
    omega
  have h4 := lv_at hl 0 rfl
  have h0 := lv_at hl 1 rfl
  refine lv_aload_n hx hb dL_law_755 rfl (lv_at hl 2 rfl) ?_
  refine lw_arg hx hb hscr hbl hS hL hi h4 h0 1 (by decide) (by decide) dL_law_756 dL_law_757 dL_law_759 dL_law_760 dL_law_761 ?_
  refine lw_arg hx hb hscr hbl hS hL hi h4 h0 2 (by decide) (by decide) dL_law_762 dL_law_763 dL_law_765 dL_law_766 dL_law_767 ?_
  refine lw_c1 (va_runV (As := [.int (xs (nI (i + 1)).toNatClampNeg), .int (xs (nI (i + 2)).toNatClampNeg)]) (rest := []) ⟨hx, hb, hml, hown, hts⟩ (c_X5_added l D κ _ S1 (a 0) (xs (nI (i + 1)).toNatClampNeg) (xs (nI (i + 2)).toNatClampNeg) (fun r S9 => r = sp_added (xs (nI (i + 1)).toNatClampNeg) (xs (nI (i + 2)).toNatClampNeg) ∧ XI a v S9) (x_added _ ⟨rfl, hX⟩)) (cwV 2 hts gL_law_X5_added rfl rfl rfl (by decide +kernel) ⟨Nat.le_of_ble_eq_true rfl, Nat.le_of_ble_eq_true rfl⟩) (pg_V (q := (RX5, TX5, 13)) hK hXX hW.1 (hW.A1 hS.1) (kc_6 hX.1.k0) rfl) rfl rfl hl.1 rfl (lv_room (Nat.le_of_ble_eq_true rfl)) dL_law_768 ⟨hcR 0 (by decide), hsR 0 (by decide)⟩) hW hS (fun r1 S1 H locs h1 hW hS => ?_)
  obtain ⟨h1, hX⟩ := h1
  refine lv_aload_n hx hb dL_law_771 rfl (lv_at hl 3 rfl) ?_
  refine lw_arg hx hb hscr hbl hS hL hi h4 h0 1 (by decide) (by decide) dL_law_772 dL_law_773 dL_law_775 dL_law_776 dL_law_777 ?_
  refine lw_arg hx hb hscr hbl hS hL hi h4 h0 2 (by decide) (by decide) dL_law_778 dL_law_779 dL_law_781 dL_law_782 dL_law_783 ?_
  refine lw_c2 (va_runV (As := [.int (xs (nI (i + 1)).toNatClampNeg), .int (xs (nI (i + 2)).toNatClampNeg)]) (rest := [.int r1]) ⟨hx, hb, hml, hown, hts⟩ (c_X6_added l D κ _ S2 (b' 0) (xs (nI (i + 1)).toNatClampNeg) (xs (nI (i + 2)).toNatClampNeg) (fun r S9 => r = sp_added (xs (nI (i + 1)).toNatClampNeg) (xs (nI (i + 2)).toNatClampNeg) ∧ MI b' v S9) (m_added _ ⟨rfl, hM⟩)) (cwV 2 hts gL_law_X6_added rfl rfl rfl (by decide +kernel) ⟨Nat.le_of_ble_eq_true rfl, Nat.le_of_ble_eq_true rfl⟩) (pg_V (q := (RX6, TX6, 32)) hK hXX hW.2.1 (hW.A2 hS.1) (kc_7 hM.1.all.1) rfl) rfl rfl hl.1 rfl (lv_room (Nat.le_of_ble_eq_true rfl)) dL_law_784 ⟨hcR 0 (by decide), hsR 0 (by decide)⟩) hW hS (fun r2 S2 H locs h2 hW hS => ?_)
  obtain ⟨h2, hM⟩ := h2
  refine lv_icmp_eq (tgt := 1598) hx hb dL_law_787 (by decide) (fun _ => ?_) (fun hc => absurd (h1.trans h2.symm) hc)
  exact J _ _ _ _ _ _ _ _ ls _ _ ⟨rfl, rfl, hX, hM, hW, hS⟩ (by omega) (by omega) hl
set_option maxHeartbeats 4000000 in
set_option maxRecDepth 100000 in
theorem law_c16 {p : Program} {l : Launch} {e : Env} {s : State} {m : MethodId} {below : List Frame} {meth : Method} {c : Code} {b L : Nat} {xs : Nat → Int32} {D : va_G} {κ : Nat → ClassId} {cL : ClassId} {x y out : Nat} (C0 : lwC p l s m c b L xs D κ cL) {i : Nat} (hi : i + 6 ≤ L) {a b' : Nat → Nat} {v : AS} {S1 S2 : Hp} {f : Nat → Int64} {H : Heap} {locs : List Loc} (X0 : lwS D κ cL s x y out a b' v S1 S2 f H locs) {C N : Nat} (hC : C + 2 ≤ 601024) (hN : N + 102 ≤ 7293034) {ls : Array Slot} (hl : lv_has ls 8 [(4, .int (nI i)), (0, .ref b), (1, .ref x), (2, .ref y), (3, .ref out)])
    (J : ∀ (a b' : Nat → Nat) (v : AS) (S1 S2 : Hp) (f : Nat → Int64) (H : Heap) (locs : List Loc) (ls : Array Slot) (C' N' : Nat), lwS D κ cL s x y out a b' v S1 S2 f H locs → C' ≤ C + 2 → N' ≤ N + 102 → lv_has ls 8 [(4, .int (nI i)), (0, .ref b), (1, .ref x), (2, .ref y), (3, .ref out)] → W p l e room_1 s m #[Value.ref b] below meth c H locs C' N' (lw_Z below #[Value.ref b] s) (F0 m 1598 ls [])) : W p l e room_1 s m #[Value.ref b] below meth c H locs C N (lw_Z below #[Value.ref b] s) (F0 m 792 ls []) := by
  obtain ⟨hx, hb, hml, hown, hts, hscr, hbl, hK, hXX, hKo, hE, hnt, hL⟩ := C0
  obtain ⟨ea, eb, hX, hM, hW, hS⟩ := X0
  subst ea
  subst eb
  have hcR : ∀ j : Nat, j ≤ 2 → C + j ≤ room_1.cells := fun j hj => by
    show C + j ≤ 601024
    omega
  have hsR : ∀ j : Nat, j ≤ 102 → N + j ≤ room_1.slots := fun j hj => by
    show N + j ≤ 7293034
    omega
  have h4 := lv_at hl 0 rfl
  have h0 := lv_at hl 1 rfl
  refine lv_aload_n hx hb dL_law_792 rfl (lv_at hl 2 rfl) ?_
  refine lw_arg hx hb hscr hbl hS hL hi h4 h0 1 (by decide) (by decide) dL_law_793 dL_law_794 dL_law_796 dL_law_797 dL_law_798 ?_
  refine lw_arg hx hb hscr hbl hS hL hi h4 h0 2 (by decide) (by decide) dL_law_799 dL_law_800 dL_law_802 dL_law_803 dL_law_804 ?_
  refine lw_arg hx hb hscr hbl hS hL hi h4 h0 3 (by decide) (by decide) dL_law_805 dL_law_806 dL_law_808 dL_law_809 dL_law_810 ?_
  refine lw_arg hx hb hscr hbl hS hL hi h4 h0 4 (by decide) (by decide) dL_law_811 dL_law_812 dL_law_814 dL_law_815 dL_law_816 ?_
  refine lw_c1 (va_runV (As := [.int (xs (nI (i + 1)).toNatClampNeg), .int (xs (nI (i + 2)).toNatClampNeg), .int (xs (nI (i + 3)).toNatClampNeg), .int (xs (nI (i + 4)).toNatClampNeg)]) (rest := []) ⟨hx, hb, hml, hown, hts⟩ (c_X5_sets l D κ _ S1 (a 0) (xs (nI (i + 1)).toNatClampNeg) (xs (nI (i + 2)).toNatClampNeg) (xs (nI (i + 3)).toNatClampNeg) (xs (nI (i + 4)).toNatClampNeg) (fun r S9 => r = sp_sets (xs (nI (i + 1)).toNatClampNeg) (xs (nI (i + 2)).toNatClampNeg) (xs (nI (i + 3)).toNatClampNeg) (xs (nI (i + 4)).toNatClampNeg) ∧ XI a v S9) (x_sets ⟨rfl, hX⟩)) (cwV 4 hts gL_law_X5_sets rfl rfl rfl (by decide +kernel) ⟨Nat.le_of_ble_eq_true rfl, Nat.le_of_ble_eq_true rfl⟩) (pg_V (q := (RX5, TX5, 13)) hK hXX hW.1 (hW.A1 hS.1) (kc_6 hX.1.k0) rfl) rfl rfl hl.1 rfl (lv_room (Nat.le_of_ble_eq_true rfl)) dL_law_817 ⟨hcR 0 (by decide), hsR 0 (by decide)⟩) hW hS (fun r1 S1 H locs h1 hW hS => ?_)
  obtain ⟨h1, hX⟩ := h1
  refine lv_aload_n hx hb dL_law_820 rfl (lv_at hl 3 rfl) ?_
  refine lw_arg hx hb hscr hbl hS hL hi h4 h0 1 (by decide) (by decide) dL_law_821 dL_law_822 dL_law_824 dL_law_825 dL_law_826 ?_
  refine lw_arg hx hb hscr hbl hS hL hi h4 h0 2 (by decide) (by decide) dL_law_827 dL_law_828 dL_law_830 dL_law_831 dL_law_832 ?_
  refine lw_arg hx hb hscr hbl hS hL hi h4 h0 3 (by decide) (by decide) dL_law_833 dL_law_834 dL_law_836 dL_law_837 dL_law_838 ?_
  refine lw_arg hx hb hscr hbl hS hL hi h4 h0 4 (by decide) (by decide) dL_law_839 dL_law_840 dL_law_842 dL_law_843 dL_law_844 ?_
  refine lw_c2 (va_runV (As := [.int (xs (nI (i + 1)).toNatClampNeg), .int (xs (nI (i + 2)).toNatClampNeg), .int (xs (nI (i + 3)).toNatClampNeg), .int (xs (nI (i + 4)).toNatClampNeg)]) (rest := [.int r1]) ⟨hx, hb, hml, hown, hts⟩ (c_X6_sets l D κ _ S2 (b' 0) (xs (nI (i + 1)).toNatClampNeg) (xs (nI (i + 2)).toNatClampNeg) (xs (nI (i + 3)).toNatClampNeg) (xs (nI (i + 4)).toNatClampNeg) (fun r S9 => r = sp_sets (xs (nI (i + 1)).toNatClampNeg) (xs (nI (i + 2)).toNatClampNeg) (xs (nI (i + 3)).toNatClampNeg) (xs (nI (i + 4)).toNatClampNeg) ∧ MI b' v S9) (m_sets hM (fun _ h => ⟨rfl, h⟩))) (cwV 4 hts gL_law_X6_sets rfl rfl rfl (by decide +kernel) ⟨Nat.le_of_ble_eq_true rfl, Nat.le_of_ble_eq_true rfl⟩) (pg_V (q := (RX6, TX6, 32)) hK hXX hW.2.1 (hW.A2 hS.1) (kc_7 hM.1.all.1) rfl) rfl rfl hl.1 rfl (lv_room (Nat.le_of_ble_eq_true rfl)) dL_law_845 ⟨hcR 0 (by decide), hsR 0 (by decide)⟩) hW hS (fun r2 S2 H locs h2 hW hS => ?_)
  obtain ⟨h2, hM⟩ := h2
  refine lv_icmp_eq (tgt := 1598) hx hb dL_law_848 (by decide) (fun _ => ?_) (fun hc => absurd (h1.trans h2.symm) hc)
  exact J _ _ _ _ _ _ _ _ ls _ _ ⟨rfl, rfl, hX, hM, hW, hS⟩ (by omega) (by omega) hl
set_option maxHeartbeats 4000000 in
set_option maxRecDepth 100000 in
theorem law_c17 {p : Program} {l : Launch} {e : Env} {s : State} {m : MethodId} {below : List Frame} {meth : Method} {c : Code} {b L : Nat} {xs : Nat → Int32} {D : va_G} {κ : Nat → ClassId} {cL : ClassId} {x y out : Nat} (C0 : lwC p l s m c b L xs D κ cL) {i : Nat} (hi : i + 6 ≤ L) {a b' : Nat → Nat} {v : AS} {S1 S2 : Hp} {f : Nat → Int64} {H : Heap} {locs : List Loc} (X0 : lwS D κ cL s x y out a b' v S1 S2 f H locs) {C N : Nat} (hC : C + 2 ≤ 601024) (hN : N + 102 ≤ 7293034) {ls : Array Slot} (hl : lv_has ls 8 [(4, .int (nI i)), (0, .ref b), (1, .ref x), (2, .ref y), (3, .ref out)])
    (J : ∀ (a b' : Nat → Nat) (v : AS) (S1 S2 : Hp) (f : Nat → Int64) (H : Heap) (locs : List Loc) (ls : Array Slot) (C' N' : Nat), lwS D κ cL s x y out a b' v S1 S2 f H locs → C' ≤ C + 2 → N' ≤ N + 102 → lv_has ls 8 [(4, .int (nI i)), (0, .ref b), (1, .ref x), (2, .ref y), (3, .ref out)] → W p l e room_1 s m #[Value.ref b] below meth c H locs C' N' (lw_Z below #[Value.ref b] s) (F0 m 1598 ls [])) : W p l e room_1 s m #[Value.ref b] below meth c H locs C N (lw_Z below #[Value.ref b] s) (F0 m 853 ls []) := by
  obtain ⟨hx, hb, hml, hown, hts, hscr, hbl, hK, hXX, hKo, hE, hnt, hL⟩ := C0
  obtain ⟨ea, eb, hX, hM, hW, hS⟩ := X0
  subst ea
  subst eb
  have hcR : ∀ j : Nat, j ≤ 2 → C + j ≤ room_1.cells := fun j hj => by
    show C + j ≤ 601024
    omega
  have hsR : ∀ j : Nat, j ≤ 102 → N + j ≤ room_1.slots := fun j hj => by
    show N + j ≤ 7293034
    omega
  have h4 := lv_at hl 0 rfl
  have h0 := lv_at hl 1 rfl
  refine lv_aload_n hx hb dL_law_853 rfl (lv_at hl 2 rfl) ?_
  refine lw_arg hx hb hscr hbl hS hL hi h4 h0 1 (by decide) (by decide) dL_law_854 dL_law_855 dL_law_857 dL_law_858 dL_law_859 ?_
  refine lw_arg hx hb hscr hbl hS hL hi h4 h0 2 (by decide) (by decide) dL_law_860 dL_law_861 dL_law_863 dL_law_864 dL_law_865 ?_
  refine lw_c1 (va_runV (As := [.int (xs (nI (i + 1)).toNatClampNeg), .int (xs (nI (i + 2)).toNatClampNeg)]) (rest := []) ⟨hx, hb, hml, hown, hts⟩ (c_X5_lost l D κ _ S1 (a 0) (xs (nI (i + 1)).toNatClampNeg) (xs (nI (i + 2)).toNatClampNeg) (fun r S9 => r = sp_lost v (xs (nI (i + 1)).toNatClampNeg) (xs (nI (i + 2)).toNatClampNeg) ∧ XI a v S9) (x_lost hX (fun _ h => ⟨rfl, h⟩))) (cwV 2 hts gL_law_X5_lost rfl rfl rfl (by decide +kernel) ⟨Nat.le_of_ble_eq_true rfl, Nat.le_of_ble_eq_true rfl⟩) (pg_V (q := (RX5, TX5, 13)) hK hXX hW.1 (hW.A1 hS.1) (kc_6 hX.1.k0) rfl) rfl rfl hl.1 rfl (lv_room (Nat.le_of_ble_eq_true rfl)) dL_law_866 ⟨hcR 0 (by decide), hsR 0 (by decide)⟩) hW hS (fun r1 S1 H locs h1 hW hS => ?_)
  obtain ⟨h1, hX⟩ := h1
  refine lv_aload_n hx hb dL_law_869 rfl (lv_at hl 3 rfl) ?_
  refine lw_arg hx hb hscr hbl hS hL hi h4 h0 1 (by decide) (by decide) dL_law_870 dL_law_871 dL_law_873 dL_law_874 dL_law_875 ?_
  refine lw_arg hx hb hscr hbl hS hL hi h4 h0 2 (by decide) (by decide) dL_law_876 dL_law_877 dL_law_879 dL_law_880 dL_law_881 ?_
  refine lw_c2 (va_runV (As := [.int (xs (nI (i + 1)).toNatClampNeg), .int (xs (nI (i + 2)).toNatClampNeg)]) (rest := [.int r1]) ⟨hx, hb, hml, hown, hts⟩ (c_X6_lost l D κ _ S2 (b' 0) (xs (nI (i + 1)).toNatClampNeg) (xs (nI (i + 2)).toNatClampNeg) (fun r S9 => r = sp_lost v (xs (nI (i + 1)).toNatClampNeg) (xs (nI (i + 2)).toNatClampNeg) ∧ MI b' v S9) (m_lost hM (fun _ h => ⟨rfl, h⟩))) (cwV 2 hts gL_law_X6_lost rfl rfl rfl (by decide +kernel) ⟨Nat.le_of_ble_eq_true rfl, Nat.le_of_ble_eq_true rfl⟩) (pg_V (q := (RX6, TX6, 32)) hK hXX hW.2.1 (hW.A2 hS.1) (kc_7 hM.1.all.1) rfl) rfl rfl hl.1 rfl (lv_room (Nat.le_of_ble_eq_true rfl)) dL_law_882 ⟨hcR 0 (by decide), hsR 0 (by decide)⟩) hW hS (fun r2 S2 H locs h2 hW hS => ?_)
  obtain ⟨h2, hM⟩ := h2
  refine lv_icmp_eq (tgt := 1598) hx hb dL_law_885 (by decide) (fun _ => ?_) (fun hc => absurd (h1.trans h2.symm) hc)
  exact J _ _ _ _ _ _ _ _ ls _ _ ⟨rfl, rfl, hX, hM, hW, hS⟩ (by omega) (by omega) hl
set_option maxHeartbeats 4000000 in
set_option maxRecDepth 100000 in
theorem law_c18 {p : Program} {l : Launch} {e : Env} {s : State} {m : MethodId} {below : List Frame} {meth : Method} {c : Code} {b L : Nat} {xs : Nat → Int32} {D : va_G} {κ : Nat → ClassId} {cL : ClassId} {x y out : Nat} (C0 : lwC p l s m c b L xs D κ cL) {i : Nat} (hi : i + 6 ≤ L) {a b' : Nat → Nat} {v : AS} {S1 S2 : Hp} {f : Nat → Int64} {H : Heap} {locs : List Loc} (X0 : lwS D κ cL s x y out a b' v S1 S2 f H locs) {C N : Nat} (hC : C + 2 ≤ 601024) (hN : N + 102 ≤ 7293034) {ls : Array Slot} (hl : lv_has ls 8 [(4, .int (nI i)), (0, .ref b), (1, .ref x), (2, .ref y), (3, .ref out)])
    (J : ∀ (a b' : Nat → Nat) (v : AS) (S1 S2 : Hp) (f : Nat → Int64) (H : Heap) (locs : List Loc) (ls : Array Slot) (C' N' : Nat), lwS D κ cL s x y out a b' v S1 S2 f H locs → C' ≤ C + 2 → N' ≤ N + 102 → lv_has ls 8 [(4, .int (nI i)), (0, .ref b), (1, .ref x), (2, .ref y), (3, .ref out)] → W p l e room_1 s m #[Value.ref b] below meth c H locs C' N' (lw_Z below #[Value.ref b] s) (F0 m 1598 ls [])) : W p l e room_1 s m #[Value.ref b] below meth c H locs C N (lw_Z below #[Value.ref b] s) (F0 m 890 ls []) := by
  obtain ⟨hx, hb, hml, hown, hts, hscr, hbl, hK, hXX, hKo, hE, hnt, hL⟩ := C0
  obtain ⟨ea, eb, hX, hM, hW, hS⟩ := X0
  subst ea
  subst eb
  have hcR : ∀ j : Nat, j ≤ 2 → C + j ≤ room_1.cells := fun j hj => by
    show C + j ≤ 601024
    omega
  have hsR : ∀ j : Nat, j ≤ 102 → N + j ≤ room_1.slots := fun j hj => by
    show N + j ≤ 7293034
    omega
  have h4 := lv_at hl 0 rfl
  have h0 := lv_at hl 1 rfl
  refine lv_aload_n hx hb dL_law_890 rfl (lv_at hl 2 rfl) ?_
  refine lw_arg hx hb hscr hbl hS hL hi h4 h0 1 (by decide) (by decide) dL_law_891 dL_law_892 dL_law_894 dL_law_895 dL_law_896 ?_
  refine lw_c1 (va_runV (As := [.int (xs (nI (i + 1)).toNatClampNeg)]) (rest := []) ⟨hx, hb, hml, hown, hts⟩ (c_X5_harmsLeast l D κ _ S1 (a 0) (xs (nI (i + 1)).toNatClampNeg) (fun r S9 => r = sp_harms v (xs (nI (i + 1)).toNatClampNeg) ∧ XI a v S9) (x_harms hX (fun _ h => ⟨rfl, h⟩))) (cwV 1 hts gL_law_X5_harmsLeast rfl rfl rfl (by decide +kernel) ⟨Nat.le_of_ble_eq_true rfl, Nat.le_of_ble_eq_true rfl⟩) (pg_V (q := (RX5, TX5, 13)) hK hXX hW.1 (hW.A1 hS.1) (kc_6 hX.1.k0) rfl) rfl rfl hl.1 rfl (lv_room (Nat.le_of_ble_eq_true rfl)) dL_law_897 ⟨hcR 0 (by decide), hsR 0 (by decide)⟩) hW hS (fun r1 S1 H locs h1 hW hS => ?_)
  obtain ⟨h1, hX⟩ := h1
  refine lv_aload_n hx hb dL_law_900 rfl (lv_at hl 3 rfl) ?_
  refine lw_arg hx hb hscr hbl hS hL hi h4 h0 1 (by decide) (by decide) dL_law_901 dL_law_902 dL_law_904 dL_law_905 dL_law_906 ?_
  refine lw_c2 (va_runV (As := [.int (xs (nI (i + 1)).toNatClampNeg)]) (rest := [.int r1]) ⟨hx, hb, hml, hown, hts⟩ (c_X6_harmsLeast l D κ _ S2 (b' 0) (xs (nI (i + 1)).toNatClampNeg) (fun r S9 => r = sp_harms v (xs (nI (i + 1)).toNatClampNeg) ∧ MI b' v S9) (m_harms hM (fun _ h => ⟨rfl, h⟩))) (cwV 1 hts gL_law_X6_harmsLeast rfl rfl rfl (by decide +kernel) ⟨Nat.le_of_ble_eq_true rfl, Nat.le_of_ble_eq_true rfl⟩) (pg_V (q := (RX6, TX6, 32)) hK hXX hW.2.1 (hW.A2 hS.1) (kc_7 hM.1.all.1) rfl) rfl rfl hl.1 rfl (lv_room (Nat.le_of_ble_eq_true rfl)) dL_law_907 ⟨hcR 0 (by decide), hsR 0 (by decide)⟩) hW hS (fun r2 S2 H locs h2 hW hS => ?_)
  obtain ⟨h2, hM⟩ := h2
  refine lv_icmp_eq (tgt := 1598) hx hb dL_law_910 (by decide) (fun _ => ?_) (fun hc => absurd (h1.trans h2.symm) hc)
  exact J _ _ _ _ _ _ _ _ ls _ _ ⟨rfl, rfl, hX, hM, hW, hS⟩ (by omega) (by omega) hl
set_option maxHeartbeats 4000000 in
set_option maxRecDepth 100000 in
theorem law_c19 {p : Program} {l : Launch} {e : Env} {s : State} {m : MethodId} {below : List Frame} {meth : Method} {c : Code} {b L : Nat} {xs : Nat → Int32} {D : va_G} {κ : Nat → ClassId} {cL : ClassId} {x y out : Nat} (C0 : lwC p l s m c b L xs D κ cL) {i : Nat} (hi : i + 6 ≤ L) {a b' : Nat → Nat} {v : AS} {S1 S2 : Hp} {f : Nat → Int64} {H : Heap} {locs : List Loc} (X0 : lwS D κ cL s x y out a b' v S1 S2 f H locs) {C N : Nat} (hC : C + 2 ≤ 601024) (hN : N + 102 ≤ 7293034) {ls : Array Slot} (hl : lv_has ls 8 [(4, .int (nI i)), (0, .ref b), (1, .ref x), (2, .ref y), (3, .ref out)])
    (J : ∀ (a b' : Nat → Nat) (v : AS) (S1 S2 : Hp) (f : Nat → Int64) (H : Heap) (locs : List Loc) (ls : Array Slot) (C' N' : Nat), lwS D κ cL s x y out a b' v S1 S2 f H locs → C' ≤ C + 2 → N' ≤ N + 102 → lv_has ls 8 [(4, .int (nI i)), (0, .ref b), (1, .ref x), (2, .ref y), (3, .ref out)] → W p l e room_1 s m #[Value.ref b] below meth c H locs C' N' (lw_Z below #[Value.ref b] s) (F0 m 1598 ls [])) : W p l e room_1 s m #[Value.ref b] below meth c H locs C N (lw_Z below #[Value.ref b] s) (F0 m 915 ls []) := by
  obtain ⟨hx, hb, hml, hown, hts, hscr, hbl, hK, hXX, hKo, hE, hnt, hL⟩ := C0
  obtain ⟨ea, eb, hX, hM, hW, hS⟩ := X0
  subst ea
  subst eb
  have hcR : ∀ j : Nat, j ≤ 2 → C + j ≤ room_1.cells := fun j hj => by
    show C + j ≤ 601024
    omega
  have hsR : ∀ j : Nat, j ≤ 102 → N + j ≤ room_1.slots := fun j hj => by
    show N + j ≤ 7293034
    omega
  have h4 := lv_at hl 0 rfl
  have h0 := lv_at hl 1 rfl
  refine lv_aload_n hx hb dL_law_915 rfl (lv_at hl 2 rfl) ?_
  refine lw_arg hx hb hscr hbl hS hL hi h4 h0 1 (by decide) (by decide) dL_law_916 dL_law_917 dL_law_919 dL_law_920 dL_law_921 ?_
  refine lw_c1 (va_runV (As := [.int (xs (nI (i + 1)).toNatClampNeg)]) (rest := []) ⟨hx, hb, hml, hown, hts⟩ (c_X5_trials l D κ _ S1 (a 0) (xs (nI (i + 1)).toNatClampNeg) (fun r S9 => r = sp_trials v (xs (nI (i + 1)).toNatClampNeg) ∧ XI a v S9) (x_trials hX ⟨rfl, hX⟩)) (cwV 1 hts gL_law_X5_trials rfl rfl rfl (by decide +kernel) ⟨Nat.le_of_ble_eq_true rfl, Nat.le_of_ble_eq_true rfl⟩) (pg_V (q := (RX5, TX5, 13)) hK hXX hW.1 (hW.A1 hS.1) (kc_6 hX.1.k0) rfl) rfl rfl hl.1 rfl (lv_room (Nat.le_of_ble_eq_true rfl)) dL_law_922 ⟨hcR 0 (by decide), hsR 0 (by decide)⟩) hW hS (fun r1 S1 H locs h1 hW hS => ?_)
  obtain ⟨h1, hX⟩ := h1
  refine lv_aload_n hx hb dL_law_925 rfl (lv_at hl 3 rfl) ?_
  refine lw_arg hx hb hscr hbl hS hL hi h4 h0 1 (by decide) (by decide) dL_law_926 dL_law_927 dL_law_929 dL_law_930 dL_law_931 ?_
  refine lw_c2 (va_runV (As := [.int (xs (nI (i + 1)).toNatClampNeg)]) (rest := [.int r1]) ⟨hx, hb, hml, hown, hts⟩ (c_X6_trials l D κ _ S2 (b' 0) (xs (nI (i + 1)).toNatClampNeg) (fun r S9 => r = sp_trials v (xs (nI (i + 1)).toNatClampNeg) ∧ MI b' v S9) (m_trials hM (fun _ h => ⟨rfl, h⟩))) (cwV 1 hts gL_law_X6_trials rfl rfl rfl (by decide +kernel) ⟨Nat.le_of_ble_eq_true rfl, Nat.le_of_ble_eq_true rfl⟩) (pg_V (q := (RX6, TX6, 32)) hK hXX hW.2.1 (hW.A2 hS.1) (kc_7 hM.1.all.1) rfl) rfl rfl hl.1 rfl (lv_room (Nat.le_of_ble_eq_true rfl)) dL_law_932 ⟨hcR 0 (by decide), hsR 0 (by decide)⟩) hW hS (fun r2 S2 H locs h2 hW hS => ?_)
  obtain ⟨h2, hM⟩ := h2
  refine lv_icmp_eq (tgt := 1598) hx hb dL_law_935 (by decide) (fun _ => ?_) (fun hc => absurd (h1.trans h2.symm) hc)
  exact J _ _ _ _ _ _ _ _ ls _ _ ⟨rfl, rfl, hX, hM, hW, hS⟩ (by omega) (by omega) hl
set_option maxHeartbeats 4000000 in
set_option maxRecDepth 100000 in
theorem law_c20 {p : Program} {l : Launch} {e : Env} {s : State} {m : MethodId} {below : List Frame} {meth : Method} {c : Code} {b L : Nat} {xs : Nat → Int32} {D : va_G} {κ : Nat → ClassId} {cL : ClassId} {x y out : Nat} (C0 : lwC p l s m c b L xs D κ cL) {i : Nat} (hi : i + 6 ≤ L) {a b' : Nat → Nat} {v : AS} {S1 S2 : Hp} {f : Nat → Int64} {H : Heap} {locs : List Loc} (X0 : lwS D κ cL s x y out a b' v S1 S2 f H locs) {C N : Nat} (hC : C + 2 ≤ 601024) (hN : N + 102 ≤ 7293034) {ls : Array Slot} (hl : lv_has ls 8 [(4, .int (nI i)), (0, .ref b), (1, .ref x), (2, .ref y), (3, .ref out)])
    (J : ∀ (a b' : Nat → Nat) (v : AS) (S1 S2 : Hp) (f : Nat → Int64) (H : Heap) (locs : List Loc) (ls : Array Slot) (C' N' : Nat), lwS D κ cL s x y out a b' v S1 S2 f H locs → C' ≤ C + 2 → N' ≤ N + 102 → lv_has ls 8 [(4, .int (nI i)), (0, .ref b), (1, .ref x), (2, .ref y), (3, .ref out)] → W p l e room_1 s m #[Value.ref b] below meth c H locs C' N' (lw_Z below #[Value.ref b] s) (F0 m 1598 ls [])) : W p l e room_1 s m #[Value.ref b] below meth c H locs C N (lw_Z below #[Value.ref b] s) (F0 m 940 ls []) := by
  obtain ⟨hx, hb, hml, hown, hts, hscr, hbl, hK, hXX, hKo, hE, hnt, hL⟩ := C0
  obtain ⟨ea, eb, hX, hM, hW, hS⟩ := X0
  subst ea
  subst eb
  have hcR : ∀ j : Nat, j ≤ 2 → C + j ≤ room_1.cells := fun j hj => by
    show C + j ≤ 601024
    omega
  have hsR : ∀ j : Nat, j ≤ 102 → N + j ≤ room_1.slots := fun j hj => by
    show N + j ≤ 7293034
    omega
  have h4 := lv_at hl 0 rfl
  have h0 := lv_at hl 1 rfl
  refine lv_aload_n hx hb dL_law_940 rfl (lv_at hl 2 rfl) ?_
  refine lw_arg hx hb hscr hbl hS hL hi h4 h0 1 (by decide) (by decide) dL_law_941 dL_law_942 dL_law_944 dL_law_945 dL_law_946 ?_
  refine lw_c1 (va_runV (As := [.int (xs (nI (i + 1)).toNatClampNeg)]) (rest := []) ⟨hx, hb, hml, hown, hts⟩ (c_X5_found l D κ _ S1 (a 0) (xs (nI (i + 1)).toNatClampNeg) (fun r S9 => r = sp_found v (xs (nI (i + 1)).toNatClampNeg) ∧ XI a v S9) (x_found hX ⟨rfl, hX⟩)) (cwV 1 hts gL_law_X5_found rfl rfl rfl (by decide +kernel) ⟨Nat.le_of_ble_eq_true rfl, Nat.le_of_ble_eq_true rfl⟩) (pg_V (q := (RX5, TX5, 13)) hK hXX hW.1 (hW.A1 hS.1) (kc_6 hX.1.k0) rfl) rfl rfl hl.1 rfl (lv_room (Nat.le_of_ble_eq_true rfl)) dL_law_947 ⟨hcR 0 (by decide), hsR 0 (by decide)⟩) hW hS (fun r1 S1 H locs h1 hW hS => ?_)
  obtain ⟨h1, hX⟩ := h1
  refine lv_aload_n hx hb dL_law_950 rfl (lv_at hl 3 rfl) ?_
  refine lw_arg hx hb hscr hbl hS hL hi h4 h0 1 (by decide) (by decide) dL_law_951 dL_law_952 dL_law_954 dL_law_955 dL_law_956 ?_
  refine lw_c2 (va_runV (As := [.int (xs (nI (i + 1)).toNatClampNeg)]) (rest := [.int r1]) ⟨hx, hb, hml, hown, hts⟩ (c_X6_found l D κ _ S2 (b' 0) (xs (nI (i + 1)).toNatClampNeg) (fun r S9 => r = sp_found v (xs (nI (i + 1)).toNatClampNeg) ∧ MI b' v S9) (m_found hM (fun _ h => ⟨rfl, h⟩))) (cwV 1 hts gL_law_X6_found rfl rfl rfl (by decide +kernel) ⟨Nat.le_of_ble_eq_true rfl, Nat.le_of_ble_eq_true rfl⟩) (pg_V (q := (RX6, TX6, 32)) hK hXX hW.2.1 (hW.A2 hS.1) (kc_7 hM.1.all.1) rfl) rfl rfl hl.1 rfl (lv_room (Nat.le_of_ble_eq_true rfl)) dL_law_957 ⟨hcR 0 (by decide), hsR 0 (by decide)⟩) hW hS (fun r2 S2 H locs h2 hW hS => ?_)
  obtain ⟨h2, hM⟩ := h2
  refine lv_icmp_eq (tgt := 1598) hx hb dL_law_960 (by decide) (fun _ => ?_) (fun hc => absurd (h1.trans h2.symm) hc)
  exact J _ _ _ _ _ _ _ _ ls _ _ ⟨rfl, rfl, hX, hM, hW, hS⟩ (by omega) (by omega) hl
set_option maxHeartbeats 4000000 in
set_option maxRecDepth 100000 in
theorem law_c21 {p : Program} {l : Launch} {e : Env} {s : State} {m : MethodId} {below : List Frame} {meth : Method} {c : Code} {b L : Nat} {xs : Nat → Int32} {D : va_G} {κ : Nat → ClassId} {cL : ClassId} {x y out : Nat} (C0 : lwC p l s m c b L xs D κ cL) {i : Nat} (hi : i + 6 ≤ L) {a b' : Nat → Nat} {v : AS} {S1 S2 : Hp} {f : Nat → Int64} {H : Heap} {locs : List Loc} (X0 : lwS D κ cL s x y out a b' v S1 S2 f H locs) {C N : Nat} (hC : C + 2 ≤ 601024) (hN : N + 102 ≤ 7293034) {ls : Array Slot} (hl : lv_has ls 8 [(4, .int (nI i)), (0, .ref b), (1, .ref x), (2, .ref y), (3, .ref out)])
    (J : ∀ (a b' : Nat → Nat) (v : AS) (S1 S2 : Hp) (f : Nat → Int64) (H : Heap) (locs : List Loc) (ls : Array Slot) (C' N' : Nat), lwS D κ cL s x y out a b' v S1 S2 f H locs → C' ≤ C + 2 → N' ≤ N + 102 → lv_has ls 8 [(4, .int (nI i)), (0, .ref b), (1, .ref x), (2, .ref y), (3, .ref out)] → W p l e room_1 s m #[Value.ref b] below meth c H locs C' N' (lw_Z below #[Value.ref b] s) (F0 m 1598 ls [])) : W p l e room_1 s m #[Value.ref b] below meth c H locs C N (lw_Z below #[Value.ref b] s) (F0 m 965 ls []) := by
  obtain ⟨hx, hb, hml, hown, hts, hscr, hbl, hK, hXX, hKo, hE, hnt, hL⟩ := C0
  obtain ⟨ea, eb, hX, hM, hW, hS⟩ := X0
  subst ea
  subst eb
  have hcR : ∀ j : Nat, j ≤ 2 → C + j ≤ room_1.cells := fun j hj => by
    show C + j ≤ 601024
    omega
  have hsR : ∀ j : Nat, j ≤ 102 → N + j ≤ room_1.slots := fun j hj => by
    show N + j ≤ 7293034
    omega
  have h4 := lv_at hl 0 rfl
  have h0 := lv_at hl 1 rfl
  refine lv_aload_n hx hb dL_law_965 rfl (lv_at hl 2 rfl) ?_
  refine lw_arg hx hb hscr hbl hS hL hi h4 h0 1 (by decide) (by decide) dL_law_966 dL_law_967 dL_law_969 dL_law_970 dL_law_971 ?_
  refine lw_arg hx hb hscr hbl hS hL hi h4 h0 2 (by decide) (by decide) dL_law_972 dL_law_973 dL_law_975 dL_law_976 dL_law_977 ?_
  refine lw_arg hx hb hscr hbl hS hL hi h4 h0 3 (by decide) (by decide) dL_law_978 dL_law_979 dL_law_981 dL_law_982 dL_law_983 ?_
  refine lw_c1 (va_runV (As := [.int (xs (nI (i + 1)).toNatClampNeg), .int (xs (nI (i + 2)).toNatClampNeg), .int (xs (nI (i + 3)).toNatClampNeg)]) (rest := []) ⟨hx, hb, hml, hown, hts⟩ (c_X5_twice l D κ _ S1 (a 0) (xs (nI (i + 1)).toNatClampNeg) (xs (nI (i + 2)).toNatClampNeg) (xs (nI (i + 3)).toNatClampNeg) (fun r S9 => r = sp_twice (xs (nI (i + 1)).toNatClampNeg) (xs (nI (i + 2)).toNatClampNeg) (xs (nI (i + 3)).toNatClampNeg) ∧ XI a v S9) (x_twice _ ⟨rfl, hX⟩)) (cwV 3 hts gL_law_X5_twice rfl rfl rfl (by decide +kernel) ⟨Nat.le_of_ble_eq_true rfl, Nat.le_of_ble_eq_true rfl⟩) (pg_V (q := (RX5, TX5, 13)) hK hXX hW.1 (hW.A1 hS.1) (kc_6 hX.1.k0) rfl) rfl rfl hl.1 rfl (lv_room (Nat.le_of_ble_eq_true rfl)) dL_law_984 ⟨hcR 0 (by decide), hsR 0 (by decide)⟩) hW hS (fun r1 S1 H locs h1 hW hS => ?_)
  obtain ⟨h1, hX⟩ := h1
  refine lv_aload_n hx hb dL_law_987 rfl (lv_at hl 3 rfl) ?_
  refine lw_arg hx hb hscr hbl hS hL hi h4 h0 1 (by decide) (by decide) dL_law_988 dL_law_989 dL_law_991 dL_law_992 dL_law_993 ?_
  refine lw_arg hx hb hscr hbl hS hL hi h4 h0 2 (by decide) (by decide) dL_law_994 dL_law_995 dL_law_997 dL_law_998 dL_law_999 ?_
  refine lw_arg hx hb hscr hbl hS hL hi h4 h0 3 (by decide) (by decide) dL_law_1000 dL_law_1001 dL_law_1003 dL_law_1004 dL_law_1005 ?_
  refine lw_c2 (va_runV (As := [.int (xs (nI (i + 1)).toNatClampNeg), .int (xs (nI (i + 2)).toNatClampNeg), .int (xs (nI (i + 3)).toNatClampNeg)]) (rest := [.int r1]) ⟨hx, hb, hml, hown, hts⟩ (c_X6_twice l D κ _ S2 (b' 0) (xs (nI (i + 1)).toNatClampNeg) (xs (nI (i + 2)).toNatClampNeg) (xs (nI (i + 3)).toNatClampNeg) (fun r S9 => r = sp_twice (xs (nI (i + 1)).toNatClampNeg) (xs (nI (i + 2)).toNatClampNeg) (xs (nI (i + 3)).toNatClampNeg) ∧ MI b' v S9) (m_twice _ ⟨rfl, hM⟩)) (cwV 3 hts gL_law_X6_twice rfl rfl rfl (by decide +kernel) ⟨Nat.le_of_ble_eq_true rfl, Nat.le_of_ble_eq_true rfl⟩) (pg_V (q := (RX6, TX6, 32)) hK hXX hW.2.1 (hW.A2 hS.1) (kc_7 hM.1.all.1) rfl) rfl rfl hl.1 rfl (lv_room (Nat.le_of_ble_eq_true rfl)) dL_law_1006 ⟨hcR 0 (by decide), hsR 0 (by decide)⟩) hW hS (fun r2 S2 H locs h2 hW hS => ?_)
  obtain ⟨h2, hM⟩ := h2
  refine lv_icmp_eq (tgt := 1598) hx hb dL_law_1009 (by decide) (fun _ => ?_) (fun hc => absurd (h1.trans h2.symm) hc)
  exact J _ _ _ _ _ _ _ _ ls _ _ ⟨rfl, rfl, hX, hM, hW, hS⟩ (by omega) (by omega) hl
set_option maxHeartbeats 4000000 in
set_option maxRecDepth 100000 in
theorem law_c22 {p : Program} {l : Launch} {e : Env} {s : State} {m : MethodId} {below : List Frame} {meth : Method} {c : Code} {b L : Nat} {xs : Nat → Int32} {D : va_G} {κ : Nat → ClassId} {cL : ClassId} {x y out : Nat} (C0 : lwC p l s m c b L xs D κ cL) {i : Nat} (hi : i + 6 ≤ L) {a b' : Nat → Nat} {v : AS} {S1 S2 : Hp} {f : Nat → Int64} {H : Heap} {locs : List Loc} (X0 : lwS D κ cL s x y out a b' v S1 S2 f H locs) {C N : Nat} (hC : C + 2 ≤ 601024) (hN : N + 102 ≤ 7293034) {ls : Array Slot} (hl : lv_has ls 8 [(4, .int (nI i)), (0, .ref b), (1, .ref x), (2, .ref y), (3, .ref out)])
    (J : ∀ (a b' : Nat → Nat) (v : AS) (S1 S2 : Hp) (f : Nat → Int64) (H : Heap) (locs : List Loc) (ls : Array Slot) (C' N' : Nat), lwS D κ cL s x y out a b' v S1 S2 f H locs → C' ≤ C + 2 → N' ≤ N + 102 → lv_has ls 8 [(4, .int (nI i)), (0, .ref b), (1, .ref x), (2, .ref y), (3, .ref out)] → W p l e room_1 s m #[Value.ref b] below meth c H locs C' N' (lw_Z below #[Value.ref b] s) (F0 m 1598 ls [])) : W p l e room_1 s m #[Value.ref b] below meth c H locs C N (lw_Z below #[Value.ref b] s) (F0 m 1014 ls []) := by
  obtain ⟨hx, hb, hml, hown, hts, hscr, hbl, hK, hXX, hKo, hE, hnt, hL⟩ := C0
  obtain ⟨ea, eb, hX, hM, hW, hS⟩ := X0
  subst ea
  subst eb
  have hcR : ∀ j : Nat, j ≤ 2 → C + j ≤ room_1.cells := fun j hj => by
    show C + j ≤ 601024
    omega
  have hsR : ∀ j : Nat, j ≤ 102 → N + j ≤ room_1.slots := fun j hj => by
    show N + j ≤ 7293034
    omega
  have h4 := lv_at hl 0 rfl
  have h0 := lv_at hl 1 rfl
  refine lv_aload_n hx hb dL_law_1014 rfl (lv_at hl 2 rfl) ?_
  refine lw_arg hx hb hscr hbl hS hL hi h4 h0 1 (by decide) (by decide) dL_law_1015 dL_law_1016 dL_law_1018 dL_law_1019 dL_law_1020 ?_
  refine lw_arg hx hb hscr hbl hS hL hi h4 h0 2 (by decide) (by decide) dL_law_1021 dL_law_1022 dL_law_1024 dL_law_1025 dL_law_1026 ?_
  refine lw_arg hx hb hscr hbl hS hL hi h4 h0 3 (by decide) (by decide) dL_law_1027 dL_law_1028 dL_law_1030 dL_law_1031 dL_law_1032 ?_
  refine lw_c1 (va_runV (As := [.int (xs (nI (i + 1)).toNatClampNeg), .int (xs (nI (i + 2)).toNatClampNeg), .int (xs (nI (i + 3)).toNatClampNeg)]) (rest := []) ⟨hx, hb, hml, hown, hts⟩ (c_X5_customers l D κ _ S1 (a 0) (xs (nI (i + 1)).toNatClampNeg) (xs (nI (i + 2)).toNatClampNeg) (xs (nI (i + 3)).toNatClampNeg) (fun r S9 => r = sp_customers v (xs (nI (i + 1)).toNatClampNeg) (xs (nI (i + 2)).toNatClampNeg) (xs (nI (i + 3)).toNatClampNeg) ∧ XI a v S9) (x_customers hX (fun _ h => ⟨rfl, h⟩))) (cwV 3 hts gL_law_X5_customers rfl rfl rfl (by decide +kernel) ⟨Nat.le_of_ble_eq_true rfl, Nat.le_of_ble_eq_true rfl⟩) (pg_V (q := (RX5, TX5, 13)) hK hXX hW.1 (hW.A1 hS.1) (kc_6 hX.1.k0) rfl) rfl rfl hl.1 rfl (lv_room (Nat.le_of_ble_eq_true rfl)) dL_law_1033 ⟨hcR 0 (by decide), hsR 0 (by decide)⟩) hW hS (fun r1 S1 H locs h1 hW hS => ?_)
  obtain ⟨h1, hX⟩ := h1
  refine lv_aload_n hx hb dL_law_1036 rfl (lv_at hl 3 rfl) ?_
  refine lw_arg hx hb hscr hbl hS hL hi h4 h0 1 (by decide) (by decide) dL_law_1037 dL_law_1038 dL_law_1040 dL_law_1041 dL_law_1042 ?_
  refine lw_arg hx hb hscr hbl hS hL hi h4 h0 2 (by decide) (by decide) dL_law_1043 dL_law_1044 dL_law_1046 dL_law_1047 dL_law_1048 ?_
  refine lw_arg hx hb hscr hbl hS hL hi h4 h0 3 (by decide) (by decide) dL_law_1049 dL_law_1050 dL_law_1052 dL_law_1053 dL_law_1054 ?_
  refine lw_c2 (va_runV (As := [.int (xs (nI (i + 1)).toNatClampNeg), .int (xs (nI (i + 2)).toNatClampNeg), .int (xs (nI (i + 3)).toNatClampNeg)]) (rest := [.int r1]) ⟨hx, hb, hml, hown, hts⟩ (c_X6_customers l D κ _ S2 (b' 0) (xs (nI (i + 1)).toNatClampNeg) (xs (nI (i + 2)).toNatClampNeg) (xs (nI (i + 3)).toNatClampNeg) (fun r S9 => r = sp_customers v (xs (nI (i + 1)).toNatClampNeg) (xs (nI (i + 2)).toNatClampNeg) (xs (nI (i + 3)).toNatClampNeg) ∧ MI b' v S9) (m_customers hM (fun _ h => ⟨rfl, h⟩))) (cwV 3 hts gL_law_X6_customers rfl rfl rfl (by decide +kernel) ⟨Nat.le_of_ble_eq_true rfl, Nat.le_of_ble_eq_true rfl⟩) (pg_V (q := (RX6, TX6, 32)) hK hXX hW.2.1 (hW.A2 hS.1) (kc_7 hM.1.all.1) rfl) rfl rfl hl.1 rfl (lv_room (Nat.le_of_ble_eq_true rfl)) dL_law_1055 ⟨hcR 0 (by decide), hsR 0 (by decide)⟩) hW hS (fun r2 S2 H locs h2 hW hS => ?_)
  obtain ⟨h2, hM⟩ := h2
  refine lv_icmp_eq (tgt := 1598) hx hb dL_law_1058 (by decide) (fun _ => ?_) (fun hc => absurd (h1.trans h2.symm) hc)
  exact J _ _ _ _ _ _ _ _ ls _ _ ⟨rfl, rfl, hX, hM, hW, hS⟩ (by omega) (by omega) hl
set_option maxHeartbeats 4000000 in
set_option maxRecDepth 100000 in
theorem law_c23 {p : Program} {l : Launch} {e : Env} {s : State} {m : MethodId} {below : List Frame} {meth : Method} {c : Code} {b L : Nat} {xs : Nat → Int32} {D : va_G} {κ : Nat → ClassId} {cL : ClassId} {x y out : Nat} (C0 : lwC p l s m c b L xs D κ cL) {i : Nat} (hi : i + 6 ≤ L) {a b' : Nat → Nat} {v : AS} {S1 S2 : Hp} {f : Nat → Int64} {H : Heap} {locs : List Loc} (X0 : lwS D κ cL s x y out a b' v S1 S2 f H locs) {C N : Nat} (hC : C + 2 ≤ 601024) (hN : N + 102 ≤ 7293034) {ls : Array Slot} (hl : lv_has ls 8 [(4, .int (nI i)), (0, .ref b), (1, .ref x), (2, .ref y), (3, .ref out)])
    (J : ∀ (a b' : Nat → Nat) (v : AS) (S1 S2 : Hp) (f : Nat → Int64) (H : Heap) (locs : List Loc) (ls : Array Slot) (C' N' : Nat), lwS D κ cL s x y out a b' v S1 S2 f H locs → C' ≤ C + 2 → N' ≤ N + 102 → lv_has ls 8 [(4, .int (nI i)), (0, .ref b), (1, .ref x), (2, .ref y), (3, .ref out)] → W p l e room_1 s m #[Value.ref b] below meth c H locs C' N' (lw_Z below #[Value.ref b] s) (F0 m 1598 ls [])) : W p l e room_1 s m #[Value.ref b] below meth c H locs C N (lw_Z below #[Value.ref b] s) (F0 m 1063 ls []) := by
  obtain ⟨hx, hb, hml, hown, hts, hscr, hbl, hK, hXX, hKo, hE, hnt, hL⟩ := C0
  obtain ⟨ea, eb, hX, hM, hW, hS⟩ := X0
  subst ea
  subst eb
  have hcR : ∀ j : Nat, j ≤ 2 → C + j ≤ room_1.cells := fun j hj => by
    show C + j ≤ 601024
    omega
  have hsR : ∀ j : Nat, j ≤ 102 → N + j ≤ room_1.slots := fun j hj => by
    show N + j ≤ 7293034
    omega
  have h4 := lv_at hl 0 rfl
  have h0 := lv_at hl 1 rfl
  refine lv_aload_n hx hb dL_law_1063 rfl (lv_at hl 2 rfl) ?_
  refine lw_arg hx hb hscr hbl hS hL hi h4 h0 1 (by decide) (by decide) dL_law_1064 dL_law_1065 dL_law_1067 dL_law_1068 dL_law_1069 ?_
  refine lw_arg hx hb hscr hbl hS hL hi h4 h0 2 (by decide) (by decide) dL_law_1070 dL_law_1071 dL_law_1073 dL_law_1074 dL_law_1075 ?_
  refine lw_arg hx hb hscr hbl hS hL hi h4 h0 3 (by decide) (by decide) dL_law_1076 dL_law_1077 dL_law_1079 dL_law_1080 dL_law_1081 ?_
  refine lw_c1 (va_runV (As := [.int (xs (nI (i + 1)).toNatClampNeg), .int (xs (nI (i + 2)).toNatClampNeg), .int (xs (nI (i + 3)).toNatClampNeg)]) (rest := []) ⟨hx, hb, hml, hown, hts⟩ (c_X5_unknown l D κ _ S1 (a 0) (xs (nI (i + 1)).toNatClampNeg) (xs (nI (i + 2)).toNatClampNeg) (xs (nI (i + 3)).toNatClampNeg) (fun r S9 => r = sp_unknown v (xs (nI (i + 1)).toNatClampNeg) (xs (nI (i + 2)).toNatClampNeg) (xs (nI (i + 3)).toNatClampNeg) ∧ XI a v S9) (x_unknown hX ⟨rfl, hX⟩)) (cwV 3 hts gL_law_X5_unknown rfl rfl rfl (by decide +kernel) ⟨Nat.le_of_ble_eq_true rfl, Nat.le_of_ble_eq_true rfl⟩) (pg_V (q := (RX5, TX5, 13)) hK hXX hW.1 (hW.A1 hS.1) (kc_6 hX.1.k0) rfl) rfl rfl hl.1 rfl (lv_room (Nat.le_of_ble_eq_true rfl)) dL_law_1082 ⟨hcR 0 (by decide), hsR 0 (by decide)⟩) hW hS (fun r1 S1 H locs h1 hW hS => ?_)
  obtain ⟨h1, hX⟩ := h1
  refine lv_aload_n hx hb dL_law_1085 rfl (lv_at hl 3 rfl) ?_
  refine lw_arg hx hb hscr hbl hS hL hi h4 h0 1 (by decide) (by decide) dL_law_1086 dL_law_1087 dL_law_1089 dL_law_1090 dL_law_1091 ?_
  refine lw_arg hx hb hscr hbl hS hL hi h4 h0 2 (by decide) (by decide) dL_law_1092 dL_law_1093 dL_law_1095 dL_law_1096 dL_law_1097 ?_
  refine lw_arg hx hb hscr hbl hS hL hi h4 h0 3 (by decide) (by decide) dL_law_1098 dL_law_1099 dL_law_1101 dL_law_1102 dL_law_1103 ?_
  refine lw_c2 (va_runV (As := [.int (xs (nI (i + 1)).toNatClampNeg), .int (xs (nI (i + 2)).toNatClampNeg), .int (xs (nI (i + 3)).toNatClampNeg)]) (rest := [.int r1]) ⟨hx, hb, hml, hown, hts⟩ (c_X6_unknown l D κ _ S2 (b' 0) (xs (nI (i + 1)).toNatClampNeg) (xs (nI (i + 2)).toNatClampNeg) (xs (nI (i + 3)).toNatClampNeg) (fun r S9 => r = sp_unknown v (xs (nI (i + 1)).toNatClampNeg) (xs (nI (i + 2)).toNatClampNeg) (xs (nI (i + 3)).toNatClampNeg) ∧ MI b' v S9) (m_unknown hM (fun _ h => ⟨rfl, h⟩))) (cwV 3 hts gL_law_X6_unknown rfl rfl rfl (by decide +kernel) ⟨Nat.le_of_ble_eq_true rfl, Nat.le_of_ble_eq_true rfl⟩) (pg_V (q := (RX6, TX6, 32)) hK hXX hW.2.1 (hW.A2 hS.1) (kc_7 hM.1.all.1) rfl) rfl rfl hl.1 rfl (lv_room (Nat.le_of_ble_eq_true rfl)) dL_law_1104 ⟨hcR 0 (by decide), hsR 0 (by decide)⟩) hW hS (fun r2 S2 H locs h2 hW hS => ?_)
  obtain ⟨h2, hM⟩ := h2
  refine lv_icmp_eq (tgt := 1598) hx hb dL_law_1107 (by decide) (fun _ => ?_) (fun hc => absurd (h1.trans h2.symm) hc)
  exact J _ _ _ _ _ _ _ _ ls _ _ ⟨rfl, rfl, hX, hM, hW, hS⟩ (by omega) (by omega) hl
set_option maxHeartbeats 4000000 in
set_option maxRecDepth 100000 in
theorem law_c24 {p : Program} {l : Launch} {e : Env} {s : State} {m : MethodId} {below : List Frame} {meth : Method} {c : Code} {b L : Nat} {xs : Nat → Int32} {D : va_G} {κ : Nat → ClassId} {cL : ClassId} {x y out : Nat} (C0 : lwC p l s m c b L xs D κ cL) {i : Nat} (hi : i + 6 ≤ L) {a b' : Nat → Nat} {v : AS} {S1 S2 : Hp} {f : Nat → Int64} {H : Heap} {locs : List Loc} (X0 : lwS D κ cL s x y out a b' v S1 S2 f H locs) {C N : Nat} (hC : C + 2 ≤ 601024) (hN : N + 102 ≤ 7293034) {ls : Array Slot} (hl : lv_has ls 8 [(4, .int (nI i)), (0, .ref b), (1, .ref x), (2, .ref y), (3, .ref out)])
    (J : ∀ (a b' : Nat → Nat) (v : AS) (S1 S2 : Hp) (f : Nat → Int64) (H : Heap) (locs : List Loc) (ls : Array Slot) (C' N' : Nat), lwS D κ cL s x y out a b' v S1 S2 f H locs → C' ≤ C + 2 → N' ≤ N + 102 → lv_has ls 8 [(4, .int (nI i)), (0, .ref b), (1, .ref x), (2, .ref y), (3, .ref out)] → W p l e room_1 s m #[Value.ref b] below meth c H locs C' N' (lw_Z below #[Value.ref b] s) (F0 m 1598 ls [])) : W p l e room_1 s m #[Value.ref b] below meth c H locs C N (lw_Z below #[Value.ref b] s) (F0 m 1112 ls []) := by
  obtain ⟨hx, hb, hml, hown, hts, hscr, hbl, hK, hXX, hKo, hE, hnt, hL⟩ := C0
  obtain ⟨ea, eb, hX, hM, hW, hS⟩ := X0
  subst ea
  subst eb
  have hcR : ∀ j : Nat, j ≤ 2 → C + j ≤ room_1.cells := fun j hj => by
    show C + j ≤ 601024
    omega
  have hsR : ∀ j : Nat, j ≤ 102 → N + j ≤ room_1.slots := fun j hj => by
    show N + j ≤ 7293034
    omega
  have h4 := lv_at hl 0 rfl
  have h0 := lv_at hl 1 rfl
  refine lv_aload_n hx hb dL_law_1112 rfl (lv_at hl 2 rfl) ?_
  refine lw_arg hx hb hscr hbl hS hL hi h4 h0 1 (by decide) (by decide) dL_law_1113 dL_law_1114 dL_law_1116 dL_law_1117 dL_law_1118 ?_
  refine lw_arg hx hb hscr hbl hS hL hi h4 h0 2 (by decide) (by decide) dL_law_1119 dL_law_1120 dL_law_1122 dL_law_1123 dL_law_1124 ?_
  refine lw_arg hx hb hscr hbl hS hL hi h4 h0 3 (by decide) (by decide) dL_law_1125 dL_law_1126 dL_law_1128 dL_law_1129 dL_law_1130 ?_
  refine lw_c1 (va_runV (As := [.int (xs (nI (i + 1)).toNatClampNeg), .int (xs (nI (i + 2)).toNatClampNeg), .int (xs (nI (i + 3)).toNatClampNeg)]) (rest := []) ⟨hx, hb, hml, hown, hts⟩ (c_X5_seeded l D κ _ S1 (a 0) (xs (nI (i + 1)).toNatClampNeg) (xs (nI (i + 2)).toNatClampNeg) (xs (nI (i + 3)).toNatClampNeg) (fun r S9 => r = sp_seeded v (xs (nI (i + 1)).toNatClampNeg) (xs (nI (i + 2)).toNatClampNeg) (xs (nI (i + 3)).toNatClampNeg) ∧ XI a v S9) (x_seeded hX (fun _ h => ⟨rfl, h⟩))) (cwV 3 hts gL_law_X5_seeded rfl rfl rfl (by decide +kernel) ⟨Nat.le_of_ble_eq_true rfl, Nat.le_of_ble_eq_true rfl⟩) (pg_V (q := (RX5, TX5, 13)) hK hXX hW.1 (hW.A1 hS.1) (kc_6 hX.1.k0) rfl) rfl rfl hl.1 rfl (lv_room (Nat.le_of_ble_eq_true rfl)) dL_law_1131 ⟨hcR 0 (by decide), hsR 0 (by decide)⟩) hW hS (fun r1 S1 H locs h1 hW hS => ?_)
  obtain ⟨h1, hX⟩ := h1
  refine lv_aload_n hx hb dL_law_1134 rfl (lv_at hl 3 rfl) ?_
  refine lw_arg hx hb hscr hbl hS hL hi h4 h0 1 (by decide) (by decide) dL_law_1135 dL_law_1136 dL_law_1138 dL_law_1139 dL_law_1140 ?_
  refine lw_arg hx hb hscr hbl hS hL hi h4 h0 2 (by decide) (by decide) dL_law_1141 dL_law_1142 dL_law_1144 dL_law_1145 dL_law_1146 ?_
  refine lw_arg hx hb hscr hbl hS hL hi h4 h0 3 (by decide) (by decide) dL_law_1147 dL_law_1148 dL_law_1150 dL_law_1151 dL_law_1152 ?_
  refine lw_c2 (va_runV (As := [.int (xs (nI (i + 1)).toNatClampNeg), .int (xs (nI (i + 2)).toNatClampNeg), .int (xs (nI (i + 3)).toNatClampNeg)]) (rest := [.int r1]) ⟨hx, hb, hml, hown, hts⟩ (c_X6_seeded l D κ _ S2 (b' 0) (xs (nI (i + 1)).toNatClampNeg) (xs (nI (i + 2)).toNatClampNeg) (xs (nI (i + 3)).toNatClampNeg) (fun r S9 => r = sp_seeded v (xs (nI (i + 1)).toNatClampNeg) (xs (nI (i + 2)).toNatClampNeg) (xs (nI (i + 3)).toNatClampNeg) ∧ MI b' v S9) (m_seeded hM (fun _ h => ⟨rfl, h⟩))) (cwV 3 hts gL_law_X6_seeded rfl rfl rfl (by decide +kernel) ⟨Nat.le_of_ble_eq_true rfl, Nat.le_of_ble_eq_true rfl⟩) (pg_V (q := (RX6, TX6, 32)) hK hXX hW.2.1 (hW.A2 hS.1) (kc_7 hM.1.all.1) rfl) rfl rfl hl.1 rfl (lv_room (Nat.le_of_ble_eq_true rfl)) dL_law_1153 ⟨hcR 0 (by decide), hsR 0 (by decide)⟩) hW hS (fun r2 S2 H locs h2 hW hS => ?_)
  obtain ⟨h2, hM⟩ := h2
  refine lv_icmp_eq (tgt := 1598) hx hb dL_law_1156 (by decide) (fun _ => ?_) (fun hc => absurd (h1.trans h2.symm) hc)
  exact J _ _ _ _ _ _ _ _ ls _ _ ⟨rfl, rfl, hX, hM, hW, hS⟩ (by omega) (by omega) hl
set_option maxHeartbeats 4000000 in
set_option maxRecDepth 100000 in
theorem law_c25 {p : Program} {l : Launch} {e : Env} {s : State} {m : MethodId} {below : List Frame} {meth : Method} {c : Code} {b L : Nat} {xs : Nat → Int32} {D : va_G} {κ : Nat → ClassId} {cL : ClassId} {x y out : Nat} (C0 : lwC p l s m c b L xs D κ cL) {i : Nat} (hi : i + 6 ≤ L) {a b' : Nat → Nat} {v : AS} {S1 S2 : Hp} {f : Nat → Int64} {H : Heap} {locs : List Loc} (X0 : lwS D κ cL s x y out a b' v S1 S2 f H locs) {C N : Nat} (hC : C + 2 ≤ 601024) (hN : N + 102 ≤ 7293034) {ls : Array Slot} (hl : lv_has ls 8 [(4, .int (nI i)), (0, .ref b), (1, .ref x), (2, .ref y), (3, .ref out)])
    (J : ∀ (a b' : Nat → Nat) (v : AS) (S1 S2 : Hp) (f : Nat → Int64) (H : Heap) (locs : List Loc) (ls : Array Slot) (C' N' : Nat), lwS D κ cL s x y out a b' v S1 S2 f H locs → C' ≤ C + 2 → N' ≤ N + 102 → lv_has ls 8 [(4, .int (nI i)), (0, .ref b), (1, .ref x), (2, .ref y), (3, .ref out)] → W p l e room_1 s m #[Value.ref b] below meth c H locs C' N' (lw_Z below #[Value.ref b] s) (F0 m 1598 ls [])) : W p l e room_1 s m #[Value.ref b] below meth c H locs C N (lw_Z below #[Value.ref b] s) (F0 m 1161 ls []) := by
  obtain ⟨hx, hb, hml, hown, hts, hscr, hbl, hK, hXX, hKo, hE, hnt, hL⟩ := C0
  obtain ⟨ea, eb, hX, hM, hW, hS⟩ := X0
  subst ea
  subst eb
  have hcR : ∀ j : Nat, j ≤ 2 → C + j ≤ room_1.cells := fun j hj => by
    show C + j ≤ 601024
    omega
  have hsR : ∀ j : Nat, j ≤ 102 → N + j ≤ room_1.slots := fun j hj => by
    show N + j ≤ 7293034
    omega
  have h4 := lv_at hl 0 rfl
  have h0 := lv_at hl 1 rfl
  refine lv_aload_n hx hb dL_law_1161 rfl (lv_at hl 2 rfl) ?_
  refine lw_arg hx hb hscr hbl hS hL hi h4 h0 1 (by decide) (by decide) dL_law_1162 dL_law_1163 dL_law_1165 dL_law_1166 dL_law_1167 ?_
  refine lw_arg hx hb hscr hbl hS hL hi h4 h0 2 (by decide) (by decide) dL_law_1168 dL_law_1169 dL_law_1171 dL_law_1172 dL_law_1173 ?_
  refine lw_c1 (va_runV (As := [.int (xs (nI (i + 1)).toNatClampNeg), .int (xs (nI (i + 2)).toNatClampNeg)]) (rest := []) ⟨hx, hb, hml, hown, hts⟩ (c_X5_judge l D κ _ S1 (a 0) (xs (nI (i + 1)).toNatClampNeg) (xs (nI (i + 2)).toNatClampNeg) (fun r S9 => r = sp_judge v (xs (nI (i + 1)).toNatClampNeg) (xs (nI (i + 2)).toNatClampNeg) ∧ XI a v S9) (x_judge hX ⟨rfl, hX⟩)) (cwV 2 hts gL_law_X5_judge rfl rfl rfl (by decide +kernel) ⟨Nat.le_of_ble_eq_true rfl, Nat.le_of_ble_eq_true rfl⟩) (pg_V (q := (RX5, TX5, 13)) hK hXX hW.1 (hW.A1 hS.1) (kc_6 hX.1.k0) rfl) rfl rfl hl.1 rfl (lv_room (Nat.le_of_ble_eq_true rfl)) dL_law_1174 ⟨hcR 0 (by decide), hsR 0 (by decide)⟩) hW hS (fun r1 S1 H locs h1 hW hS => ?_)
  obtain ⟨h1, hX⟩ := h1
  refine lv_aload_n hx hb dL_law_1177 rfl (lv_at hl 3 rfl) ?_
  refine lw_arg hx hb hscr hbl hS hL hi h4 h0 1 (by decide) (by decide) dL_law_1178 dL_law_1179 dL_law_1181 dL_law_1182 dL_law_1183 ?_
  refine lw_arg hx hb hscr hbl hS hL hi h4 h0 2 (by decide) (by decide) dL_law_1184 dL_law_1185 dL_law_1187 dL_law_1188 dL_law_1189 ?_
  refine lw_c2 (va_runV (As := [.int (xs (nI (i + 1)).toNatClampNeg), .int (xs (nI (i + 2)).toNatClampNeg)]) (rest := [.int r1]) ⟨hx, hb, hml, hown, hts⟩ (c_X6_judge l D κ _ S2 (b' 0) (xs (nI (i + 1)).toNatClampNeg) (xs (nI (i + 2)).toNatClampNeg) (fun r S9 => r = sp_judge v (xs (nI (i + 1)).toNatClampNeg) (xs (nI (i + 2)).toNatClampNeg) ∧ MI b' v S9) (m_judge hM (fun _ h => ⟨rfl, h⟩))) (cwV 2 hts gL_law_X6_judge rfl rfl rfl (by decide +kernel) ⟨Nat.le_of_ble_eq_true rfl, Nat.le_of_ble_eq_true rfl⟩) (pg_V (q := (RX6, TX6, 32)) hK hXX hW.2.1 (hW.A2 hS.1) (kc_7 hM.1.all.1) rfl) rfl rfl hl.1 rfl (lv_room (Nat.le_of_ble_eq_true rfl)) dL_law_1190 ⟨hcR 0 (by decide), hsR 0 (by decide)⟩) hW hS (fun r2 S2 H locs h2 hW hS => ?_)
  obtain ⟨h2, hM⟩ := h2
  refine lv_icmp_eq (tgt := 1598) hx hb dL_law_1193 (by decide) (fun _ => ?_) (fun hc => absurd (h1.trans h2.symm) hc)
  exact J _ _ _ _ _ _ _ _ ls _ _ ⟨rfl, rfl, hX, hM, hW, hS⟩ (by omega) (by omega) hl
set_option maxHeartbeats 4000000 in
set_option maxRecDepth 100000 in
theorem law_c26 {p : Program} {l : Launch} {e : Env} {s : State} {m : MethodId} {below : List Frame} {meth : Method} {c : Code} {b L : Nat} {xs : Nat → Int32} {D : va_G} {κ : Nat → ClassId} {cL : ClassId} {x y out : Nat} (C0 : lwC p l s m c b L xs D κ cL) {i : Nat} (hi : i + 6 ≤ L) {a b' : Nat → Nat} {v : AS} {S1 S2 : Hp} {f : Nat → Int64} {H : Heap} {locs : List Loc} (X0 : lwS D κ cL s x y out a b' v S1 S2 f H locs) {C N : Nat} (hC : C + 2 ≤ 601024) (hN : N + 102 ≤ 7293034) {ls : Array Slot} (hl : lv_has ls 8 [(4, .int (nI i)), (0, .ref b), (1, .ref x), (2, .ref y), (3, .ref out)])
    (J : ∀ (a b' : Nat → Nat) (v : AS) (S1 S2 : Hp) (f : Nat → Int64) (H : Heap) (locs : List Loc) (ls : Array Slot) (C' N' : Nat), lwS D κ cL s x y out a b' v S1 S2 f H locs → C' ≤ C + 2 → N' ≤ N + 102 → lv_has ls 8 [(4, .int (nI i)), (0, .ref b), (1, .ref x), (2, .ref y), (3, .ref out)] → W p l e room_1 s m #[Value.ref b] below meth c H locs C' N' (lw_Z below #[Value.ref b] s) (F0 m 1598 ls [])) : W p l e room_1 s m #[Value.ref b] below meth c H locs C N (lw_Z below #[Value.ref b] s) (F0 m 1198 ls []) := by
  obtain ⟨hx, hb, hml, hown, hts, hscr, hbl, hK, hXX, hKo, hE, hnt, hL⟩ := C0
  obtain ⟨ea, eb, hX, hM, hW, hS⟩ := X0
  subst ea
  subst eb
  have hcR : ∀ j : Nat, j ≤ 2 → C + j ≤ room_1.cells := fun j hj => by
    show C + j ≤ 601024
    omega
  have hsR : ∀ j : Nat, j ≤ 102 → N + j ≤ room_1.slots := fun j hj => by
    show N + j ≤ 7293034
    omega
  have h4 := lv_at hl 0 rfl
  have h0 := lv_at hl 1 rfl
  refine lv_aload_n hx hb dL_law_1198 rfl (lv_at hl 2 rfl) ?_
  refine lw_c1 (va_runV (As := []) (rest := []) ⟨hx, hb, hml, hown, hts⟩ (c_X5_image l D κ _ S1 (a 0)  (fun r S9 => r = sp_image v  ∧ XI a (ef_image v) S9) (x_image hX (fun _ h => ⟨rfl, h⟩))) (cwV 0 hts gL_law_X5_image rfl rfl rfl (by decide +kernel) ⟨Nat.le_of_ble_eq_true rfl, Nat.le_of_ble_eq_true rfl⟩) (pg_V (q := (RX5, TX5, 13)) hK hXX hW.1 (hW.A1 hS.1) (kc_6 hX.1.k0) rfl) rfl rfl hl.1 rfl (lv_room (Nat.le_of_ble_eq_true rfl)) dL_law_1199 ⟨hcR 0 (by decide), hsR 0 (by decide)⟩) hW hS (fun r1 S1 H locs h1 hW hS => ?_)
  obtain ⟨h1, hX⟩ := h1
  refine lv_aload_n hx hb dL_law_1202 rfl (lv_at hl 3 rfl) ?_
  refine lw_c2 (va_runV (As := []) (rest := [.int r1]) ⟨hx, hb, hml, hown, hts⟩ (c_X6_image l D κ _ S2 (b' 0)  (fun r S9 => r = sp_image v  ∧ MI b' (ef_image v) S9) (m_image hM (fun _ h => ⟨rfl, h⟩))) (cwV 0 hts gL_law_X6_image rfl rfl rfl (by decide +kernel) ⟨Nat.le_of_ble_eq_true rfl, Nat.le_of_ble_eq_true rfl⟩) (pg_V (q := (RX6, TX6, 32)) hK hXX hW.2.1 (hW.A2 hS.1) (kc_7 hM.1.all.1) rfl) rfl rfl hl.1 rfl (lv_room (Nat.le_of_ble_eq_true rfl)) dL_law_1203 ⟨hcR 0 (by decide), hsR 0 (by decide)⟩) hW hS (fun r2 S2 H locs h2 hW hS => ?_)
  obtain ⟨h2, hM⟩ := h2
  refine lv_icmp_eq (tgt := 1598) hx hb dL_law_1206 (by decide) (fun _ => ?_) (fun hc => absurd (h1.trans h2.symm) hc)
  exact J _ _ _ _ _ _ _ _ ls _ _ ⟨rfl, rfl, hX, hM, hW, hS⟩ (by omega) (by omega) hl
set_option maxHeartbeats 4000000 in
set_option maxRecDepth 100000 in
theorem law_c27 {p : Program} {l : Launch} {e : Env} {s : State} {m : MethodId} {below : List Frame} {meth : Method} {c : Code} {b L : Nat} {xs : Nat → Int32} {D : va_G} {κ : Nat → ClassId} {cL : ClassId} {x y out : Nat} (C0 : lwC p l s m c b L xs D κ cL) {i : Nat} (hi : i + 6 ≤ L) {a b' : Nat → Nat} {v : AS} {S1 S2 : Hp} {f : Nat → Int64} {H : Heap} {locs : List Loc} (X0 : lwS D κ cL s x y out a b' v S1 S2 f H locs) {C N : Nat} (hC : C + 2 ≤ 601024) (hN : N + 102 ≤ 7293034) {ls : Array Slot} (hl : lv_has ls 8 [(4, .int (nI i)), (0, .ref b), (1, .ref x), (2, .ref y), (3, .ref out)])
    (J : ∀ (a b' : Nat → Nat) (v : AS) (S1 S2 : Hp) (f : Nat → Int64) (H : Heap) (locs : List Loc) (ls : Array Slot) (C' N' : Nat), lwS D κ cL s x y out a b' v S1 S2 f H locs → C' ≤ C + 2 → N' ≤ N + 102 → lv_has ls 8 [(4, .int (nI i)), (0, .ref b), (1, .ref x), (2, .ref y), (3, .ref out)] → W p l e room_1 s m #[Value.ref b] below meth c H locs C' N' (lw_Z below #[Value.ref b] s) (F0 m 1598 ls [])) : W p l e room_1 s m #[Value.ref b] below meth c H locs C N (lw_Z below #[Value.ref b] s) (F0 m 1211 ls []) := by
  obtain ⟨hx, hb, hml, hown, hts, hscr, hbl, hK, hXX, hKo, hE, hnt, hL⟩ := C0
  obtain ⟨ea, eb, hX, hM, hW, hS⟩ := X0
  subst ea
  subst eb
  have hcR : ∀ j : Nat, j ≤ 2 → C + j ≤ room_1.cells := fun j hj => by
    show C + j ≤ 601024
    omega
  have hsR : ∀ j : Nat, j ≤ 102 → N + j ≤ room_1.slots := fun j hj => by
    show N + j ≤ 7293034
    omega
  have h4 := lv_at hl 0 rfl
  have h0 := lv_at hl 1 rfl
  refine lv_aload_n hx hb dL_law_1211 rfl (lv_at hl 2 rfl) ?_
  refine lw_c1 (va_runV (As := []) (rest := []) ⟨hx, hb, hml, hown, hts⟩ (c_X5_restore l D κ _ S1 (a 0)  (fun r S9 => r = sp_restore v  ∧ XI a (ef_restore v) S9) (x_restore hX (fun _ h => ⟨rfl, h⟩))) (cwV 0 hts gL_law_X5_restore rfl rfl rfl (by decide +kernel) ⟨Nat.le_of_ble_eq_true rfl, Nat.le_of_ble_eq_true rfl⟩) (pg_V (q := (RX5, TX5, 13)) hK hXX hW.1 (hW.A1 hS.1) (kc_6 hX.1.k0) rfl) rfl rfl hl.1 rfl (lv_room (Nat.le_of_ble_eq_true rfl)) dL_law_1212 ⟨hcR 0 (by decide), hsR 0 (by decide)⟩) hW hS (fun r1 S1 H locs h1 hW hS => ?_)
  obtain ⟨h1, hX⟩ := h1
  refine lv_aload_n hx hb dL_law_1215 rfl (lv_at hl 3 rfl) ?_
  refine lw_c2 (va_runV (As := []) (rest := [.int r1]) ⟨hx, hb, hml, hown, hts⟩ (c_X6_restore l D κ _ S2 (b' 0)  (fun r S9 => r = sp_restore v  ∧ MI b' (ef_restore v) S9) (m_restore hM (fun _ h => ⟨rfl, h⟩))) (cwV 0 hts gL_law_X6_restore rfl rfl rfl (by decide +kernel) ⟨Nat.le_of_ble_eq_true rfl, Nat.le_of_ble_eq_true rfl⟩) (pg_V (q := (RX6, TX6, 32)) hK hXX hW.2.1 (hW.A2 hS.1) (kc_7 hM.1.all.1) rfl) rfl rfl hl.1 rfl (lv_room (Nat.le_of_ble_eq_true rfl)) dL_law_1216 ⟨hcR 0 (by decide), hsR 0 (by decide)⟩) hW hS (fun r2 S2 H locs h2 hW hS => ?_)
  obtain ⟨h2, hM⟩ := h2
  refine lv_icmp_eq (tgt := 1598) hx hb dL_law_1219 (by decide) (fun _ => ?_) (fun hc => absurd (h1.trans h2.symm) hc)
  exact J _ _ _ _ _ _ _ _ ls _ _ ⟨rfl, rfl, hX, hM, hW, hS⟩ (by omega) (by omega) hl
set_option maxHeartbeats 4000000 in
set_option maxRecDepth 100000 in
theorem law_c28 {p : Program} {l : Launch} {e : Env} {s : State} {m : MethodId} {below : List Frame} {meth : Method} {c : Code} {b L : Nat} {xs : Nat → Int32} {D : va_G} {κ : Nat → ClassId} {cL : ClassId} {x y out : Nat} (C0 : lwC p l s m c b L xs D κ cL) {i : Nat} (hi : i + 6 ≤ L) {a b' : Nat → Nat} {v : AS} {S1 S2 : Hp} {f : Nat → Int64} {H : Heap} {locs : List Loc} (X0 : lwS D κ cL s x y out a b' v S1 S2 f H locs) {C N : Nat} (hC : C + 2 ≤ 601024) (hN : N + 102 ≤ 7293034) {ls : Array Slot} (hl : lv_has ls 8 [(4, .int (nI i)), (0, .ref b), (1, .ref x), (2, .ref y), (3, .ref out)])
    (J : ∀ (a b' : Nat → Nat) (v : AS) (S1 S2 : Hp) (f : Nat → Int64) (H : Heap) (locs : List Loc) (ls : Array Slot) (C' N' : Nat), lwS D κ cL s x y out a b' v S1 S2 f H locs → C' ≤ C + 2 → N' ≤ N + 102 → lv_has ls 8 [(4, .int (nI i)), (0, .ref b), (1, .ref x), (2, .ref y), (3, .ref out)] → W p l e room_1 s m #[Value.ref b] below meth c H locs C' N' (lw_Z below #[Value.ref b] s) (F0 m 1598 ls [])) : W p l e room_1 s m #[Value.ref b] below meth c H locs C N (lw_Z below #[Value.ref b] s) (F0 m 1224 ls []) := by
  obtain ⟨hx, hb, hml, hown, hts, hscr, hbl, hK, hXX, hKo, hE, hnt, hL⟩ := C0
  obtain ⟨ea, eb, hX, hM, hW, hS⟩ := X0
  subst ea
  subst eb
  have hcR : ∀ j : Nat, j ≤ 2 → C + j ≤ room_1.cells := fun j hj => by
    show C + j ≤ 601024
    omega
  have hsR : ∀ j : Nat, j ≤ 102 → N + j ≤ room_1.slots := fun j hj => by
    show N + j ≤ 7293034
    omega
  have h4 := lv_at hl 0 rfl
  have h0 := lv_at hl 1 rfl
  refine lv_aload_n hx hb dL_law_1224 rfl (lv_at hl 2 rfl) ?_
  refine lw_arg hx hb hscr hbl hS hL hi h4 h0 1 (by decide) (by decide) dL_law_1225 dL_law_1226 dL_law_1228 dL_law_1229 dL_law_1230 ?_
  refine lw_c1 (va_runV (As := [.int (xs (nI (i + 1)).toNatClampNeg)]) (rest := []) ⟨hx, hb, hml, hown, hts⟩ (c_X5_count l D κ _ S1 (a 0) (xs (nI (i + 1)).toNatClampNeg) (fun r S9 => r = sp_count v (xs (nI (i + 1)).toNatClampNeg) ∧ XI a v S9) (x_count hX ⟨rfl, hX⟩)) (cwV 1 hts gL_law_X5_count rfl rfl rfl (by decide +kernel) ⟨Nat.le_of_ble_eq_true rfl, Nat.le_of_ble_eq_true rfl⟩) (pg_V (q := (RX5, TX5, 13)) hK hXX hW.1 (hW.A1 hS.1) (kc_6 hX.1.k0) rfl) rfl rfl hl.1 rfl (lv_room (Nat.le_of_ble_eq_true rfl)) dL_law_1231 ⟨hcR 0 (by decide), hsR 0 (by decide)⟩) hW hS (fun r1 S1 H locs h1 hW hS => ?_)
  obtain ⟨h1, hX⟩ := h1
  refine lv_aload_n hx hb dL_law_1234 rfl (lv_at hl 3 rfl) ?_
  refine lw_arg hx hb hscr hbl hS hL hi h4 h0 1 (by decide) (by decide) dL_law_1235 dL_law_1236 dL_law_1238 dL_law_1239 dL_law_1240 ?_
  refine lw_c2 (va_runV (As := [.int (xs (nI (i + 1)).toNatClampNeg)]) (rest := [.int r1]) ⟨hx, hb, hml, hown, hts⟩ (c_X6_count l D κ _ S2 (b' 0) (xs (nI (i + 1)).toNatClampNeg) (fun r S9 => r = sp_count v (xs (nI (i + 1)).toNatClampNeg) ∧ MI b' v S9) (m_count hM (fun _ h => ⟨rfl, h⟩))) (cwV 1 hts gL_law_X6_count rfl rfl rfl (by decide +kernel) ⟨Nat.le_of_ble_eq_true rfl, Nat.le_of_ble_eq_true rfl⟩) (pg_V (q := (RX6, TX6, 32)) hK hXX hW.2.1 (hW.A2 hS.1) (kc_7 hM.1.all.1) rfl) rfl rfl hl.1 rfl (lv_room (Nat.le_of_ble_eq_true rfl)) dL_law_1241 ⟨hcR 0 (by decide), hsR 0 (by decide)⟩) hW hS (fun r2 S2 H locs h2 hW hS => ?_)
  obtain ⟨h2, hM⟩ := h2
  refine lv_icmp_eq (tgt := 1598) hx hb dL_law_1244 (by decide) (fun _ => ?_) (fun hc => absurd (h1.trans h2.symm) hc)
  exact J _ _ _ _ _ _ _ _ ls _ _ ⟨rfl, rfl, hX, hM, hW, hS⟩ (by omega) (by omega) hl
set_option maxHeartbeats 4000000 in
set_option maxRecDepth 100000 in
theorem law_c29 {p : Program} {l : Launch} {e : Env} {s : State} {m : MethodId} {below : List Frame} {meth : Method} {c : Code} {b L : Nat} {xs : Nat → Int32} {D : va_G} {κ : Nat → ClassId} {cL : ClassId} {x y out : Nat} (C0 : lwC p l s m c b L xs D κ cL) {i : Nat} (hi : i + 6 ≤ L) {a b' : Nat → Nat} {v : AS} {S1 S2 : Hp} {f : Nat → Int64} {H : Heap} {locs : List Loc} (X0 : lwS D κ cL s x y out a b' v S1 S2 f H locs) {C N : Nat} (hC : C + 2 ≤ 601024) (hN : N + 102 ≤ 7293034) {ls : Array Slot} (hl : lv_has ls 8 [(4, .int (nI i)), (0, .ref b), (1, .ref x), (2, .ref y), (3, .ref out)])
    (J : ∀ (a b' : Nat → Nat) (v : AS) (S1 S2 : Hp) (f : Nat → Int64) (H : Heap) (locs : List Loc) (ls : Array Slot) (C' N' : Nat), lwS D κ cL s x y out a b' v S1 S2 f H locs → C' ≤ C + 2 → N' ≤ N + 102 → lv_has ls 8 [(4, .int (nI i)), (0, .ref b), (1, .ref x), (2, .ref y), (3, .ref out)] → W p l e room_1 s m #[Value.ref b] below meth c H locs C' N' (lw_Z below #[Value.ref b] s) (F0 m 1598 ls [])) : W p l e room_1 s m #[Value.ref b] below meth c H locs C N (lw_Z below #[Value.ref b] s) (F0 m 1249 ls []) := by
  obtain ⟨hx, hb, hml, hown, hts, hscr, hbl, hK, hXX, hKo, hE, hnt, hL⟩ := C0
  obtain ⟨ea, eb, hX, hM, hW, hS⟩ := X0
  subst ea
  subst eb
  have hcR : ∀ j : Nat, j ≤ 2 → C + j ≤ room_1.cells := fun j hj => by
    show C + j ≤ 601024
    omega
  have hsR : ∀ j : Nat, j ≤ 102 → N + j ≤ room_1.slots := fun j hj => by
    show N + j ≤ 7293034
    omega
  have h4 := lv_at hl 0 rfl
  have h0 := lv_at hl 1 rfl
  refine lv_aload_n hx hb dL_law_1249 rfl (lv_at hl 2 rfl) ?_
  refine lw_arg hx hb hscr hbl hS hL hi h4 h0 1 (by decide) (by decide) dL_law_1250 dL_law_1251 dL_law_1253 dL_law_1254 dL_law_1255 ?_
  refine lw_arg hx hb hscr hbl hS hL hi h4 h0 2 (by decide) (by decide) dL_law_1256 dL_law_1257 dL_law_1259 dL_law_1260 dL_law_1261 ?_
  refine lw_arg hx hb hscr hbl hS hL hi h4 h0 3 (by decide) (by decide) dL_law_1262 dL_law_1263 dL_law_1265 dL_law_1266 dL_law_1267 ?_
  refine lw_arg hx hb hscr hbl hS hL hi h4 h0 4 (by decide) (by decide) dL_law_1268 dL_law_1269 dL_law_1271 dL_law_1272 dL_law_1273 ?_
  refine lw_c1 (va_runV (As := [.int (xs (nI (i + 1)).toNatClampNeg), .int (xs (nI (i + 2)).toNatClampNeg), .int (xs (nI (i + 3)).toNatClampNeg), .int (xs (nI (i + 4)).toNatClampNeg)]) (rest := []) ⟨hx, hb, hml, hown, hts⟩ (c_X5_keep l D κ _ S1 (a 0) (xs (nI (i + 1)).toNatClampNeg) (xs (nI (i + 2)).toNatClampNeg) (xs (nI (i + 3)).toNatClampNeg) (xs (nI (i + 4)).toNatClampNeg) (fun r S9 => r = sp_keep (xs (nI (i + 1)).toNatClampNeg) (xs (nI (i + 2)).toNatClampNeg) (xs (nI (i + 3)).toNatClampNeg) (xs (nI (i + 4)).toNatClampNeg) ∧ XI a (ef_keep v (xs (nI (i + 1)).toNatClampNeg) (xs (nI (i + 2)).toNatClampNeg) (xs (nI (i + 3)).toNatClampNeg) (xs (nI (i + 4)).toNatClampNeg)) S9) (x_keep hX (fun _ h => ⟨rfl, h⟩))) (cwV 4 hts gL_law_X5_keep rfl rfl rfl (by decide +kernel) ⟨Nat.le_of_ble_eq_true rfl, Nat.le_of_ble_eq_true rfl⟩) (pg_V (q := (RX5, TX5, 13)) hK hXX hW.1 (hW.A1 hS.1) (kc_6 hX.1.k0) rfl) rfl rfl hl.1 rfl (lv_room (Nat.le_of_ble_eq_true rfl)) dL_law_1274 ⟨hcR 1 (by decide), hsR 2 (by decide)⟩) hW hS (fun r1 S1 H locs h1 hW hS => ?_)
  obtain ⟨h1, hX⟩ := h1
  refine lv_aload_n hx hb dL_law_1277 rfl (lv_at hl 3 rfl) ?_
  refine lw_arg hx hb hscr hbl hS hL hi h4 h0 1 (by decide) (by decide) dL_law_1278 dL_law_1279 dL_law_1281 dL_law_1282 dL_law_1283 ?_
  refine lw_arg hx hb hscr hbl hS hL hi h4 h0 2 (by decide) (by decide) dL_law_1284 dL_law_1285 dL_law_1287 dL_law_1288 dL_law_1289 ?_
  refine lw_arg hx hb hscr hbl hS hL hi h4 h0 3 (by decide) (by decide) dL_law_1290 dL_law_1291 dL_law_1293 dL_law_1294 dL_law_1295 ?_
  refine lw_arg hx hb hscr hbl hS hL hi h4 h0 4 (by decide) (by decide) dL_law_1296 dL_law_1297 dL_law_1299 dL_law_1300 dL_law_1301 ?_
  refine lw_c2 (va_runV (As := [.int (xs (nI (i + 1)).toNatClampNeg), .int (xs (nI (i + 2)).toNatClampNeg), .int (xs (nI (i + 3)).toNatClampNeg), .int (xs (nI (i + 4)).toNatClampNeg)]) (rest := [.int r1]) ⟨hx, hb, hml, hown, hts⟩ (c_X6_keep l D κ _ S2 (b' 0) (xs (nI (i + 1)).toNatClampNeg) (xs (nI (i + 2)).toNatClampNeg) (xs (nI (i + 3)).toNatClampNeg) (xs (nI (i + 4)).toNatClampNeg) (fun r S9 => r = sp_keep (xs (nI (i + 1)).toNatClampNeg) (xs (nI (i + 2)).toNatClampNeg) (xs (nI (i + 3)).toNatClampNeg) (xs (nI (i + 4)).toNatClampNeg) ∧ MI b' (ef_keep v (xs (nI (i + 1)).toNatClampNeg) (xs (nI (i + 2)).toNatClampNeg) (xs (nI (i + 3)).toNatClampNeg) (xs (nI (i + 4)).toNatClampNeg)) S9) (m_keep hM (fun _ h => ⟨rfl, h⟩))) (cwV 4 hts gL_law_X6_keep rfl rfl rfl (by decide +kernel) ⟨Nat.le_of_ble_eq_true rfl, Nat.le_of_ble_eq_true rfl⟩) (pg_V (q := (RX6, TX6, 32)) hK hXX hW.2.1 (hW.A2 hS.1) (kc_7 hM.1.all.1) rfl) rfl rfl hl.1 rfl (lv_room (Nat.le_of_ble_eq_true rfl)) dL_law_1302 ⟨hcR 1 (by decide), hsR 2 (by decide)⟩) hW hS (fun r2 S2 H locs h2 hW hS => ?_)
  obtain ⟨h2, hM⟩ := h2
  refine lv_icmp_eq (tgt := 1598) hx hb dL_law_1305 (by decide) (fun _ => ?_) (fun hc => absurd (h1.trans h2.symm) hc)
  exact J _ _ _ _ _ _ _ _ ls _ _ ⟨rfl, rfl, hX, hM, hW, hS⟩ (by omega) (by omega) hl
set_option maxHeartbeats 4000000 in
set_option maxRecDepth 100000 in
theorem law_c30 {p : Program} {l : Launch} {e : Env} {s : State} {m : MethodId} {below : List Frame} {meth : Method} {c : Code} {b L : Nat} {xs : Nat → Int32} {D : va_G} {κ : Nat → ClassId} {cL : ClassId} {x y out : Nat} (C0 : lwC p l s m c b L xs D κ cL) {i : Nat} (hi : i + 6 ≤ L) {a b' : Nat → Nat} {v : AS} {S1 S2 : Hp} {f : Nat → Int64} {H : Heap} {locs : List Loc} (X0 : lwS D κ cL s x y out a b' v S1 S2 f H locs) {C N : Nat} (hC : C + 2 ≤ 601024) (hN : N + 102 ≤ 7293034) {ls : Array Slot} (hl : lv_has ls 8 [(4, .int (nI i)), (0, .ref b), (1, .ref x), (2, .ref y), (3, .ref out)])
    (J : ∀ (a b' : Nat → Nat) (v : AS) (S1 S2 : Hp) (f : Nat → Int64) (H : Heap) (locs : List Loc) (ls : Array Slot) (C' N' : Nat), lwS D κ cL s x y out a b' v S1 S2 f H locs → C' ≤ C + 2 → N' ≤ N + 102 → lv_has ls 8 [(4, .int (nI i)), (0, .ref b), (1, .ref x), (2, .ref y), (3, .ref out)] → W p l e room_1 s m #[Value.ref b] below meth c H locs C' N' (lw_Z below #[Value.ref b] s) (F0 m 1598 ls [])) : W p l e room_1 s m #[Value.ref b] below meth c H locs C N (lw_Z below #[Value.ref b] s) (F0 m 1310 ls []) := by
  obtain ⟨hx, hb, hml, hown, hts, hscr, hbl, hK, hXX, hKo, hE, hnt, hL⟩ := C0
  obtain ⟨ea, eb, hX, hM, hW, hS⟩ := X0
  subst ea
  subst eb
  have hcR : ∀ j : Nat, j ≤ 2 → C + j ≤ room_1.cells := fun j hj => by
    show C + j ≤ 601024
    omega
  have hsR : ∀ j : Nat, j ≤ 102 → N + j ≤ room_1.slots := fun j hj => by
    show N + j ≤ 7293034
    omega
  have h4 := lv_at hl 0 rfl
  have h0 := lv_at hl 1 rfl
  refine lv_aload_n hx hb dL_law_1310 rfl (lv_at hl 2 rfl) ?_
  refine lw_arg hx hb hscr hbl hS hL hi h4 h0 1 (by decide) (by decide) dL_law_1311 dL_law_1312 dL_law_1314 dL_law_1315 dL_law_1316 ?_
  refine lw_arg hx hb hscr hbl hS hL hi h4 h0 2 (by decide) (by decide) dL_law_1317 dL_law_1318 dL_law_1320 dL_law_1321 dL_law_1322 ?_
  refine lw_arg hx hb hscr hbl hS hL hi h4 h0 3 (by decide) (by decide) dL_law_1323 dL_law_1324 dL_law_1326 dL_law_1327 dL_law_1328 ?_
  refine lw_c1 (va_runV (As := [.int (xs (nI (i + 1)).toNatClampNeg), .int (xs (nI (i + 2)).toNatClampNeg), .int (xs (nI (i + 3)).toNatClampNeg)]) (rest := []) ⟨hx, hb, hml, hown, hts⟩ (c_X5_row l D κ _ S1 (a 0) (xs (nI (i + 1)).toNatClampNeg) (xs (nI (i + 2)).toNatClampNeg) (xs (nI (i + 3)).toNatClampNeg) (fun r S9 => r = sp_row (xs (nI (i + 1)).toNatClampNeg) (xs (nI (i + 2)).toNatClampNeg) (xs (nI (i + 3)).toNatClampNeg) ∧ XI a (ef_row v (xs (nI (i + 1)).toNatClampNeg) (xs (nI (i + 2)).toNatClampNeg) (xs (nI (i + 3)).toNatClampNeg)) S9) (x_rowc hX (fun _ h => ⟨rfl, h⟩))) (cwV 3 hts gL_law_X5_row rfl rfl rfl (by decide +kernel) ⟨Nat.le_of_ble_eq_true rfl, Nat.le_of_ble_eq_true rfl⟩) (pg_V (q := (RX5, TX5, 13)) hK hXX hW.1 (hW.A1 hS.1) (kc_6 hX.1.k0) rfl) rfl rfl hl.1 rfl (lv_room (Nat.le_of_ble_eq_true rfl)) dL_law_1329 ⟨hcR 2 (by decide), hsR 102 (by decide)⟩) hW hS (fun r1 S1 H locs h1 hW hS => ?_)
  obtain ⟨h1, hX⟩ := h1
  refine lv_aload_n hx hb dL_law_1332 rfl (lv_at hl 3 rfl) ?_
  refine lw_arg hx hb hscr hbl hS hL hi h4 h0 1 (by decide) (by decide) dL_law_1333 dL_law_1334 dL_law_1336 dL_law_1337 dL_law_1338 ?_
  refine lw_arg hx hb hscr hbl hS hL hi h4 h0 2 (by decide) (by decide) dL_law_1339 dL_law_1340 dL_law_1342 dL_law_1343 dL_law_1344 ?_
  refine lw_arg hx hb hscr hbl hS hL hi h4 h0 3 (by decide) (by decide) dL_law_1345 dL_law_1346 dL_law_1348 dL_law_1349 dL_law_1350 ?_
  refine lw_c2 (va_runV (As := [.int (xs (nI (i + 1)).toNatClampNeg), .int (xs (nI (i + 2)).toNatClampNeg), .int (xs (nI (i + 3)).toNatClampNeg)]) (rest := [.int r1]) ⟨hx, hb, hml, hown, hts⟩ (c_X6_row l D κ _ S2 (b' 0) (xs (nI (i + 1)).toNatClampNeg) (xs (nI (i + 2)).toNatClampNeg) (xs (nI (i + 3)).toNatClampNeg) (fun r S9 => r = sp_row (xs (nI (i + 1)).toNatClampNeg) (xs (nI (i + 2)).toNatClampNeg) (xs (nI (i + 3)).toNatClampNeg) ∧ MI b' (ef_row v (xs (nI (i + 1)).toNatClampNeg) (xs (nI (i + 2)).toNatClampNeg) (xs (nI (i + 3)).toNatClampNeg)) S9) (m_rowc hM (fun _ h => ⟨rfl, h⟩))) (cwV 3 hts gL_law_X6_row rfl rfl rfl (by decide +kernel) ⟨Nat.le_of_ble_eq_true rfl, Nat.le_of_ble_eq_true rfl⟩) (pg_V (q := (RX6, TX6, 32)) hK hXX hW.2.1 (hW.A2 hS.1) (kc_7 hM.1.all.1) rfl) rfl rfl hl.1 rfl (lv_room (Nat.le_of_ble_eq_true rfl)) dL_law_1351 ⟨hcR 2 (by decide), hsR 102 (by decide)⟩) hW hS (fun r2 S2 H locs h2 hW hS => ?_)
  obtain ⟨h2, hM⟩ := h2
  refine lv_icmp_eq (tgt := 1598) hx hb dL_law_1354 (by decide) (fun _ => ?_) (fun hc => absurd (h1.trans h2.symm) hc)
  exact J _ _ _ _ _ _ _ _ ls _ _ ⟨rfl, rfl, hX, hM, hW, hS⟩ (by omega) (by omega) hl
set_option maxHeartbeats 4000000 in
set_option maxRecDepth 100000 in
theorem law_c31 {p : Program} {l : Launch} {e : Env} {s : State} {m : MethodId} {below : List Frame} {meth : Method} {c : Code} {b L : Nat} {xs : Nat → Int32} {D : va_G} {κ : Nat → ClassId} {cL : ClassId} {x y out : Nat} (C0 : lwC p l s m c b L xs D κ cL) {i : Nat} (hi : i + 6 ≤ L) {a b' : Nat → Nat} {v : AS} {S1 S2 : Hp} {f : Nat → Int64} {H : Heap} {locs : List Loc} (X0 : lwS D κ cL s x y out a b' v S1 S2 f H locs) {C N : Nat} (hC : C + 2 ≤ 601024) (hN : N + 102 ≤ 7293034) {ls : Array Slot} (hl : lv_has ls 8 [(4, .int (nI i)), (0, .ref b), (1, .ref x), (2, .ref y), (3, .ref out)])
    (J : ∀ (a b' : Nat → Nat) (v : AS) (S1 S2 : Hp) (f : Nat → Int64) (H : Heap) (locs : List Loc) (ls : Array Slot) (C' N' : Nat), lwS D κ cL s x y out a b' v S1 S2 f H locs → C' ≤ C + 2 → N' ≤ N + 102 → lv_has ls 8 [(4, .int (nI i)), (0, .ref b), (1, .ref x), (2, .ref y), (3, .ref out)] → W p l e room_1 s m #[Value.ref b] below meth c H locs C' N' (lw_Z below #[Value.ref b] s) (F0 m 1598 ls [])) : W p l e room_1 s m #[Value.ref b] below meth c H locs C N (lw_Z below #[Value.ref b] s) (F0 m 1359 ls []) := by
  obtain ⟨hx, hb, hml, hown, hts, hscr, hbl, hK, hXX, hKo, hE, hnt, hL⟩ := C0
  obtain ⟨ea, eb, hX, hM, hW, hS⟩ := X0
  subst ea
  subst eb
  have hcR : ∀ j : Nat, j ≤ 2 → C + j ≤ room_1.cells := fun j hj => by
    show C + j ≤ 601024
    omega
  have hsR : ∀ j : Nat, j ≤ 102 → N + j ≤ room_1.slots := fun j hj => by
    show N + j ≤ 7293034
    omega
  have h4 := lv_at hl 0 rfl
  have h0 := lv_at hl 1 rfl
  refine lv_aload_n hx hb dL_law_1359 rfl (lv_at hl 2 rfl) ?_
  refine lw_arg hx hb hscr hbl hS hL hi h4 h0 1 (by decide) (by decide) dL_law_1360 dL_law_1361 dL_law_1363 dL_law_1364 dL_law_1365 ?_
  refine lw_arg hx hb hscr hbl hS hL hi h4 h0 2 (by decide) (by decide) dL_law_1366 dL_law_1367 dL_law_1369 dL_law_1370 dL_law_1371 ?_
  refine lw_arg hx hb hscr hbl hS hL hi h4 h0 3 (by decide) (by decide) dL_law_1372 dL_law_1373 dL_law_1375 dL_law_1376 dL_law_1377 ?_
  refine lw_c1 (va_runV (As := [.int (xs (nI (i + 1)).toNatClampNeg), .int (xs (nI (i + 2)).toNatClampNeg), .int (xs (nI (i + 3)).toNatClampNeg)]) (rest := []) ⟨hx, hb, hml, hown, hts⟩ (c_X5_put l D κ _ S1 (a 0) (xs (nI (i + 1)).toNatClampNeg) (xs (nI (i + 2)).toNatClampNeg) (xs (nI (i + 3)).toNatClampNeg) (fun r S9 => r = sp_put v (xs (nI (i + 1)).toNatClampNeg) (xs (nI (i + 2)).toNatClampNeg) ∧ XI a (ef_put v (xs (nI (i + 1)).toNatClampNeg) (xs (nI (i + 2)).toNatClampNeg) (xs (nI (i + 3)).toNatClampNeg)) S9) (x_putc hX (fun _ h => ⟨rfl, h⟩))) (cwV 3 hts gL_law_X5_put rfl rfl rfl (by decide +kernel) ⟨Nat.le_of_ble_eq_true rfl, Nat.le_of_ble_eq_true rfl⟩) (pg_V (q := (RX5, TX5, 13)) hK hXX hW.1 (hW.A1 hS.1) (kc_6 hX.1.k0) rfl) rfl rfl hl.1 rfl (lv_room (Nat.le_of_ble_eq_true rfl)) dL_law_1378 ⟨hcR 0 (by decide), hsR 0 (by decide)⟩) hW hS (fun r1 S1 H locs h1 hW hS => ?_)
  obtain ⟨h1, hX⟩ := h1
  refine lv_aload_n hx hb dL_law_1381 rfl (lv_at hl 3 rfl) ?_
  refine lw_arg hx hb hscr hbl hS hL hi h4 h0 1 (by decide) (by decide) dL_law_1382 dL_law_1383 dL_law_1385 dL_law_1386 dL_law_1387 ?_
  refine lw_arg hx hb hscr hbl hS hL hi h4 h0 2 (by decide) (by decide) dL_law_1388 dL_law_1389 dL_law_1391 dL_law_1392 dL_law_1393 ?_
  refine lw_arg hx hb hscr hbl hS hL hi h4 h0 3 (by decide) (by decide) dL_law_1394 dL_law_1395 dL_law_1397 dL_law_1398 dL_law_1399 ?_
  refine lw_c2 (va_runV (As := [.int (xs (nI (i + 1)).toNatClampNeg), .int (xs (nI (i + 2)).toNatClampNeg), .int (xs (nI (i + 3)).toNatClampNeg)]) (rest := [.int r1]) ⟨hx, hb, hml, hown, hts⟩ (c_X6_put l D κ _ S2 (b' 0) (xs (nI (i + 1)).toNatClampNeg) (xs (nI (i + 2)).toNatClampNeg) (xs (nI (i + 3)).toNatClampNeg) (fun r S9 => r = sp_put v (xs (nI (i + 1)).toNatClampNeg) (xs (nI (i + 2)).toNatClampNeg) ∧ MI b' (ef_put v (xs (nI (i + 1)).toNatClampNeg) (xs (nI (i + 2)).toNatClampNeg) (xs (nI (i + 3)).toNatClampNeg)) S9) (m_putc hM (fun _ h => ⟨rfl, h⟩))) (cwV 3 hts gL_law_X6_put rfl rfl rfl (by decide +kernel) ⟨Nat.le_of_ble_eq_true rfl, Nat.le_of_ble_eq_true rfl⟩) (pg_V (q := (RX6, TX6, 32)) hK hXX hW.2.1 (hW.A2 hS.1) (kc_7 hM.1.all.1) rfl) rfl rfl hl.1 rfl (lv_room (Nat.le_of_ble_eq_true rfl)) dL_law_1400 ⟨hcR 0 (by decide), hsR 0 (by decide)⟩) hW hS (fun r2 S2 H locs h2 hW hS => ?_)
  obtain ⟨h2, hM⟩ := h2
  refine lv_icmp_eq (tgt := 1598) hx hb dL_law_1403 (by decide) (fun _ => ?_) (fun hc => absurd (h1.trans h2.symm) hc)
  exact J _ _ _ _ _ _ _ _ ls _ _ ⟨rfl, rfl, hX, hM, hW, hS⟩ (by omega) (by omega) hl
set_option maxHeartbeats 4000000 in
set_option maxRecDepth 100000 in
theorem law_c32 {p : Program} {l : Launch} {e : Env} {s : State} {m : MethodId} {below : List Frame} {meth : Method} {c : Code} {b L : Nat} {xs : Nat → Int32} {D : va_G} {κ : Nat → ClassId} {cL : ClassId} {x y out : Nat} (C0 : lwC p l s m c b L xs D κ cL) {i : Nat} (hi : i + 6 ≤ L) {a b' : Nat → Nat} {v : AS} {S1 S2 : Hp} {f : Nat → Int64} {H : Heap} {locs : List Loc} (X0 : lwS D κ cL s x y out a b' v S1 S2 f H locs) {C N : Nat} (hC : C + 2 ≤ 601024) (hN : N + 102 ≤ 7293034) {ls : Array Slot} (hl : lv_has ls 8 [(4, .int (nI i)), (0, .ref b), (1, .ref x), (2, .ref y), (3, .ref out)])
    (J : ∀ (a b' : Nat → Nat) (v : AS) (S1 S2 : Hp) (f : Nat → Int64) (H : Heap) (locs : List Loc) (ls : Array Slot) (C' N' : Nat), lwS D κ cL s x y out a b' v S1 S2 f H locs → C' ≤ C + 2 → N' ≤ N + 102 → lv_has ls 8 [(4, .int (nI i)), (0, .ref b), (1, .ref x), (2, .ref y), (3, .ref out)] → W p l e room_1 s m #[Value.ref b] below meth c H locs C' N' (lw_Z below #[Value.ref b] s) (F0 m 1598 ls [])) : W p l e room_1 s m #[Value.ref b] below meth c H locs C N (lw_Z below #[Value.ref b] s) (F0 m 1408 ls []) := by
  obtain ⟨hx, hb, hml, hown, hts, hscr, hbl, hK, hXX, hKo, hE, hnt, hL⟩ := C0
  obtain ⟨ea, eb, hX, hM, hW, hS⟩ := X0
  subst ea
  subst eb
  have hcR : ∀ j : Nat, j ≤ 2 → C + j ≤ room_1.cells := fun j hj => by
    show C + j ≤ 601024
    omega
  have hsR : ∀ j : Nat, j ≤ 102 → N + j ≤ room_1.slots := fun j hj => by
    show N + j ≤ 7293034
    omega
  have h4 := lv_at hl 0 rfl
  have h0 := lv_at hl 1 rfl
  refine lv_aload_n hx hb dL_law_1408 rfl (lv_at hl 2 rfl) ?_
  refine lw_arg hx hb hscr hbl hS hL hi h4 h0 1 (by decide) (by decide) dL_law_1409 dL_law_1410 dL_law_1412 dL_law_1413 dL_law_1414 ?_
  refine lw_arg hx hb hscr hbl hS hL hi h4 h0 2 (by decide) (by decide) dL_law_1415 dL_law_1416 dL_law_1418 dL_law_1419 dL_law_1420 ?_
  refine lv_aload_n hx hb dL_law_1421 rfl (lv_at hl 4 rfl) ?_
  refine va_calli (vx_runSW (As := [.ref (a 0), .int (xs (nI (i + 1)).toNatClampNeg), .int (xs (nI (i + 2)).toNatClampNeg), .ref out]) (rest := []) ⟨hx, hb, hml, hown, hts⟩ (c_L_element l hnt D κ (RA κ s.heap.size out S2) S1 (a 0) (xs (nI (i + 1)).toNatClampNeg) (xs (nI (i + 2)).toNatClampNeg) cL out f (fun r S9 g => XI a v S9 ∧ r = nI (elC v (xs (nI (i + 1)).toNatClampNeg) (xs (nI (i + 2)).toNatClampNeg)) ∧ (elC v (xs (nI (i + 1)).toNatClampNeg) (xs (nI (i + 2)).toNatClampNeg) = 0 → g 0 = elV v (xs (nI (i + 1)).toNatClampNeg) (xs (nI (i + 2)).toNatClampNeg))) (x_lelement hX (fun g hg => ⟨hX, rfl, hg⟩))) (vx_cwSW 4 hts gL_law_L_element rfl rfl rfl (by decide +kernel) ⟨Nat.le_of_ble_eq_true rfl, Nat.le_of_ble_eq_true rfl⟩) (pl_S hK hXX hW.1 (hW.A1 hS.1) (fun U hU hW9 => (hE.at' hS hU hW9).narrow (fun _ h => h.1)) (fun h => h.2.2 rfl) hW.2.2.1 hKo) rfl rfl hl.1 rfl (lv_room (Nat.le_of_ble_eq_true rfl)) dL_law_1422 ⟨hcR 1 (by decide), hsR 6 (by decide)⟩) hS (fun q _ h => h.elim (fun h => h.1) (fun h => h ▸ hW.2.2.2)) (fun q h => h.elim (fun h => h.1) (fun h => h ▸ hW.2.2.2)) (fun r1 u t H1 locs1 ht _ hp hB _ hk hS => ?_)
  obtain ⟨S3, f3⟩ := u
  have hW := hW.onef (ht ▸ hB.1.1) hk (ht ▸ hB.2.1)
  obtain ⟨hX, h1, hg⟩ := hp
  dsimp only at hX h1 hg hW
  clear hB hk ht
  refine lv_istore (lv' := [(5, .int r1), (4, .int (nI i)), (0, .ref b), (1, .ref (a 0)), (2, .ref (b' 0)), (3, .ref out)]) hx hb dL_law_1425 hl (by decide) rfl (fun ls hl => ?_)
  have h4 := lv_at hl 1 rfl
  have h0 := lv_at hl 2 rfl
  refine lv_aload_n hx hb dL_law_1427 rfl (lv_at hl 4 rfl) ?_
  refine lw_arg hx hb hscr hbl hS hL hi h4 h0 1 (by decide) (by decide) dL_law_1428 dL_law_1429 dL_law_1431 dL_law_1432 dL_law_1433 ?_
  refine lw_arg hx hb hscr hbl hS hL hi h4 h0 2 (by decide) (by decide) dL_law_1434 dL_law_1435 dL_law_1437 dL_law_1438 dL_law_1439 ?_
  refine lw_l2 (va_runV (As := [.int (xs (nI (i + 1)).toNatClampNeg), .int (xs (nI (i + 2)).toNatClampNeg)]) (rest := []) ⟨hx, hb, hml, hown, hts⟩ (c_X6_element l D κ _ S2 (b' 0) (xs (nI (i + 1)).toNatClampNeg) (xs (nI (i + 2)).toNatClampNeg) (fun r S9 => MI b' v S9 ∧ gI S9 101 (b' 0) = nI (elC v (xs (nI (i + 1)).toNatClampNeg) (xs (nI (i + 2)).toNatClampNeg)) ∧ r = (if elC v (xs (nI (i + 1)).toNatClampNeg) (xs (nI (i + 2)).toNatClampNeg) = 0 then elV v (xs (nI (i + 1)).toNatClampNeg) (xs (nI (i + 2)).toNatClampNeg) else 0)) (m_element hM (fun S9 h9 e9 => ⟨h9, e9, rfl⟩))) (cwV 2 hts gL_law_X6_element rfl rfl rfl (by decide +kernel) ⟨Nat.le_of_ble_eq_true rfl, Nat.le_of_ble_eq_true rfl⟩) (pg_V (q := (RX6, TX6, 32)) hK hXX hW.2.1 (hW.A2 hS.1) (kc_7 hM.1.all.1) rfl) rfl rfl hl.1 rfl (lv_room (Nat.le_of_ble_eq_true rfl)) dL_law_1440 ⟨hcR 1 (by decide), hsR 6 (by decide)⟩) hW hS (fun r2 S2 H locs h2 hW hS => ?_)
  obtain ⟨hM, h3, h2⟩ := h2
  refine lv_lstore (lv' := [(6, .long r2), (5, .int r1), (4, .int (nI i)), (0, .ref b), (1, .ref (a 0)), (2, .ref (b' 0)), (3, .ref out)]) hx hb dL_law_1443 hl (by decide) rfl (fun ls hl => ?_)
  refine lv_aload_n hx hb dL_law_1445 rfl (lv_at hl 5 rfl) ?_
  refine lw_c2 (va_runV (As := []) (rest := []) ⟨hx, hb, hml, hown, hts⟩ (c_X6_thrown l D κ _ S2 (b' 0) (fun r S9 => MI b' v S9 ∧ r = nI (elC v (xs (nI (i + 1)).toNatClampNeg) (xs (nI (i + 2)).toNatClampNeg))) ⟨hM.1.all.1, hM, h3⟩) (cwV 0 hts gL_law_X6_thrown rfl rfl rfl (by decide +kernel) ⟨Nat.le_of_ble_eq_true rfl, Nat.le_of_ble_eq_true rfl⟩) (pg_V (q := (RX6, TX6, 32)) hK hXX hW.2.1 (hW.A2 hS.1) (kc_7 hM.1.all.1) rfl) rfl rfl hl.1 rfl (lv_room (Nat.le_of_ble_eq_true rfl)) dL_law_1446 ⟨hcR 1 (by decide), hsR 6 (by decide)⟩) hW hS (fun r4 S2 H locs h5 hW hS => ?_)
  obtain ⟨hM, h5⟩ := h5
  refine lv_iload hx hb dL_law_1449 (lv_at hl 1 rfl) ?_
  refine lv_icmp_eq (tgt := 1456) hx hb dL_law_1451 (by decide) (fun hc => ?_) (fun hc => absurd (h5.trans h1.symm) hc)
  have hJ : W p l e room_1 s m #[Value.ref b] below meth c H locs (C + 1) (N + 6) (lw_Z below #[Value.ref b] s) (F0 m 1472 ls []) := by
    refine lv_goto (tgt := 1598) hx hb dL_law_1472 rfl ?_
    exact J _ _ v _ _ _ _ _ ls _ _ ⟨rfl, rfl, hX, hM, hW, hS⟩ (by omega) (by omega) (lv_sub hl [2, 3, 4, 5, 6] rfl)
  refine lv_iload hx hb dL_law_1456 (lv_at hl 1 rfl) ?_
  refine lv_if_ne (tgt := 1472) hx hb dL_law_1458 rfl (fun hz => ?_) (fun hz => ?_)
  · exact hJ
  · have hz0 : elC v (xs (nI (i + 1)).toNatClampNeg) (xs (nI (i + 2)).toNatClampNeg) = 0 := by
      have h9 : elC v (xs (nI (i + 1)).toNatClampNeg) (xs (nI (i + 2)).toNatClampNeg) ≤ 2 := by
        unfold elC
        split
        · split <;> decide
        · decide
      rw [h1] at hz
      have h8 := congrArg Int32.toInt hz
      rw [nI_toInt (by omega)] at h8
      exact Int.ofNat.inj h8
    rw [if_pos hz0] at h2
    refine lv_aload_n hx hb dL_law_1461 rfl (lv_at hl 6 rfl) ?_
    refine lv_iconst (v := (0 : Int32)) hx hb dL_law_1462 (by decide) ?_
    refine va_lald hx hb hKo hW.2.2.1 0 0 rfl rfl (by unfold vp_in; decide) dL_law_1463 ?_
    refine lv_lload hx hb dL_law_1464 (lv_at hl 0 rfl) ?_
    refine W.lcmp hx hb dL_law_1466 ?_
    refine lv_if_eq (tgt := 1472) hx hb dL_law_1467 rfl (fun _ => hJ) (fun h9 => absurd ?_ h9)
    rw [show (0 : Int32).toNatClampNeg = 0 from rfl, hg hz0, h2]
    exact lw_cmp _
set_option maxHeartbeats 4000000 in
set_option maxRecDepth 100000 in
theorem law_c33 {p : Program} {l : Launch} {e : Env} {s : State} {m : MethodId} {below : List Frame} {meth : Method} {c : Code} {b L : Nat} {xs : Nat → Int32} {D : va_G} {κ : Nat → ClassId} {cL : ClassId} {x y out : Nat} (C0 : lwC p l s m c b L xs D κ cL) {i : Nat} (hi : i + 6 ≤ L) {a b' : Nat → Nat} {v : AS} {S1 S2 : Hp} {f : Nat → Int64} {H : Heap} {locs : List Loc} (X0 : lwS D κ cL s x y out a b' v S1 S2 f H locs) {C N : Nat} (hC : C + 2 ≤ 601024) (hN : N + 102 ≤ 7293034) {ls : Array Slot} (hl : lv_has ls 8 [(4, .int (nI i)), (0, .ref b), (1, .ref x), (2, .ref y), (3, .ref out)])
    (J : ∀ (a b' : Nat → Nat) (v : AS) (S1 S2 : Hp) (f : Nat → Int64) (H : Heap) (locs : List Loc) (ls : Array Slot) (C' N' : Nat), lwS D κ cL s x y out a b' v S1 S2 f H locs → C' ≤ C + 2 → N' ≤ N + 102 → lv_has ls 8 [(4, .int (nI i)), (0, .ref b), (1, .ref x), (2, .ref y), (3, .ref out)] → W p l e room_1 s m #[Value.ref b] below meth c H locs C' N' (lw_Z below #[Value.ref b] s) (F0 m 1598 ls [])) : W p l e room_1 s m #[Value.ref b] below meth c H locs C N (lw_Z below #[Value.ref b] s) (F0 m 1475 ls []) := by
  obtain ⟨hx, hb, hml, hown, hts, hscr, hbl, hK, hXX, hKo, hE, hnt, hL⟩ := C0
  obtain ⟨ea, eb, hX, hM, hW, hS⟩ := X0
  subst ea
  subst eb
  have hcR : ∀ j : Nat, j ≤ 2 → C + j ≤ room_1.cells := fun j hj => by
    show C + j ≤ 601024
    omega
  have hsR : ∀ j : Nat, j ≤ 102 → N + j ≤ room_1.slots := fun j hj => by
    show N + j ≤ 7293034
    omega
  have h4 := lv_at hl 0 rfl
  have h0 := lv_at hl 1 rfl
  refine lv_aload_n hx hb dL_law_1475 rfl (lv_at hl 2 rfl) ?_
  refine lw_arg hx hb hscr hbl hS hL hi h4 h0 1 (by decide) (by decide) dL_law_1476 dL_law_1477 dL_law_1479 dL_law_1480 dL_law_1481 ?_
  refine lw_arg hx hb hscr hbl hS hL hi h4 h0 2 (by decide) (by decide) dL_law_1482 dL_law_1483 dL_law_1485 dL_law_1486 dL_law_1487 ?_
  refine lw_arg hx hb hscr hbl hS hL hi h4 h0 3 (by decide) (by decide) dL_law_1488 dL_law_1489 dL_law_1491 dL_law_1492 dL_law_1493 ?_
  refine lw_arg hx hb hscr hbl hS hL hi h4 h0 4 (by decide) (by decide) dL_law_1494 dL_law_1495 dL_law_1497 dL_law_1498 dL_law_1499 ?_
  refine lw_arg hx hb hscr hbl hS hL hi h4 h0 5 (by decide) (by decide) dL_law_1500 dL_law_1501 dL_law_1503 dL_law_1504 dL_law_1505 ?_
  refine lw_c1 (va_runV (As := [.int (xs (nI (i + 1)).toNatClampNeg), .int (xs (nI (i + 2)).toNatClampNeg), .int (xs (nI (i + 3)).toNatClampNeg), .int (xs (nI (i + 4)).toNatClampNeg), .int (xs (nI (i + 5)).toNatClampNeg)]) (rest := []) ⟨hx, hb, hml, hown, hts⟩ (c_X5_copy l D κ _ S1 (a 0) (xs (nI (i + 1)).toNatClampNeg) (xs (nI (i + 2)).toNatClampNeg) (xs (nI (i + 3)).toNatClampNeg) (xs (nI (i + 4)).toNatClampNeg) (xs (nI (i + 5)).toNatClampNeg) (fun r S9 => r = sp_copy v (xs (nI (i + 1)).toNatClampNeg) (xs (nI (i + 2)).toNatClampNeg) (xs (nI (i + 3)).toNatClampNeg) (xs (nI (i + 4)).toNatClampNeg) (xs (nI (i + 5)).toNatClampNeg) ∧ XI a (ef_copy v (xs (nI (i + 1)).toNatClampNeg) (xs (nI (i + 2)).toNatClampNeg) (xs (nI (i + 3)).toNatClampNeg) (xs (nI (i + 4)).toNatClampNeg) (xs (nI (i + 5)).toNatClampNeg)) S9) (x_copy hX (fun _ h => ⟨rfl, h⟩))) (cwV 5 hts gL_law_X5_copy rfl rfl rfl (by decide +kernel) ⟨Nat.le_of_ble_eq_true rfl, Nat.le_of_ble_eq_true rfl⟩) (pg_V (q := (RX5, TX5, 13)) hK hXX hW.1 (hW.A1 hS.1) (kc_6 hX.1.k0) rfl) rfl rfl hl.1 rfl (lv_room (Nat.le_of_ble_eq_true rfl)) dL_law_1506 ⟨hcR 0 (by decide), hsR 0 (by decide)⟩) hW hS (fun r1 S1 H locs h1 hW hS => ?_)
  obtain ⟨h1, hX⟩ := h1
  refine lv_aload_n hx hb dL_law_1509 rfl (lv_at hl 3 rfl) ?_
  refine lw_arg hx hb hscr hbl hS hL hi h4 h0 1 (by decide) (by decide) dL_law_1510 dL_law_1511 dL_law_1513 dL_law_1514 dL_law_1515 ?_
  refine lw_arg hx hb hscr hbl hS hL hi h4 h0 2 (by decide) (by decide) dL_law_1516 dL_law_1517 dL_law_1519 dL_law_1520 dL_law_1521 ?_
  refine lw_arg hx hb hscr hbl hS hL hi h4 h0 3 (by decide) (by decide) dL_law_1522 dL_law_1523 dL_law_1525 dL_law_1526 dL_law_1527 ?_
  refine lw_arg hx hb hscr hbl hS hL hi h4 h0 4 (by decide) (by decide) dL_law_1528 dL_law_1529 dL_law_1531 dL_law_1532 dL_law_1533 ?_
  refine lw_arg hx hb hscr hbl hS hL hi h4 h0 5 (by decide) (by decide) dL_law_1534 dL_law_1535 dL_law_1537 dL_law_1538 dL_law_1539 ?_
  refine lw_c2 (va_runV (As := [.int (xs (nI (i + 1)).toNatClampNeg), .int (xs (nI (i + 2)).toNatClampNeg), .int (xs (nI (i + 3)).toNatClampNeg), .int (xs (nI (i + 4)).toNatClampNeg), .int (xs (nI (i + 5)).toNatClampNeg)]) (rest := [.int r1]) ⟨hx, hb, hml, hown, hts⟩ (c_X6_copy l D κ _ S2 (b' 0) (xs (nI (i + 1)).toNatClampNeg) (xs (nI (i + 2)).toNatClampNeg) (xs (nI (i + 3)).toNatClampNeg) (xs (nI (i + 4)).toNatClampNeg) (xs (nI (i + 5)).toNatClampNeg) (fun r S9 => r = sp_copy v (xs (nI (i + 1)).toNatClampNeg) (xs (nI (i + 2)).toNatClampNeg) (xs (nI (i + 3)).toNatClampNeg) (xs (nI (i + 4)).toNatClampNeg) (xs (nI (i + 5)).toNatClampNeg) ∧ MI b' (ef_copy v (xs (nI (i + 1)).toNatClampNeg) (xs (nI (i + 2)).toNatClampNeg) (xs (nI (i + 3)).toNatClampNeg) (xs (nI (i + 4)).toNatClampNeg) (xs (nI (i + 5)).toNatClampNeg)) S9) (m_copy hM (fun _ h => ⟨rfl, h⟩))) (cwV 5 hts gL_law_X6_copy rfl rfl rfl (by decide +kernel) ⟨Nat.le_of_ble_eq_true rfl, Nat.le_of_ble_eq_true rfl⟩) (pg_V (q := (RX6, TX6, 32)) hK hXX hW.2.1 (hW.A2 hS.1) (kc_7 hM.1.all.1) rfl) rfl rfl hl.1 rfl (lv_room (Nat.le_of_ble_eq_true rfl)) dL_law_1540 ⟨hcR 0 (by decide), hsR 0 (by decide)⟩) hW hS (fun r2 S2 H locs h2 hW hS => ?_)
  obtain ⟨h2, hM⟩ := h2
  refine lv_icmp_eq (tgt := 1598) hx hb dL_law_1543 (by decide) (fun _ => ?_) (fun hc => absurd (h1.trans h2.symm) hc)
  exact J _ _ _ _ _ _ _ _ ls _ _ ⟨rfl, rfl, hX, hM, hW, hS⟩ (by omega) (by omega) hl
set_option maxHeartbeats 4000000 in
set_option maxRecDepth 100000 in
theorem law_c34 {p : Program} {l : Launch} {e : Env} {s : State} {m : MethodId} {below : List Frame} {meth : Method} {c : Code} {b L : Nat} {xs : Nat → Int32} {D : va_G} {κ : Nat → ClassId} {cL : ClassId} {x y out : Nat} (C0 : lwC p l s m c b L xs D κ cL) {i : Nat} (hi : i + 6 ≤ L) {a b' : Nat → Nat} {v : AS} {S1 S2 : Hp} {f : Nat → Int64} {H : Heap} {locs : List Loc} (X0 : lwS D κ cL s x y out a b' v S1 S2 f H locs) {C N : Nat} (hC : C + 2 ≤ 601024) (hN : N + 102 ≤ 7293034) {ls : Array Slot} (hl : lv_has ls 8 [(4, .int (nI i)), (0, .ref b), (1, .ref x), (2, .ref y), (3, .ref out)])
    (J : ∀ (a b' : Nat → Nat) (v : AS) (S1 S2 : Hp) (f : Nat → Int64) (H : Heap) (locs : List Loc) (ls : Array Slot) (C' N' : Nat), lwS D κ cL s x y out a b' v S1 S2 f H locs → C' ≤ C + 2 → N' ≤ N + 102 → lv_has ls 8 [(4, .int (nI i)), (0, .ref b), (1, .ref x), (2, .ref y), (3, .ref out)] → W p l e room_1 s m #[Value.ref b] below meth c H locs C' N' (lw_Z below #[Value.ref b] s) (F0 m 1598 ls [])) : W p l e room_1 s m #[Value.ref b] below meth c H locs C N (lw_Z below #[Value.ref b] s) (F0 m 1548 ls []) := by
  obtain ⟨hx, hb, hml, hown, hts, hscr, hbl, hK, hXX, hKo, hE, hnt, hL⟩ := C0
  obtain ⟨ea, eb, hX, hM, hW, hS⟩ := X0
  subst ea
  subst eb
  have hcR : ∀ j : Nat, j ≤ 2 → C + j ≤ room_1.cells := fun j hj => by
    show C + j ≤ 601024
    omega
  have hsR : ∀ j : Nat, j ≤ 102 → N + j ≤ room_1.slots := fun j hj => by
    show N + j ≤ 7293034
    omega
  have h4 := lv_at hl 0 rfl
  have h0 := lv_at hl 1 rfl
  refine lv_aload_n hx hb dL_law_1548 rfl (lv_at hl 2 rfl) ?_
  refine lw_arg hx hb hscr hbl hS hL hi h4 h0 1 (by decide) (by decide) dL_law_1549 dL_law_1550 dL_law_1552 dL_law_1553 dL_law_1554 ?_
  refine lw_c1 (va_runV (As := [.int (xs (nI (i + 1)).toNatClampNeg)]) (rest := []) ⟨hx, hb, hml, hown, hts⟩ (c_X5_cost l D κ _ S1 (a 0) (xs (nI (i + 1)).toNatClampNeg) (fun r S9 => r = sp_cost v (xs (nI (i + 1)).toNatClampNeg) ∧ XI a v S9) (x_cost hX ⟨rfl, hX⟩)) (cwV 1 hts gL_law_X5_cost rfl rfl rfl (by decide +kernel) ⟨Nat.le_of_ble_eq_true rfl, Nat.le_of_ble_eq_true rfl⟩) (pg_V (q := (RX5, TX5, 13)) hK hXX hW.1 (hW.A1 hS.1) (kc_6 hX.1.k0) rfl) rfl rfl hl.1 rfl (lv_room (Nat.le_of_ble_eq_true rfl)) dL_law_1555 ⟨hcR 0 (by decide), hsR 0 (by decide)⟩) hW hS (fun r1 S1 H locs h1 hW hS => ?_)
  obtain ⟨h1, hX⟩ := h1
  refine lv_aload_n hx hb dL_law_1558 rfl (lv_at hl 3 rfl) ?_
  refine lw_arg hx hb hscr hbl hS hL hi h4 h0 1 (by decide) (by decide) dL_law_1559 dL_law_1560 dL_law_1562 dL_law_1563 dL_law_1564 ?_
  refine lw_c2 (va_runV (As := [.int (xs (nI (i + 1)).toNatClampNeg)]) (rest := [.int r1]) ⟨hx, hb, hml, hown, hts⟩ (c_X6_cost l D κ _ S2 (b' 0) (xs (nI (i + 1)).toNatClampNeg) (fun r S9 => r = sp_cost v (xs (nI (i + 1)).toNatClampNeg) ∧ MI b' v S9) (m_cost hM (fun _ h => ⟨rfl, h⟩))) (cwV 1 hts gL_law_X6_cost rfl rfl rfl (by decide +kernel) ⟨Nat.le_of_ble_eq_true rfl, Nat.le_of_ble_eq_true rfl⟩) (pg_V (q := (RX6, TX6, 32)) hK hXX hW.2.1 (hW.A2 hS.1) (kc_7 hM.1.all.1) rfl) rfl rfl hl.1 rfl (lv_room (Nat.le_of_ble_eq_true rfl)) dL_law_1565 ⟨hcR 0 (by decide), hsR 0 (by decide)⟩) hW hS (fun r2 S2 H locs h2 hW hS => ?_)
  obtain ⟨h2, hM⟩ := h2
  refine lv_icmp_eq (tgt := 1598) hx hb dL_law_1568 (by decide) (fun _ => ?_) (fun hc => absurd (h1.trans h2.symm) hc)
  exact J _ _ _ _ _ _ _ _ ls _ _ ⟨rfl, rfl, hX, hM, hW, hS⟩ (by omega) (by omega) hl
set_option maxHeartbeats 4000000 in
set_option maxRecDepth 100000 in
theorem law_c35 {p : Program} {l : Launch} {e : Env} {s : State} {m : MethodId} {below : List Frame} {meth : Method} {c : Code} {b L : Nat} {xs : Nat → Int32} {D : va_G} {κ : Nat → ClassId} {cL : ClassId} {x y out : Nat} (C0 : lwC p l s m c b L xs D κ cL) {i : Nat} (hi : i + 6 ≤ L) {a b' : Nat → Nat} {v : AS} {S1 S2 : Hp} {f : Nat → Int64} {H : Heap} {locs : List Loc} (X0 : lwS D κ cL s x y out a b' v S1 S2 f H locs) {C N : Nat} (hC : C + 2 ≤ 601024) (hN : N + 102 ≤ 7293034) {ls : Array Slot} (hl : lv_has ls 8 [(4, .int (nI i)), (0, .ref b), (1, .ref x), (2, .ref y), (3, .ref out)])
    (J : ∀ (a b' : Nat → Nat) (v : AS) (S1 S2 : Hp) (f : Nat → Int64) (H : Heap) (locs : List Loc) (ls : Array Slot) (C' N' : Nat), lwS D κ cL s x y out a b' v S1 S2 f H locs → C' ≤ C + 2 → N' ≤ N + 102 → lv_has ls 8 [(4, .int (nI i)), (0, .ref b), (1, .ref x), (2, .ref y), (3, .ref out)] → W p l e room_1 s m #[Value.ref b] below meth c H locs C' N' (lw_Z below #[Value.ref b] s) (F0 m 1598 ls [])) : W p l e room_1 s m #[Value.ref b] below meth c H locs C N (lw_Z below #[Value.ref b] s) (F0 m 1573 ls []) := by
  obtain ⟨hx, hb, hml, hown, hts, hscr, hbl, hK, hXX, hKo, hE, hnt, hL⟩ := C0
  obtain ⟨ea, eb, hX, hM, hW, hS⟩ := X0
  subst ea
  subst eb
  have hcR : ∀ j : Nat, j ≤ 2 → C + j ≤ room_1.cells := fun j hj => by
    show C + j ≤ 601024
    omega
  have hsR : ∀ j : Nat, j ≤ 102 → N + j ≤ room_1.slots := fun j hj => by
    show N + j ≤ 7293034
    omega
  have h4 := lv_at hl 0 rfl
  have h0 := lv_at hl 1 rfl
  refine lv_aload_n hx hb dL_law_1573 rfl (lv_at hl 2 rfl) ?_
  refine lw_arg hx hb hscr hbl hS hL hi h4 h0 1 (by decide) (by decide) dL_law_1574 dL_law_1575 dL_law_1577 dL_law_1578 dL_law_1579 ?_
  refine lw_c1 (vx_runVW (As := [.int (xs (nI (i + 1)).toNatClampNeg)]) (rest := []) ⟨hx, hb, hml, hown, hts⟩ (c_X5_toss l hnt D κ _ S1 (a 0) (xs (nI (i + 1)).toNatClampNeg) (fun r S9 => r = sp_toss v (xs (nI (i + 1)).toNatClampNeg) ∧ XI a v S9) (x_toss hX ⟨rfl, hX⟩)) (vx_cwVW 1 hts gL_law_X5_toss rfl rfl rfl (by decide +kernel) ⟨Nat.le_of_ble_eq_true rfl, Nat.le_of_ble_eq_true rfl⟩) (pe_V (q := (RX5, TX5, 13)) hK hXX hW.1 (hW.A1 hS.1) (fun U hU hW9 => (hE.at' hS hU hW9).narrow (fun _ h => h.1)) (kc_6 hX.1.k0) rfl) rfl rfl hl.1 rfl (lv_room (Nat.le_of_ble_eq_true rfl)) dL_law_1580 ⟨hcR 1 (by decide), hsR 6 (by decide)⟩) hW hS (fun r1 S1 H locs h1 hW hS => ?_)
  obtain ⟨h1, hX⟩ := h1
  refine lv_aload_n hx hb dL_law_1583 rfl (lv_at hl 3 rfl) ?_
  refine lw_arg hx hb hscr hbl hS hL hi h4 h0 1 (by decide) (by decide) dL_law_1584 dL_law_1585 dL_law_1587 dL_law_1588 dL_law_1589 ?_
  refine lw_c2 (va_runV (As := [.int (xs (nI (i + 1)).toNatClampNeg)]) (rest := [.int r1]) ⟨hx, hb, hml, hown, hts⟩ (c_X6_toss l D κ _ S2 (b' 0) (xs (nI (i + 1)).toNatClampNeg) (fun r S9 => r = sp_toss v (xs (nI (i + 1)).toNatClampNeg) ∧ MI b' v S9) (m_toss hM (fun _ h => ⟨rfl, h⟩))) (cwV 1 hts gL_law_X6_toss rfl rfl rfl (by decide +kernel) ⟨Nat.le_of_ble_eq_true rfl, Nat.le_of_ble_eq_true rfl⟩) (pg_V (q := (RX6, TX6, 32)) hK hXX hW.2.1 (hW.A2 hS.1) (kc_7 hM.1.all.1) rfl) rfl rfl hl.1 rfl (lv_room (Nat.le_of_ble_eq_true rfl)) dL_law_1590 ⟨hcR 1 (by decide), hsR 6 (by decide)⟩) hW hS (fun r2 S2 H locs h2 hW hS => ?_)
  obtain ⟨h2, hM⟩ := h2
  refine lv_icmp_eq (tgt := 1598) hx hb dL_law_1593 (by decide) (fun _ => ?_) (fun hc => absurd (h1.trans h2.symm) hc)
  exact J _ _ _ _ _ _ _ _ ls _ _ ⟨rfl, rfl, hX, hM, hW, hS⟩ (by omega) (by omega) hl
