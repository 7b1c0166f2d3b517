/-! the law's loop -/
set_option maxHeartbeats 4000000 in
set_option maxRecDepth 100000 in
theorem law_loop {p : Program} {l : Launch} {e : Env} {s : State} {m : MethodId} {below : List Frame} {meth : Method} {c : Code} {b L : Nat} {xs : Nat → Int32} {D : va_G} {κ : Nat → ClassId} {cL : ClassId} {x y out : Nat} (C0 : lwC p l s m c b L xs D κ cL) (hr : meth.sig.returnType = ret) (hlocks : meth.locks = false) : ∀ (n k : Nat), 6 * k ≤ L → L < 6 * (k + n) → ∀ (a b' : Nat → Nat) (v : AS) (S1 S2 : Hp) (f : Nat → Int64) (H : Heap) (locs : List Loc) (ls : Array Slot), lwS D κ cL s x y out a b' v S1 S2 f H locs → lv_has ls 8 [(4, .int (nI (6 * k))), (0, .ref b), (1, .ref x), (2, .ref y), (3, .ref out)] → W p l e room_1 s m #[Value.ref b] below meth c H locs (60 + 2 * k) (20000 + 102 * k) (lw_Z below #[Value.ref b] s) (F0 m 23 ls []) := by
  obtain ⟨hx, hb, hml, hown, hts, hscr, hbl, hK, hXX, hKo, hE, hnt, hL⟩ := id C0
  have hbA : ¬ (fun q : Nat => s.heap.size ≤ q) b := Nat.not_le.mpr hbl
  intro n
  induction n with
  | zero =>
    intro k h1 h2
    exact absurd h2 (by omega)
  | succ n ih =>
    intro k h1 h2 a b' v S1 S2 f H locs ls X0 hl
    have hS : va_S (fun q : Nat => s.heap.size ≤ q) s.heap H locs := X0.2.2.2.2.2
    refine lv_iload hx hb dL_law_23 (lv_at hl 0 rfl) ?_
    refine lv_aload_n hx hb dL_law_25 rfl (lv_at hl 1 rfl) ?_
    refine va_slen hx hb hscr hbl hbA hS dL_law_26 ?_
    refine lv_bipush (v := (6 : Int32)) hx hb dL_law_27 (by decide) ?_
    refine lv_isub hx hb dL_law_29 ?_
    have e1 : (Int32.ofNat L - 6).toInt = (L : Int) - 6 := by
      have e0 : (Int32.ofNat L).toInt = L := nI_toInt (n := L) (by omega)
      rw [p_sub (by rw [e0, show (6 : Int32).toInt = 6 from rfl]; omega) (by rw [e0, show (6 : Int32).toInt = 6 from rfl]; omega), e0]
      rfl
    refine lv_icmp_gt (tgt := 1604) hx hb dL_law_30 (by decide) (fun hc => ?_) (fun hc => ?_)
    · rw [p_lt, e1, nI_toInt (by omega)] at hc
      refine lv_iconst (v := 1) hx hb dL_law_1604 (by decide) ?_
      refine va_forget (fun q hq => hS.2.2 q hq) ?_
      refine W.widen (k := 601024) (n := 7293034) (by omega) (by omega) ?_
      exact lw_ret hx hb hr hlocks dL_law_1605
    rw [p_lt, e1, nI_toInt (by omega)] at hc
    have hlt : 6 * k + 6 ≤ L := by omega
    refine lv_aload_n hx hb dL_law_33 rfl (lv_at hl 1 rfl) ?_
    refine lv_iload hx hb dL_law_34 (lv_at hl 0 rfl) ?_
    refine va_sld hx hb hscr hbl hbA hS (vp_in_nI (by omega) (by omega)) dL_law_36 ?_
    refine lv_bipush (v := (63 : Int32)) hx hb dL_law_37 (by decide) ?_
    refine lv_iand hx hb dL_law_39 ?_
    generalize xs (nI (6 * k)).toNatClampNeg &&& 63 = op
    have J : ∀ (a b' : Nat → Nat) (v : AS) (S1 S2 : Hp) (f : Nat → Int64) (H : Heap) (locs : List Loc) (ls : Array Slot) (C' N' : Nat), lwS D κ cL s x y out a b' v S1 S2 f H locs → C' ≤ 60 + 2 * k + 2 → N' ≤ 20000 + 102 * k + 102 → lv_has ls 8 [(4, .int (nI (6 * k))), (0, .ref b), (1, .ref x), (2, .ref y), (3, .ref out)] → W p l e room_1 s m #[Value.ref b] below meth c H locs C' N' (lw_Z below #[Value.ref b] s) (F0 m 1598 ls []) := by
      intro a b' v S1 S2 f H locs ls C' N' X0 hC hN hl
      have e6 : nI (6 * k) + Int32.ofInt 6 = nI (6 * (k + 1)) := nI_add (6 * k) 6
      refine lv_iinc (v := nI (6 * (k + 1))) (lv' := [(4, .int (nI (6 * (k + 1)))), (0, .ref b), (1, .ref x), (2, .ref y), (3, .ref out)]) hx hb dL_law_1598 hl (k := 0) rfl e6 (by decide) rfl (fun ls hl => ?_)
      refine lv_goto (tgt := 23) hx hb dL_law_1601 (by decide) ?_
      refine W.widen (k := 60 + 2 * (k + 1)) (n := 20000 + 102 * (k + 1)) (by omega) (by omega) ?_
      exact ih (k + 1) (by omega) (by omega) a b' v S1 S2 f H locs ls X0 hl
    by_cases hlo : op.toInt < 0 ∨ 35 < op.toInt
    · refine lv_tableOut (tgt := 1598) hx hb dL_law_40 hlo rfl ?_
      exact J _ _ _ _ _ _ _ _ ls _ _ X0 (by omega) (by omega) hl
    obtain ⟨j, hj, h36⟩ : ∃ j : Nat, op.toInt = (j : Int) ∧ j < 36 := ⟨op.toInt.toNat, by omega, by omega⟩
    have g1 : ¬ op.toInt < 0 := by omega
    have g2 : ¬ 35 < op.toInt := by omega
    match j, hj, h36 with
    | 0, hj, _ => exact lv_tableIn (off := 160) (tgt := 200) hx hb dL_law_40 g1 g2 (by rw [hj]; rfl) (by decide) (law_c0 C0 hlt X0 (by omega) (by omega) hl J)
    | 1, hj, _ => exact lv_tableIn (off := 185) (tgt := 225) hx hb dL_law_40 g1 g2 (by rw [hj]; rfl) (by decide) (law_c1 C0 hlt X0 (by omega) (by omega) hl J)
    | 2, hj, _ => exact lv_tableIn (off := 222) (tgt := 262) hx hb dL_law_40 g1 g2 (by rw [hj]; rfl) (by decide) (law_c2 C0 hlt X0 (by omega) (by omega) hl J)
    | 3, hj, _ => exact lv_tableIn (off := 259) (tgt := 299) hx hb dL_law_40 g1 g2 (by rw [hj]; rfl) (by decide) (law_c3 C0 hlt X0 (by omega) (by omega) hl J)
    | 4, hj, _ => exact lv_tableIn (off := 296) (tgt := 336) hx hb dL_law_40 g1 g2 (by rw [hj]; rfl) (by decide) (law_c4 C0 hlt X0 (by omega) (by omega) hl J)
    | 5, hj, _ => exact lv_tableIn (off := 333) (tgt := 373) hx hb dL_law_40 g1 g2 (by rw [hj]; rfl) (by decide) (law_c5 C0 hlt X0 (by omega) (by omega) hl J)
    | 6, hj, _ => exact lv_tableIn (off := 370) (tgt := 410) hx hb dL_law_40 g1 g2 (by rw [hj]; rfl) (by decide) (law_c6 C0 hlt X0 (by omega) (by omega) hl J)
    | 7, hj, _ => exact lv_tableIn (off := 407) (tgt := 447) hx hb dL_law_40 g1 g2 (by rw [hj]; rfl) (by decide) (law_c7 C0 hlt X0 (by omega) (by omega) hl J)
    | 8, hj, _ => exact lv_tableIn (off := 456) (tgt := 496) hx hb dL_law_40 g1 g2 (by rw [hj]; rfl) (by decide) (law_c8 C0 hlt X0 (by omega) (by omega) hl J)
    | 9, hj, _ => exact lv_tableIn (off := 481) (tgt := 521) hx hb dL_law_40 g1 g2 (by rw [hj]; rfl) (by decide) (law_c9 C0 hlt X0 (by omega) (by omega) hl J)
    | 10, hj, _ => exact lv_tableIn (off := 506) (tgt := 546) hx hb dL_law_40 g1 g2 (by rw [hj]; rfl) (by decide) (law_c10 C0 hlt X0 (by omega) (by omega) hl J)
    | 11, hj, _ => exact lv_tableIn (off := 543) (tgt := 583) hx hb dL_law_40 g1 g2 (by rw [hj]; rfl) (by decide) (law_c11 C0 hlt X0 (by omega) (by omega) hl J)
    | 12, hj, _ => exact lv_tableIn (off := 604) (tgt := 644) hx hb dL_law_40 g1 g2 (by rw [hj]; rfl) (by decide) (law_c12 C0 hlt X0 (by omega) (by omega) hl J)
    | 13, hj, _ => exact lv_tableIn (off := 641) (tgt := 681) hx hb dL_law_40 g1 g2 (by rw [hj]; rfl) (by decide) (law_c13 C0 hlt X0 (by omega) (by omega) hl J)
    | 14, hj, _ => exact lv_tableIn (off := 678) (tgt := 718) hx hb dL_law_40 g1 g2 (by rw [hj]; rfl) (by decide) (law_c14 C0 hlt X0 (by omega) (by omega) hl J)
    | 15, hj, _ => exact lv_tableIn (off := 715) (tgt := 755) hx hb dL_law_40 g1 g2 (by rw [hj]; rfl) (by decide) (law_c15 C0 hlt X0 (by omega) (by omega) hl J)
    | 16, hj, _ => exact lv_tableIn (off := 752) (tgt := 792) hx hb dL_law_40 g1 g2 (by rw [hj]; rfl) (by decide) (law_c16 C0 hlt X0 (by omega) (by omega) hl J)
    | 17, hj, _ => exact lv_tableIn (off := 813) (tgt := 853) hx hb dL_law_40 g1 g2 (by rw [hj]; rfl) (by decide) (law_c17 C0 hlt X0 (by omega) (by omega) hl J)
    | 18, hj, _ => exact lv_tableIn (off := 850) (tgt := 890) hx hb dL_law_40 g1 g2 (by rw [hj]; rfl) (by decide) (law_c18 C0 hlt X0 (by omega) (by omega) hl J)
    | 19, hj, _ => exact lv_tableIn (off := 875) (tgt := 915) hx hb dL_law_40 g1 g2 (by rw [hj]; rfl) (by decide) (law_c19 C0 hlt X0 (by omega) (by omega) hl J)
    | 20, hj, _ => exact lv_tableIn (off := 900) (tgt := 940) hx hb dL_law_40 g1 g2 (by rw [hj]; rfl) (by decide) (law_c20 C0 hlt X0 (by omega) (by omega) hl J)
    | 21, hj, _ => exact lv_tableIn (off := 925) (tgt := 965) hx hb dL_law_40 g1 g2 (by rw [hj]; rfl) (by decide) (law_c21 C0 hlt X0 (by omega) (by omega) hl J)
    | 22, hj, _ => exact lv_tableIn (off := 974) (tgt := 1014) hx hb dL_law_40 g1 g2 (by rw [hj]; rfl) (by decide) (law_c22 C0 hlt X0 (by omega) (by omega) hl J)
    | 23, hj, _ => exact lv_tableIn (off := 1023) (tgt := 1063) hx hb dL_law_40 g1 g2 (by rw [hj]; rfl) (by decide) (law_c23 C0 hlt X0 (by omega) (by omega) hl J)
    | 24, hj, _ => exact lv_tableIn (off := 1072) (tgt := 1112) hx hb dL_law_40 g1 g2 (by rw [hj]; rfl) (by decide) (law_c24 C0 hlt X0 (by omega) (by omega) hl J)
    | 25, hj, _ => exact lv_tableIn (off := 1121) (tgt := 1161) hx hb dL_law_40 g1 g2 (by rw [hj]; rfl) (by decide) (law_c25 C0 hlt X0 (by omega) (by omega) hl J)
    | 26, hj, _ => exact lv_tableIn (off := 1158) (tgt := 1198) hx hb dL_law_40 g1 g2 (by rw [hj]; rfl) (by decide) (law_c26 C0 hlt X0 (by omega) (by omega) hl J)
    | 27, hj, _ => exact lv_tableIn (off := 1171) (tgt := 1211) hx hb dL_law_40 g1 g2 (by rw [hj]; rfl) (by decide) (law_c27 C0 hlt X0 (by omega) (by omega) hl J)
    | 28, hj, _ => exact lv_tableIn (off := 1184) (tgt := 1224) hx hb dL_law_40 g1 g2 (by rw [hj]; rfl) (by decide) (law_c28 C0 hlt X0 (by omega) (by omega) hl J)
    | 29, hj, _ => exact lv_tableIn (off := 1209) (tgt := 1249) hx hb dL_law_40 g1 g2 (by rw [hj]; rfl) (by decide) (law_c29 C0 hlt X0 (by omega) (by omega) hl J)
    | 30, hj, _ => exact lv_tableIn (off := 1270) (tgt := 1310) hx hb dL_law_40 g1 g2 (by rw [hj]; rfl) (by decide) (law_c30 C0 hlt X0 (by omega) (by omega) hl J)
    | 31, hj, _ => exact lv_tableIn (off := 1319) (tgt := 1359) hx hb dL_law_40 g1 g2 (by rw [hj]; rfl) (by decide) (law_c31 C0 hlt X0 (by omega) (by omega) hl J)
    | 32, hj, _ => exact lv_tableIn (off := 1368) (tgt := 1408) hx hb dL_law_40 g1 g2 (by rw [hj]; rfl) (by decide) (law_c32 C0 hlt X0 (by omega) (by omega) hl J)
    | 33, hj, _ => exact lv_tableIn (off := 1435) (tgt := 1475) hx hb dL_law_40 g1 g2 (by rw [hj]; rfl) (by decide) (law_c33 C0 hlt X0 (by omega) (by omega) hl J)
    | 34, hj, _ => exact lv_tableIn (off := 1508) (tgt := 1548) hx hb dL_law_40 g1 g2 (by rw [hj]; rfl) (by decide) (law_c34 C0 hlt X0 (by omega) (by omega) hl J)
    | 35, hj, _ => exact lv_tableIn (off := 1533) (tgt := 1573) hx hb dL_law_40 g1 g2 (by rw [hj]; rfl) (by decide) (law_c35 C0 hlt X0 (by omega) (by omega) hl J)
    | j + 36, _, h => exact absurd h (by omega)
