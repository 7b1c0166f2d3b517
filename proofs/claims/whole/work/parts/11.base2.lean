section GROWS2
variable {p : Program} {l : Launch} {e : Env} {R : Room} {s : State} {m : MethodId} {args : Array Value} {below : List Frame} {meth : Method} {c : Code} {H : Heap} {locs : List Loc} {cells slots : Nat} {Q : State → Prop}
variable {cc : ByteArray} {pc : Nat} {ls : Array Slot} {rest : List Value} {D : va_G} {κ : Nat → ClassId} {A : Nat → Prop} {a : Nat} {S : Hp} {H0 : Heap}
theorem gg_ast10 (hexec : p.tables.exec = Jvm.exec) (hb : c.code = cc) (hK : KK D κ s) (hG : GG D κ A S H) (hS : va_S A H0 H locs) (hk : kd S a = 10) {v : Nat} (hkv : kd S v = 2) {i : Int32} (hin : vp_in i (ln S a)) (hdg : decode cc pc = .ok (.aastore, 1))
    (kk : ∀ (H1 : Heap) (locs1 : List Loc), GG D κ A (sQ S a i.toNatClampNeg (some v)) H1 → va_S A H0 H1 locs1 → W p l e R s m args below meth c H1 locs1 cells slots Q (F0 m (pc + 1) ls rest)) : W p l e R s m args below meth c H locs cells slots Q (F0 m pc ls (.ref v :: .int i :: .ref a :: rest)) := by
  have hlt : i.toNatClampNeg < ln S a := Nat.not_le.mp fun q => hin (Or.inr q)
  have h0 : ¬ i < 0 := fun q => hin (Or.inl q)
  obtain ⟨h1, hAa⟩ := hG a _ (kc_10 hk)
  obtain ⟨⟨r', hr', cellV, g1, g2, g3, -⟩, -⟩ := hG v _ (kc_2 hkv)
  have hcls := (hK.1 1 _ rfl).2
  obtain ⟨kA, comp, k1, k2, k3, -⟩ := (hK.2 2 _ rfl).2
  have hcomp : comp = D.1 1 := Option.some.inj (k3.symm.trans hcls.1)
  subst hcomp
  obtain ⟨kC, hkC, -⟩ := hcls.2
  refine W.aast hexec hb h1 (fun q h => by cases h) (fun h => by cases h) k1 k2 rfl hkC ⟨h0, by show _ < (arrV _ _ _).slots.size; rw [arrV_size]; exact hlt⟩ g1 (fun q h => by rw [g3] at h; cases h) (by rw [g2]; exact hkC) (by rw [g2]; exact va_assign hcls) rfl rfl hdg fun H1 e z oq => ?_
  refine kk H1 _ (hG.set oq (fun b hb => cO_sQ hb) (fun e' he => ?_) hAa) (hS.put z oq hAa)
  cases (kc_10 (S := sQ S a i.toNatClampNeg (some v)) hk).symm.trans he
  show H1[a]? = some (vp_cell _ _)
  rw [e, show gQ (sQ S a i.toNatClampNeg (some v)) a = va_up (gQ S a) i.toNatClampNeg (some v) from (h_gQ_sQ _ _ _ _ _).trans (if_pos rfl), show ln (sQ S a i.toNatClampNeg (some v)) a = ln S a from rfl]
  rw [vp_cell_q, vp_cell_q, arrV_store]
  congr 2
  funext q
  by_cases hq : q = i.toNatClampNeg
  · subst hq
    simp [updV, va_up, va_rf]
  · simp [updV, va_up, hq]
theorem gg_astN10 (hexec : p.tables.exec = Jvm.exec) (hb : c.code = cc) (hK : KK D κ s) (hG : GG D κ A S H) (hS : va_S A H0 H locs) (hk : kd S a = 10) {i : Int32} (hin : vp_in i (ln S a)) (hdg : decode cc pc = .ok (.aastore, 1))
    (kk : ∀ (H1 : Heap) (locs1 : List Loc), GG D κ A (sQ S a i.toNatClampNeg none) H1 → va_S A H0 H1 locs1 → W p l e R s m args below meth c H1 locs1 cells slots Q (F0 m (pc + 1) ls rest)) : W p l e R s m args below meth c H locs cells slots Q (F0 m pc ls (.null :: .int i :: .ref a :: rest)) := by
  obtain ⟨h1, hAa⟩ := hG a _ (kc_10 hk)
  refine va_WaastN (C := "FourStones$Row") hexec hb h1 ((hK.2 2 _ rfl).1 (ln S a) (fun j => va_rf (gQ S a j))) (fun h => by cases h) (by show ¬ (i < 0 ∨ (arrV _ _ _).slots.size ≤ _); rw [arrV_size]; exact hin) rfl rfl hdg fun H1 e z oq => ?_
  refine kk H1 _ (hG.set oq (fun b hb => cO_sQ hb) (fun e' he => ?_) hAa) (hS.put z oq hAa)
  cases (kc_10 (S := sQ S a i.toNatClampNeg none) hk).symm.trans he
  show H1[a]? = some (vp_cell _ _)
  rw [e, show gQ (sQ S a i.toNatClampNeg none) a = va_up (gQ S a) i.toNatClampNeg none from (h_gQ_sQ _ _ _ _ _).trans (if_pos rfl), show ln (sQ S a i.toNatClampNeg none) a = ln S a from rfl]
  rw [vp_cell_q, vp_cell_q, arrV_store]
  congr 2
  funext q
  by_cases hq : q = i.toNatClampNeg
  · subst hq
    simp [updV, va_up, va_rf]
  · simp [updV, va_up, hq]
theorem gg_ast11 (hexec : p.tables.exec = Jvm.exec) (hb : c.code = cc) (hK : KK D κ s) (hG : GG D κ A S H) (hS : va_S A H0 H locs) (hk : kd S a = 11) {v : Nat} (hkv : kd S v = 3) {i : Int32} (hin : vp_in i (ln S a)) (hdg : decode cc pc = .ok (.aastore, 1))
    (kk : ∀ (H1 : Heap) (locs1 : List Loc), GG D κ A (sQ S a i.toNatClampNeg (some v)) H1 → va_S A H0 H1 locs1 → W p l e R s m args below meth c H1 locs1 cells slots Q (F0 m (pc + 1) ls rest)) : W p l e R s m args below meth c H locs cells slots Q (F0 m pc ls (.ref v :: .int i :: .ref a :: rest)) := by
  have hlt : i.toNatClampNeg < ln S a := Nat.not_le.mp fun q => hin (Or.inr q)
  have h0 : ¬ i < 0 := fun q => hin (Or.inl q)
  obtain ⟨h1, hAa⟩ := hG a _ (kc_11 hk)
  obtain ⟨⟨r', hr', cellV, g1, g2, g3, -⟩, -⟩ := hG v _ (kc_3 hkv)
  have hcls := (hK.1 2 _ rfl).2
  obtain ⟨kA, comp, k1, k2, k3, -⟩ := (hK.2 3 _ rfl).2
  have hcomp : comp = D.1 2 := Option.some.inj (k3.symm.trans hcls.1)
  subst hcomp
  obtain ⟨kC, hkC, -⟩ := hcls.2
  refine W.aast hexec hb h1 (fun q h => by cases h) (fun h => by cases h) k1 k2 rfl hkC ⟨h0, by show _ < (arrV _ _ _).slots.size; rw [arrV_size]; exact hlt⟩ g1 (fun q h => by rw [g3] at h; cases h) (by rw [g2]; exact hkC) (by rw [g2]; exact va_assign hcls) rfl rfl hdg fun H1 e z oq => ?_
  refine kk H1 _ (hG.set oq (fun b hb => cO_sQ hb) (fun e' he => ?_) hAa) (hS.put z oq hAa)
  cases (kc_11 (S := sQ S a i.toNatClampNeg (some v)) hk).symm.trans he
  show H1[a]? = some (vp_cell _ _)
  rw [e, show gQ (sQ S a i.toNatClampNeg (some v)) a = va_up (gQ S a) i.toNatClampNeg (some v) from (h_gQ_sQ _ _ _ _ _).trans (if_pos rfl), show ln (sQ S a i.toNatClampNeg (some v)) a = ln S a from rfl]
  rw [vp_cell_q, vp_cell_q, arrV_store]
  congr 2
  funext q
  by_cases hq : q = i.toNatClampNeg
  · subst hq
    simp [updV, va_up, va_rf]
  · simp [updV, va_up, hq]
theorem gg_astN11 (hexec : p.tables.exec = Jvm.exec) (hb : c.code = cc) (hK : KK D κ s) (hG : GG D κ A S H) (hS : va_S A H0 H locs) (hk : kd S a = 11) {i : Int32} (hin : vp_in i (ln S a)) (hdg : decode cc pc = .ok (.aastore, 1))
    (kk : ∀ (H1 : Heap) (locs1 : List Loc), GG D κ A (sQ S a i.toNatClampNeg none) H1 → va_S A H0 H1 locs1 → W p l e R s m args below meth c H1 locs1 cells slots Q (F0 m (pc + 1) ls rest)) : W p l e R s m args below meth c H locs cells slots Q (F0 m pc ls (.null :: .int i :: .ref a :: rest)) := by
  obtain ⟨h1, hAa⟩ := hG a _ (kc_11 hk)
  refine va_WaastN (C := "FourStones$Scale") hexec hb h1 ((hK.2 3 _ rfl).1 (ln S a) (fun j => va_rf (gQ S a j))) (fun h => by cases h) (by show ¬ (i < 0 ∨ (arrV _ _ _).slots.size ≤ _); rw [arrV_size]; exact hin) rfl rfl hdg fun H1 e z oq => ?_
  refine kk H1 _ (hG.set oq (fun b hb => cO_sQ hb) (fun e' he => ?_) hAa) (hS.put z oq hAa)
  cases (kc_11 (S := sQ S a i.toNatClampNeg none) hk).symm.trans he
  show H1[a]? = some (vp_cell _ _)
  rw [e, show gQ (sQ S a i.toNatClampNeg none) a = va_up (gQ S a) i.toNatClampNeg none from (h_gQ_sQ _ _ _ _ _).trans (if_pos rfl), show ln (sQ S a i.toNatClampNeg none) a = ln S a from rfl]
  rw [vp_cell_q, vp_cell_q, arrV_store]
  congr 2
  funext q
  by_cases hq : q = i.toNatClampNeg
  · subst hq
    simp [updV, va_up, va_rf]
  · simp [updV, va_up, hq]
theorem gg_astq (hexec : p.tables.exec = Jvm.exec) (hb : c.code = cc) (hK : KK D κ s) (hG : GG D κ A S H) (hS : va_S A H0 H locs) {v : Nat} (hk : (kd S a = 10 ∧ kd S v = 2) ∨ (kd S a = 11 ∧ kd S v = 3)) {i : Int32} (hin : vp_in i (ln S a)) (hdg : decode cc pc = .ok (.aastore, 1))
    (kk : ∀ (H1 : Heap) (locs1 : List Loc), GG D κ A (sQ S a i.toNatClampNeg (some v)) H1 → va_S A H0 H1 locs1 → W p l e R s m args below meth c H1 locs1 cells slots Q (F0 m (pc + 1) ls rest)) : W p l e R s m args below meth c H locs cells slots Q (F0 m pc ls (.ref v :: .int i :: .ref a :: rest)) := by
  rcases hk with ⟨h1, h2⟩ | ⟨h1, h2⟩
  · exact gg_ast10 hexec hb hK hG hS h1 h2 hin hdg kk
  · exact gg_ast11 hexec hb hK hG hS h1 h2 hin hdg kk
theorem gg_astN (hexec : p.tables.exec = Jvm.exec) (hb : c.code = cc) (hK : KK D κ s) (hG : GG D κ A S H) (hS : va_S A H0 H locs) (hk : kd S a = 10 ∨ kd S a = 11) {i : Int32} (hin : vp_in i (ln S a)) (hdg : decode cc pc = .ok (.aastore, 1))
    (kk : ∀ (H1 : Heap) (locs1 : List Loc), GG D κ A (sQ S a i.toNatClampNeg none) H1 → va_S A H0 H1 locs1 → W p l e R s m args below meth c H1 locs1 cells slots Q (F0 m (pc + 1) ls rest)) : W p l e R s m args below meth c H locs cells slots Q (F0 m pc ls (.null :: .int i :: .ref a :: rest)) := by
  rcases hk with h1 | h1
  · exact gg_astN10 hexec hb hK hG hS h1 hin hdg kk
  · exact gg_astN11 hexec hb hK hG hS h1 hin hdg kk
theorem gg_newz {c0 : Code} (hexec : p.tables.exec = Jvm.exec) (hb : c0.code = cc) (harr : (Cond.arrayClass (newarray.typeOf .boolean)).before args s = true) (hK : KK D κ s) (hG : GG D κ A S H) (hS : va_S A H0 H locs) (hA : ∀ q, H0.size ≤ q → A q)
    {n : Int32} {N' : Nat} (hn : ¬ n < 0) (hN : n.toNatClampNeg = N') (hbytes : N' * 1 ≤ 536870912) (hcells : cells + 1 ≤ R.cells) (hslots : slots + N' ≤ R.slots) (hdg : decode cc pc = .ok (.newarray .boolean, 2))
    (kk : ∀ (q : Nat) (H1 : Heap), fr S q → GG D κ A (nA S q 9 N') H1 → va_S A H0 H1 locs → W p l e R s m args below meth c0 H1 locs (cells + 1) (slots + N') Q (F0 m (pc + 2) ls (.ref q :: rest))) : W p l e R s m args below meth c0 H locs cells slots Q (F0 m pc ls (.int n :: rest)) := by
  refine va_newaK hexec hb harr rfl hdg rfl hn hN hbytes hcells hslots rfl fun H1 cA e1 z1 o1 hAr hNm => ?_
  have hcA : cA = κ 1 := by
    have h2 : s.vm.findClass ("[" ++ (FieldType.boolean).toString) = some (κ 1) := (hK.2 1 _ rfl).2
    exact Option.some.inj (hNm.symm.trans h2)
  subst hcA
  refine kk H.size H1 (cO_kd hG.fresh) (hG.new o1 (fun b hb => cO_nA hb) (fun e he => ?_) (hA _ hS.1)) ⟨Nat.le_trans hS.1 (by omega), fun x h1 h2 => (o1 x (Nat.lt_of_lt_of_le h1 hS.1)).trans (hS.2.1 x h1 h2), hS.2.2⟩
  have hk : kd (nA S H.size 9 N') H.size = 9 := (h_kd_nA _ _ _ _ _).trans (if_pos rfl)
  cases (kc_9 hk).symm.trans he
  rw [show gA (nA S H.size 9 N') H.size = fun _ => 0 from (h_gA_nA _ _ _ _ _).trans (if_pos rfl), show ln (nA S H.size 9 N') H.size = N' from (h_ln_nA _ _ _ _ _).trans (if_pos rfl)]
  exact e1
theorem gg_newq10 (hexec : p.tables.exec = Jvm.exec) (hb : c.code = cc) {own : String} {index : Nat} (hown : s.vm.findClass own = some m.cls) (hclink : (Cond.classLink own index "FourStones$Row").before args s = true) (hover : va_AO "FourStones$Row" s) (hK : KK D κ s) (hG : GG D κ A S H) (hS : va_S A H0 H locs) (hA : ∀ q, H0.size ≤ q → A q)
    {n : Int32} {N' : Nat} (hn : ¬ n < 0) (hN : n.toNatClampNeg = N') (hbytes : N' * 4 ≤ 536870912) (hcells : cells + 1 ≤ R.cells) (hslots : slots + N' ≤ R.slots) (hdg : decode cc pc = .ok (.anewarray index, 3))
    (kk : ∀ (q : Nat) (H1 : Heap), fr S q → GG D κ A (nA S q 10 N') H1 → va_S A H0 H1 locs → W p l e R s m args below meth c H1 locs (cells + 1) (slots + N') Q (F0 m (pc + 3) ls (.ref q :: rest))) : W p l e R s m args below meth c H locs cells slots Q (F0 m pc ls (.int n :: rest)) := by
  subst hN
  refine W.anew hexec hb hown hclink (va_AO.use hover) rfl hdg rfl hn hbytes hcells hslots fun cA kA comp f1 f2 f3 f4 => ?_
  have hcA : cA = κ 2 := by
    obtain ⟨kA', comp', q1, q2, q3, q4⟩ := (hK.2 2 _ rfl).2
    exact Option.some.inj (f1.symm.trans q4)
  subst hcA
  generalize hH1 : H.push ({ cls := κ 2, slots := Array.replicate n.toNatClampNeg .null, vm := .none } : Cell) = H1
  have z1 : H1.size = H.size + 1 := by rw [← hH1, Array.size_push]
  have e1 : H1[H.size]? = some (arrV (κ 2) n.toNatClampNeg (fun _ => .null)) := by rw [← hH1, Array.getElem?_push_size, ← arrV_new]
  have o1 : ∀ q : Nat, q < H.size → H1[q]? = H[q]? := fun q hq => by rw [← hH1, Array.getElem?_push, if_neg (Nat.ne_of_lt hq)]
  refine kk H.size H1 (cO_kd hG.fresh) (hG.new o1 (fun b hb => cO_nA hb) (fun e he => ?_) (hA _ hS.1)) ⟨Nat.le_trans hS.1 (by omega), fun x h1 h2 => (o1 x (Nat.lt_of_lt_of_le h1 hS.1)).trans (hS.2.1 x h1 h2), hS.2.2⟩
  have hk : kd (nA S H.size 10 n.toNatClampNeg) H.size = 10 := (h_kd_nA _ _ _ _ _).trans (if_pos rfl)
  cases (kc_10 hk).symm.trans he
  rw [show gQ (nA S H.size 10 n.toNatClampNeg) H.size = fun _ => none from (h_gQ_nA _ _ _ _ _).trans (if_pos rfl), show ln (nA S H.size 10 n.toNatClampNeg) H.size = n.toNatClampNeg from (h_ln_nA _ _ _ _ _).trans (if_pos rfl)]
  show H1[H.size]? = some (vp_cell _ _)
  rw [vp_cell_q]
  exact e1
theorem gg_newq11 (hexec : p.tables.exec = Jvm.exec) (hb : c.code = cc) {own : String} {index : Nat} (hown : s.vm.findClass own = some m.cls) (hclink : (Cond.classLink own index "FourStones$Scale").before args s = true) (hover : va_AO "FourStones$Scale" s) (hK : KK D κ s) (hG : GG D κ A S H) (hS : va_S A H0 H locs) (hA : ∀ q, H0.size ≤ q → A q)
    {n : Int32} {N' : Nat} (hn : ¬ n < 0) (hN : n.toNatClampNeg = N') (hbytes : N' * 4 ≤ 536870912) (hcells : cells + 1 ≤ R.cells) (hslots : slots + N' ≤ R.slots) (hdg : decode cc pc = .ok (.anewarray index, 3))
    (kk : ∀ (q : Nat) (H1 : Heap), fr S q → GG D κ A (nA S q 11 N') H1 → va_S A H0 H1 locs → W p l e R s m args below meth c H1 locs (cells + 1) (slots + N') Q (F0 m (pc + 3) ls (.ref q :: rest))) : W p l e R s m args below meth c H locs cells slots Q (F0 m pc ls (.int n :: rest)) := by
  subst hN
  refine W.anew hexec hb hown hclink (va_AO.use hover) rfl hdg rfl hn hbytes hcells hslots fun cA kA comp f1 f2 f3 f4 => ?_
  have hcA : cA = κ 3 := by
    obtain ⟨kA', comp', q1, q2, q3, q4⟩ := (hK.2 3 _ rfl).2
    exact Option.some.inj (f1.symm.trans q4)
  subst hcA
  generalize hH1 : H.push ({ cls := κ 3, slots := Array.replicate n.toNatClampNeg .null, vm := .none } : Cell) = H1
  have z1 : H1.size = H.size + 1 := by rw [← hH1, Array.size_push]
  have e1 : H1[H.size]? = some (arrV (κ 3) n.toNatClampNeg (fun _ => .null)) := by rw [← hH1, Array.getElem?_push_size, ← arrV_new]
  have o1 : ∀ q : Nat, q < H.size → H1[q]? = H[q]? := fun q hq => by rw [← hH1, Array.getElem?_push, if_neg (Nat.ne_of_lt hq)]
  refine kk H.size H1 (cO_kd hG.fresh) (hG.new o1 (fun b hb => cO_nA hb) (fun e he => ?_) (hA _ hS.1)) ⟨Nat.le_trans hS.1 (by omega), fun x h1 h2 => (o1 x (Nat.lt_of_lt_of_le h1 hS.1)).trans (hS.2.1 x h1 h2), hS.2.2⟩
  have hk : kd (nA S H.size 11 n.toNatClampNeg) H.size = 11 := (h_kd_nA _ _ _ _ _).trans (if_pos rfl)
  cases (kc_11 hk).symm.trans he
  rw [show gQ (nA S H.size 11 n.toNatClampNeg) H.size = fun _ => none from (h_gQ_nA _ _ _ _ _).trans (if_pos rfl), show ln (nA S H.size 11 n.toNatClampNeg) H.size = n.toNatClampNeg from (h_ln_nA _ _ _ _ _).trans (if_pos rfl)]
  show H1[H.size]? = some (vp_cell _ _)
  rw [vp_cell_q]
  exact e1
end GROWS2
theorem gg_ofWF {l : Launch} {y : MethodName} {ws ws' : List Cond} {rm : Room} {Pc : Array Value → State → Prop} {Qc : Array Value → State → Outcome → State → Prop} {mc ms : Nat} {free : Addr → Prop} {cc : ByteArray} {maxL : Nat} {ret : Option FieldType}
    (hy : plainFor y = true) (hw : ws = Cond.code y cc maxL ret :: ws')
    (body : ∀ p e s m args below meth c s₁, BodyLoose p l y (headSpec ws rm) cc maxL ret e s m args below meth c s₁ → c.maxLocals = maxL → Pc args s →
      W p l e (headSpec ws rm).room s m args below meth c s.heap [] 0 0 (MQ below Qc args s mc ms free) (entryFrame m args maxL)) : Met l y ws rm Pc Qc mc ms free := by
  refine MetFree.of_bodySF (code := cc) (maxLocals := maxL) (ret := ret) hy ?_ ?_
  · intro args s m h hn
    obtain ⟨meth, c, h1, h2, h3, h4, h5, h6, -, -⟩ := Cond.code_spec hn (atoms_spec (ws := ws) h _ (by rw [hw]; exact List.mem_cons_self))
    exact ⟨meth, c, h1, h2, h3, h4, h5, h6⟩
  · intro p e s m args below meth c s₁ B hml hP _
    have hh0 : s₁.heap = s.heap := by rw [B.state]; rfl
    obtain ⟨t, a1, o, b1, b2, b3⟩ := body p e s m args below meth c s₁ B hml hP s₁ hh0 (Stand.of_body B)
    exact ⟨t, o, a1, b1, b2, ⟨b3.1, b3.2⟩⟩
