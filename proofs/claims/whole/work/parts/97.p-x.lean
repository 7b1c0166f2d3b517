/-! the throwing calls of the class, from its abstract value -/
theorem x_toss {a : Nat → Nat} {v : AS} {S : Hp} {d : Int32} {Q : Int32 → Hp → Prop} (hX : XI a v S) (hQ : Q (sp_toss v d) S) : wp_X5_toss (a 0) d S Q := by
  unfold sp_toss onSc at hQ
  unfold wp_X5_toss
  rw [e_xSh]
  refine br1 (fun hd => ?_) (fun hd => ?_)
  · rw [if_pos hd] at hQ
    obtain ⟨i1, i2, i3, i4⟩ := x_in hX.1 hd
    refine ⟨hX.1.k0, _, hX.1.r56_0, i3, i1, x_scale hX hd (fun h1 he => ⟨hX.1.k0, x_notHeld hX hd ?_⟩) (fun z h1 hz => ⟨hz.1, hz.1, ?_⟩)⟩
    · rw [if_pos h1] at hQ; rw [he]; exact hQ
    · rw [if_neg (by omega)] at hQ
      have hf := ((hX.2.1.2.2 (ix d) (isSh_nI hd).1).2.1 h1).2.2
      unfold tossF at hQ
      rw [hz.2.1, hz.2.2]
      refine ⟨fun e => ?_, fun e => ⟨fun e2 => ?_, fun e2 => ⟨fun e3 => ?_, fun e3 => ⟨fun e4 => ?_, fun e4 => ?_⟩⟩⟩⟩
      · rw [if_pos (Or.inl e)] at hQ; exact hQ
      · rw [if_pos (Or.inr e2)] at hQ; exact hQ
      · rw [if_neg (fun w => w.elim e e2), if_neg (by rw [e3]; decide), if_pos e3] at hQ
        exact Or.inl ⟨rfl, hz.1, x_price hz hf hQ⟩
      · rw [if_neg (fun w => w.elim e e2), if_pos e4] at hQ
        exact Or.inr (Or.inl ⟨rfl, hz.1, by rw [hz.2.2]; exact hQ⟩)
      · rw [if_neg (fun w => w.elim e e2), if_neg e4, if_neg e3] at hQ
        exact Or.inr (Or.inr ⟨rfl, hz.1, by rw [hz.2.2]; exact hQ⟩)
  · rw [if_neg hd] at hQ; exact hQ
theorem x_element {a : Nat → Nat} {v : AS} {S : Hp} {d i : Int32} {Q : Int64 → Hp → Prop} {X : String → Hp → Prop} (hX : XI a v S) (h0 : elC v d i = 0 → Q (elV v d i) S) (h1 : elC v d i = 1 → X nIAE S) (h2 : elC v d i = 2 → X nISE S) : wp_X5_element (a 0) d i S Q X := by
  unfold elC at h0 h1 h2
  unfold wp_X5_element
  rw [e_xSh]
  refine br1 (fun hd => ?_) (fun hd => ?_)
  · rw [if_pos hd] at h0 h2
    obtain ⟨h8, hdI⟩ := isSh_nI hd
    obtain ⟨i1, i2, i3, i4⟩ := x_in hX.1 hd
    refine ⟨hX.1.k0, _, hX.1.r57_0, i4, i2, x_row hX hd (fun hn => ?_) (fun z c h3 hR hc hz => ⟨hR.1, ?_⟩)⟩
    · exact h2 (if_neg (fun w => hn w.1))
    · have hle := ((hX.2.1.2.2 (ix d) h8).2.2 h3).2.2
      refine x_isPlace hR hle fun y hy => bz1 hy (fun hi => ⟨hR.1, c, hR.2.2.1, hR.2.2.2.1, ?_⟩) (fun hi => ?_)
      · have hin : vp_in i (ln S c) := by rw [hR.2.2.2.2.1, p_nat hi.1]; exact vp_in_nI (by omega) (by omega)
        have hv : gA S c i.toNatClampNeg = (v.2.2 (ix d)).2.2.2.2.2 (ix i) := by
          have hj : ix i < (v.2.2 (ix d)).2.2.2.2.1 := by
            have := ix_Z hi.1
            omega
          exact hR.2.2.2.2.2 _ hj
        refine ⟨hin, ?_⟩
        rw [hv]
        exact h0 (if_pos ⟨h3, hi⟩)
      · exact h2 (if_neg (fun w => hi w.2))
  · exact h1 (if_neg hd)
theorem x_lelement {a : Nat → Nat} {v : AS} {S : Hp} {d i : Int32} {f : Nat → Int64} {Q : Int32 → Hp → (Nat → Int64) → Prop} (hX : XI a v S) (hQ : ∀ g : Nat → Int64, (elC v d i = 0 → g 0 = elV v d i) → Q (nI (elC v d i)) S g) : wp_L_element (a 0) d i S f Q := by
  refine ⟨hX.1.k0, x_element hX (fun h => ?_) (fun h => Or.inl ⟨rfl, ?_⟩) (fun h => Or.inr ⟨rfl, ?_⟩)⟩
  · have := hQ (vp_updL f 0 (elV v d i)) (fun _ => by simp [vp_updL])
    rw [h] at this
    exact this
  · have := hQ f (fun w => by omega)
    rw [h] at this
    exact this
  · have := hQ f (fun w => by omega)
    rw [h] at this
    exact this
