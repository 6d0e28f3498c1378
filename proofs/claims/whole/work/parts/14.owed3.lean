theorem nj_i0 {c : Int32} (hA : (((1 : Int32) <<< (c &&& 31)) - 1) &&& 63 = ((1 : Int32) <<< (c &&& 31)) - 1) (p : Int32) (q : SX → Prop) (h : ∀ (i : Nat) (D : Nat → Int32), p &&& (((1 : Int32) <<< (c &&& 31)) - 1) = nI i → i < 64 → D = nj_D (fun _ => 0) (fun _ => 0) i → q (((1 : Int32) <<< (c &&& 31)) - 1, nI i, nI i, nj_b (nj_sf (fun _ => 0) (fun _ => 0) D), (fun _ => 0), (fun _ => 0), nj_E (fun _ => 0) (fun _ => 0) D)) : wX_init_46 q p c 0 0 0 0 (fun _ => 0) (fun _ => 0) (fun _ => 0) := by
  obtain ⟨i, hi, e⟩ := nj_64 (nj_in63 (x := p) hA)
  obtain ⟨D, eD⟩ : ∃ D, D = nj_D (fun _ => 0) (fun _ => 0) i := ⟨_, rfl⟩
  unfold wX_init_46
  exact nm_e (nm_r e (nj_xn nj_R0 hi nj_zf eD (h i D e hi eD)))
theorem nj_i1 {k : Nat} {c : Int32} (hA : (((1 : Int32) <<< (c &&& 31)) - 1) &&& 63 = ((1 : Int32) <<< (c &&& 31)) - 1) (p : Int32) {i : Nat} {D : Nat → Int32} (e : p &&& (((1 : Int32) <<< (c &&& 31)) - 1) = nI i) (hi : i < 64) (eD : D = nj_D (fun _ => 0) (fun _ => 0) i) : wY_init_57 (fun v => i_Rel k (((1 : Int32) <<< (c &&& 31)) - 1, nI i, nI i, nj_b (nj_sf (fun _ => 0) (fun _ => 0) D), (fun _ => 0), (fun _ => 0), nj_E (fun _ => 0) (fun _ => 0) D) v) p c 0 0 0 (fun _ => 0) (fun _ => 0) (fun _ => 0) (fun _ => 0) := by
  unfold wY_init_57
  exact nm_e (nm_r e (nj_rel eD ⟨hA, hi, nj_R0, nj_net0, nj_zf⟩))
theorem nj_cnt (p : Int32) : (p < 1 ∧ ¬ 1 ≤ p) ∨ (6 < p ∧ ¬ p < 1 ∧ 1 ≤ p ∧ ¬ p ≤ 6) ∨ (∃ c, 1 ≤ c ∧ c ≤ 6 ∧ p = nI c ∧ ¬ p < 1 ∧ 1 ≤ p ∧ ¬ 6 < p ∧ p ≤ 6) := by
  by_cases h : p < 1
  · exact Or.inl ⟨h, Int32.not_le.mpr h⟩
  · have h1 : 1 ≤ p := Int32.not_lt.mp h
    by_cases h6 : 6 < p
    · exact Or.inr (Or.inl ⟨h6, h, h1, Int32.not_le.mpr h6⟩)
    · have h6' : p ≤ 6 := Int32.not_lt.mp h6
      have h0 : ¬ p < 0 := Int32.not_lt.mpr (Int32.le_trans (by decide) h1)
      obtain ⟨j, hj, e⟩ := nI_of2 (M := 6) (n := 6) (by decide) h0 h6'
      refine Or.inr (Or.inr ⟨j, ?_, hj, e, h, h1, h6, h6'⟩)
      rw [e] at h1
      exact (nI_leI (a := 1) (by omega) (by omega)).mp h1
theorem i_vc0 (k0 : Int32) (k1 : Int32) : wpX_init (fun u => wpY_init (fun v => i_Rel 2 u v) k0 k1) k0 k1 := by
  unfold wpX_init wpY_init
  rcases nj_cnt k0 with ⟨_, h1⟩ | ⟨_, _, h1, h6⟩ | ⟨c, c1, c6, e, _, h1, _, h6⟩
  · have hA := nj_count 1 (by omega) (by omega)
    refine br_f h1 ?_
    unfold wX_init_37
    exact br_t (by decide) (nj_i0 hA k1 _ (fun i D e hi eD => br_f h1 (nj_i1 hA k1 e hi eD)))
  · have hA := nj_count 6 (by omega) (by omega)
    refine br_t h1 ?_
    unfold wX_init_37
    exact br_f h6 (nj_i0 hA k1 _ (fun i D e hi eD => br_t h1 (br_f h6 (nj_i1 hA k1 e hi eD))))
  · have hA := nj_count c c1 c6
    rw [← e] at hA
    refine br_t h1 ?_
    unfold wX_init_37
    exact br_t h6 (nj_i0 hA k1 _ (fun i D e hi eD => br_t h1 (br_t h6 (nj_i1 hA k1 e hi eD))))
