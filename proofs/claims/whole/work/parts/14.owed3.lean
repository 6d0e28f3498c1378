theorem nj_ini {A : Int32} (hA : A &&& 63 = A) (p : Int32) (post : SX → Prop) (s : Int32) (h : ∀ (i : Nat) (D : Nat → Int32), p &&& A = nI i → i < 64 → D = nj_D (fun _ => 0) (fun _ => 0) i → post (A, nI i, nI i, nj_b (nj_sf (fun _ => 0) (fun _ => 0) D), (fun _ => 0), (fun _ => 0), nj_E (fun _ => 0) (fun _ => 0) D)) : wpX_startAnew post (A, p &&& A, 0, s, (fun _ => 0), (fun _ => 0), (fun _ => 0)) := by
  obtain ⟨i, hi, e⟩ := nj_64 (nj_in63 (x := p) hA)
  rw [e]
  exact nj_xn nj_R0 hi nj_zf rfl (h i _ e hi rfl)
theorem nj_cnt (p : Int32) : (p < 1 ∧ ¬ 1 ≤ p) ∨ (6 < p ∧ ¬ p < 1 ∧ 1 ≤ p ∧ ¬ p ≤ 6) ∨ (∃ c, 1 ≤ c ∧ c ≤ 6 ∧ p = nI c ∧ ¬ p < 1 ∧ 1 ≤ p ∧ ¬ 6 < p ∧ p ≤ 6) := by
  by_cases h : p < 1
  · exact Or.inl ⟨h, Int32.not_le.mpr h⟩
  · have h1 : 1 ≤ p := Int32.not_lt.mp h
    by_cases h6 : 6 < p
    · exact Or.inr (Or.inl ⟨h6, h, h1, Int32.not_le.mpr h6⟩)
    · have h6' : p ≤ 6 := Int32.not_lt.mp h6
      have h0 : ¬ p < 0 := Int32.not_lt.mpr (Int32.le_trans (by decide) h1)
      obtain ⟨j, hj, e⟩ := nI_of2 (M := 6) (n := 6) (by decide) h0 h6'
      refine Or.inr (Or.inr ⟨j, ?_, hj, e, h, h1, h6, h6'⟩)
      rw [e] at h1
      exact (nI_leI (a := 1) (by omega) (by omega)).mp h1
