theorem i_vc_verdict {k : Nat} {u : SX} {v : SY} (I : i_Rel k u v) (hk : k + 4 ≤ 2050) : wpX_verdict (fun r => wpY_verdict (fun r' v' => r' = r ∧ i_Rel (k + 4) u v') v) u := by
  obtain ⟨A, i, g, P, Q, T, P', Q', F, D, eD, hK, rfl, rfl⟩ := I
  have J := nj_relD (k := k + 4) (g := g) eD hK
  obtain ⟨hA, hi, hQ, hn, hF⟩ := hK
  unfold wpX_verdict wpY_verdict
  dsimp only
  refine nj_br (fun z => ?_) (fun z => ?_)
  · exact nj_ys hn hQ hi hF eD (nj_br (fun y => ⟨rfl, J⟩) (fun y => absurd (z.symm.trans y) (by decide)))
  · exact nj_ys hn hQ hi hF eD (nj_br (fun y => absurd (z.symm.trans y) (by decide)) (fun y => ⟨rfl, J⟩))
theorem i_vc_distance {k : Nat} {u : SX} {v : SY} (I : i_Rel k u v) (hk : k + 4 ≤ 2050) (v1 : Int32) : wpX_distance (fun r => wpY_distance (fun r' v' => r' = r ∧ i_Rel (k + 4) u v') v v1) u v1 := by
  obtain ⟨A, i, g, P, Q, T, P', Q', F, D, eD, hK, rfl, rfl⟩ := I
  have J := nj_relD (k := k + 4) (g := g) eD hK
  obtain ⟨hA, hi, hQ, hn, hF⟩ := hK
  unfold wpX_distance wpY_distance
  dsimp only
  rcases pk_ix v1 (n := 64) (by omega) with h | h | ⟨j, hj, rfl⟩
  · exact br_t h (nj_ys hn hQ hi hF eD (nj_br (fun z => ⟨rfl, J⟩) (fun z => br_t h ⟨rfl, J⟩)))
  · have h0 : ¬ v1 < 0 := Int32.not_lt.mpr (Int32.le_trans (by decide) h)
    exact br_f h0 (br_f (Int32.not_lt.mpr h) (nj_ys hn hQ hi hF eD (nj_br (fun z => ⟨rfl, J⟩) (fun z => br_f h0 (br_t h ⟨rfl, J⟩)))))
  · have h0 : ¬ nI j < 0 := nI_pos (by omega)
    refine br_f h0 (br_t (nI_lt (b := 64) hj (by omega)) ⟨vp_in_nI hj (by omega), ?_⟩)
    rw [nI_clamp (by omega)]
    refine nj_ys hn hQ hi hF eD (nj_br (fun z => ⟨?_, J⟩) (fun z => br_f h0 (br_f (nj_64n hj) ⟨vp_in_nI hj (by omega), ?_, J⟩)))
    · rw [nj_Ef z, nj_NN hj]
    · rw [nj_Et z]
theorem i_vc_markings {k : Nat} {u : SX} {v : SY} (I : i_Rel k u v) (hk : k + 4 ≤ 2050) : wpX_markings (fun r => wpY_markings (fun r' v' => r' = r ∧ i_Rel (k + 4) u v') v) u := by
  obtain ⟨A, i, g, P, Q, T, P', Q', F, D, eD, hK, rfl, rfl⟩ := I
  have J := nj_relD (k := k + 4) (g := g) eD hK
  obtain ⟨hA, hi, hQ, hn, hF⟩ := hK
  refine nj_xg (nj_yg hn hQ hi hF eD (fun z => ⟨?_, J⟩) (fun z => ⟨?_, J⟩))
  · rw [nj_Ef z, nj_ct0 64 (fun j hj => by rw [nj_NN hj]; rfl)]
  · rw [nj_Et z]
theorem i_vc_covers {k : Nat} {u : SX} {v : SY} (I : i_Rel k u v) (hk : k + 4 ≤ 2050) (v1 : Int32) : wpX_covers (fun r => wpY_covers (fun r' v' => r' = r ∧ i_Rel (k + 4) u v') v v1) u v1 := by
  obtain ⟨A, i, g, P, Q, T, P', Q', F, D, eD, hK, rfl, rfl⟩ := I
  have J := nj_relD (k := k + 4) (g := g) eD hK
  obtain ⟨hA, hi, hQ, hn, hF⟩ := hK
  refine nj_xv v1 (nj_yv hn hQ hi hF eD v1 (fun z => ⟨?_, J⟩) (fun z => ⟨?_, J⟩))
  · rw [nj_Ef z, nj_mn0 64 (fun j hj => by rw [nj_NN hj]; rfl)]
  · rw [nj_Et z]
theorem i_vc_deadlock {k : Nat} {u : SX} {v : SY} (I : i_Rel k u v) (hk : k + 4 ≤ 2050) : wpX_deadlock (fun r => wpY_deadlock (fun r' v' => r' = r ∧ i_Rel (k + 4) u v') v) u := by
  obtain ⟨A, i, g, P, Q, T, P', Q', F, D, eD, hK, rfl, rfl⟩ := I
  have J := nj_relD (k := k + 4) (g := g) eD hK
  obtain ⟨hA, hi, hQ, hn, hF⟩ := hK
  refine nj_xk (nj_yk hn hQ hi hF eD (fun z => ⟨?_, J⟩) (fun z => ⟨?_, J⟩))
  · rw [nj_Ef z, nj_mn0 64 (fun j hj => by rw [nj_NN hj]; rfl)]
  · rw [nj_Et z]
theorem i_vc_deadMarking {k : Nat} {u : SX} {v : SY} (I : i_Rel k u v) (hk : k + 4 ≤ 2050) : wpX_deadMarking (fun r => wpY_deadMarking (fun r' v' => r' = r ∧ i_Rel (k + 4) u v') v) u := by
  obtain ⟨A, i, g, P, Q, T, P', Q', F, D, eD, hK, rfl, rfl⟩ := I
  have J := nj_relD (k := k + 4) (g := g) eD hK
  obtain ⟨hA, hi, hQ, hn, hF⟩ := hK
  have hD : nj_G D := by rw [eD]; exact nj_DG hQ i
  unfold wpX_deadMarking wpY_deadMarking
  dsimp only
  rcases nj_ft (nj_sf P Q D) with z | z
  · refine nj_xk (br_t ?_ (nj_yk hn hQ hi hF eD (fun _ => ?_) (fun y => absurd (z.symm.trans y) (by decide))))
    · rw [nj_Ef z]
      exact nj_mn0 64 (fun j hj => by rw [nj_NN hj]; rfl)
    · exact ⟨1, br_f (by decide) (br_t (by decide) ⟨rfl, J⟩)⟩
  · refine nj_xk ?_
    rw [nj_Et z]
    rw [nj_Et z] at J
    have hv := nj_mnv (f := fun m => !(decide (D m = -1)) && nj_dd P m) hD.1 64
    generalize hl : nj_mn (fun m => !(decide (D m = -1)) && nj_dd P m) D 64 = l at hv ⊢
    refine br_c (fun y => ?_) (fun y => ?_)
    · refine nj_yk hn hQ hi hF eD (fun w => absurd (z.symm.trans w) (by decide)) (fun _ => ?_)
      rw [hl]
      exact ⟨1, br_f (by decide) (br_t ((nj_vlt hv).mpr y) ⟨rfl, J⟩)⟩
    · refine ⟨65, nj_xdm l 64 0 rfl ?_⟩
      refine nj_yk hn hQ hi hF eD (fun w => absurd (z.symm.trans w) (by decide)) (fun _ => ?_)
      rw [hl]
      exact ⟨65, nj_ydm hn l (fun w => y ((nj_vlt hv).mp w)) 64 0 rfl ⟨rfl, J⟩⟩
theorem i_vc_current {k : Nat} {u : SX} {v : SY} (I : i_Rel k u v) (hk : k + 4 ≤ 2050) : wpX_current (fun r => wpY_current (fun r' => r' = r ∧ i_Rel (k + 4) u v) v) u := by
  have J := i_up I
  obtain ⟨A, i, g, P, Q, T, P', Q', F, D, eD, hK, rfl, rfl⟩ := I
  exact ⟨rfl, J⟩
theorem i_vc_enabled {k : Nat} {u : SX} {v : SY} (I : i_Rel k u v) (hk : k + 4 ≤ 2050) : wpX_enabled (fun r => wpY_enabled (fun r' => r' = r ∧ i_Rel (k + 4) u v) v) u := by
  have J := i_up I
  obtain ⟨A, i, g, P, Q, T, P', Q', F, D, eD, hK, rfl, rfl⟩ := I
  exact nj_xen (nj_yen hK.2.2.2.1 ⟨rfl, J⟩)
theorem i_vc_rewind {k : Nat} {u : SX} {v : SY} (I : i_Rel k u v) (hk : k + 4 ≤ 2050) : wpX_rewind (fun u' => wpY_rewind (fun v' => i_Rel (k + 4) u' v') v) u := by
  obtain ⟨A, i, g, P, Q, T, P', Q', F, D, eD, hK, rfl, rfl⟩ := I
  exact nj_rel (k := k + 4) eD hK
theorem i_vc_fire {k : Nat} {u : SX} {v : SY} (I : i_Rel k u v) (hk : k + 4 ≤ 2050) (v1 : Int32) : wpX_fire (fun r u' => wpY_fire (fun r' v' => r' = r ∧ i_Rel (k + 4) u' v') v v1) u v1 := by
  have J := i_up I
  obtain ⟨A, i, g, P, Q, T, P', Q', F, D, eD, hK, rfl, rfl⟩ := I
  have hn := hK.2.2.2.1
  unfold wpX_fire wpY_fire
  dsimp only
  rcases pk_ix v1 (n := 8) (by omega) with h | h | ⟨t, ht, rfl⟩
  · exact nj_xpro (Or.inl h) (br_t rfl (nj_yco (Or.inl h) _ (br_t rfl ⟨rfl, J⟩)))
  · exact nj_xpro (Or.inr h) (br_t rfl (nj_yco (Or.inr h) _ (br_t rfl ⟨rfl, J⟩)))
  · refine nj_xpr ht (nj_br (fun z => ?_) (fun z => nj_xc ht _ (nj_br (fun y => ?_) (fun y => nj_xa ht _ ?_))))
    · refine nj_yc hn ht _ ?_
      rw [nj_cl0 (nj_rd0 (nj_nd z))]
      exact br_t rfl ⟨rfl, J⟩
    · refine nj_yc hn ht _ ?_
      rw [y]
      exact br_t rfl ⟨rfl, J⟩
    · refine nj_yc hn ht _ ?_
      rw [y]
      exact br_f (by decide) (nj_ya hn ht _ (nj_nn z) ⟨rfl, nj_rel eD hK⟩)
