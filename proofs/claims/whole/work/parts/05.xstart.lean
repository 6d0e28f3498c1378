section
variable {A I g s : Int32} {P Q E : Nat → Int32}
theorem nj_xm {post : SX → Prop} (hQ : nj_R Q) {i : Nat} (hi : i < 64) (hE : nj_Z E) (h : post (A, nI i, g, s, P, Q, nj_D P Q i)) : wpX_measureDistances post (A, nI i, g, s, P, Q, E) := by
  unfold wpX_measureDistances
  dsimp only
  refine nj_xf hE ⟨vp_in_nI hi (by omega), nm_r (e' := nj_0 i) (by rw [nI_clamp (by omega)]; exact nj_N0 hi) ?_⟩
  refine loop_0 (fun n d D => wX_measureDistances_16 post n (nI d) A (nI i) g s P Q D) (fun d D => D = nj_al P Q (nj_0 i) d) 64 (nj_0 i) rfl (fun n D e => ?_) (fun n d D hd e ih => ?_)
  · refine br_t nj_64e ?_
    rw [e]
    exact h
  · have hG : nj_G D := by rw [e]; exact nj_alG hQ (nj_0G i) d (by omega)
    refine br_f (nj_64n hd) ?_
    refine loop_0 (fun k m F => wX_measureDistances_24 post (wX_measureDistances_16 post n) (nI d) k (nI m) A (nI i) g s P Q F) (fun m F => F = nj_rw P Q d D m) 64 D rfl (fun k F f => ?_) (fun k m F hm f jh => ?_)
    · exact br_t nj_64e (nm_r (nI_1 d) (ih _ (by rw [f, e]; rfl)))
    · have hF : nj_G F := by rw [f]; exact nj_rwG hQ hd hG m (by omega)
      refine br_f (nj_64n hm) ⟨vp_in_nI hm (by omega), br_c (fun z => ?_) (fun z => ?_)⟩
      · rw [nI_clamp (by omega)] at z
        exact nj_xp hQ hm hd hF z (nm_r (nI_1 m) (jh _ (by rw [nj_rwY (by rw [← f]; exact z), f])))
      · rw [nI_clamp (by omega)] at z
        exact nm_r (nI_1 m) (jh _ (by rw [nj_rwN (by rw [← f]; exact z), f]))
theorem nj_xn {post : SX → Prop} (hQ : nj_R Q) {i : Nat} (hi : i < 64) (hE : nj_Z E) {D : Nat → Int32} (eD : D = nj_D P Q i) (h : post (A, nI i, nI i, nj_b (nj_sf P Q D), P, Q, nj_E P Q D)) : wpX_startAnew post (A, nI i, g, s, P, Q, E) := by
  unfold wpX_startAnew
  dsimp only
  refine nj_xm hQ hi hE ?_
  rw [← eD]
  have hD : nj_G D := by rw [eD]; exact nj_DG hQ i
  refine nj_xs ⟨nj_bn _, nj_bf _, nj_br (fun c => ?_) (fun c => ?_)⟩
  · rw [c, nj_Ef c] at h
    rw [c]
    exact nj_xf hD.2 h
  · rw [c, nj_Et c] at h
    rw [c]
    exact h
end
