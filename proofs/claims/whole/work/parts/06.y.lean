section
variable {A I g : Int32} {T P P' Q Q' F : Nat → Int32}
theorem nj_yr {post : Int32 → Prop} (hn : nj_net T P P' Q Q') {t : Nat} (ht : t < 8) (m : Int32) (h : post (nj_b (nj_rd P t m))) : wpY_ready post (A, I, g, T, P', Q', F) (nI t) m := by
  have hi : vp_in (nI t) 8 := vp_in_nI ht (by omega)
  have hc : (nI t).toNatClampNeg = t := nI_clamp (by omega)
  have h0 : ¬ nI t < 0 := nI_pos (by omega)
  have h7 : ¬ (7 : Int32) < nI t := nI_nlt (a := 7) (b := t) (by omega) (by omega)
  unfold wpY_ready
  dsimp only
  rw [hc]
  refine br_f h0 (br_f h7 ⟨hi, br_c (fun z => ?_) (fun z => ⟨hi, hi, ?_⟩)⟩)
  · rcases hn t ht with ⟨_, e⟩ | ⟨e, _⟩
    · rw [nj_rd0 e] at h; exact h
    · exact absurd (z.symm.trans e) (by decide)
  · rcases hn t ht with ⟨e, _⟩ | ⟨_, e1, e2, _⟩
    · exact absurd e z
    · rw [e2]
      refine br_c (fun y => ?_) (fun y => ?_)
      · rw [nj_rd1 e1 y] at h; exact h
      · rw [nj_rdn y] at h; exact h
theorem nj_yro {post : Int32 → Prop} {t : Int32} (ht : t < 0 ∨ nI 8 ≤ t) (m : Int32) (h : post 0) : wpY_ready post (A, I, g, T, P', Q', F) t m := by
  unfold wpY_ready
  dsimp only
  by_cases h0 : t < 0
  · exact br_t h0 h
  · refine br_f h0 (br_t ?_ h)
    rcases ht with z | z
    · exact absurd z h0
    · exact Int32.lt_of_lt_of_le (by decide) z
theorem nj_yc {post : Int32 → Prop} (hn : nj_net T P P' Q Q') {t : Nat} (ht : t < 8) (m : Int32) (h : post (nj_b (nj_cl P Q t m))) : wpY_clear post (A, I, g, T, P', Q', F) (nI t) m := by
  have hi : vp_in (nI t) 8 := vp_in_nI ht (by omega)
  have hc : (nI t).toNatClampNeg = t := nI_clamp (by omega)
  unfold wpY_clear
  dsimp only
  rw [hc]
  refine nj_yr hn ht m (nj_br (fun z => ?_) (fun z => ⟨hi, hi, ?_⟩))
  · rw [nj_cl0 z] at h; exact h
  · rcases hn t ht with ⟨_, e⟩ | ⟨_, e1, e2, e3⟩
    · rw [nj_rd0 e] at z; exact absurd z (by decide)
    · rw [e2, e3]
      refine br_c (fun y => ?_) (fun y => ?_)
      · rw [nj_cl1 z y] at h; exact h
      · rw [nj_cln y] at h; exact h
theorem nj_yco {post : Int32 → Prop} {t : Int32} (ht : t < 0 ∨ nI 8 ≤ t) (m : Int32) (h : post 0) : wpY_clear post (A, I, g, T, P', Q', F) t m := by
  unfold wpY_clear
  dsimp only
  exact nj_yro ht m (br_t rfl h)
theorem nj_ya {post : Int32 → Prop} (hn : nj_net T P P' Q Q') {t : Nat} (ht : t < 8) (m : Int32) (hr : ¬ P t = 0) (h : post (nj_af P Q t m)) : wpY_after post (A, I, g, T, P', Q', F) (nI t) m := by
  have hi : vp_in (nI t) 8 := vp_in_nI ht (by omega)
  have hc : (nI t).toNatClampNeg = t := nI_clamp (by omega)
  unfold wpY_after
  dsimp only
  rw [hc]
  rcases hn t ht with ⟨_, e⟩ | ⟨_, e1, e2, e3⟩
  · exact absurd e hr
  · rw [e2, e3]
    exact ⟨hi, hi, h⟩
theorem nj_yp {post : SY → Prop} (hn : nj_net T P P' Q Q') (hQ : nj_R Q) {m d : Nat} (hm : m < 64) (hd : d < 64) (hF : nj_G F) (h : post (A, I, g, T, P', Q', nj_sp P Q m (nI (d + 1)) F 8)) : wpY_spread post (A, I, g, T, P', Q', F) (nI m) (nI d) := by
  unfold wpY_spread
  dsimp only
  refine loop_0 (fun n t D => wY_spread_2 post (nI m) (nI d) A I g n (nI t) T P' Q' D) (fun t D => D = nj_sp P Q m (nI (d + 1)) F t) 8 F rfl (fun n D e => ?_) (fun n t D ht e ih => ?_)
  · refine br_t nj_8e ?_
    rw [e]
    exact h
  · have hG : nj_G D := by rw [e]; exact nj_spG hQ hm (Or.inr ⟨d + 1, by omega, rfl⟩) hF t (by omega)
    obtain ⟨ha, en⟩ := nj_afe (P := P) hQ ht hm
    refine br_f (nj_8n ht) (nj_yc hn ht _ (nj_br (fun c => ?_) (fun c => nj_ya hn ht _ (nj_rdp (nj_clr c)).1 ?_)))
    · exact nm_r (nI_1 t) (ih _ (by show D = nj_st P Q m _ t _; rw [nj_stN c, e]))
    · refine nm_r (e' := nI (nj_an P Q t m)) (by rw [nj_af63 hQ ht hm, en]) ⟨vp_in_nI ha (by omega), ?_⟩
      rw [nI_clamp (by omega)]
      refine br_c (fun b => ?_) (fun b => ?_)
      · have b' := (nj_vle (hG.1 _)).mp b
        exact ⟨vp_in_nI ha (by omega), vp_in_nI ha (by omega), nm_r nj_same (nm_r (nI_1 t) (ih _ (by show D = nj_st P Q m _ t _; rw [nj_stO (by rw [← e]; exact b'), e])))⟩
      · have b' : D (nj_an P Q t m) = -1 := Classical.byContradiction (fun z => b ((nj_vle (hG.1 _)).mpr z))
        refine ⟨vp_in_nI ha (by omega), nm_r ?_ (nm_r (nI_1 t) (ih _ (nj_stY c (by rw [← e]; exact b')).symm))⟩
        rw [nI_1, e]
end
