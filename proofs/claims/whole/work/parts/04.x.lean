theorem nj_nd {p : Prop} {i : Decidable p} (h : (!(decide p)) = false) : p := by
  by_cases z : p
  · exact z
  · rw [decide_eq_false z] at h
    exact absurd h (by decide)
theorem nj_nn {p : Prop} {i : Decidable p} (h : (!(decide p)) = true) : ¬ p := by
  intro z
  rw [decide_eq_true z] at h
  exact absurd h (by decide)
theorem nj_loop (W : Nat → Nat → Prop) (J : Nat → Prop) (e : Nat) (h0 : J 0) (hx : ∀ n, J e → W (n + 1) e) (hs : ∀ n i, i < e → J i → (J (i + 1) → W n (i + 1)) → W (n + 1) i) : ∃ n, W n 0 :=
  loop_0 (σ := Unit) (fun n i _ => W n i) (fun i _ => J i) e () h0 (fun n _ h => hx n h) (fun n i _ hi h k => hs n i hi h (fun z => k () z))
theorem nj_8n {t : Nat} (h : t < 8) : ¬ (8 : Int32) ≤ nI t := nI_ge (b := 8) h (by decide)
theorem nj_8e : (8 : Int32) ≤ nI 8 := by decide
theorem nj_64n {t : Nat} (h : t < 64) : ¬ (64 : Int32) ≤ nI t := nI_ge (b := 64) h (by decide)
theorem nj_64e : (64 : Int32) ≤ nI 64 := by decide
section
variable {A I g s : Int32} {P Q E : Nat → Int32}
theorem nj_xr {post : Int32 → Prop} {t : Nat} (ht : t < 8) (m : Int32) (h : post (nj_b (nj_rd P t m))) : wpX_isReady post (A, I, g, s, P, Q, E) (nI t) m := by
  have hi : vp_in (nI t) 8 := vp_in_nI ht (by omega)
  have hc : (nI t).toNatClampNeg = t := nI_clamp (by omega)
  unfold wpX_isReady
  dsimp only
  rw [hc]
  refine ⟨hi, br_c (fun z => ?_) (fun z => ⟨hi, hi, br_c (fun y => ?_) (fun y => ?_)⟩)⟩
  · rw [nj_rd0 z] at h; exact h
  · rw [nj_rd1 z y] at h; exact h
  · rw [nj_rdn y] at h; exact h
theorem nj_xc {post : Int32 → Prop} {t : Nat} (ht : t < 8) (m : Int32) (h : post (nj_b (nj_cl P Q t m))) : wpX_isClear post (A, I, g, s, P, Q, E) (nI t) m := by
  have hi : vp_in (nI t) 8 := vp_in_nI ht (by omega)
  have hc : (nI t).toNatClampNeg = t := nI_clamp (by omega)
  unfold wpX_isClear
  dsimp only
  rw [hc]
  refine nj_xr ht m (nj_br (fun z => ?_) (fun z => ⟨hi, hi, br_c (fun y => ?_) (fun y => ?_)⟩))
  · rw [nj_cl0 z] at h; exact h
  · rw [nj_cl1 z y] at h; exact h
  · rw [nj_cln y] at h; exact h
theorem nj_xa {post : Int32 → Prop} {t : Nat} (ht : t < 8) (m : Int32) (h : post (nj_af P Q t m)) : wpX_after post (A, I, g, s, P, Q, E) (nI t) m := by
  have hi : vp_in (nI t) 8 := vp_in_nI ht (by omega)
  have hc : (nI t).toNatClampNeg = t := nI_clamp (by omega)
  unfold wpX_after
  dsimp only
  rw [hc]
  exact ⟨hi, hi, h⟩
theorem nj_xi {post : Int32 → Prop} {m : Nat} (hm : m < 64) (h : post (nj_b (!(decide (E m = -1))))) : wpX_isReached post (A, I, g, s, P, Q, E) (nI m) := by
  have hi : vp_in (nI m) 64 := vp_in_nI hm (by omega)
  have hc : (nI m).toNatClampNeg = m := nI_clamp (by omega)
  unfold wpX_isReached
  dsimp only
  rw [hc]
  refine ⟨hi, br_c (fun z => ?_) (fun z => ?_)⟩
  · rw [decide_eq_true z] at h; exact h
  · rw [decide_eq_false z] at h; exact h
theorem nj_xd {post : Int32 → Prop} (m : Nat) (h : post (nj_b (nj_dd P m))) : wpX_isDead post (A, I, g, s, P, Q, E) (nI m) := by
  unfold wpX_isDead
  dsimp only
  refine nj_loop (fun n t => wX_isDead_2 post (nI m) A I g s P Q E n (nI t)) (fun t => nj_any (fun t => nj_rd P t (nI m)) t = false) 8 rfl (fun n hf => ?_) (fun n t ht hf ih => ?_)
  · refine br_t nj_8e ?_
    unfold nj_dd at h
    rw [hf] at h
    exact h
  · refine br_f (nj_8n ht) (nj_xr ht _ (nj_br (fun c => ?_) (fun c => ?_)))
    · exact nm_r (nI_1 t) (ih (nj_anyS hf c))
    · unfold nj_dd at h
      rw [nj_anyT (j := t) (by exact c) 8 ht] at h
      exact h
theorem nj_xh {post : Int32 → Prop} (m : Nat) (h : post (nj_b (nj_cs P Q m))) : wpX_hasClash post (A, I, g, s, P, Q, E) (nI m) := by
  unfold wpX_hasClash
  dsimp only
  unfold nj_cs at h
  refine nj_loop (fun n t => wX_hasClash_2 post (nI m) A I g s P Q E n (nI t)) (fun t => nj_any (fun t => nj_rd P t (nI m) && !(nj_cl P Q t (nI m))) t = false) 8 rfl (fun n hf => ?_) (fun n t ht hf ih => ?_)
  · refine br_t nj_8e ?_
    rw [hf] at h
    exact h
  · refine br_f (nj_8n ht) (nj_xr ht _ (nj_br (fun c => ?_) (fun c => nj_xc ht _ (nj_br (fun b => ?_) (fun b => ?_)))))
    · exact nm_r (nI_1 t) (ih (nj_anyS hf (by (try dsimp only); rw [c]; rfl)))
    · rw [nj_anyT (j := t) (by (try dsimp only); rw [c, b]; rfl) 8 ht] at h
      exact h
    · exact nm_r (nI_1 t) (ih (nj_anyS hf (by (try dsimp only); rw [c, b]; rfl)))
theorem nj_xs {post : Int32 → Prop} (h : post (nj_b (nj_sf P Q E))) : wpX_isSafe post (A, I, g, s, P, Q, E) := by
  unfold wpX_isSafe
  dsimp only
  unfold nj_sf at h
  refine nj_loop (fun n m => wX_isSafe_2 post A I g s P Q E n (nI m)) (fun m => nj_any (fun m => !(decide (E m = -1)) && nj_cs P Q m) m = false) 64 rfl (fun n hf => ?_) (fun n m hm hf ih => ?_)
  · refine br_t nj_64e ?_
    rw [hf] at h
    exact h
  · refine br_f (nj_64n hm) (nj_xi hm (nj_br (fun c => ?_) (fun c => nj_xh m (nj_br (fun b => ?_) (fun b => ?_)))))
    · exact nm_r (nI_1 m) (ih (nj_anyS hf (by (try dsimp only); rw [c]; rfl)))
    · exact nm_r (nI_1 m) (ih (nj_anyS hf (by (try dsimp only); rw [c, b]; rfl)))
    · rw [nj_anyT (j := m) (by (try dsimp only); rw [c, b]; rfl) 64 hm] at h
      exact h
theorem nj_xf {post : SX → Prop} (hE : nj_Z E) (h : post (A, I, g, s, P, Q, nj_N)) : wpX_forgetDistances post (A, I, g, s, P, Q, E) := by
  unfold wpX_forgetDistances
  dsimp only
  refine loop_0 (fun n m D => wX_forgetDistances_2 post A I g s n (nI m) P Q D) (fun m D => D = nj_fg E m) 64 E (nj_fg0 E).symm (fun n D e => ?_) (fun n m D hm e ih => ?_)
  · refine br_t nj_64e ?_
    rw [e, nj_fgE hE]
    exact h
  · refine br_f (nj_64n hm) ⟨vp_in_nI hm (by omega), nm_r ?_ (nm_r (nI_1 m) (ih _ (nj_fgS E m)))⟩
    rw [nI_clamp (by omega), e]
/-- the search's step from one marking -/
theorem nj_xp {post : SX → Prop} (hQ : nj_R Q) {m d : Nat} (hm : m < 64) (hd : d < 64) (hE : nj_G E) (hz : E m = nI d) (h : post (A, I, g, s, P, Q, nj_sp P Q m (nI (d + 1)) E 8)) : wpX_reachFrom post (A, I, g, s, P, Q, E) (nI m) := by
  unfold wpX_reachFrom
  dsimp only
  refine loop_0 (fun n t D => wX_reachFrom_2 post (nI m) A I g s n (nI t) P Q D) (fun t D => D = nj_sp P Q m (nI (d + 1)) E t) 8 E rfl (fun n D e => ?_) (fun n t D ht e ih => ?_)
  · refine br_t nj_8e ?_
    rw [e]
    exact h
  · have hk : D m = nI d := by rw [e, nj_spK (by rw [hz]; exact nj_ne (by omega)), hz]
    obtain ⟨hn, en⟩ := nj_afe (P := P) hQ ht hm
    refine br_f (nj_8n ht) (nj_xc ht _ (nj_br (fun c => ?_) (fun c => nj_xa ht _ ?_)))
    · exact nm_r (nI_1 t) (ih _ (by show D = nj_st P Q m _ t _; rw [nj_stN c, e]))
    · rw [en]
      refine nj_xi hn (nj_br (fun b => ?_) (fun b => ?_))
      · refine ⟨vp_in_nI hm (by omega), vp_in_nI hn (by omega), nm_r ?_ (nm_r (nI_1 t) (ih _ (nj_stY c (by rw [← e]; exact nj_nd b)).symm))⟩
        rw [nI_clamp (by omega), nI_clamp (by omega), hk, nI_1, e]
      · exact nm_r (nI_1 t) (ih _ (by show D = nj_st P Q m _ t _; rw [nj_stO (by rw [← e]; exact nj_nn b), e]))
end
