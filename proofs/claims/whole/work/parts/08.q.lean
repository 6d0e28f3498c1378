section
variable {A I g s : Int32} {P Q E : Nat → Int32}
theorem nj_xl {post : Int32 → Prop} (l d : Int32) (h : post (nj_ls l d)) : wpX_lesser post l d := by
  unfold wpX_lesser
  unfold nj_ls at h
  by_cases z : l = -1
  · rw [if_pos (Or.inl z)] at h
    exact br_t z h
  · by_cases y : d < l
    · rw [if_pos (Or.inr y)] at h
      exact br_f z (br_f (Int32.not_le.mpr y) h)
    · rw [if_neg (fun w => w.elim z y)] at h
      exact br_f z (br_t (Int32.not_lt.mp y) h)
theorem nj_xv {post : Int32 → Prop} (c : Int32) (h : post (nj_mn (fun m => !(decide (E m = -1)) && decide (nI m &&& c = c)) E 64)) : wpX_covers post (A, I, g, s, P, Q, E) c := by
  unfold wpX_covers
  dsimp only
  refine loop_0 (fun n m x => wX_covers_4 post c A I g s P Q E n x (nI m)) (fun m x => x = nj_mn (fun m => !(decide (E m = -1)) && decide (nI m &&& c = c)) E m) 64 (-1) rfl (fun n x e => ?_) (fun n m x hm e ih => ?_)
  · refine br_t nj_64e ?_
    rw [e]
    exact h
  · refine br_f (nj_64n hm) (nj_xi hm (nj_br (fun z => ?_) (fun z => br_c (fun y => ⟨vp_in_nI hm (by omega), ?_⟩) (fun y => ?_))))
    · refine nm_r (nI_1 m) (ih _ ?_)
      rw [nj_mnF (by (try dsimp only); rw [z]; rfl)]
      exact e
    · rw [nI_clamp (by omega)]
      refine nj_xl _ _ (nm_r (nI_1 m) (ih _ ?_))
      rw [nj_mnT (by (try dsimp only); rw [z, decide_eq_true y]; rfl), e]
    · refine nm_r (nI_1 m) (ih _ ?_)
      rw [nj_mnF (by (try dsimp only); rw [decide_eq_false y, Bool.and_false])]
      exact e
theorem nj_xk {post : Int32 → Prop} (h : post (nj_mn (fun m => !(decide (E m = -1)) && nj_dd P m) E 64)) : wpX_deadlock post (A, I, g, s, P, Q, E) := by
  unfold wpX_deadlock
  dsimp only
  refine loop_0 (fun n m x => wX_deadlock_4 post A I g s P Q E n x (nI m)) (fun m x => x = nj_mn (fun m => !(decide (E m = -1)) && nj_dd P m) E m) 64 (-1) rfl (fun n x e => ?_) (fun n m x hm e ih => ?_)
  · refine br_t nj_64e ?_
    rw [e]
    exact h
  · refine br_f (nj_64n hm) (nj_xi hm (nj_br (fun z => ?_) (fun z => nj_xd m (nj_br (fun y => ?_) (fun y => ⟨vp_in_nI hm (by omega), ?_⟩)))))
    · refine nm_r (nI_1 m) (ih _ ?_)
      rw [nj_mnF (by (try dsimp only); rw [z]; rfl)]
      exact e
    · refine nm_r (nI_1 m) (ih _ ?_)
      rw [nj_mnF (by (try dsimp only); rw [y, Bool.and_false])]
      exact e
    · rw [nI_clamp (by omega)]
      refine nj_xl _ _ (nm_r (nI_1 m) (ih _ ?_))
      rw [nj_mnT (by (try dsimp only); rw [z, y]; rfl), e]
theorem nj_xg {post : Int32 → Prop} (h : post (nj_ct (fun m => !(decide (E m = -1))) 64)) : wpX_markings post (A, I, g, s, P, Q, E) := by
  unfold wpX_markings
  dsimp only
  refine loop_0 (fun n m x => wX_markings_4 post A I g s P Q E n x (nI m)) (fun m x => x = nj_ct (fun m => !(decide (E m = -1))) m) 64 0 rfl (fun n x e => ?_) (fun n m x hm e ih => ?_)
  · refine br_t nj_64e ?_
    rw [e]
    exact h
  · refine br_f (nj_64n hm) (nj_xi hm (nj_br (fun z => ?_) (fun z => ?_)))
    · refine nm_r (nI_1 m) (ih _ ?_)
      rw [nj_ctF z]
      exact e
    · refine nm_e (nm_r (nI_1 m) (ih _ ?_))
      rw [nj_ctT z, e]
theorem nj_xnum {post : Int32 → Prop} {t : Nat} (ht : t < 8) (h : post 1) : wpX_isNumber post (A, I, g, s, P, Q, E) (nI t) := by
  unfold wpX_isNumber
  dsimp only
  exact br_f (nI_pos (by omega)) (br_f (nj_8n ht) h)
theorem nj_xnumo {post : Int32 → Prop} {t : Int32} (ht : t < 0 ∨ nI 8 ≤ t) (h : post 0) : wpX_isNumber post (A, I, g, s, P, Q, E) t := by
  unfold wpX_isNumber
  dsimp only
  by_cases z : t < 0
  · exact br_t z h
  · exact br_f z (br_t (ht.resolve_left z) h)
theorem nj_xpr {post : Int32 → Prop} {t : Nat} (ht : t < 8) (h : post (nj_b (!(decide (P t = 0))))) : wpX_isPresent post (A, I, g, s, P, Q, E) (nI t) := by
  unfold wpX_isPresent
  dsimp only
  refine nj_xnum ht (br_f (by decide) ⟨vp_in_nI ht (by omega), ?_⟩)
  rw [nI_clamp (by omega)]
  refine br_c (fun z => ?_) (fun z => ?_)
  · rw [decide_eq_true z] at h; exact h
  · rw [decide_eq_false z] at h; exact h
theorem nj_xpro {post : Int32 → Prop} {t : Int32} (ht : t < 0 ∨ nI 8 ≤ t) (h : post 0) : wpX_isPresent post (A, I, g, s, P, Q, E) t := by
  unfold wpX_isPresent
  dsimp only
  exact nj_xnumo ht (br_t rfl h)
theorem nj_xo1 {post : Int32 → Prop} (c : Int32) (h : post (nj_b (nj_xo c))) : wpX_hasOneOrTwoBits post c := by
  unfold wpX_hasOneOrTwoBits
  unfold nj_xo at h
  refine nm_e (nm_e (br_c (fun z => ?_) (fun z => br_c (fun y => ?_) (fun y => ?_))))
  · rw [decide_eq_true z] at h; exact h
  · rw [decide_eq_false z, decide_eq_true y] at h; exact h
  · rw [decide_eq_false z, decide_eq_false y] at h; exact h
theorem nj_xop {post : Int32 → Prop} (c : Int32) (h : post (nj_b (decide (c &&& (A ^^^ (-1)) = 0)))) : wpX_hasOnlyPlaces post (A, I, g, s, P, Q, E) c := by
  unfold wpX_hasOnlyPlaces
  dsimp only
  refine br_c (fun z => ?_) (fun z => ?_)
  · rw [decide_eq_true z] at h; exact h
  · rw [decide_eq_false z] at h; exact h
theorem nj_xas {post : Int32 → Prop} (c : Int32) (h : post (nj_b (nj_ax A c))) : wpX_isArcSet post (A, I, g, s, P, Q, E) c := by
  unfold wpX_isArcSet
  dsimp only
  unfold nj_ax at h
  refine nj_xop c (nj_br (fun z => ?_) (fun z => nj_xo1 c (nj_br (fun y => ?_) (fun y => ?_))))
  · rw [z] at h; exact h
  · rw [z, y] at h; exact h
  · rw [z, y] at h; exact h
end
