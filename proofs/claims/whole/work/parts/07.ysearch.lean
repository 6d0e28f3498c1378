def nj_in (a b : Bool) (G : Nat → Bool) (t : Nat) : Bool := !(a || (b && nj_any G t))
theorem nj_inF {a b : Bool} {G : Nat → Bool} {t : Nat} (h : b = false ∨ G t = false) : nj_in a b G (t + 1) = nj_in a b G t := by
  show (!(a || (b && (nj_any G t || G t)))) = (!(a || (b && nj_any G t)))
  rcases h with h | h
  · rw [h, Bool.false_and, Bool.false_and]
  · rw [h, Bool.or_false]
theorem nj_inT {a b : Bool} {G : Nat → Bool} {t : Nat} (h : b = true) (h2 : G t = true) : nj_in a b G (t + 1) = false := by
  show (!(a || (b && (nj_any G t || G t)))) = false
  rw [h, h2, Bool.or_true, Bool.and_true, Bool.or_true]
  rfl
section
variable {A I g : Int32} {T P P' Q Q' F : Nat → Int32}
theorem nj_ys {post : Int32 → SY → Prop} (hn : nj_net T P P' Q Q') (hQ : nj_R Q) {i : Nat} (hi : i < 64) (hF : nj_Z F) {D : Nat → Int32} (eD : D = nj_D P Q i) (h : post (nj_b (nj_sf P Q D)) (A, nI i, g, T, P', Q', D)) : wpY_search post (A, nI i, g, T, P', Q', F) := by
  have hD : nj_G D := by rw [eD]; exact nj_DG hQ i
  unfold wpY_search
  dsimp only
  refine loop_0 (fun n m E => wY_search_2 post A (nI i) g n (nI m) T P' Q' E) (fun m E => E = nj_fy i F m) 64 F (nj_fy0 i F).symm (fun n E e => ?_) (fun n m E hm e ih => ?_)
  rotate_left
  · refine br_f (nj_64n hm) ?_
    by_cases z : m = i
    · refine br_t (congrArg nI z) ⟨vp_in_nI hm (by omega), nm_r ?_ (nm_r (nI_1 m) (ih _ (nj_fyS i F m)))⟩
      rw [nI_clamp (by omega), e, if_pos z]
    · refine br_f (fun y => z ((nI_eq (by omega) (by omega)).mp y)) ⟨vp_in_nI hm (by omega), nm_r ?_ (nm_r (nI_1 m) (ih _ (nj_fyS i F m)))⟩
      rw [nI_clamp (by omega), e, if_neg z]
  · refine br_t nj_64e ?_
    rw [e, nj_fyE hF]
    refine loop_0 (fun n d E => wY_search_35 post n (nI d) A (nI i) g T P' Q' E) (fun d E => E = nj_al P Q (nj_0 i) d) 64 (nj_0 i) rfl (fun n E e => ?_) (fun n d E hd e ih => ?_)
    rotate_left
    · have hG : nj_G E := by rw [e]; exact nj_alG hQ (nj_0G i) d (by omega)
      refine br_f (nj_64n hd) ?_
      refine loop_0 (fun k m F => wY_search_43 post (wY_search_35 post n) (nI d) k (nI m) A (nI i) g T P' Q' F) (fun m F => F = nj_rw P Q d E m) 64 E rfl (fun k F f => ?_) (fun k m F hm f jh => ?_)
      · exact br_t nj_64e (nm_r (nI_1 d) (ih _ (by rw [f, e]; rfl)))
      · have hF : nj_G F := by rw [f]; exact nj_rwG hQ hd hG m (by omega)
        refine br_f (nj_64n hm) ⟨vp_in_nI hm (by omega), br_c (fun z => ?_) (fun z => ?_)⟩
        · rw [nI_clamp (by omega)] at z
          exact nj_yp hn hQ hm hd hF (nm_r (nI_1 m) (jh _ (by rw [nj_rwY (by rw [← f]; exact z), f])))
        · rw [nI_clamp (by omega)] at z
          exact nm_r (nI_1 m) (jh _ (by rw [nj_rwN (by rw [← f]; exact z), f]))
    · refine br_t nj_64e ?_
      have eE : E = D := by rw [e, eD]; rfl
      rw [eE]
      refine loop_0 (fun n m x => wY_search_81 post A (nI i) g T P' Q' D n x (nI m)) (fun m x => x = nj_b (!(nj_any (fun m => !(decide (D m = -1)) && nj_cs P Q m) m))) 64 1 rfl (fun n x e => ?_) (fun n m x hm e ih => ?_)
      · refine br_t nj_64e ?_
        rw [e]
        exact ⟨nj_bn _, h⟩
      · refine br_f (nj_64n hm) ?_
        refine loop_0 (fun k t y => wY_search_89 post (wY_search_81 post A (nI i) g T P' Q' D n) (nI m) A (nI i) g T P' Q' D k y (nI t)) (fun t y => y = nj_b (nj_in (nj_any (fun m => !(decide (D m = -1)) && nj_cs P Q m) m) (!(decide (D m = -1))) (fun t => nj_rd P t (nI m) && !(nj_cl P Q t (nI m))) t)) 8 x ?_ (fun k y f => ?_) (fun k t y ht f jh => ?_)
        · rw [e]
          show _ = nj_b (!(_ || (_ && false)))
          rw [Bool.and_false, Bool.or_false]
        · exact br_t nj_8e (nm_r (nI_1 m) (ih _ f))
        · refine br_f (nj_8n ht) ⟨vp_in_nI hm (by omega), ?_⟩
          rw [nI_clamp (by omega)]
          refine br_c (fun z => ?_) (fun z => nj_yr hn ht _ (nj_br (fun c => ?_) (fun c => nj_yc hn ht _ (nj_br (fun b => ?_) (fun b => ?_)))))
          · refine nm_r (nI_1 t) (jh _ ?_)
            rw [nj_inF (Or.inl (by rw [decide_eq_true ((nj_vlt (hD.1 m)).mp z)]; rfl))]
            exact f
          · refine nm_r (nI_1 t) (jh _ ?_)
            rw [nj_inF (Or.inr (by (try dsimp only); rw [c]; rfl))]
            exact f
          · refine nm_r (nI_1 t) (jh _ ?_)
            rw [nj_inT (by rw [decide_eq_false (fun y => z ((nj_vlt (hD.1 m)).mpr y))]; rfl) (by (try dsimp only); rw [c, b]; rfl)]
            rfl
          · refine nm_r (nI_1 t) (jh _ ?_)
            rw [nj_inF (Or.inr (by (try dsimp only); rw [c, b]; rfl))]
            exact f
end
