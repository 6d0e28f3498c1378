section
variable {A I g : Int32} {T P P' Q Q' F : Nat → Int32}
theorem nj_yl {post : Int32 → Prop} {l : Int32} (hl : nj_w l) (d : Int32) (h : post (nj_ls l d)) : wpY_lesser post (A, I, g, T, P', Q', F) l d := by
  unfold wpY_lesser
  dsimp only
  unfold nj_ls at h
  by_cases z : l = -1
  · rw [if_pos (Or.inl z)] at h
    exact br_t ((nj_wlt hl).mpr z) h
  · have z' : ¬ l < 0 := fun y => z ((nj_wlt hl).mp y)
    by_cases y : d < l
    · rw [if_pos (Or.inr y)] at h
      exact br_f z' (br_f (Int32.not_le.mpr y) h)
    · rw [if_neg (fun w => w.elim z y)] at h
      exact br_f z' (br_t (Int32.not_lt.mp y) h)
theorem nj_yd {post : Int32 → Prop} (hn : nj_net T P P' Q Q') (m : Nat) (h : post (nj_b (nj_dd P m))) : wpY_dead post (A, I, g, T, P', Q', F) (nI m) := by
  unfold wpY_dead
  dsimp only
  unfold nj_dd at h
  refine loop_0 (fun n t x => wY_dead_4 post (nI m) A I g T P' Q' F n x (nI t)) (fun t x => x = nj_b (!(nj_any (fun t => nj_rd P t (nI m)) t))) 8 1 rfl (fun n x e => ?_) (fun n t x ht e ih => ?_)
  · refine br_t nj_8e ?_
    rw [e]
    exact ⟨nj_bn _, h⟩
  · refine br_f (nj_8n ht) ?_
    rw [e]
    refine nj_br (fun z => ?_) (fun z => nj_yr hn ht _ (nj_br (fun y => ?_) (fun y => ?_)))
    · refine nm_r (nI_1 t) (ih _ ?_)
      show 0 = nj_b (!(_ || nj_rd P t (nI m)))
      rw [Bool.not_or, z]
      rfl
    · refine nm_r (nI_1 t) (ih _ ?_)
      show 1 = nj_b (!(_ || nj_rd P t (nI m)))
      rw [Bool.not_or, z, y]
      rfl
    · refine nm_r (nI_1 t) (ih _ ?_)
      show 0 = nj_b (!(_ || nj_rd P t (nI m)))
      rw [Bool.not_or, z, y]
      rfl
theorem nj_yv {post : Int32 → SY → Prop} (hn : nj_net T P P' Q Q') (hQ : nj_R Q) {i : Nat} (hi : i < 64) (hF : nj_Z F) {D : Nat → Int32} (eD : D = nj_D P Q i) (c : Int32) (h0 : nj_sf P Q D = false → post (-1) (A, nI i, g, T, P', Q', D)) (h1 : nj_sf P Q D = true → post (nj_mn (fun m => !(decide (D m = -1)) && decide (nI m &&& c = c)) D 64) (A, nI i, g, T, P', Q', D)) : wpY_covers post (A, nI i, g, T, P', Q', F) c := by
  have hD : nj_G D := by rw [eD]; exact nj_DG hQ i
  unfold wpY_covers
  dsimp only
  refine nj_ys hn hQ hi hF eD (nj_br (fun z => h0 z) (fun z => ?_))
  refine loop_0 (fun n m x => wY_covers_13 post c A (nI i) g T P' Q' D n x (nI m)) (fun m x => x = nj_mn (fun m => !(decide (D m = -1)) && decide (nI m &&& c = c)) D m) 64 (-1) rfl (fun n x e => ?_) (fun n m x hm e ih => ?_)
  · refine br_t nj_64e ?_
    rw [e]
    exact h1 z
  · refine br_f (nj_64n hm) ⟨vp_in_nI hm (by omega), ?_⟩
    rw [nI_clamp (by omega)]
    refine br_c (fun y => ?_) (fun y => br_c (fun w => ⟨vp_in_nI hm (by omega), ?_⟩) (fun w => ?_))
    · refine nm_r (nI_1 m) (ih _ ?_)
      rw [nj_mnF (by (try dsimp only); rw [decide_eq_true ((nj_vlt (hD.1 m)).mp y)]; rfl)]
      exact e
    · refine nj_yl (by rw [e]; exact nj_mnw (fun j => nj_vw (hD.1 j)) m) _ (nm_r (nI_1 m) (ih _ ?_))
      rw [nj_mnT (by (try dsimp only); rw [decide_eq_false (fun v => y ((nj_vlt (hD.1 m)).mpr v)), decide_eq_true w]; rfl), e]
    · refine nm_r (nI_1 m) (ih _ ?_)
      rw [nj_mnF (by (try dsimp only); rw [decide_eq_false w, Bool.and_false])]
      exact e
theorem nj_yk {post : Int32 → SY → Prop} (hn : nj_net T P P' Q Q') (hQ : nj_R Q) {i : Nat} (hi : i < 64) (hF : nj_Z F) {D : Nat → Int32} (eD : D = nj_D P Q i) (h0 : nj_sf P Q D = false → post (-1) (A, nI i, g, T, P', Q', D)) (h1 : nj_sf P Q D = true → post (nj_mn (fun m => !(decide (D m = -1)) && nj_dd P m) D 64) (A, nI i, g, T, P', Q', D)) : wpY_deadlock post (A, nI i, g, T, P', Q', F) := by
  have hD : nj_G D := by rw [eD]; exact nj_DG hQ i
  unfold wpY_deadlock
  dsimp only
  refine nj_ys hn hQ hi hF eD (nj_br (fun z => h0 z) (fun z => ?_))
  refine loop_0 (fun n m x => wY_deadlock_13 post A (nI i) g T P' Q' D n x (nI m)) (fun m x => x = nj_mn (fun m => !(decide (D m = -1)) && nj_dd P m) D m) 64 (-1) rfl (fun n x e => ?_) (fun n m x hm e ih => ?_)
  · refine br_t nj_64e ?_
    rw [e]
    exact h1 z
  · refine br_f (nj_64n hm) ⟨vp_in_nI hm (by omega), ?_⟩
    rw [nI_clamp (by omega)]
    refine br_c (fun y => ?_) (fun y => nj_yd hn m (nj_br (fun w => ?_) (fun w => ⟨vp_in_nI hm (by omega), ?_⟩)))
    · refine nm_r (nI_1 m) (ih _ ?_)
      rw [nj_mnF (by (try dsimp only); rw [decide_eq_true ((nj_vlt (hD.1 m)).mp y)]; rfl)]
      exact e
    · refine nm_r (nI_1 m) (ih _ ?_)
      rw [nj_mnF (by (try dsimp only); rw [w, Bool.and_false])]
      exact e
    · refine nj_yl (by rw [e]; exact nj_mnw (fun j => nj_vw (hD.1 j)) m) _ (nm_r (nI_1 m) (ih _ ?_))
      rw [nj_mnT (by (try dsimp only); rw [decide_eq_false (fun v => y ((nj_vlt (hD.1 m)).mpr v)), w]; rfl), e]
theorem nj_yg {post : Int32 → SY → Prop} (hn : nj_net T P P' Q Q') (hQ : nj_R Q) {i : Nat} (hi : i < 64) (hF : nj_Z F) {D : Nat → Int32} (eD : D = nj_D P Q i) (h0 : nj_sf P Q D = false → post 0 (A, nI i, g, T, P', Q', D)) (h1 : nj_sf P Q D = true → post (nj_ct (fun m => !(decide (D m = -1))) 64) (A, nI i, g, T, P', Q', D)) : wpY_markings post (A, nI i, g, T, P', Q', F) := by
  have hD : nj_G D := by rw [eD]; exact nj_DG hQ i
  unfold wpY_markings
  dsimp only
  refine nj_ys hn hQ hi hF eD (nj_br (fun z => h0 z) (fun z => ?_))
  refine loop_0 (fun n m x => wY_markings_13 post A (nI i) g T P' Q' D n x (nI m)) (fun m x => x = nj_ct (fun m => !(decide (D m = -1))) m) 64 0 rfl (fun n x e => ?_) (fun n m x hm e ih => ?_)
  · refine br_t nj_64e ?_
    rw [e]
    exact h1 z
  · refine br_f (nj_64n hm) ⟨vp_in_nI hm (by omega), ?_⟩
    rw [nI_clamp (by omega)]
    refine br_c (fun y => ?_) (fun y => ?_)
    · refine nm_e (nm_r (nI_1 m) (ih _ ?_))
      rw [nj_ctF (by rw [decide_eq_true ((nj_vlt (hD.1 m)).mp y)]; rfl), Int32.add_zero]
      exact e
    · refine nm_e (nm_r (nI_1 m) (ih _ ?_))
      rw [nj_ctT (by rw [decide_eq_false (fun v => y ((nj_vlt (hD.1 m)).mpr v))]; rfl), e]
theorem nj_yf {post : Int32 → SY → Prop} (hn : nj_net T P P' Q Q') (hQ : nj_R Q) {i : Nat} (hi : i < 64) (hF : nj_Z F) {D : Nat → Int32} (eD : D = nj_D P Q i) (t : Int32) (c : Nat → Bool) (hc : ∀ m, m < 64 → ∀ q : Int32 → Prop, q (nj_b (c m)) → wpY_clear q (A, nI i, g, T, P', Q', D) t (nI m)) (h0 : nj_sf P Q D = false → post (-1) (A, nI i, g, T, P', Q', D)) (h1 : nj_sf P Q D = true → post (nj_mn (fun m => !(decide (D m = -1)) && c m) (fun m => D m + 1) 64) (A, nI i, g, T, P', Q', D)) : wpY_firstFiring post (A, nI i, g, T, P', Q', F) t := by
  have hD : nj_G D := by rw [eD]; exact nj_DG hQ i
  have hw : ∀ n, nj_w (nj_mn (fun m => !(decide (D m = -1)) && c m) (fun m => D m + 1) n) := by
    intro n
    rw [nj_mnu hD.1 (fun j hj => by
      rw [Bool.and_eq_true] at hj
      exact nj_nn hj.1)]
    unfold nj_up
    split
    · exact Or.inl rfl
    · rcases nj_mnv (f := fun m => !(decide (D m = -1)) && c m) hD.1 n with e | ⟨k, hk, e⟩
      · rename_i z
        exact absurd e z
      · rw [e, nI_1]
        exact Or.inr ⟨k + 1, by omega, rfl⟩
  unfold wpY_firstFiring
  dsimp only
  refine nj_ys hn hQ hi hF eD (nj_br (fun z => h0 z) (fun z => ?_))
  refine loop_0 (fun n m x => wY_firstFiring_13 post t A (nI i) g T P' Q' D n x (nI m)) (fun m x => x = nj_mn (fun m => !(decide (D m = -1)) && c m) (fun m => D m + 1) m) 64 (-1) rfl (fun n x e => ?_) (fun n m x hm e ih => ?_)
  · refine br_t nj_64e ?_
    rw [e]
    exact h1 z
  · refine br_f (nj_64n hm) ⟨vp_in_nI hm (by omega), ?_⟩
    rw [nI_clamp (by omega)]
    refine br_c (fun y => ?_) (fun y => hc m hm _ (nj_br (fun w => ?_) (fun w => ⟨vp_in_nI hm (by omega), ?_⟩)))
    · refine nm_r (nI_1 m) (ih _ ?_)
      rw [nj_mnF (by (try dsimp only); rw [decide_eq_true ((nj_vlt (hD.1 m)).mp y)]; rfl)]
      exact e
    · refine nm_r (nI_1 m) (ih _ ?_)
      rw [nj_mnF (by (try dsimp only); rw [w, Bool.and_false])]
      exact e
    · refine nj_yl (by rw [e]; exact hw m) _ (nm_r (nI_1 m) (ih _ ?_))
      rw [nj_mnT (by (try dsimp only); rw [decide_eq_false (fun v => y ((nj_vlt (hD.1 m)).mpr v)), w]; rfl), e]
theorem nj_yt {post : Int32 → SY → Prop} (hn : nj_net T P P' Q Q') (hQ : nj_R Q) {i : Nat} (hi : i < 64) (hF : nj_Z F) {D : Nat → Int32} (eD : D = nj_D P Q i) (t u : Int32) (htu : ¬ t = u) (rt ru : Nat → Bool) (e : Bool) (ht : ∀ m, m < 64 → ∀ q : Int32 → Prop, q (nj_b (rt m)) → wpY_ready q (A, nI i, g, T, P', Q', D) t (nI m)) (hu : ∀ m, m < 64 → ∀ q : Int32 → Prop, q (nj_b (ru m)) → wpY_ready q (A, nI i, g, T, P', Q', D) u (nI m)) (he : ∀ m, rt m = true → ru m = true → vp_in t 8 ∧ vp_in u 8 ∧ decide (P' t.toNatClampNeg &&& P' u.toNatClampNeg = 0) = e) (h0 : nj_sf P Q D = false → post 0 (A, nI i, g, T, P', Q', D)) (h1 : nj_sf P Q D = true → post (nj_b (nj_any (fun m => !(decide (D m = -1)) && (rt m && (ru m && e))) 64)) (A, nI i, g, T, P', Q', D)) : wpY_together post (A, nI i, g, T, P', Q', F) t u := by
  have hD : nj_G D := by rw [eD]; exact nj_DG hQ i
  unfold wpY_together
  dsimp only
  refine br_f htu (nj_ys hn hQ hi hF eD (nj_br (fun z => h0 z) (fun z => ?_)))
  refine loop_0 (fun n m x => wY_together_19 post t u A (nI i) g T P' Q' D n x (nI m)) (fun m x => x = nj_b (nj_any (fun m => !(decide (D m = -1)) && (rt m && (ru m && e))) m)) 64 0 rfl (fun n x e => ?_) (fun n m x hm f ih => ?_)
  · refine br_t nj_64e ?_
    rw [e]
    exact ⟨nj_bn _, h1 z⟩
  · have kF : ∀ (c : Bool), c = false → (!(decide (D m = -1)) && (rt m && (ru m && e))) = c → x = nj_b (nj_any (fun m => !(decide (D m = -1)) && (rt m && (ru m && e))) (m + 1)) := by
      intro c hc h
      rw [f]
      show _ = nj_b (_ || (!(decide (D m = -1)) && (rt m && (ru m && e))))
      rw [h, hc, Bool.or_false]
    refine br_f (nj_64n hm) ⟨vp_in_nI hm (by omega), ?_⟩
    rw [nI_clamp (by omega)]
    refine br_c (fun y => ?_) (fun y => ht m hm _ (nj_br (fun w => ?_) (fun w => hu m hm _ (nj_br (fun v => ?_) (fun v => ⟨(he m w v).1, (he m w v).2.1, ?_⟩)))))
    · exact nm_r (nI_1 m) (ih _ (kF _ rfl (by rw [decide_eq_true ((nj_vlt (hD.1 m)).mp y)]; rfl)))
    · exact nm_r (nI_1 m) (ih _ (kF _ rfl (by rw [w, Bool.false_and, Bool.and_false])))
    · exact nm_r (nI_1 m) (ih _ (kF _ rfl (by rw [v, Bool.false_and, Bool.and_false, Bool.and_false])))
    · have he2 := (he m w v).2.2
      refine br_c (fun a => ?_) (fun a => ?_)
      · refine nm_r (nI_1 m) (ih _ ?_)
        rw [decide_eq_true a] at he2
        rw [nj_anyT (j := m) (by (try dsimp only); rw [decide_eq_false (fun b => y ((nj_vlt (hD.1 m)).mpr b)), w, v, ← he2]; rfl) (m + 1) (by omega)]
        rfl
      · rw [decide_eq_false a] at he2
        exact nm_r (nI_1 m) (ih _ (kF _ rfl (by rw [← he2, Bool.and_false, Bool.and_false, Bool.and_false])))
end
