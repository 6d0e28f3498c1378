theorem nj_7n {t : Nat} (ht : t < 8) : ¬ (7 : Int32) < nI t := nI_nlt (a := 7) (b := t) (by omega) (by omega)
theorem nj_8o {t : Int32} (h : nI 8 ≤ t) : (7 : Int32) < t := Int32.lt_of_lt_of_le (by decide) h
theorem nj_8p {t : Int32} (h : nI 8 ≤ t) : ¬ t < 0 := Int32.not_lt.mpr (Int32.le_trans (by decide) h)
theorem i_vc_setTransition {k : Nat} {u : SX} {v : SY} (I : i_Rel k u v) (hk : k + 4 ≤ 2050) (v1 : Int32) (v2 : Int32) (v3 : Int32) : wpX_setTransition (fun r u' => wpY_setTransition (fun r' v' => r' = r ∧ i_Rel (k + 4) u' v') v v1 v2 v3) u v1 v2 v3 := by
  have J := i_up I
  obtain ⟨A, i, g, P, Q, T, P', Q', F, D, eD, hK, rfl, rfl⟩ := I
  obtain ⟨hA, hi, hQ, hn, hF⟩ := hK
  unfold wpX_setTransition wpY_setTransition
  dsimp only
  rcases pk_ix v1 (n := 8) (by omega) with h | h | ⟨t, ht, rfl⟩
  · exact nj_xnumo (Or.inl h) (br_t rfl (br_t h ⟨rfl, J⟩))
  · exact nj_xnumo (Or.inr h) (br_t rfl (br_f (nj_8p h) (br_t (nj_8o h) ⟨rfl, J⟩)))
  · have hv : vp_in (nI t) 8 := vp_in_nI ht (by omega)
    refine nj_xnum ht (br_f (by decide) (nj_xas v2 (nj_br (fun a => ?_) (fun a => nj_xas v3 (nj_br (fun b => ?_) (fun b => ?_))))))
    · refine br_f (nI_pos (by omega)) (br_f (nj_7n ht) (nj_yo2 v2 ?_))
      rw [← nj_axy hA, a]
      exact br_t rfl ⟨rfl, J⟩
    · refine br_f (nI_pos (by omega)) (br_f (nj_7n ht) (nj_yo2 v2 ?_))
      rw [← nj_axy hA, a]
      refine br_f (by decide) (nj_yo2 v3 ?_)
      rw [← nj_axy hA, b]
      exact br_t rfl ⟨rfl, J⟩
    · obtain ⟨D2, e2⟩ : ∃ D2, D2 = nj_D (upd P t v2) (upd Q t v3) i := ⟨_, rfl⟩
      have q2 := nj_RS hQ t (nj_ax63 hA b).1
      have n2 := nj_netS hn t v3 (nj_ax63 hA a).2
      have hD : nj_G D := by rw [eD]; exact nj_DG hQ i
      refine ⟨hv, nm_r (e' := upd P t v2) (by rw [nI_clamp (by omega)]) ⟨hv, nm_r (e' := upd Q t v3) (by rw [nI_clamp (by omega)]) ?_⟩⟩
      refine nj_xn q2 hi (nj_EG hD).2 e2 ?_
      refine br_f (nI_pos (by omega)) (br_f (nj_7n ht) (nj_yo2 v2 ?_))
      rw [← nj_axy hA, a]
      refine br_f (by decide) (nj_yo2 v3 ?_)
      rw [← nj_axy hA, b]
      refine br_f (by decide) ⟨hv, nm_r (e' := upd T t 1) (by rw [nI_clamp (by omega)]; rfl) ⟨hv, nm_r (e' := upd P' t v2) (by rw [nI_clamp (by omega)]) ⟨hv, nm_r (e' := upd Q' t v3) (by rw [nI_clamp (by omega)]) ⟨rfl, ?_⟩⟩⟩⟩
      exact nj_rel e2 ⟨hA, hi, q2, n2, hF⟩
theorem i_vc_dropTransition {k : Nat} {u : SX} {v : SY} (I : i_Rel k u v) (hk : k + 4 ≤ 2050) (v1 : Int32) : wpX_dropTransition (fun r u' => wpY_dropTransition (fun r' v' => r' = r ∧ i_Rel (k + 4) u' v') v v1) u v1 := by
  have J := i_up I
  obtain ⟨A, i, g, P, Q, T, P', Q', F, D, eD, hK, rfl, rfl⟩ := I
  obtain ⟨hA, hi, hQ, hn, hF⟩ := hK
  unfold wpX_dropTransition wpY_dropTransition
  dsimp only
  rcases pk_ix v1 (n := 8) (by omega) with h | h | ⟨t, ht, rfl⟩
  · exact nj_xpro (Or.inl h) (br_t rfl (br_t h ⟨rfl, J⟩))
  · exact nj_xpro (Or.inr h) (br_t rfl (br_f (nj_8p h) (br_t (nj_8o h) ⟨rfl, J⟩)))
  · have hv : vp_in (nI t) 8 := vp_in_nI ht (by omega)
    have hc : (nI t).toNatClampNeg = t := nI_clamp (by omega)
    refine nj_xpr ht (nj_br (fun a => ?_) (fun a => ?_))
    · refine br_f (nI_pos (by omega)) (br_f (nj_7n ht) ⟨hv, br_t ?_ ⟨rfl, J⟩⟩)
      rw [hc]
      rcases hn t ht with ⟨e, _⟩ | ⟨_, e, _⟩
      · exact e
      · exact absurd (nj_nd a) e
    · obtain ⟨D2, e2⟩ : ∃ D2, D2 = nj_D (upd P t 0) (upd Q t 0) i := ⟨_, rfl⟩
      have q2 := nj_RS hQ t (q := 0) (by decide)
      have n2 := nj_netD hn t
      have hD : nj_G D := by rw [eD]; exact nj_DG hQ i
      refine ⟨hv, nm_r (e' := upd P t 0) (by rw [hc]) ⟨hv, nm_r (e' := upd Q t 0) (by rw [hc]) ?_⟩⟩
      refine nj_xn q2 hi (nj_EG hD).2 e2 ?_
      refine br_f (nI_pos (by omega)) (br_f (nj_7n ht) ⟨hv, br_f ?_ ⟨hv, nm_r (e' := upd T t 0) (by rw [hc]; rfl) ⟨rfl, nj_rel e2 ⟨hA, hi, q2, n2, hF⟩⟩⟩⟩)
      rw [hc]
      rcases hn t ht with ⟨_, e⟩ | ⟨e, _⟩
      · exact absurd e (nj_nn a)
      · rw [e]; decide
theorem i_vc_setInitial {k : Nat} {u : SX} {v : SY} (I : i_Rel k u v) (hk : k + 4 ≤ 2050) (v1 : Int32) : wpX_setInitial (fun r u' => wpY_setInitial (fun r' v' => r' = r ∧ i_Rel (k + 4) u' v') v v1) u v1 := by
  have J := i_up I
  obtain ⟨A, i, g, P, Q, T, P', Q', F, D, eD, hK, rfl, rfl⟩ := I
  obtain ⟨hA, hi, hQ, hn, hF⟩ := hK
  unfold wpX_setInitial wpY_setInitial
  dsimp only
  refine nj_xop v1 (nj_br (fun a => ?_) (fun a => ?_))
  · exact br_f (of_decide_eq_false a) ⟨rfl, J⟩
  · have a' := of_decide_eq_true a
    obtain ⟨j, hj, rfl⟩ := nj_64 (nj_mk hA a')
    obtain ⟨D2, e2⟩ : ∃ D2, D2 = nj_D P Q j := ⟨_, rfl⟩
    have hD : nj_G D := by rw [eD]; exact nj_DG hQ i
    exact nj_xn hQ hj (nj_EG hD).2 e2 (br_t a' ⟨rfl, nj_rel e2 ⟨hA, hj, hQ, hn, hF⟩⟩)
theorem nj_ff {P Q D : Nat → Int32} (hs : nj_sf P Q D = true) (hD : nj_V D) {t : Nat} (ht : t < 8) (hp : ¬ P t = 0) : nj_mn (fun m => !(decide (D m = -1)) && nj_cl P Q t (nI m)) (fun m => D m + 1) 64 = nj_up (nj_mn (fun m => !(decide (D m = -1)) && decide (nI m &&& P t = P t)) D 64) := by
  rw [← nj_mnu hD (fun j hj => by
    try dsimp only at hj
    rw [Bool.and_eq_true] at hj
    exact nj_nn hj.1)]
  refine nj_mnC 64 (fun j hj => ?_)
  try dsimp only
  by_cases z : D j = -1
  · rw [decide_eq_true z]
    rfl
  · by_cases y : nI j &&& P t = P t
    · rw [nj_sc hs hj ht z (nj_rd1 hp y), decide_eq_true y]
    · rw [nj_cl0 (nj_rdn y), decide_eq_false y]
theorem nj_upB {post : Int32 → Prop} {x : Int32} (h : post (nj_up x)) : (x = -1 → post (-1)) ∧ (¬ x = -1 → post (x + 1)) := by
  unfold nj_up at h
  constructor
  · intro z
    rw [if_pos z] at h
    exact h
  · intro z
    rw [if_neg z] at h
    exact h
theorem i_vc_firstFiring {k : Nat} {u : SX} {v : SY} (I : i_Rel k u v) (hk : k + 4 ≤ 2050) (v1 : Int32) : wpX_firstFiring (fun r => wpY_firstFiring (fun r' v' => r' = r ∧ i_Rel (k + 4) u v') v v1) u v1 := by
  obtain ⟨A, i, g, P, Q, T, P', Q', F, D, eD, hK, rfl, rfl⟩ := I
  have J := nj_relD (k := k + 4) (g := g) eD hK
  obtain ⟨hA, hi, hQ, hn, hF⟩ := hK
  have hD : nj_G D := by rw [eD]; exact nj_DG hQ i
  have no : ∀ (c : Nat → Bool), (∀ m, c m = false) → nj_mn (fun m => !(decide (D m = -1)) && c m) (fun m => D m + 1) 64 = -1 := fun c hc => nj_mn0 64 (fun j _ => by rw [hc j, Bool.and_false])
  unfold wpX_firstFiring
  dsimp only
  rcases pk_ix v1 (n := 8) (by omega) with h | h | ⟨t, ht, rfl⟩
  · refine nj_xpro (Or.inl h) (br_t rfl ?_)
    exact nj_yf hn hQ hi hF eD v1 (fun _ => false) (fun m hm q hq => nj_yco (Or.inl h) _ hq) (fun _ => ⟨rfl, J⟩) (fun _ => ⟨no _ (fun _ => rfl), J⟩)
  · refine nj_xpro (Or.inr h) (br_t rfl ?_)
    exact nj_yf hn hQ hi hF eD v1 (fun _ => false) (fun m hm q hq => nj_yco (Or.inr h) _ hq) (fun _ => ⟨rfl, J⟩) (fun _ => ⟨no _ (fun _ => rfl), J⟩)
  · refine nj_xpr ht (nj_br (fun a => ?_) (fun a => ⟨vp_in_nI ht (by omega), ?_⟩))
    · exact nj_yf hn hQ hi hF eD _ (fun m => nj_cl P Q t (nI m)) (fun m hm q hq => nj_yc hn ht _ hq) (fun _ => ⟨rfl, J⟩) (fun _ => ⟨no _ (fun _ => nj_cl0 (nj_rd0 (nj_nd a))), J⟩)
    · rw [nI_clamp (by omega)]
      refine nj_xv _ (nj_upB (post := fun r => wpY_firstFiring (fun r' v' => r' = r ∧ i_Rel (k + 4) _ v') _ _) ?_)
      refine nj_yf hn hQ hi hF eD _ (fun m => nj_cl P Q t (nI m)) (fun m hm q hq => nj_yc hn ht _ hq) (fun z => ⟨?_, J⟩) (fun z => ⟨?_, J⟩)
      · rw [nj_Ef z, nj_mn0 64 (fun j hj => by rw [nj_NN hj]; rfl)]
        rfl
      · rw [nj_Et z]
        exact nj_ff z hD.1 ht (nj_nn a)
theorem nj_ab {A I g s : Int32} {T P P' Q Q' E F : Nat → Int32} (hn : nj_net T P P' Q Q') (v : Int32) : ((∀ post : Int32 → Prop, post 0 → wpX_isPresent post (A, I, g, s, P, Q, E) v) ∧ (∀ (m : Int32) (q : Int32 → Prop), q (nj_b false) → wpY_ready q (A, I, g, T, P', Q', F) v m)) ∨ (∃ t : Nat, t < 8 ∧ v = nI t ∧ ¬ P t = 0) := by
  rcases pk_ix v (n := 8) (by omega) with h | h | ⟨t, ht, rfl⟩
  · exact Or.inl ⟨fun post hp => nj_xpro (Or.inl h) hp, fun m q hq => nj_yro (Or.inl h) m hq⟩
  · exact Or.inl ⟨fun post hp => nj_xpro (Or.inr h) hp, fun m q hq => nj_yro (Or.inr h) m hq⟩
  · by_cases z : P t = 0
    · refine Or.inl ⟨fun post hp => nj_xpr ht ?_, fun m q hq => nj_yr hn ht m ?_⟩
      · rw [decide_eq_true z]
        exact hp
      · rw [nj_rd0 z]
        exact hq
    · exact Or.inr ⟨t, ht, rfl, z⟩
theorem nj_tg {D P : Nat → Int32} {t u : Nat} (hp : ¬ P t = 0) (hq : ¬ P u = 0) (j : Nat) : (!(decide (D j = -1)) && decide (nI j &&& (P t ||| P u) = P t ||| P u)) = (!(decide (D j = -1)) && (nj_rd P t (nI j) && (nj_rd P u (nI j) && true))) := by
  by_cases z : nI j &&& (P t ||| P u) = P t ||| P u
  · obtain ⟨a, b⟩ := nj_un1 z
    rw [decide_eq_true z, nj_rd1 hp a, nj_rd1 hq b]
    rfl
  · rw [decide_eq_false z]
    by_cases a : nI j &&& P t = P t
    · have b : ¬ nI j &&& P u = P u := fun b => z (nj_un2 a b)
      rw [nj_rdn b, Bool.false_and, Bool.and_false, Bool.and_false, Bool.and_false]
    · rw [nj_rdn a, Bool.false_and]
theorem i_vc_together {k : Nat} {u : SX} {v : SY} (I : i_Rel k u v) (hk : k + 4 ≤ 2050) (v1 : Int32) (v2 : Int32) : wpX_together (fun r => wpY_together (fun r' v' => r' = r ∧ i_Rel (k + 4) u v') v v1 v2) u v1 v2 := by
  have J0 := i_up I
  obtain ⟨A, i, g, P, Q, T, P', Q', F, D, eD, hK, rfl, rfl⟩ := I
  have J := nj_relD (k := k + 4) (g := g) eD hK
  obtain ⟨hA, hi, hQ, hn, hF⟩ := hK
  have hD : nj_G D := by rw [eD]; exact nj_DG hQ i
  unfold wpX_together
  dsimp only
  by_cases e : v1 = v2
  · refine br_t e ?_
    unfold wpY_together
    dsimp only
    exact br_t e ⟨rfl, J0⟩
  · refine br_f e ?_
    have no : ∀ (c d : Nat → Bool), (∀ m, c m = false ∨ d m = false) → ∀ b, nj_b (nj_any (fun m => !(decide (D m = -1)) && (c m && (d m && b))) 64) = 0 := by
      intro c d hc b
      rw [nj_anyF 64 (fun j _ => by
        try dsimp only
        rcases hc j with z | z
        · rw [z, Bool.false_and, Bool.and_false]
        · rw [z, Bool.false_and, Bool.and_false, Bool.and_false])]
      rfl
    rcases nj_ab (A := A) (I := nI i) (g := g) (s := nj_b (nj_sf P Q D)) (E := nj_E P Q D) (F := D) hn v1 with ⟨x1, y1⟩ | ⟨t, ht, rfl, hp⟩
    · refine x1 _ (br_t rfl ?_)
      rcases nj_ab (A := A) (I := nI i) (g := g) (s := nj_b (nj_sf P Q D)) (E := nj_E P Q D) (F := D) hn v2 with ⟨x2, y2⟩ | ⟨w, hw, rfl, hq⟩
      · exact nj_yt hn hQ hi hF eD _ _ e (fun _ => false) (fun _ => false) true (fun m _ q h => y1 _ q h) (fun m _ q h => y2 _ q h) (fun m h => absurd h (by decide)) (fun _ => ⟨rfl, J⟩) (fun _ => ⟨no _ _ (fun _ => Or.inl rfl) _, J⟩)
      · exact nj_yt hn hQ hi hF eD _ _ e (fun _ => false) (fun m => nj_rd P w (nI m)) true (fun m _ q h => y1 _ q h) (fun m _ q h => nj_yr hn hw _ h) (fun m h => absurd h (by decide)) (fun _ => ⟨rfl, J⟩) (fun _ => ⟨no _ _ (fun _ => Or.inl rfl) _, J⟩)
    · refine nj_xpr ht ?_
      rw [decide_eq_false hp]
      refine br_f (by decide) ?_
      rcases nj_ab (A := A) (I := nI i) (g := g) (s := nj_b (nj_sf P Q D)) (E := nj_E P Q D) (F := D) hn v2 with ⟨x2, y2⟩ | ⟨w, hw, rfl, hq⟩
      · refine x2 _ (br_t rfl ?_)
        exact nj_yt hn hQ hi hF eD _ _ e (fun m => nj_rd P t (nI m)) (fun _ => false) true (fun m _ q h => nj_yr hn ht _ h) (fun m _ q h => y2 _ q h) (fun m _ h => absurd h (by decide)) (fun _ => ⟨rfl, J⟩) (fun _ => ⟨no _ _ (fun _ => Or.inr rfl) _, J⟩)
      · refine nj_xpr hw ?_
        rw [decide_eq_false hq]
        refine br_f (by decide) ?_
        have ct : (nI t).toNatClampNeg = t := nI_clamp (by omega)
        have cw : (nI w).toNatClampNeg = w := nI_clamp (by omega)
        have it : vp_in (nI t) 8 := vp_in_nI ht (by omega)
        have iw : vp_in (nI w) 8 := vp_in_nI hw (by omega)
        have pt : P' t = P t := by
          rcases hn t ht with ⟨_, z⟩ | ⟨_, _, z, _⟩
          · exact absurd z hp
          · exact z
        have pw : P' w = P w := by
          rcases hn w hw with ⟨_, z⟩ | ⟨_, _, z, _⟩
          · exact absurd z hq
          · exact z
        rw [ct, cw]
        refine ⟨it, iw, ?_⟩
        have Y : ∀ (post : Int32 → SY → Prop), (nj_sf P Q D = false → post 0 (A, nI i, g, T, P', Q', D)) → (nj_sf P Q D = true → post (nj_b (nj_any (fun m => !(decide (D m = -1)) && (nj_rd P t (nI m) && (nj_rd P w (nI m) && decide (P t &&& P w = 0)))) 64)) (A, nI i, g, T, P', Q', D)) → wpY_together post (A, nI i, g, T, P', Q', F) (nI t) (nI w) := by
          intro post h0 h1
          exact nj_yt hn hQ hi hF eD _ _ e (fun m => nj_rd P t (nI m)) (fun m => nj_rd P w (nI m)) (decide (P t &&& P w = 0)) (fun m _ q h => nj_yr hn ht _ h) (fun m _ q h => nj_yr hn hw _ h) (fun m _ _ => ⟨it, iw, by rw [ct, cw, pt, pw]⟩) h0 h1
        refine br_c (fun a => ⟨it, iw, ?_⟩) (fun a => ?_)
        · rw [decide_eq_true a] at Y
          refine nj_xv _ ?_
          rcases nj_ft (nj_sf P Q D) with z | z
          · refine br_t ?_ (Y _ (fun _ => ⟨rfl, J⟩) (fun b => absurd (z.symm.trans b) (by decide)))
            rw [nj_Ef z]
            exact nj_mn0 64 (fun j hj => by (try dsimp only); rw [nj_NN hj]; rfl)
          · have EE := nj_Et z
            have H := nj_mna (f := fun m => !(decide (nj_E P Q D m = -1)) && decide (nI m &&& (P t ||| P w) = P t ||| P w)) (D := nj_E P Q D) (fun j hj => by
              try dsimp only at hj
              rw [Bool.and_eq_true] at hj
              exact nj_nn hj.1) 64
            have C : nj_any (fun m => !(decide (nj_E P Q D m = -1)) && decide (nI m &&& (P t ||| P w) = P t ||| P w)) 64 = nj_any (fun m => !(decide (D m = -1)) && (nj_rd P t (nI m) && (nj_rd P w (nI m) && true))) 64 := by
              rw [EE]
              exact nj_anyC 64 (fun j _ => nj_tg hp hq j)
            rw [C] at H
            refine br_c (fun b => ?_) (fun b => ?_)
            · refine Y _ (fun y => absurd (z.symm.trans y) (by decide)) (fun _ => ⟨?_, J⟩)
              rw [H.1 b]
              rfl
            · refine Y _ (fun y => absurd (z.symm.trans y) (by decide)) (fun _ => ⟨?_, J⟩)
              rw [H.2 b]
              rfl
        · refine Y _ (fun _ => ⟨rfl, J⟩) (fun _ => ⟨?_, J⟩)
          rw [decide_eq_false a]
          rw [nj_anyF 64 (fun j _ => by (try dsimp only); rw [Bool.and_false, Bool.and_false, Bool.and_false])]
          rfl
