theorem nj_mna {f : Nat → Bool} {D : Nat → Int32} (hf : ∀ j, f j = true → ¬ D j = -1) (n : Nat) : (nj_mn f D n = -1 → nj_any f n = false) ∧ (¬ nj_mn f D n = -1 → nj_any f n = true) := by
  constructor
  · intro h
    refine nj_anyF n (fun j hj => ?_)
    cases e : f j
    · rfl
    · exact absurd h (nj_mnY e (hf j e) n hj (fun k _ z => hf k z))
  · intro h
    cases e : nj_any f n
    · exact absurd (nj_mn0 n (fun j hj => nj_anyE e hj)) h
    · rfl
def nj_fs (f : Nat → Bool) : Nat → Nat → Int32
  | 0, _ => -1
  | d + 1, m => if f m = true then nI m else nj_fs f d (m + 1)
theorem nj_fsT {f : Nat → Bool} {d m : Nat} (h : f m = true) : nj_fs f (d + 1) m = nI m := by
  show (if f m = true then nI m else nj_fs f d (m + 1)) = _
  rw [if_pos h]
theorem nj_fsF {f : Nat → Bool} {d m : Nat} (h : f m = false) : nj_fs f (d + 1) m = nj_fs f d (m + 1) := by
  show (if f m = true then nI m else nj_fs f d (m + 1)) = _
  rw [if_neg (by rw [h]; decide)]
def nj_en (P Q : Nat → Int32) (g : Int32) : Nat → Int32
  | 0 => 0
  | t + 1 => if nj_cl P Q t g = true then nj_en P Q g t ||| ((1 : Int32) <<< (nI t &&& 31)) else nj_en P Q g t
theorem nj_enT {P Q : Nat → Int32} {g : Int32} {t : Nat} (h : nj_cl P Q t g = true) : nj_en P Q g (t + 1) = nj_en P Q g t ||| ((1 : Int32) <<< (nI t &&& 31)) := by
  show (if nj_cl P Q t g = true then nj_en P Q g t ||| ((1 : Int32) <<< (nI t &&& 31)) else nj_en P Q g t) = _
  rw [if_pos h]
theorem nj_enF {P Q : Nat → Int32} {g : Int32} {t : Nat} (h : nj_cl P Q t g = false) : nj_en P Q g (t + 1) = nj_en P Q g t := by
  show (if nj_cl P Q t g = true then nj_en P Q g t ||| ((1 : Int32) <<< (nI t &&& 31)) else nj_en P Q g t) = _
  rw [if_neg (by rw [h]; decide)]
section
variable {A I g s : Int32} {P Q E : Nat → Int32}
theorem nj_xdm {post : Int32 → Prop} (l : Int32) : ∀ d m, m + d = 64 → post (nj_fs (fun m => decide (E m = l) && nj_dd P m) d m) → wX_deadMarking_14 post l A I g s P Q E (d + 1) (nI m) := by
  intro d
  induction d with
  | zero =>
    intro m hm h
    have e : m = 64 := by omega
    subst e
    exact br_t nj_64e h
  | succ d ih =>
    intro m hm h
    have hm' : m < 64 := by omega
    refine br_f (nj_64n hm') ⟨vp_in_nI hm' (by omega), ?_⟩
    rw [nI_clamp (by omega)]
    refine br_c (fun z => nj_xd m (nj_br (fun y => ?_) (fun y => ?_))) (fun z => ?_)
    · rw [nj_fsF (by (try dsimp only); rw [y, Bool.and_false])] at h
      exact nm_r (nI_1 m) (ih (m + 1) (by omega) h)
    · rw [nj_fsT (by (try dsimp only); rw [decide_eq_true z, y]; rfl)] at h
      exact h
    · rw [nj_fsF (by (try dsimp only); rw [decide_eq_false z, Bool.false_and])] at h
      exact nm_r (nI_1 m) (ih (m + 1) (by omega) h)
theorem nj_xen {post : Int32 → Prop} (h : post (nj_en P Q g 8)) : wpX_enabled post (A, I, g, s, P, Q, E) := by
  unfold wpX_enabled
  dsimp only
  refine loop_0 (fun n t x => wX_enabled_4 post A I g s P Q E n x (nI t)) (fun t x => x = nj_en P Q g t) 8 0 rfl (fun n x e => ?_) (fun n t x ht e ih => ?_)
  · refine br_t nj_8e ?_
    rw [e]
    exact h
  · refine br_f (nj_8n ht) (nj_xc ht _ (nj_br (fun z => ?_) (fun z => ?_)))
    · refine nm_r (nI_1 t) (ih _ ?_)
      rw [nj_enF z]
      exact e
    · refine nm_e (nm_r (nI_1 t) (ih _ ?_))
      rw [nj_enT z, e]
end
section
variable {A I g : Int32} {T P P' Q Q' F : Nat → Int32}
theorem nj_ydm {post : Int32 → SY → Prop} (hn : nj_net T P P' Q Q') (l : Int32) (hl : ¬ l < 0) : ∀ d m, m + d = 64 → post (nj_fs (fun m => decide (F m = l) && nj_dd P m) d m) (A, I, g, T, P', Q', F) → wY_deadMarking_7 post l A I g T P' Q' F (d + 1) (nI m) := by
  intro d
  induction d with
  | zero =>
    intro m hm h
    have e : m = 64 := by omega
    subst e
    exact br_t nj_64e h
  | succ d ih =>
    intro m hm h
    have hm' : m < 64 := by omega
    refine br_f (nj_64n hm') (br_f hl ⟨vp_in_nI hm' (by omega), ?_⟩)
    rw [nI_clamp (by omega)]
    refine br_c (fun z => nj_yd hn m (nj_br (fun y => ?_) (fun y => ?_))) (fun z => ?_)
    · rw [nj_fsF (by (try dsimp only); rw [y, Bool.and_false])] at h
      exact nm_r (nI_1 m) (ih (m + 1) (by omega) h)
    · rw [nj_fsT (by (try dsimp only); rw [decide_eq_true z, y]; rfl)] at h
      exact h
    · rw [nj_fsF (by (try dsimp only); rw [decide_eq_false z, Bool.false_and])] at h
      exact nm_r (nI_1 m) (ih (m + 1) (by omega) h)
theorem nj_yen {post : Int32 → Prop} (hn : nj_net T P P' Q Q') (h : post (nj_en P Q g 8)) : wpY_enabled post (A, I, g, T, P', Q', F) := by
  unfold wpY_enabled
  dsimp only
  refine loop_0 (fun n t x => wY_enabled_4 post A I g T P' Q' F n x (nI t)) (fun t x => x = nj_en P Q g t) 8 0 rfl (fun n x e => ?_) (fun n t x ht e ih => ?_)
  · refine br_t nj_8e ?_
    rw [e]
    exact h
  · refine br_f (nj_8n ht) (nj_yc hn ht _ (nj_br (fun z => ?_) (fun z => ?_)))
    · refine nm_e (nm_r (nI_1 t) (ih _ ?_))
      rw [nj_enF z, e, Int32.or_zero]
    · refine nm_e (nm_r (nI_1 t) (ih _ ?_))
      rw [nj_enT z, e]
theorem nj_yo2 {post : Int32 → Prop} (c : Int32) (h : post (nj_b (nj_ay A c))) : wpY_oneOrTwo post (A, I, g, T, P', Q', F) c := by
  unfold wpY_oneOrTwo
  dsimp only
  unfold nj_ay nj_yo at h
  refine br_c (fun z => ?_) (fun z => ?_)
  · refine loop_0 (fun n p x => wY_oneOrTwo_17 post c A I g T P' Q' F n x (nI p)) (fun p x => x = nj_bits c p) 6 0 rfl (fun n x e => ?_) (fun n p x hp e ih => ?_)
    · refine br_t (by decide) ?_
      rw [e]
      refine br_c (fun y => ?_) (fun y => br_c (fun w => ?_) (fun w => ?_))
      · rw [decide_eq_true z, decide_eq_true y] at h; exact h
      · rw [decide_eq_true z, decide_eq_true w, Bool.or_true] at h; exact h
      · rw [decide_eq_true z, decide_eq_false y, decide_eq_false w] at h; exact h
    · refine br_f (nI_ge (b := 6) hp (by decide)) (nm_e (nm_r (nI_1 p) (ih _ ?_)))
      rw [e]
      rfl
  · rw [decide_eq_false z] at h; exact h
end
