/-! one or two bits: X's way and Y's -/
def nj_xo (s : Int32) : Bool := !(decide (s = 0)) && decide ((s &&& (s - 1)) &&& ((s &&& (s - 1)) - 1) = 0)
def nj_yo (s : Int32) : Bool := decide (nj_bits s 6 = 1) || decide (nj_bits s 6 = 2)
theorem nj_xy : ∀ s, s < 64 → nj_xo (nI s) = nj_yo (nI s) := by decide +kernel
def nj_ax (A s : Int32) : Bool := decide (s &&& (A ^^^ (-1)) = 0) && nj_xo s
def nj_ay (A s : Int32) : Bool := decide (s &&& (A ^^^ (-1)) = 0) && nj_yo s
theorem nj_axy {A s : Int32} (hA : A &&& 63 = A) : nj_ax A s = nj_ay A s := by
  unfold nj_ax nj_ay
  by_cases h : s &&& (A ^^^ (-1)) = 0
  · obtain ⟨j, hj, e⟩ := nj_64 (nj_mk hA h)
    rw [e, nj_xy j hj]
  · rw [decide_eq_false h]
    rfl
theorem nj_ax63 {A s : Int32} (hA : A &&& 63 = A) (h : nj_ax A s = true) : s &&& 63 = s ∧ ¬ s = 0 := by
  unfold nj_ax nj_xo at h
  rw [Bool.and_eq_true, Bool.and_eq_true, decide_eq_true_eq, Bool.not_eq_true', decide_eq_false_iff_not] at h
  exact ⟨nj_mk hA h.1, h.2.1⟩
/-! the two nets -/
def nj_net (T P P' Q Q' : Nat → Int32) : Prop := ∀ t, t < 8 → (T t = 0 ∧ P t = 0) ∨ (T t = 1 ∧ ¬ P t = 0 ∧ P' t = P t ∧ Q' t = Q t)
theorem nj_rd0 {P : Nat → Int32} {t : Nat} {m : Int32} (h : P t = 0) : nj_rd P t m = false := by
  unfold nj_rd
  rw [decide_eq_true h]
  rfl
theorem nj_rdn {P : Nat → Int32} {t : Nat} {m : Int32} (h : ¬ m &&& P t = P t) : nj_rd P t m = false := by
  unfold nj_rd
  rw [decide_eq_false h, Bool.and_false]
theorem nj_rd1 {P : Nat → Int32} {t : Nat} {m : Int32} (h : ¬ P t = 0) (h2 : m &&& P t = P t) : nj_rd P t m = true := by
  unfold nj_rd
  rw [decide_eq_false h, decide_eq_true h2]
  rfl
theorem nj_rdp {P : Nat → Int32} {t : Nat} {m : Int32} (h : nj_rd P t m = true) : ¬ P t = 0 ∧ m &&& P t = P t := by
  unfold nj_rd at h
  rw [Bool.and_eq_true, decide_eq_true_eq, Bool.not_eq_true', decide_eq_false_iff_not] at h
  exact h
theorem nj_cl0 {P Q : Nat → Int32} {t : Nat} {m : Int32} (h : nj_rd P t m = false) : nj_cl P Q t m = false := by
  unfold nj_cl
  rw [h]
  rfl
theorem nj_cln {P Q : Nat → Int32} {t : Nat} {m : Int32} (h : ¬ (m &&& Q t) &&& (P t ^^^ (-1)) = 0) : nj_cl P Q t m = false := by
  unfold nj_cl
  rw [decide_eq_false h, Bool.and_false]
theorem nj_cl1 {P Q : Nat → Int32} {t : Nat} {m : Int32} (h : nj_rd P t m = true) (h2 : (m &&& Q t) &&& (P t ^^^ (-1)) = 0) : nj_cl P Q t m = true := by
  unfold nj_cl
  rw [h, decide_eq_true h2]
  rfl
theorem nj_clr {P Q : Nat → Int32} {t : Nat} {m : Int32} (h : nj_cl P Q t m = true) : nj_rd P t m = true := by
  unfold nj_cl at h
  rw [Bool.and_eq_true] at h
  exact h.1
/-! one step of the search, as X and as Y take it -/
theorem nj_stN {P Q : Nat → Int32} {m t : Nat} {w : Int32} {D : Nat → Int32} (h : nj_cl P Q t (nI m) = false) : nj_st P Q m w t D = D := by
  unfold nj_st
  rw [if_neg (fun z => by rw [h] at z; exact absurd z.1 (by decide))]
theorem nj_stO {P Q : Nat → Int32} {m t : Nat} {w : Int32} {D : Nat → Int32} (h : ¬ D (nj_an P Q t m) = -1) : nj_st P Q m w t D = D := by
  unfold nj_st
  rw [if_neg (fun z => h z.2)]
theorem nj_stY {P Q : Nat → Int32} {m t : Nat} {w : Int32} {D : Nat → Int32} (h : nj_cl P Q t (nI m) = true) (h2 : D (nj_an P Q t m) = -1) : nj_st P Q m w t D = upd D (nj_an P Q t m) w := by
  unfold nj_st
  rw [if_pos ⟨h, h2⟩]
theorem nj_same {D : Nat → Int32} {j : Nat} : upd D j (D j) = D := by
  funext i
  unfold upd
  by_cases h : i = j
  · rw [if_pos h, h]
  · rw [if_neg h]
theorem nj_rwY {P Q : Nat → Int32} {d m : Nat} {D : Nat → Int32} (h : nj_rw P Q d D m m = nI d) : nj_rw P Q d D (m + 1) = nj_sp P Q m (nI (d + 1)) (nj_rw P Q d D m) 8 := by
  show (if nj_rw P Q d D m m = nI d then nj_sp P Q m (nI (d + 1)) (nj_rw P Q d D m) 8 else nj_rw P Q d D m) = _
  rw [if_pos h]
theorem nj_rwN {P Q : Nat → Int32} {d m : Nat} {D : Nat → Int32} (h : ¬ nj_rw P Q d D m m = nI d) : nj_rw P Q d D (m + 1) = nj_rw P Q d D m := by
  show (if nj_rw P Q d D m m = nI d then nj_sp P Q m (nI (d + 1)) (nj_rw P Q d D m) 8 else nj_rw P Q d D m) = _
  rw [if_neg h]
theorem nj_mnT {f : Nat → Bool} {D : Nat → Int32} {n : Nat} (h : f n = true) : nj_mn f D (n + 1) = nj_ls (nj_mn f D n) (D n) := by
  show (if f n = true then nj_ls (nj_mn f D n) (D n) else nj_mn f D n) = _
  rw [if_pos h]
theorem nj_mnF {f : Nat → Bool} {D : Nat → Int32} {n : Nat} (h : f n = false) : nj_mn f D (n + 1) = nj_mn f D n := by
  show (if f n = true then nj_ls (nj_mn f D n) (D n) else nj_mn f D n) = _
  rw [if_neg (by rw [h]; decide)]
theorem nj_ctT {f : Nat → Bool} {n : Nat} (h : f n = true) : nj_ct f (n + 1) = nj_ct f n + 1 := by
  show (if f n = true then nj_ct f n + 1 else nj_ct f n) = _
  rw [if_pos h]
theorem nj_ctF {f : Nat → Bool} {n : Nat} (h : f n = false) : nj_ct f (n + 1) = nj_ct f n := by
  show (if f n = true then nj_ct f n + 1 else nj_ct f n) = _
  rw [if_neg (by rw [h]; decide)]
/-- the forgetting of distances, and Y's first row, as far as the loop has come -/
def nj_fg (E : Nat → Int32) (n : Nat) : Nat → Int32 := fun j => if j < n then -1 else E j
theorem nj_fg0 (E : Nat → Int32) : nj_fg E 0 = E := by
  funext j
  unfold nj_fg
  rw [if_neg (by omega)]
theorem nj_fgS (E : Nat → Int32) (n : Nat) : upd (nj_fg E n) n (-1) = nj_fg E (n + 1) := by
  funext j
  show (if j = n then -1 else if j < n then -1 else E j) = if j < n + 1 then -1 else E j
  by_cases h : j = n
  · rw [if_pos h, if_pos (by omega)]
  · by_cases h2 : j < n
    · rw [if_neg h, if_pos h2, if_pos (by omega)]
    · rw [if_neg h, if_neg h2, if_neg (by omega)]
theorem nj_fgE {E : Nat → Int32} (h : nj_Z E) : nj_fg E 64 = nj_N := by
  funext j
  unfold nj_fg nj_N
  by_cases h2 : j < 64
  · rw [if_pos h2, if_pos h2]
  · rw [if_neg h2, if_neg h2]
    exact h j (by omega)
def nj_fy (i : Nat) (E : Nat → Int32) (n : Nat) : Nat → Int32 := fun j => if j < n then (if j = i then 0 else -1) else E j
theorem nj_fy0 (i : Nat) (E : Nat → Int32) : nj_fy i E 0 = E := by
  funext j
  unfold nj_fy
  rw [if_neg (by omega)]
theorem nj_fyS (i : Nat) (E : Nat → Int32) (n : Nat) : upd (nj_fy i E n) n (if n = i then 0 else -1) = nj_fy i E (n + 1) := by
  funext j
  show (if j = n then (if n = i then 0 else -1) else if j < n then (if j = i then 0 else -1) else E j) = if j < n + 1 then (if j = i then 0 else -1) else E j
  by_cases h : j = n
  · have h2 : j < n + 1 := by omega
    rw [if_pos h, if_pos h2, h]
  · by_cases h2 : j < n
    · have h3 : j < n + 1 := by omega
      rw [if_neg h, if_pos h2, if_pos h3]
    · have h3 : ¬ j < n + 1 := by omega
      rw [if_neg h, if_neg h2, if_neg h3]
theorem nj_fyE {i : Nat} {E : Nat → Int32} (h : nj_Z E) : nj_fy i E 64 = nj_0 i := by
  funext j
  unfold nj_fy nj_0
  by_cases h2 : j < 64
  · rw [if_pos h2, if_pos h2]
  · rw [if_neg h2, if_neg h2]
    exact h j (by omega)
/-! what the questions hold on to -/
def nj_E (P Q D : Nat → Int32) : Nat → Int32 := if nj_sf P Q D = true then D else nj_N
theorem nj_Et {P Q D : Nat → Int32} (h : nj_sf P Q D = true) : nj_E P Q D = D := if_pos h
theorem nj_Ef {P Q D : Nat → Int32} (h : nj_sf P Q D = false) : nj_E P Q D = nj_N := if_neg (by rw [h]; decide)
theorem nj_EG {P Q D : Nat → Int32} (h : nj_G D) : nj_G (nj_E P Q D) := by
  unfold nj_E
  split
  · exact h
  · exact nj_NG
theorem nj_NN {j : Nat} (h : j < 64) : nj_N j = -1 := if_pos h
/-- in a safe net what is reached and ready is clear -/
theorem nj_sc {P Q D : Nat → Int32} (h : nj_sf P Q D = true) {m t : Nat} (hm : m < 64) (ht : t < 8) (hD : ¬ D m = -1) (hr : nj_rd P t (nI m) = true) : nj_cl P Q t (nI m) = true := by
  have h1 : nj_any (fun m => !(decide (D m = -1)) && nj_cs P Q m) 64 = false := by
    unfold nj_sf at h
    rw [Bool.not_eq_true'] at h
    exact h
  have h2 := nj_anyE h1 hm
  try dsimp only at h2
  rw [decide_eq_false hD, Bool.not_false, Bool.true_and] at h2
  unfold nj_cs at h2
  have h3 := nj_anyE h2 ht
  try dsimp only at h3
  rw [hr, Bool.true_and] at h3
  cases e : nj_cl P Q t (nI m)
  · rw [e] at h3
    exact absurd h3 (by decide)
  · rfl
def nj_K (A : Int32) (i : Nat) (P Q T P' Q' F : Nat → Int32) : Prop := A &&& 63 = A ∧ i < 64 ∧ nj_R Q ∧ nj_net T P P' Q Q' ∧ nj_Z F
