/-! booleans -/
def nj_b (c : Bool) : Int32 := if c then 1 else 0
theorem nj_b_t : nj_b true = 1 := rfl
theorem nj_b_f : nj_b false = 0 := rfl
theorem nj_b0 {c : Bool} (h : nj_b c = 0) : c = false := by
  cases c
  · rfl
  · exact absurd h (by decide)
theorem nj_b1 {c : Bool} (h : ¬ nj_b c = 0) : c = true := by
  cases c
  · exact absurd rfl h
  · rfl
theorem nj_bn (c : Bool) : narrow .boolean (.int (nj_b c)) = .int (nj_b c) := by cases c <;> rfl
theorem nj_bf (c : Bool) : fits .boolean (.int (nj_b c)) = true := by cases c <;> rfl
theorem nj_br {c : Bool} {A B : Prop} (a : c = false → A) (b : c = true → B) : (nj_b c = 0 → A) ∧ (¬ nj_b c = 0 → B) := ⟨fun h => a (nj_b0 h), fun h => b (nj_b1 h)⟩
theorem nj_dt {p : Prop} {i : Decidable p} (h : p) : nj_b (decide p) = 1 := by rw [decide_eq_true h]; rfl
theorem nj_df {p : Prop} {i : Decidable p} (h : ¬ p) : nj_b (decide p) = 0 := by rw [decide_eq_false h]; rfl
/-! words of six bits -/
theorem nj_64 {x : Int32} (h : x &&& 63 = x) : ∃ j : Nat, j < 64 ∧ x = nI j := by
  obtain ⟨j, hj, e⟩ := pk_andE x (m := 63) 6 (by decide)
  exact ⟨j, hj, h.symm.trans e⟩
theorem nj_n64 {m : Nat} (h : m < 64) : nI m &&& 63 = nI m := by
  have e : nI m &&& 63 = nI (m % 2 ^ 6) := pk_andN (by omega) 6 (by decide)
  rw [e, show m % 2 ^ 6 = m from Nat.mod_eq_of_lt h]
theorem nj_t1 : ∀ a b c d : Bool, (a && d) = a → (b && d) = b → (((a && (c ^^ true)) || b) && d) = ((a && (c ^^ true)) || b) := by decide
theorem nj_t2 : ∀ a b d : Bool, (b && d) = b → (a && (b ^^ true)) = false → (a && d) = a := by decide
theorem nj_t3 : ∀ a b c : Bool, (a && (b || c)) = (b || c) → (a && b) = b ∧ (a && c) = c := by decide
theorem nj_t4 : ∀ a b c : Bool, (a && b) = b → (a && c) = c → (a && (b || c)) = (b || c) := by decide
theorem nj_t5 : ∀ a b d : Bool, (b && d) = b → ((a && b) && d) = (a && b) := by decide
theorem nj_t6 : ∀ a b : Bool, ((a && b) && (b ^^ true)) = false := by decide
theorem nj_afM {m p q : Int32} (hm : m &&& 63 = m) (hq : q &&& 63 = q) : ((m &&& (p ^^^ (-1))) ||| q) &&& 63 = (m &&& (p ^^^ (-1))) ||| q := by
  apply b_ext
  intro i hi
  have h1 := congrArg (fun x => bt x i) hm
  have h2 := congrArg (fun x => bt x i) hq
  try dsimp only at h1 h2
  rw [b_and] at h1 h2
  rw [b_and, b_or, b_and, b_xor, b_m1 i hi]
  exact nj_t1 _ _ _ _ h1 h2
theorem nj_mk {x A : Int32} (hA : A &&& 63 = A) (h : x &&& (A ^^^ (-1)) = 0) : x &&& 63 = x := by
  apply b_ext
  intro i hi
  have h1 := congrArg (fun x => bt x i) hA
  have h2 := congrArg (fun x => bt x i) h
  try dsimp only at h1 h2
  rw [b_and] at h1
  rw [b_and, b_xor, b_m1 i hi, b_0] at h2
  rw [b_and]
  exact nj_t2 _ _ _ h1 h2
theorem nj_un1 {m p q : Int32} (h : m &&& (p ||| q) = p ||| q) : m &&& p = p ∧ m &&& q = q := by
  have H : ∀ i, (bt m i && bt p i) = bt p i ∧ (bt m i && bt q i) = bt q i := by
    intro i
    have h1 := congrArg (fun x => bt x i) h
    try dsimp only at h1
    rw [b_and, b_or] at h1
    exact nj_t3 _ _ _ h1
  constructor
  · apply b_ext
    intro i _
    rw [b_and]
    exact (H i).1
  · apply b_ext
    intro i _
    rw [b_and]
    exact (H i).2
theorem nj_un2 {m p q : Int32} (h1 : m &&& p = p) (h2 : m &&& q = q) : m &&& (p ||| q) = p ||| q := by
  apply b_ext
  intro i _
  have e1 := congrArg (fun x => bt x i) h1
  have e2 := congrArg (fun x => bt x i) h2
  try dsimp only at e1 e2
  rw [b_and] at e1 e2
  rw [b_and, b_or]
  exact nj_t4 _ _ _ e1 e2
theorem nj_in63 {x A : Int32} (hA : A &&& 63 = A) : (x &&& A) &&& 63 = x &&& A := by
  apply b_ext
  intro i _
  have h1 := congrArg (fun x => bt x i) hA
  try dsimp only at h1
  rw [b_and] at h1
  rw [b_and, b_and]
  exact nj_t5 _ _ _ h1
/-! the net: ready, clear, the marking after -/
def nj_rd (P : Nat → Int32) (t : Nat) (m : Int32) : Bool := !(decide (P t = 0)) && decide (m &&& P t = P t)
def nj_cl (P Q : Nat → Int32) (t : Nat) (m : Int32) : Bool := nj_rd P t m && decide ((m &&& Q t) &&& (P t ^^^ (-1)) = 0)
def nj_af (P Q : Nat → Int32) (t : Nat) (m : Int32) : Int32 := (m &&& (P t ^^^ (-1))) ||| Q t
def nj_an (P Q : Nat → Int32) (t : Nat) (m : Nat) : Nat := (nj_af P Q t (nI m)).toNatClampNeg
def nj_R (Q : Nat → Int32) : Prop := ∀ t, t < 8 → Q t &&& 63 = Q t
theorem nj_af63 {P Q : Nat → Int32} (hQ : nj_R Q) {t m : Nat} (ht : t < 8) (hm : m < 64) : nj_af P Q t (nI m) &&& 63 = nj_af P Q t (nI m) := nj_afM (nj_n64 hm) (hQ t ht)
theorem nj_afe {P Q : Nat → Int32} (hQ : nj_R Q) {t m : Nat} (ht : t < 8) (hm : m < 64) : nj_an P Q t m < 64 ∧ nj_af P Q t (nI m) = nI (nj_an P Q t m) := by
  obtain ⟨j, hj, e⟩ := nj_64 (nj_af63 (P := P) hQ ht hm)
  have e2 : nj_an P Q t m = j := by
    unfold nj_an
    rw [e]
    exact nI_clamp (by omega)
  rw [e2]
  exact ⟨hj, e⟩
/-! distances -/
def nj_v (x : Int32) : Prop := x = -1 ∨ ∃ k : Nat, k ≤ 64 ∧ x = nI k
theorem nj_ne {k : Nat} (h : k < 2 ^ 31) : ¬ nI k = -1 := fun e => nI_pos h (by rw [e]; decide)
theorem nj_vlt {x : Int32} (h : nj_v x) : x < 0 ↔ x = -1 := by
  rcases h with rfl | ⟨k, hk, rfl⟩
  · exact ⟨fun _ => rfl, fun _ => by decide⟩
  · exact ⟨fun z => absurd z (nI_pos (by omega)), fun z => absurd z (nj_ne (by omega))⟩
theorem nj_vle {x : Int32} (h : nj_v x) : 0 ≤ x ↔ ¬ x = -1 := by
  rcases h with rfl | ⟨k, hk, rfl⟩
  · exact ⟨fun z => absurd z (by decide), fun z => absurd rfl z⟩
  · exact ⟨fun _ => nj_ne (by omega), fun _ => nI_pos' (by omega)⟩
def nj_V (D : Nat → Int32) : Prop := ∀ j, nj_v (D j)
def nj_Z (D : Nat → Int32) : Prop := ∀ j, 64 ≤ j → D j = 0
def nj_G (D : Nat → Int32) : Prop := nj_V D ∧ nj_Z D
def nj_0 (i : Nat) : Nat → Int32 := fun j => if j < 64 then (if j = i then 0 else -1) else 0
def nj_N : Nat → Int32 := fun j => if j < 64 then -1 else 0
theorem nj_v0 : nj_v 0 := Or.inr ⟨0, by omega, rfl⟩
theorem nj_0G (i : Nat) : nj_G (nj_0 i) := by
  constructor
  · intro j
    unfold nj_0
    split
    · split
      · exact nj_v0
      · exact Or.inl rfl
    · exact nj_v0
  · intro j hj
    unfold nj_0
    rw [if_neg (by omega)]
theorem nj_NG : nj_G nj_N := by
  constructor
  · intro j
    unfold nj_N
    split
    · exact Or.inl rfl
    · exact nj_v0
  · intro j hj
    unfold nj_N
    rw [if_neg (by omega)]
theorem nj_N0 {i : Nat} (hi : i < 64) : upd nj_N i 0 = nj_0 i := by
  funext j
  unfold upd nj_N nj_0
  by_cases h : j = i
  · rw [if_pos h, if_pos (by omega), if_pos h]
  · rw [if_neg h, if_neg h]
def nj_st (P Q : Nat → Int32) (m : Nat) (w : Int32) (t : Nat) (D : Nat → Int32) : Nat → Int32 := if nj_cl P Q t (nI m) = true ∧ D (nj_an P Q t m) = -1 then upd D (nj_an P Q t m) w else D
def nj_sp (P Q : Nat → Int32) (m : Nat) (w : Int32) (D : Nat → Int32) : Nat → (Nat → Int32)
  | 0 => D
  | t + 1 => nj_st P Q m w t (nj_sp P Q m w D t)
def nj_rw (P Q : Nat → Int32) (d : Nat) (D : Nat → Int32) : Nat → (Nat → Int32)
  | 0 => D
  | m + 1 => if nj_rw P Q d D m m = nI d then nj_sp P Q m (nI (d + 1)) (nj_rw P Q d D m) 8 else nj_rw P Q d D m
def nj_al (P Q : Nat → Int32) (D : Nat → Int32) : Nat → (Nat → Int32)
  | 0 => D
  | d + 1 => nj_rw P Q d (nj_al P Q D d) 64
def nj_D (P Q : Nat → Int32) (i : Nat) : Nat → Int32 := nj_al P Q (nj_0 i) 64
theorem nj_stG {P Q : Nat → Int32} (hQ : nj_R Q) {t m : Nat} (ht : t < 8) (hm : m < 64) {w : Int32} (hw : nj_v w) {D : Nat → Int32} (h : nj_G D) : nj_G (nj_st P Q m w t D) := by
  unfold nj_st
  split
  · have hn := (nj_afe (P := P) hQ ht hm).1
    constructor
    · intro j
      by_cases e : j = nj_an P Q t m
      · rw [e, pk_us]; exact hw
      · rw [pk_un e]; exact h.1 j
    · intro j hj
      rw [pk_un (by omega)]
      exact h.2 j hj
  · exact h
theorem nj_stK {P Q : Nat → Int32} {t m j : Nat} {w : Int32} {D : Nat → Int32} (h : ¬ D j = -1) : nj_st P Q m w t D j = D j := by
  unfold nj_st
  split
  · rename_i z
    exact pk_un (fun e => h (by rw [e]; exact z.2))
  · rfl
theorem nj_spG {P Q : Nat → Int32} (hQ : nj_R Q) {m : Nat} (hm : m < 64) {w : Int32} (hw : nj_v w) {D : Nat → Int32} (h : nj_G D) : ∀ t, t ≤ 8 → nj_G (nj_sp P Q m w D t) := by
  intro t
  induction t with
  | zero => intro _; exact h
  | succ t ih => intro ht; exact nj_stG hQ (by omega) hm hw (ih (by omega))
theorem nj_spK {P Q : Nat → Int32} {m j : Nat} {w : Int32} {D : Nat → Int32} (h : ¬ D j = -1) : ∀ t, nj_sp P Q m w D t j = D j := by
  intro t
  induction t with
  | zero => rfl
  | succ t ih =>
    have e : nj_sp P Q m w D (t + 1) j = nj_sp P Q m w D t j := nj_stK (by rw [ih]; exact h)
    rw [e, ih]
theorem nj_rwG {P Q : Nat → Int32} (hQ : nj_R Q) {d : Nat} (hd : d < 64) {D : Nat → Int32} (h : nj_G D) : ∀ m, m ≤ 64 → nj_G (nj_rw P Q d D m) := by
  intro m
  induction m with
  | zero => intro _; exact h
  | succ m ih =>
    intro hm
    have := ih (by omega)
    unfold nj_rw
    split
    · exact nj_spG hQ (by omega) (Or.inr ⟨d + 1, by omega, rfl⟩) this 8 (by omega)
    · exact this
theorem nj_alG {P Q : Nat → Int32} (hQ : nj_R Q) {D : Nat → Int32} (h : nj_G D) : ∀ d, d ≤ 64 → nj_G (nj_al P Q D d) := by
  intro d
  induction d with
  | zero => intro _; exact h
  | succ d ih => intro hd; exact nj_rwG hQ (by omega) (ih (by omega)) 64 (by omega)
theorem nj_DG {P Q : Nat → Int32} (hQ : nj_R Q) (i : Nat) : nj_G (nj_D P Q i) := nj_alG hQ (nj_0G i) 64 (by omega)
/-! some, least, count -/
def nj_any (f : Nat → Bool) : Nat → Bool
  | 0 => false
  | n + 1 => nj_any f n || f n
theorem nj_anyT {f : Nat → Bool} {j : Nat} (h : f j = true) : ∀ n, j < n → nj_any f n = true := by
  intro n
  induction n with
  | zero => intro z; omega
  | succ n ih =>
    intro hj
    show (nj_any f n || f n) = true
    by_cases e : j = n
    · rw [← e, h, Bool.or_true]
    · rw [ih (by omega), Bool.true_or]
theorem nj_anyF {f : Nat → Bool} : ∀ n, (∀ j, j < n → f j = false) → nj_any f n = false := by
  intro n
  induction n with
  | zero => intro _; rfl
  | succ n ih =>
    intro h
    show (nj_any f n || f n) = false
    rw [ih (fun j hj => h j (by omega)), h n (by omega)]
    rfl
theorem nj_anyS {f : Nat → Bool} {n : Nat} (h : nj_any f n = false) (h2 : f n = false) : nj_any f (n + 1) = false := by
  show (nj_any f n || f n) = false
  rw [h, h2]
  rfl
theorem nj_anyE {f : Nat → Bool} {n : Nat} (h : nj_any f n = false) {j : Nat} (hj : j < n) : f j = false := by
  cases e : f j
  · rfl
  · rw [nj_anyT e n hj] at h
    exact absurd h (by decide)
theorem nj_anyC {f g : Nat → Bool} : ∀ n, (∀ j, j < n → f j = g j) → nj_any f n = nj_any g n := by
  intro n
  induction n with
  | zero => intro _; rfl
  | succ n ih =>
    intro h
    show (nj_any f n || f n) = (nj_any g n || g n)
    rw [ih (fun j hj => h j (by omega)), h n (by omega)]
def nj_cs (P Q : Nat → Int32) (m : Nat) : Bool := nj_any (fun t => nj_rd P t (nI m) && !(nj_cl P Q t (nI m))) 8
def nj_sf (P Q D : Nat → Int32) : Bool := !(nj_any (fun m => !(decide (D m = -1)) && nj_cs P Q m) 64)
def nj_dd (P : Nat → Int32) (m : Nat) : Bool := !(nj_any (fun t => nj_rd P t (nI m)) 8)
def nj_ls (l d : Int32) : Int32 := if l = -1 ∨ d < l then d else l
def nj_mn (f : Nat → Bool) (D : Nat → Int32) : Nat → Int32
  | 0 => -1
  | n + 1 => if f n = true then nj_ls (nj_mn f D n) (D n) else nj_mn f D n
def nj_ct (f : Nat → Bool) : Nat → Int32
  | 0 => 0
  | n + 1 => if f n = true then nj_ct f n + 1 else nj_ct f n
theorem nj_mn0 {f : Nat → Bool} {D : Nat → Int32} : ∀ n, (∀ j, j < n → f j = false) → nj_mn f D n = -1 := by
  intro n
  induction n with
  | zero => intro _; rfl
  | succ n ih =>
    intro h
    unfold nj_mn
    rw [if_neg (by rw [h n (by omega)]; decide)]
    exact ih (fun j hj => h j (by omega))
theorem nj_ct0 {f : Nat → Bool} : ∀ n, (∀ j, j < n → f j = false) → nj_ct f n = 0 := by
  intro n
  induction n with
  | zero => intro _; rfl
  | succ n ih =>
    intro h
    unfold nj_ct
    rw [if_neg (by rw [h n (by omega)]; decide)]
    exact ih (fun j hj => h j (by omega))
theorem nj_mnC {f g : Nat → Bool} {D : Nat → Int32} : ∀ n, (∀ j, j < n → f j = g j) → nj_mn f D n = nj_mn g D n := by
  intro n
  induction n with
  | zero => intro _; rfl
  | succ n ih =>
    intro h
    unfold nj_mn
    rw [ih (fun j hj => h j (by omega)), h n (by omega)]
/-- a least distance is none, or a distance; bound 65: a distance and one more -/
def nj_w (x : Int32) : Prop := x = -1 ∨ ∃ k : Nat, k ≤ 65 ∧ x = nI k
theorem nj_vw {x : Int32} (h : nj_v x) : nj_w x := by
  rcases h with h | ⟨k, hk, h⟩
  · exact Or.inl h
  · exact Or.inr ⟨k, by omega, h⟩
theorem nj_wlt {x : Int32} (h : nj_w x) : x < 0 ↔ x = -1 := by
  rcases h with rfl | ⟨k, hk, rfl⟩
  · exact ⟨fun _ => rfl, fun _ => by decide⟩
  · exact ⟨fun z => absurd z (nI_pos (by omega)), fun z => absurd z (nj_ne (by omega))⟩
theorem nj_wle {x : Int32} (h : nj_w x) : 0 ≤ x ↔ ¬ x = -1 := by
  rcases h with rfl | ⟨k, hk, rfl⟩
  · exact ⟨fun z => absurd z (by decide), fun z => absurd rfl z⟩
  · exact ⟨fun _ => nj_ne (by omega), fun _ => nI_pos' (by omega)⟩
theorem nj_lsw {l d : Int32} (hl : nj_w l) (hd : nj_w d) : nj_w (nj_ls l d) := by
  unfold nj_ls
  split
  · exact hd
  · exact hl
theorem nj_mnw {f : Nat → Bool} {D : Nat → Int32} (h : ∀ j, nj_w (D j)) : ∀ n, nj_w (nj_mn f D n) := by
  intro n
  induction n with
  | zero => exact Or.inl rfl
  | succ n ih =>
    unfold nj_mn
    split
    · exact nj_lsw ih (h n)
    · exact ih
theorem nj_lsv {l d : Int32} (hl : nj_v l) (hd : nj_v d) : nj_v (nj_ls l d) := by
  unfold nj_ls
  split
  · exact hd
  · exact hl
theorem nj_mnv {f : Nat → Bool} {D : Nat → Int32} (h : nj_V D) : ∀ n, nj_v (nj_mn f D n) := by
  intro n
  induction n with
  | zero => exact Or.inl rfl
  | succ n ih =>
    unfold nj_mn
    split
    · exact nj_lsv ih (h n)
    · exact ih
theorem nj_lsn {l d : Int32} (hd : ¬ d = -1) : ¬ nj_ls l d = -1 := by
  unfold nj_ls
  split
  · exact hd
  · rename_i z
    exact fun e => z (Or.inl e)
theorem nj_mnY {f : Nat → Bool} {D : Nat → Int32} {j : Nat} (h : f j = true) (hD : ¬ D j = -1) : ∀ n, j < n → (∀ i, i < n → f i = true → ¬ D i = -1) → ¬ nj_mn f D n = -1 := by
  intro n
  induction n with
  | zero => intro z; omega
  | succ n ih =>
    intro hj H
    unfold nj_mn
    split
    · rename_i z
      exact nj_lsn (H n (by omega) z)
    · rename_i z
      have : j ≠ n := fun e => z (by rw [← e]; exact h)
      exact ih (by omega) (fun i hi => H i (by omega))
/-- one more, after or before the least is taken -/
def nj_up (x : Int32) : Int32 := if x = -1 then -1 else x + 1
theorem nj_lsu {l d : Int32} (hl : nj_v l) (hd : nj_v d) (hn : ¬ d = -1) : nj_ls (nj_up l) (d + 1) = nj_up (nj_ls l d) := by
  rcases hd with hd | ⟨k, hk, rfl⟩
  · exact absurd hd hn
  · rcases hl with rfl | ⟨j, hj, rfl⟩
    · unfold nj_ls nj_up
      rw [if_pos rfl, if_pos (Or.inl rfl), if_pos (Or.inl rfl), if_neg hn]
    · have hnj : ¬ nI j = -1 := nj_ne (by omega)
      have hnj1 : ¬ nI (j + 1) = -1 := nj_ne (by omega)
      have e1 : nj_up (nI j) = nI (j + 1) := by unfold nj_up; rw [if_neg hnj, nI_1]
      have e2 : nj_up (nI k) = nI (k + 1) := by unfold nj_up; rw [if_neg hn, nI_1]
      rw [e1, nI_1]
      unfold nj_ls
      by_cases h : k < j
      · have y1 : nI (j + 1) = -1 ∨ nI (k + 1) < nI (j + 1) := Or.inr (nI_lt (by omega) (by omega))
        have y2 : nI j = -1 ∨ nI k < nI j := Or.inr (nI_lt h (by omega))
        rw [if_pos y1, if_pos y2, e2]
      · have z1 : ¬ (nI (j + 1) = -1 ∨ nI (k + 1) < nI (j + 1)) := fun z => z.elim hnj1 (nI_nlt (by omega) (by omega))
        have z2 : ¬ (nI j = -1 ∨ nI k < nI j) := fun z => z.elim hnj (nI_nlt (by omega) (by omega))
        rw [if_neg z1, if_neg z2, e1]
theorem nj_mnu {f : Nat → Bool} {D : Nat → Int32} (hD : nj_V D) (hf : ∀ i, f i = true → ¬ D i = -1) : ∀ n, nj_mn f (fun j => D j + 1) n = nj_up (nj_mn f D n) := by
  intro n
  induction n with
  | zero => rfl
  | succ n ih =>
    unfold nj_mn
    rw [ih]
    by_cases h : f n = true
    · rw [if_pos h, if_pos h]
      exact nj_lsu (nj_mnv hD n) (hD n) (hf n h)
    · rw [if_neg h, if_neg h]
/-- one or two bits of six -/
def nj_bits (s : Int32) : Nat → Int32
  | 0 => 0
  | p + 1 => nj_bits s p + ((s >>> (nI p &&& 31)) &&& 1)
