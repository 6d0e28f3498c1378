section
/-! rows pasted from kit/rows -/
theorem pk_us {f : Nat → Int32} {k : Nat} {x : Int32} : upd f k x k = x := if_pos rfl
theorem pk_un {f : Nat → Int32} {k j : Nat} {x : Int32} (h : j ≠ k) : upd f k x j = f j := if_neg h
theorem pk_ix (x : Int32) {n : Nat} (hn : n < 2 ^ 31) : x < 0 ∨ nI n ≤ x ∨ ∃ j : Nat, j < n ∧ x = nI j := by
  by_cases h : x < 0
  · exact Or.inl h
  · obtain ⟨j, hj, rfl⟩ := nI_of h
    by_cases h2 : j < n
    · exact Or.inr (Or.inr ⟨j, h2, rfl⟩)
    · exact Or.inr (Or.inl (nI_le (by omega) hj))
theorem pk_le {x y : Int32} {A B : Prop} (a b : Nat) (f : a ≤ b → A) (g : b < a → B) (hx : x = nI a := by rfl) (hy : y = nI b := by rfl) (ha : a < 2 ^ 31 := by omega) (hb : b < 2 ^ 31 := by omega) : (x ≤ y → A) ∧ (¬ x ≤ y → B) := by
  subst hx hy
  rw [nI_leI ha hb]
  exact ⟨f, fun z => g (by omega)⟩
theorem pk_lt {x y : Int32} {A B : Prop} (a b : Nat) (f : a < b → A) (g : b ≤ a → B) (hx : x = nI a := by rfl) (hy : y = nI b := by rfl) (ha : a < 2 ^ 31 := by omega) (hb : b < 2 ^ 31 := by omega) : (x < y → A) ∧ (¬ x < y → B) := by
  subst hx hy
  rw [nI_ltI ha hb]
  exact ⟨f, fun z => g (by omega)⟩
theorem pk_eq {x y : Int32} {A B : Prop} (a b : Nat) (f : a = b → A) (g : a ≠ b → B) (hx : x = nI a := by rfl) (hy : y = nI b := by rfl) (ha : a < 2 ^ 31 := by omega) (hb : b < 2 ^ 31 := by omega) : (x = y → A) ∧ (¬ x = y → B) := by
  subst hx hy
  rw [nI_eq ha hb]
  exact ⟨f, g⟩
theorem pk_in {x : Int32} (n N : Nat) (h : n < N) (hx : x = nI n := by rfl) (hN : N < 2 ^ 31 := by omega) : vp_in x N := by
  subst hx
  exact vp_in_nI h hN
theorem pk_cl {x : Int32} (n : Nat) (hx : x = nI n := by rfl) (h : n < 2 ^ 31 := by omega) : x.toNatClampNeg = n := by
  subst hx
  exact nI_clamp h
theorem pk_tn {n : Nat} (h : n < 2 ^ 32) : (nI n).toBitVec.toNat = n := Nat.mod_eq_of_lt h
theorem pk_and (x : Int32) {m : Int32} (k : Nat) (hm : m.toBitVec.toNat = 2 ^ k - 1) : x &&& m = nI (x.toBitVec.toNat % 2 ^ k) := by
  apply Int32.toBitVec_inj.mp
  apply BitVec.eq_of_toNat_eq
  rw [Int32.toBitVec_and, BitVec.toNat_and, hm, Nat.and_two_pow_sub_one_eq_mod]
  show _ = (BitVec.ofNat 32 _).toNat
  rw [BitVec.toNat_ofNat]
  exact (Nat.mod_eq_of_lt (Nat.lt_of_le_of_lt (Nat.mod_le _ _) x.toBitVec.isLt)).symm
theorem pk_andN {n : Nat} (h : n < 2 ^ 32) {m : Int32} (k : Nat) (hm : m.toBitVec.toNat = 2 ^ k - 1) : nI n &&& m = nI (n % 2 ^ k) := by
  rw [pk_and _ k hm, pk_tn h]
theorem pk_andE (x : Int32) {m : Int32} (k : Nat) (hm : m.toBitVec.toNat = 2 ^ k - 1) : ∃ j : Nat, j < 2 ^ k ∧ x &&& m = nI j := ⟨_, Nat.mod_lt _ (Nat.two_pow_pos k), pk_and x k hm⟩
theorem pk_loop {σ : Type} (W : Nat → Nat → σ → Prop) (I : Nat → σ → Prop) (e i0 : Nat) (s : σ) (hi : i0 ≤ e) (h0 : I i0 s) (hx : ∀ n s, I e s → W (n + 1) e s)
    (hs : ∀ n i s, i < e → I i s → (∀ s', I (i + 1) s' → W n (i + 1) s') → W (n + 1) i s) : ∃ n, W n i0 s :=
  ⟨e + 1, loop_i W I e hx hs (e + 1) i0 s hi (by omega) h0⟩
def bt (x : Int32) (i : Nat) : Bool := x.toBitVec.getLsbD i
theorem b_ext {x y : Int32} (h : ∀ i, i < 32 → bt x i = bt y i) : x = y := Int32.toBitVec_inj.mp (BitVec.eq_of_getLsbD_eq (fun i hi => h i hi))
theorem b_or (x y : Int32) (i : Nat) : bt (x ||| y) i = (bt x i || bt y i) := by unfold bt; rw [Int32.toBitVec_or, BitVec.getLsbD_or]
theorem b_and (x y : Int32) (i : Nat) : bt (x &&& y) i = (bt x i && bt y i) := by unfold bt; rw [Int32.toBitVec_and, BitVec.getLsbD_and]
theorem b_xor (x y : Int32) (i : Nat) : bt (x ^^^ y) i = (bt x i ^^ bt y i) := by unfold bt; rw [Int32.toBitVec_xor, BitVec.getLsbD_xor]
theorem b_m1 : ∀ i, i < 32 → bt (-1) i = true := by decide +kernel
theorem b_0 (i : Nat) : bt 0 i = false := BitVec.getLsbD_zero
end
section
/-! booleans -/
def nj_b (c : Bool) : Int32 := if c then 1 else 0
theorem nj_b_t : nj_b true = 1 := rfl
theorem nj_b_f : nj_b false = 0 := rfl
theorem nj_b0 {c : Bool} (h : nj_b c = 0) : c = false := by
  cases c
  · rfl
  · exact absurd h (by decide)
theorem nj_b1 {c : Bool} (h : ¬ nj_b c = 0) : c = true := by
  cases c
  · exact absurd rfl h
  · rfl
theorem nj_bn (c : Bool) : narrow .boolean (.int (nj_b c)) = .int (nj_b c) := by cases c <;> rfl
theorem nj_bf (c : Bool) : fits .boolean (.int (nj_b c)) = true := by cases c <;> rfl
theorem nj_br {c : Bool} {A B : Prop} (a : c = false → A) (b : c = true → B) : (nj_b c = 0 → A) ∧ (¬ nj_b c = 0 → B) := ⟨fun h => a (nj_b0 h), fun h => b (nj_b1 h)⟩
theorem nj_dt {p : Prop} {i : Decidable p} (h : p) : nj_b (decide p) = 1 := by rw [decide_eq_true h]; rfl
theorem nj_df {p : Prop} {i : Decidable p} (h : ¬ p) : nj_b (decide p) = 0 := by rw [decide_eq_false h]; rfl
/-! words of six bits -/
theorem nj_64 {x : Int32} (h : x &&& 63 = x) : ∃ j : Nat, j < 64 ∧ x = nI j := by
  obtain ⟨j, hj, e⟩ := pk_andE x (m := 63) 6 (by decide)
  exact ⟨j, hj, h.symm.trans e⟩
theorem nj_n64 {m : Nat} (h : m < 64) : nI m &&& 63 = nI m := by
  have e : nI m &&& 63 = nI (m % 2 ^ 6) := pk_andN (by omega) 6 (by decide)
  rw [e, show m % 2 ^ 6 = m from Nat.mod_eq_of_lt h]
theorem nj_t1 : ∀ a b c d : Bool, (a && d) = a → (b && d) = b → (((a && (c ^^ true)) || b) && d) = ((a && (c ^^ true)) || b) := by decide
theorem nj_t2 : ∀ a b d : Bool, (b && d) = b → (a && (b ^^ true)) = false → (a && d) = a := by decide
theorem nj_t3 : ∀ a b c : Bool, (a && (b || c)) = (b || c) → (a && b) = b ∧ (a && c) = c := by decide
theorem nj_t4 : ∀ a b c : Bool, (a && b) = b → (a && c) = c → (a && (b || c)) = (b || c) := by decide
theorem nj_t5 : ∀ a b d : Bool, (b && d) = b → ((a && b) && d) = (a && b) := by decide
theorem nj_t6 : ∀ a b : Bool, ((a && b) && (b ^^ true)) = false := by decide
theorem nj_afM {m p q : Int32} (hm : m &&& 63 = m) (hq : q &&& 63 = q) : ((m &&& (p ^^^ (-1))) ||| q) &&& 63 = (m &&& (p ^^^ (-1))) ||| q := by
  apply b_ext
  intro i hi
  have h1 := congrArg (fun x => bt x i) hm
  have h2 := congrArg (fun x => bt x i) hq
  try dsimp only at h1 h2
  rw [b_and] at h1 h2
  rw [b_and, b_or, b_and, b_xor, b_m1 i hi]
  exact nj_t1 _ _ _ _ h1 h2
theorem nj_mk {x A : Int32} (hA : A &&& 63 = A) (h : x &&& (A ^^^ (-1)) = 0) : x &&& 63 = x := by
  apply b_ext
  intro i hi
  have h1 := congrArg (fun x => bt x i) hA
  have h2 := congrArg (fun x => bt x i) h
  try dsimp only at h1 h2
  rw [b_and] at h1
  rw [b_and, b_xor, b_m1 i hi, b_0] at h2
  rw [b_and]
  exact nj_t2 _ _ _ h1 h2
theorem nj_un1 {m p q : Int32} (h : m &&& (p ||| q) = p ||| q) : m &&& p = p ∧ m &&& q = q := by
  have H : ∀ i, (bt m i && bt p i) = bt p i ∧ (bt m i && bt q i) = bt q i := by
    intro i
    have h1 := congrArg (fun x => bt x i) h
    try dsimp only at h1
    rw [b_and, b_or] at h1
    exact nj_t3 _ _ _ h1
  constructor
  · apply b_ext
    intro i _
    rw [b_and]
    exact (H i).1
  · apply b_ext
    intro i _
    rw [b_and]
    exact (H i).2
theorem nj_un2 {m p q : Int32} (h1 : m &&& p = p) (h2 : m &&& q = q) : m &&& (p ||| q) = p ||| q := by
  apply b_ext
  intro i _
  have e1 := congrArg (fun x => bt x i) h1
  have e2 := congrArg (fun x => bt x i) h2
  try dsimp only at e1 e2
  rw [b_and] at e1 e2
  rw [b_and, b_or]
  exact nj_t4 _ _ _ e1 e2
theorem nj_in63 {x A : Int32} (hA : A &&& 63 = A) : (x &&& A) &&& 63 = x &&& A := by
  apply b_ext
  intro i _
  have h1 := congrArg (fun x => bt x i) hA
  try dsimp only at h1
  rw [b_and] at h1
  rw [b_and, b_and]
  exact nj_t5 _ _ _ h1
/-! the net: ready, clear, the marking after -/
def nj_rd (P : Nat → Int32) (t : Nat) (m : Int32) : Bool := !(decide (P t = 0)) && decide (m &&& P t = P t)
def nj_cl (P Q : Nat → Int32) (t : Nat) (m : Int32) : Bool := nj_rd P t m && decide ((m &&& Q t) &&& (P t ^^^ (-1)) = 0)
def nj_af (P Q : Nat → Int32) (t : Nat) (m : Int32) : Int32 := (m &&& (P t ^^^ (-1))) ||| Q t
def nj_an (P Q : Nat → Int32) (t : Nat) (m : Nat) : Nat := (nj_af P Q t (nI m)).toNatClampNeg
def nj_R (Q : Nat → Int32) : Prop := ∀ t, t < 8 → Q t &&& 63 = Q t
theorem nj_af63 {P Q : Nat → Int32} (hQ : nj_R Q) {t m : Nat} (ht : t < 8) (hm : m < 64) : nj_af P Q t (nI m) &&& 63 = nj_af P Q t (nI m) := nj_afM (nj_n64 hm) (hQ t ht)
theorem nj_afe {P Q : Nat → Int32} (hQ : nj_R Q) {t m : Nat} (ht : t < 8) (hm : m < 64) : nj_an P Q t m < 64 ∧ nj_af P Q t (nI m) = nI (nj_an P Q t m) := by
  obtain ⟨j, hj, e⟩ := nj_64 (nj_af63 (P := P) hQ ht hm)
  have e2 : nj_an P Q t m = j := by
    unfold nj_an
    rw [e]
    exact nI_clamp (by omega)
  rw [e2]
  exact ⟨hj, e⟩
/-! distances -/
def nj_v (x : Int32) : Prop := x = -1 ∨ ∃ k : Nat, k ≤ 64 ∧ x = nI k
theorem nj_ne {k : Nat} (h : k < 2 ^ 31) : ¬ nI k = -1 := fun e => nI_pos h (by rw [e]; decide)
theorem nj_vlt {x : Int32} (h : nj_v x) : x < 0 ↔ x = -1 := by
  rcases h with rfl | ⟨k, hk, rfl⟩
  · exact ⟨fun _ => rfl, fun _ => by decide⟩
  · exact ⟨fun z => absurd z (nI_pos (by omega)), fun z => absurd z (nj_ne (by omega))⟩
theorem nj_vle {x : Int32} (h : nj_v x) : 0 ≤ x ↔ ¬ x = -1 := by
  rcases h with rfl | ⟨k, hk, rfl⟩
  · exact ⟨fun z => absurd z (by decide), fun z => absurd rfl z⟩
  · exact ⟨fun _ => nj_ne (by omega), fun _ => nI_pos' (by omega)⟩
def nj_V (D : Nat → Int32) : Prop := ∀ j, nj_v (D j)
def nj_Z (D : Nat → Int32) : Prop := ∀ j, 64 ≤ j → D j = 0
def nj_G (D : Nat → Int32) : Prop := nj_V D ∧ nj_Z D
def nj_0 (i : Nat) : Nat → Int32 := fun j => if j < 64 then (if j = i then 0 else -1) else 0
def nj_N : Nat → Int32 := fun j => if j < 64 then -1 else 0
theorem nj_v0 : nj_v 0 := Or.inr ⟨0, by omega, rfl⟩
theorem nj_0G (i : Nat) : nj_G (nj_0 i) := by
  constructor
  · intro j
    unfold nj_0
    split
    · split
      · exact nj_v0
      · exact Or.inl rfl
    · exact nj_v0
  · intro j hj
    unfold nj_0
    rw [if_neg (by omega)]
theorem nj_NG : nj_G nj_N := by
  constructor
  · intro j
    unfold nj_N
    split
    · exact Or.inl rfl
    · exact nj_v0
  · intro j hj
    unfold nj_N
    rw [if_neg (by omega)]
theorem nj_N0 {i : Nat} (hi : i < 64) : upd nj_N i 0 = nj_0 i := by
  funext j
  unfold upd nj_N nj_0
  by_cases h : j = i
  · rw [if_pos h, if_pos (by omega), if_pos h]
  · rw [if_neg h, if_neg h]
def nj_st (P Q : Nat → Int32) (m : Nat) (w : Int32) (t : Nat) (D : Nat → Int32) : Nat → Int32 := if nj_cl P Q t (nI m) = true ∧ D (nj_an P Q t m) = -1 then upd D (nj_an P Q t m) w else D
def nj_sp (P Q : Nat → Int32) (m : Nat) (w : Int32) (D : Nat → Int32) : Nat → (Nat → Int32)
  | 0 => D
  | t + 1 => nj_st P Q m w t (nj_sp P Q m w D t)
def nj_rw (P Q : Nat → Int32) (d : Nat) (D : Nat → Int32) : Nat → (Nat → Int32)
  | 0 => D
  | m + 1 => if nj_rw P Q d D m m = nI d then nj_sp P Q m (nI (d + 1)) (nj_rw P Q d D m) 8 else nj_rw P Q d D m
def nj_al (P Q : Nat → Int32) (D : Nat → Int32) : Nat → (Nat → Int32)
  | 0 => D
  | d + 1 => nj_rw P Q d (nj_al P Q D d) 64
def nj_D (P Q : Nat → Int32) (i : Nat) : Nat → Int32 := nj_al P Q (nj_0 i) 64
theorem nj_stG {P Q : Nat → Int32} (hQ : nj_R Q) {t m : Nat} (ht : t < 8) (hm : m < 64) {w : Int32} (hw : nj_v w) {D : Nat → Int32} (h : nj_G D) : nj_G (nj_st P Q m w t D) := by
  unfold nj_st
  split
  · have hn := (nj_afe (P := P) hQ ht hm).1
    constructor
    · intro j
      by_cases e : j = nj_an P Q t m
      · rw [e, pk_us]; exact hw
      · rw [pk_un e]; exact h.1 j
    · intro j hj
      rw [pk_un (by omega)]
      exact h.2 j hj
  · exact h
theorem nj_stK {P Q : Nat → Int32} {t m j : Nat} {w : Int32} {D : Nat → Int32} (h : ¬ D j = -1) : nj_st P Q m w t D j = D j := by
  unfold nj_st
  split
  · rename_i z
    exact pk_un (fun e => h (by rw [e]; exact z.2))
  · rfl
theorem nj_spG {P Q : Nat → Int32} (hQ : nj_R Q) {m : Nat} (hm : m < 64) {w : Int32} (hw : nj_v w) {D : Nat → Int32} (h : nj_G D) : ∀ t, t ≤ 8 → nj_G (nj_sp P Q m w D t) := by
  intro t
  induction t with
  | zero => intro _; exact h
  | succ t ih => intro ht; exact nj_stG hQ (by omega) hm hw (ih (by omega))
theorem nj_spK {P Q : Nat → Int32} {m j : Nat} {w : Int32} {D : Nat → Int32} (h : ¬ D j = -1) : ∀ t, nj_sp P Q m w D t j = D j := by
  intro t
  induction t with
  | zero => rfl
  | succ t ih =>
    have e : nj_sp P Q m w D (t + 1) j = nj_sp P Q m w D t j := nj_stK (by rw [ih]; exact h)
    rw [e, ih]
theorem nj_rwG {P Q : Nat → Int32} (hQ : nj_R Q) {d : Nat} (hd : d < 64) {D : Nat → Int32} (h : nj_G D) : ∀ m, m ≤ 64 → nj_G (nj_rw P Q d D m) := by
  intro m
  induction m with
  | zero => intro _; exact h
  | succ m ih =>
    intro hm
    have := ih (by omega)
    unfold nj_rw
    split
    · exact nj_spG hQ (by omega) (Or.inr ⟨d + 1, by omega, rfl⟩) this 8 (by omega)
    · exact this
theorem nj_alG {P Q : Nat → Int32} (hQ : nj_R Q) {D : Nat → Int32} (h : nj_G D) : ∀ d, d ≤ 64 → nj_G (nj_al P Q D d) := by
  intro d
  induction d with
  | zero => intro _; exact h
  | succ d ih => intro hd; exact nj_rwG hQ (by omega) (ih (by omega)) 64 (by omega)
theorem nj_DG {P Q : Nat → Int32} (hQ : nj_R Q) (i : Nat) : nj_G (nj_D P Q i) := nj_alG hQ (nj_0G i) 64 (by omega)
/-! some, least, count -/
def nj_any (f : Nat → Bool) : Nat → Bool
  | 0 => false
  | n + 1 => nj_any f n || f n
theorem nj_anyT {f : Nat → Bool} {j : Nat} (h : f j = true) : ∀ n, j < n → nj_any f n = true := by
  intro n
  induction n with
  | zero => intro z; omega
  | succ n ih =>
    intro hj
    show (nj_any f n || f n) = true
    by_cases e : j = n
    · rw [← e, h, Bool.or_true]
    · rw [ih (by omega), Bool.true_or]
theorem nj_anyF {f : Nat → Bool} : ∀ n, (∀ j, j < n → f j = false) → nj_any f n = false := by
  intro n
  induction n with
  | zero => intro _; rfl
  | succ n ih =>
    intro h
    show (nj_any f n || f n) = false
    rw [ih (fun j hj => h j (by omega)), h n (by omega)]
    rfl
theorem nj_anyS {f : Nat → Bool} {n : Nat} (h : nj_any f n = false) (h2 : f n = false) : nj_any f (n + 1) = false := by
  show (nj_any f n || f n) = false
  rw [h, h2]
  rfl
theorem nj_anyE {f : Nat → Bool} {n : Nat} (h : nj_any f n = false) {j : Nat} (hj : j < n) : f j = false := by
  cases e : f j
  · rfl
  · rw [nj_anyT e n hj] at h
    exact absurd h (by decide)
theorem nj_anyC {f g : Nat → Bool} : ∀ n, (∀ j, j < n → f j = g j) → nj_any f n = nj_any g n := by
  intro n
  induction n with
  | zero => intro _; rfl
  | succ n ih =>
    intro h
    show (nj_any f n || f n) = (nj_any g n || g n)
    rw [ih (fun j hj => h j (by omega)), h n (by omega)]
def nj_cs (P Q : Nat → Int32) (m : Nat) : Bool := nj_any (fun t => nj_rd P t (nI m) && !(nj_cl P Q t (nI m))) 8
def nj_sf (P Q D : Nat → Int32) : Bool := !(nj_any (fun m => !(decide (D m = -1)) && nj_cs P Q m) 64)
def nj_dd (P : Nat → Int32) (m : Nat) : Bool := !(nj_any (fun t => nj_rd P t (nI m)) 8)
def nj_ls (l d : Int32) : Int32 := if l = -1 ∨ d < l then d else l
def nj_mn (f : Nat → Bool) (D : Nat → Int32) : Nat → Int32
  | 0 => -1
  | n + 1 => if f n = true then nj_ls (nj_mn f D n) (D n) else nj_mn f D n
def nj_ct (f : Nat → Bool) : Nat → Int32
  | 0 => 0
  | n + 1 => if f n = true then nj_ct f n + 1 else nj_ct f n
theorem nj_mn0 {f : Nat → Bool} {D : Nat → Int32} : ∀ n, (∀ j, j < n → f j = false) → nj_mn f D n = -1 := by
  intro n
  induction n with
  | zero => intro _; rfl
  | succ n ih =>
    intro h
    unfold nj_mn
    rw [if_neg (by rw [h n (by omega)]; decide)]
    exact ih (fun j hj => h j (by omega))
theorem nj_ct0 {f : Nat → Bool} : ∀ n, (∀ j, j < n → f j = false) → nj_ct f n = 0 := by
  intro n
  induction n with
  | zero => intro _; rfl
  | succ n ih =>
    intro h
    unfold nj_ct
    rw [if_neg (by rw [h n (by omega)]; decide)]
    exact ih (fun j hj => h j (by omega))
theorem nj_mnC {f g : Nat → Bool} {D : Nat → Int32} : ∀ n, (∀ j, j < n → f j = g j) → nj_mn f D n = nj_mn g D n := by
  intro n
  induction n with
  | zero => intro _; rfl
  | succ n ih =>
    intro h
    unfold nj_mn
    rw [ih (fun j hj => h j (by omega)), h n (by omega)]
/-- a least distance is none, or a distance; bound 65: a distance and one more -/
def nj_w (x : Int32) : Prop := x = -1 ∨ ∃ k : Nat, k ≤ 65 ∧ x = nI k
theorem nj_vw {x : Int32} (h : nj_v x) : nj_w x := by
  rcases h with h | ⟨k, hk, h⟩
  · exact Or.inl h
  · exact Or.inr ⟨k, by omega, h⟩
theorem nj_wlt {x : Int32} (h : nj_w x) : x < 0 ↔ x = -1 := by
  rcases h with rfl | ⟨k, hk, rfl⟩
  · exact ⟨fun _ => rfl, fun _ => by decide⟩
  · exact ⟨fun z => absurd z (nI_pos (by omega)), fun z => absurd z (nj_ne (by omega))⟩
theorem nj_wle {x : Int32} (h : nj_w x) : 0 ≤ x ↔ ¬ x = -1 := by
  rcases h with rfl | ⟨k, hk, rfl⟩
  · exact ⟨fun z => absurd z (by decide), fun z => absurd rfl z⟩
  · exact ⟨fun _ => nj_ne (by omega), fun _ => nI_pos' (by omega)⟩
theorem nj_lsw {l d : Int32} (hl : nj_w l) (hd : nj_w d) : nj_w (nj_ls l d) := by
  unfold nj_ls
  split
  · exact hd
  · exact hl
theorem nj_mnw {f : Nat → Bool} {D : Nat → Int32} (h : ∀ j, nj_w (D j)) : ∀ n, nj_w (nj_mn f D n) := by
  intro n
  induction n with
  | zero => exact Or.inl rfl
  | succ n ih =>
    unfold nj_mn
    split
    · exact nj_lsw ih (h n)
    · exact ih
theorem nj_lsv {l d : Int32} (hl : nj_v l) (hd : nj_v d) : nj_v (nj_ls l d) := by
  unfold nj_ls
  split
  · exact hd
  · exact hl
theorem nj_mnv {f : Nat → Bool} {D : Nat → Int32} (h : nj_V D) : ∀ n, nj_v (nj_mn f D n) := by
  intro n
  induction n with
  | zero => exact Or.inl rfl
  | succ n ih =>
    unfold nj_mn
    split
    · exact nj_lsv ih (h n)
    · exact ih
theorem nj_lsn {l d : Int32} (hd : ¬ d = -1) : ¬ nj_ls l d = -1 := by
  unfold nj_ls
  split
  · exact hd
  · rename_i z
    exact fun e => z (Or.inl e)
theorem nj_mnY {f : Nat → Bool} {D : Nat → Int32} {j : Nat} (h : f j = true) (hD : ¬ D j = -1) : ∀ n, j < n → (∀ i, i < n → f i = true → ¬ D i = -1) → ¬ nj_mn f D n = -1 := by
  intro n
  induction n with
  | zero => intro z; omega
  | succ n ih =>
    intro hj H
    unfold nj_mn
    split
    · rename_i z
      exact nj_lsn (H n (by omega) z)
    · rename_i z
      have : j ≠ n := fun e => z (by rw [← e]; exact h)
      exact ih (by omega) (fun i hi => H i (by omega))
/-- one more, after or before the least is taken -/
def nj_up (x : Int32) : Int32 := if x = -1 then -1 else x + 1
theorem nj_lsu {l d : Int32} (hl : nj_v l) (hd : nj_v d) (hn : ¬ d = -1) : nj_ls (nj_up l) (d + 1) = nj_up (nj_ls l d) := by
  rcases hd with hd | ⟨k, hk, rfl⟩
  · exact absurd hd hn
  · rcases hl with rfl | ⟨j, hj, rfl⟩
    · unfold nj_ls nj_up
      rw [if_pos rfl, if_pos (Or.inl rfl), if_pos (Or.inl rfl), if_neg hn]
    · have hnj : ¬ nI j = -1 := nj_ne (by omega)
      have hnj1 : ¬ nI (j + 1) = -1 := nj_ne (by omega)
      have e1 : nj_up (nI j) = nI (j + 1) := by unfold nj_up; rw [if_neg hnj, nI_1]
      have e2 : nj_up (nI k) = nI (k + 1) := by unfold nj_up; rw [if_neg hn, nI_1]
      rw [e1, nI_1]
      unfold nj_ls
      by_cases h : k < j
      · have y1 : nI (j + 1) = -1 ∨ nI (k + 1) < nI (j + 1) := Or.inr (nI_lt (by omega) (by omega))
        have y2 : nI j = -1 ∨ nI k < nI j := Or.inr (nI_lt h (by omega))
        rw [if_pos y1, if_pos y2, e2]
      · have z1 : ¬ (nI (j + 1) = -1 ∨ nI (k + 1) < nI (j + 1)) := fun z => z.elim hnj1 (nI_nlt (by omega) (by omega))
        have z2 : ¬ (nI j = -1 ∨ nI k < nI j) := fun z => z.elim hnj (nI_nlt (by omega) (by omega))
        rw [if_neg z1, if_neg z2, e1]
theorem nj_mnu {f : Nat → Bool} {D : Nat → Int32} (hD : nj_V D) (hf : ∀ i, f i = true → ¬ D i = -1) : ∀ n, nj_mn f (fun j => D j + 1) n = nj_up (nj_mn f D n) := by
  intro n
  induction n with
  | zero => rfl
  | succ n ih =>
    unfold nj_mn
    rw [ih]
    by_cases h : f n = true
    · rw [if_pos h, if_pos h]
      exact nj_lsu (nj_mnv hD n) (hD n) (hf n h)
    · rw [if_neg h, if_neg h]
/-- one or two bits of six -/
def nj_bits (s : Int32) : Nat → Int32
  | 0 => 0
  | p + 1 => nj_bits s p + ((s >>> (nI p &&& 31)) &&& 1)
end
section
/-! one or two bits: X's way and Y's -/
def nj_xo (s : Int32) : Bool := !(decide (s = 0)) && decide ((s &&& (s - 1)) &&& ((s &&& (s - 1)) - 1) = 0)
def nj_yo (s : Int32) : Bool := decide (nj_bits s 6 = 1) || decide (nj_bits s 6 = 2)
theorem nj_xy : ∀ s, s < 64 → nj_xo (nI s) = nj_yo (nI s) := by decide +kernel
def nj_ax (A s : Int32) : Bool := decide (s &&& (A ^^^ (-1)) = 0) && nj_xo s
def nj_ay (A s : Int32) : Bool := decide (s &&& (A ^^^ (-1)) = 0) && nj_yo s
theorem nj_axy {A s : Int32} (hA : A &&& 63 = A) : nj_ax A s = nj_ay A s := by
  unfold nj_ax nj_ay
  by_cases h : s &&& (A ^^^ (-1)) = 0
  · obtain ⟨j, hj, e⟩ := nj_64 (nj_mk hA h)
    rw [e, nj_xy j hj]
  · rw [decide_eq_false h]
    rfl
theorem nj_ax63 {A s : Int32} (hA : A &&& 63 = A) (h : nj_ax A s = true) : s &&& 63 = s ∧ ¬ s = 0 := by
  unfold nj_ax nj_xo at h
  rw [Bool.and_eq_true, Bool.and_eq_true, decide_eq_true_eq, Bool.not_eq_true', decide_eq_false_iff_not] at h
  exact ⟨nj_mk hA h.1, h.2.1⟩
/-! the two nets -/
def nj_net (T P P' Q Q' : Nat → Int32) : Prop := ∀ t, t < 8 → (T t = 0 ∧ P t = 0) ∨ (T t = 1 ∧ ¬ P t = 0 ∧ P' t = P t ∧ Q' t = Q t)
theorem nj_rd0 {P : Nat → Int32} {t : Nat} {m : Int32} (h : P t = 0) : nj_rd P t m = false := by
  unfold nj_rd
  rw [decide_eq_true h]
  rfl
theorem nj_rdn {P : Nat → Int32} {t : Nat} {m : Int32} (h : ¬ m &&& P t = P t) : nj_rd P t m = false := by
  unfold nj_rd
  rw [decide_eq_false h, Bool.and_false]
theorem nj_rd1 {P : Nat → Int32} {t : Nat} {m : Int32} (h : ¬ P t = 0) (h2 : m &&& P t = P t) : nj_rd P t m = true := by
  unfold nj_rd
  rw [decide_eq_false h, decide_eq_true h2]
  rfl
theorem nj_rdp {P : Nat → Int32} {t : Nat} {m : Int32} (h : nj_rd P t m = true) : ¬ P t = 0 ∧ m &&& P t = P t := by
  unfold nj_rd at h
  rw [Bool.and_eq_true, decide_eq_true_eq, Bool.not_eq_true', decide_eq_false_iff_not] at h
  exact h
theorem nj_cl0 {P Q : Nat → Int32} {t : Nat} {m : Int32} (h : nj_rd P t m = false) : nj_cl P Q t m = false := by
  unfold nj_cl
  rw [h]
  rfl
theorem nj_cln {P Q : Nat → Int32} {t : Nat} {m : Int32} (h : ¬ (m &&& Q t) &&& (P t ^^^ (-1)) = 0) : nj_cl P Q t m = false := by
  unfold nj_cl
  rw [decide_eq_false h, Bool.and_false]
theorem nj_cl1 {P Q : Nat → Int32} {t : Nat} {m : Int32} (h : nj_rd P t m = true) (h2 : (m &&& Q t) &&& (P t ^^^ (-1)) = 0) : nj_cl P Q t m = true := by
  unfold nj_cl
  rw [h, decide_eq_true h2]
  rfl
theorem nj_clr {P Q : Nat → Int32} {t : Nat} {m : Int32} (h : nj_cl P Q t m = true) : nj_rd P t m = true := by
  unfold nj_cl at h
  rw [Bool.and_eq_true] at h
  exact h.1
/-! one step of the search, as X and as Y take it -/
theorem nj_stN {P Q : Nat → Int32} {m t : Nat} {w : Int32} {D : Nat → Int32} (h : nj_cl P Q t (nI m) = false) : nj_st P Q m w t D = D := by
  unfold nj_st
  rw [if_neg (fun z => by rw [h] at z; exact absurd z.1 (by decide))]
theorem nj_stO {P Q : Nat → Int32} {m t : Nat} {w : Int32} {D : Nat → Int32} (h : ¬ D (nj_an P Q t m) = -1) : nj_st P Q m w t D = D := by
  unfold nj_st
  rw [if_neg (fun z => h z.2)]
theorem nj_stY {P Q : Nat → Int32} {m t : Nat} {w : Int32} {D : Nat → Int32} (h : nj_cl P Q t (nI m) = true) (h2 : D (nj_an P Q t m) = -1) : nj_st P Q m w t D = upd D (nj_an P Q t m) w := by
  unfold nj_st
  rw [if_pos ⟨h, h2⟩]
theorem nj_same {D : Nat → Int32} {j : Nat} : upd D j (D j) = D := by
  funext i
  unfold upd
  by_cases h : i = j
  · rw [if_pos h, h]
  · rw [if_neg h]
theorem nj_rwY {P Q : Nat → Int32} {d m : Nat} {D : Nat → Int32} (h : nj_rw P Q d D m m = nI d) : nj_rw P Q d D (m + 1) = nj_sp P Q m (nI (d + 1)) (nj_rw P Q d D m) 8 := by
  show (if nj_rw P Q d D m m = nI d then nj_sp P Q m (nI (d + 1)) (nj_rw P Q d D m) 8 else nj_rw P Q d D m) = _
  rw [if_pos h]
theorem nj_rwN {P Q : Nat → Int32} {d m : Nat} {D : Nat → Int32} (h : ¬ nj_rw P Q d D m m = nI d) : nj_rw P Q d D (m + 1) = nj_rw P Q d D m := by
  show (if nj_rw P Q d D m m = nI d then nj_sp P Q m (nI (d + 1)) (nj_rw P Q d D m) 8 else nj_rw P Q d D m) = _
  rw [if_neg h]
theorem nj_mnT {f : Nat → Bool} {D : Nat → Int32} {n : Nat} (h : f n = true) : nj_mn f D (n + 1) = nj_ls (nj_mn f D n) (D n) := by
  show (if f n = true then nj_ls (nj_mn f D n) (D n) else nj_mn f D n) = _
  rw [if_pos h]
theorem nj_mnF {f : Nat → Bool} {D : Nat → Int32} {n : Nat} (h : f n = false) : nj_mn f D (n + 1) = nj_mn f D n := by
  show (if f n = true then nj_ls (nj_mn f D n) (D n) else nj_mn f D n) = _
  rw [if_neg (by rw [h]; decide)]
theorem nj_ctT {f : Nat → Bool} {n : Nat} (h : f n = true) : nj_ct f (n + 1) = nj_ct f n + 1 := by
  show (if f n = true then nj_ct f n + 1 else nj_ct f n) = _
  rw [if_pos h]
theorem nj_ctF {f : Nat → Bool} {n : Nat} (h : f n = false) : nj_ct f (n + 1) = nj_ct f n := by
  show (if f n = true then nj_ct f n + 1 else nj_ct f n) = _
  rw [if_neg (by rw [h]; decide)]
/-- the forgetting of distances, and Y's first row, as far as the loop has come -/
def nj_fg (E : Nat → Int32) (n : Nat) : Nat → Int32 := fun j => if j < n then -1 else E j
theorem nj_fg0 (E : Nat → Int32) : nj_fg E 0 = E := by
  funext j
  unfold nj_fg
  rw [if_neg (by omega)]
theorem nj_fgS (E : Nat → Int32) (n : Nat) : upd (nj_fg E n) n (-1) = nj_fg E (n + 1) := by
  funext j
  show (if j = n then -1 else if j < n then -1 else E j) = if j < n + 1 then -1 else E j
  by_cases h : j = n
  · rw [if_pos h, if_pos (by omega)]
  · by_cases h2 : j < n
    · rw [if_neg h, if_pos h2, if_pos (by omega)]
    · rw [if_neg h, if_neg h2, if_neg (by omega)]
theorem nj_fgE {E : Nat → Int32} (h : nj_Z E) : nj_fg E 64 = nj_N := by
  funext j
  unfold nj_fg nj_N
  by_cases h2 : j < 64
  · rw [if_pos h2, if_pos h2]
  · rw [if_neg h2, if_neg h2]
    exact h j (by omega)
def nj_fy (i : Nat) (E : Nat → Int32) (n : Nat) : Nat → Int32 := fun j => if j < n then (if j = i then 0 else -1) else E j
theorem nj_fy0 (i : Nat) (E : Nat → Int32) : nj_fy i E 0 = E := by
  funext j
  unfold nj_fy
  rw [if_neg (by omega)]
theorem nj_fyS (i : Nat) (E : Nat → Int32) (n : Nat) : upd (nj_fy i E n) n (if n = i then 0 else -1) = nj_fy i E (n + 1) := by
  funext j
  show (if j = n then (if n = i then 0 else -1) else if j < n then (if j = i then 0 else -1) else E j) = if j < n + 1 then (if j = i then 0 else -1) else E j
  by_cases h : j = n
  · have h2 : j < n + 1 := by omega
    rw [if_pos h, if_pos h2, h]
  · by_cases h2 : j < n
    · have h3 : j < n + 1 := by omega
      rw [if_neg h, if_pos h2, if_pos h3]
    · have h3 : ¬ j < n + 1 := by omega
      rw [if_neg h, if_neg h2, if_neg h3]
theorem nj_fyE {i : Nat} {E : Nat → Int32} (h : nj_Z E) : nj_fy i E 64 = nj_0 i := by
  funext j
  unfold nj_fy nj_0
  by_cases h2 : j < 64
  · rw [if_pos h2, if_pos h2]
  · rw [if_neg h2, if_neg h2]
    exact h j (by omega)
/-! what the questions hold on to -/
def nj_E (P Q D : Nat → Int32) : Nat → Int32 := if nj_sf P Q D = true then D else nj_N
theorem nj_Et {P Q D : Nat → Int32} (h : nj_sf P Q D = true) : nj_E P Q D = D := if_pos h
theorem nj_Ef {P Q D : Nat → Int32} (h : nj_sf P Q D = false) : nj_E P Q D = nj_N := if_neg (by rw [h]; decide)
theorem nj_EG {P Q D : Nat → Int32} (h : nj_G D) : nj_G (nj_E P Q D) := by
  unfold nj_E
  split
  · exact h
  · exact nj_NG
theorem nj_NN {j : Nat} (h : j < 64) : nj_N j = -1 := if_pos h
/-- in a safe net what is reached and ready is clear -/
theorem nj_sc {P Q D : Nat → Int32} (h : nj_sf P Q D = true) {m t : Nat} (hm : m < 64) (ht : t < 8) (hD : ¬ D m = -1) (hr : nj_rd P t (nI m) = true) : nj_cl P Q t (nI m) = true := by
  have h1 : nj_any (fun m => !(decide (D m = -1)) && nj_cs P Q m) 64 = false := by
    unfold nj_sf at h
    rw [Bool.not_eq_true'] at h
    exact h
  have h2 := nj_anyE h1 hm
  try dsimp only at h2
  rw [decide_eq_false hD, Bool.not_false, Bool.true_and] at h2
  unfold nj_cs at h2
  have h3 := nj_anyE h2 ht
  try dsimp only at h3
  rw [hr, Bool.true_and] at h3
  cases e : nj_cl P Q t (nI m)
  · rw [e] at h3
    exact absurd h3 (by decide)
  · rfl
def nj_K (A : Int32) (i : Nat) (P Q T P' Q' F : Nat → Int32) : Prop := A &&& 63 = A ∧ i < 64 ∧ nj_R Q ∧ nj_net T P P' Q Q' ∧ nj_Z F
end
section
theorem nj_nd {p : Prop} {i : Decidable p} (h : (!(decide p)) = false) : p := by
  by_cases z : p
  · exact z
  · rw [decide_eq_false z] at h
    exact absurd h (by decide)
theorem nj_nn {p : Prop} {i : Decidable p} (h : (!(decide p)) = true) : ¬ p := by
  intro z
  rw [decide_eq_true z] at h
  exact absurd h (by decide)
theorem nj_loop (W : Nat → Nat → Prop) (J : Nat → Prop) (e : Nat) (h0 : J 0) (hx : ∀ n, J e → W (n + 1) e) (hs : ∀ n i, i < e → J i → (J (i + 1) → W n (i + 1)) → W (n + 1) i) : ∃ n, W n 0 :=
  loop_0 (σ := Unit) (fun n i _ => W n i) (fun i _ => J i) e () h0 (fun n _ h => hx n h) (fun n i _ hi h k => hs n i hi h (fun z => k () z))
theorem nj_8n {t : Nat} (h : t < 8) : ¬ (8 : Int32) ≤ nI t := nI_ge (b := 8) h (by decide)
theorem nj_8e : (8 : Int32) ≤ nI 8 := by decide
theorem nj_64n {t : Nat} (h : t < 64) : ¬ (64 : Int32) ≤ nI t := nI_ge (b := 64) h (by decide)
theorem nj_64e : (64 : Int32) ≤ nI 64 := by decide
section
variable {A I g s : Int32} {P Q E : Nat → Int32}
theorem nj_xr {post : Int32 → Prop} {t : Nat} (ht : t < 8) (m : Int32) (h : post (nj_b (nj_rd P t m))) : wpX_isReady post (A, I, g, s, P, Q, E) (nI t) m := by
  have hi : vp_in (nI t) 8 := vp_in_nI ht (by omega)
  have hc : (nI t).toNatClampNeg = t := nI_clamp (by omega)
  unfold wpX_isReady
  dsimp only
  rw [hc]
  refine ⟨hi, br_c (fun z => ?_) (fun z => ⟨hi, hi, br_c (fun y => ?_) (fun y => ?_)⟩)⟩
  · rw [nj_rd0 z] at h; exact h
  · rw [nj_rd1 z y] at h; exact h
  · rw [nj_rdn y] at h; exact h
theorem nj_xc {post : Int32 → Prop} {t : Nat} (ht : t < 8) (m : Int32) (h : post (nj_b (nj_cl P Q t m))) : wpX_isClear post (A, I, g, s, P, Q, E) (nI t) m := by
  have hi : vp_in (nI t) 8 := vp_in_nI ht (by omega)
  have hc : (nI t).toNatClampNeg = t := nI_clamp (by omega)
  unfold wpX_isClear
  dsimp only
  rw [hc]
  refine nj_xr ht m (nj_br (fun z => ?_) (fun z => ⟨hi, hi, br_c (fun y => ?_) (fun y => ?_)⟩))
  · rw [nj_cl0 z] at h; exact h
  · rw [nj_cl1 z y] at h; exact h
  · rw [nj_cln y] at h; exact h
theorem nj_xa {post : Int32 → Prop} {t : Nat} (ht : t < 8) (m : Int32) (h : post (nj_af P Q t m)) : wpX_after post (A, I, g, s, P, Q, E) (nI t) m := by
  have hi : vp_in (nI t) 8 := vp_in_nI ht (by omega)
  have hc : (nI t).toNatClampNeg = t := nI_clamp (by omega)
  unfold wpX_after
  dsimp only
  rw [hc]
  exact ⟨hi, hi, h⟩
theorem nj_xi {post : Int32 → Prop} {m : Nat} (hm : m < 64) (h : post (nj_b (!(decide (E m = -1))))) : wpX_isReached post (A, I, g, s, P, Q, E) (nI m) := by
  have hi : vp_in (nI m) 64 := vp_in_nI hm (by omega)
  have hc : (nI m).toNatClampNeg = m := nI_clamp (by omega)
  unfold wpX_isReached
  dsimp only
  rw [hc]
  refine ⟨hi, br_c (fun z => ?_) (fun z => ?_)⟩
  · rw [decide_eq_true z] at h; exact h
  · rw [decide_eq_false z] at h; exact h
theorem nj_xd {post : Int32 → Prop} (m : Nat) (h : post (nj_b (nj_dd P m))) : wpX_isDead post (A, I, g, s, P, Q, E) (nI m) := by
  unfold wpX_isDead
  dsimp only
  refine nj_loop (fun n t => wX_isDead_2 post (nI m) A I g s P Q E n (nI t)) (fun t => nj_any (fun t => nj_rd P t (nI m)) t = false) 8 rfl (fun n hf => ?_) (fun n t ht hf ih => ?_)
  · refine br_t nj_8e ?_
    unfold nj_dd at h
    rw [hf] at h
    exact h
  · refine br_f (nj_8n ht) (nj_xr ht _ (nj_br (fun c => ?_) (fun c => ?_)))
    · exact nm_r (nI_1 t) (ih (nj_anyS hf c))
    · unfold nj_dd at h
      rw [nj_anyT (j := t) (by exact c) 8 ht] at h
      exact h
theorem nj_xh {post : Int32 → Prop} (m : Nat) (h : post (nj_b (nj_cs P Q m))) : wpX_hasClash post (A, I, g, s, P, Q, E) (nI m) := by
  unfold wpX_hasClash
  dsimp only
  unfold nj_cs at h
  refine nj_loop (fun n t => wX_hasClash_2 post (nI m) A I g s P Q E n (nI t)) (fun t => nj_any (fun t => nj_rd P t (nI m) && !(nj_cl P Q t (nI m))) t = false) 8 rfl (fun n hf => ?_) (fun n t ht hf ih => ?_)
  · refine br_t nj_8e ?_
    rw [hf] at h
    exact h
  · refine br_f (nj_8n ht) (nj_xr ht _ (nj_br (fun c => ?_) (fun c => nj_xc ht _ (nj_br (fun b => ?_) (fun b => ?_)))))
    · exact nm_r (nI_1 t) (ih (nj_anyS hf (by (try dsimp only); rw [c]; rfl)))
    · rw [nj_anyT (j := t) (by (try dsimp only); rw [c, b]; rfl) 8 ht] at h
      exact h
    · exact nm_r (nI_1 t) (ih (nj_anyS hf (by (try dsimp only); rw [c, b]; rfl)))
theorem nj_xs {post : Int32 → Prop} (h : post (nj_b (nj_sf P Q E))) : wpX_isSafe post (A, I, g, s, P, Q, E) := by
  unfold wpX_isSafe
  dsimp only
  unfold nj_sf at h
  refine nj_loop (fun n m => wX_isSafe_2 post A I g s P Q E n (nI m)) (fun m => nj_any (fun m => !(decide (E m = -1)) && nj_cs P Q m) m = false) 64 rfl (fun n hf => ?_) (fun n m hm hf ih => ?_)
  · refine br_t nj_64e ?_
    rw [hf] at h
    exact h
  · refine br_f (nj_64n hm) (nj_xi hm (nj_br (fun c => ?_) (fun c => nj_xh m (nj_br (fun b => ?_) (fun b => ?_)))))
    · exact nm_r (nI_1 m) (ih (nj_anyS hf (by (try dsimp only); rw [c]; rfl)))
    · exact nm_r (nI_1 m) (ih (nj_anyS hf (by (try dsimp only); rw [c, b]; rfl)))
    · rw [nj_anyT (j := m) (by (try dsimp only); rw [c, b]; rfl) 64 hm] at h
      exact h
theorem nj_xf {post : SX → Prop} (hE : nj_Z E) (h : post (A, I, g, s, P, Q, nj_N)) : wpX_forgetDistances post (A, I, g, s, P, Q, E) := by
  unfold wpX_forgetDistances
  dsimp only
  refine loop_0 (fun n m D => wX_forgetDistances_2 post A I g s n (nI m) P Q D) (fun m D => D = nj_fg E m) 64 E (nj_fg0 E).symm (fun n D e => ?_) (fun n m D hm e ih => ?_)
  · refine br_t nj_64e ?_
    rw [e, nj_fgE hE]
    exact h
  · refine br_f (nj_64n hm) ⟨vp_in_nI hm (by omega), nm_r ?_ (nm_r (nI_1 m) (ih _ (nj_fgS E m)))⟩
    rw [nI_clamp (by omega), e]
/-- the search's step from one marking -/
theorem nj_xp {post : SX → Prop} (hQ : nj_R Q) {m d : Nat} (hm : m < 64) (hd : d < 64) (hE : nj_G E) (hz : E m = nI d) (h : post (A, I, g, s, P, Q, nj_sp P Q m (nI (d + 1)) E 8)) : wpX_reachFrom post (A, I, g, s, P, Q, E) (nI m) := by
  unfold wpX_reachFrom
  dsimp only
  refine loop_0 (fun n t D => wX_reachFrom_2 post (nI m) A I g s n (nI t) P Q D) (fun t D => D = nj_sp P Q m (nI (d + 1)) E t) 8 E rfl (fun n D e => ?_) (fun n t D ht e ih => ?_)
  · refine br_t nj_8e ?_
    rw [e]
    exact h
  · have hk : D m = nI d := by rw [e, nj_spK (by rw [hz]; exact nj_ne (by omega)), hz]
    obtain ⟨hn, en⟩ := nj_afe (P := P) hQ ht hm
    refine br_f (nj_8n ht) (nj_xc ht _ (nj_br (fun c => ?_) (fun c => nj_xa ht _ ?_)))
    · exact nm_r (nI_1 t) (ih _ (by show D = nj_st P Q m _ t _; rw [nj_stN c, e]))
    · rw [en]
      refine nj_xi hn (nj_br (fun b => ?_) (fun b => ?_))
      · refine ⟨vp_in_nI hm (by omega), vp_in_nI hn (by omega), nm_r ?_ (nm_r (nI_1 t) (ih _ (nj_stY c (by rw [← e]; exact nj_nd b)).symm))⟩
        rw [nI_clamp (by omega), nI_clamp (by omega), hk, nI_1, e]
      · exact nm_r (nI_1 t) (ih _ (by show D = nj_st P Q m _ t _; rw [nj_stO (by rw [← e]; exact nj_nn b), e]))
end
end
section
section
variable {A I g s : Int32} {P Q E : Nat → Int32}
theorem nj_xm {post : SX → Prop} (hQ : nj_R Q) {i : Nat} (hi : i < 64) (hE : nj_Z E) (h : post (A, nI i, g, s, P, Q, nj_D P Q i)) : wpX_measureDistances post (A, nI i, g, s, P, Q, E) := by
  unfold wpX_measureDistances
  dsimp only
  refine nj_xf hE ⟨vp_in_nI hi (by omega), nm_r (e' := nj_0 i) (by rw [nI_clamp (by omega)]; exact nj_N0 hi) ?_⟩
  refine loop_0 (fun n d D => wX_measureDistances_16 post n (nI d) A (nI i) g s P Q D) (fun d D => D = nj_al P Q (nj_0 i) d) 64 (nj_0 i) rfl (fun n D e => ?_) (fun n d D hd e ih => ?_)
  · refine br_t nj_64e ?_
    rw [e]
    exact h
  · have hG : nj_G D := by rw [e]; exact nj_alG hQ (nj_0G i) d (by omega)
    refine br_f (nj_64n hd) ?_
    refine loop_0 (fun k m F => wX_measureDistances_24 post (wX_measureDistances_16 post n) (nI d) k (nI m) A (nI i) g s P Q F) (fun m F => F = nj_rw P Q d D m) 64 D rfl (fun k F f => ?_) (fun k m F hm f jh => ?_)
    · exact br_t nj_64e (nm_r (nI_1 d) (ih _ (by rw [f, e]; rfl)))
    · have hF : nj_G F := by rw [f]; exact nj_rwG hQ hd hG m (by omega)
      refine br_f (nj_64n hm) ⟨vp_in_nI hm (by omega), br_c (fun z => ?_) (fun z => ?_)⟩
      · rw [nI_clamp (by omega)] at z
        exact nj_xp hQ hm hd hF z (nm_r (nI_1 m) (jh _ (by rw [nj_rwY (by rw [← f]; exact z), f])))
      · rw [nI_clamp (by omega)] at z
        exact nm_r (nI_1 m) (jh _ (by rw [nj_rwN (by rw [← f]; exact z), f]))
theorem nj_xn {post : SX → Prop} (hQ : nj_R Q) {i : Nat} (hi : i < 64) (hE : nj_Z E) {D : Nat → Int32} (eD : D = nj_D P Q i) (h : post (A, nI i, nI i, nj_b (nj_sf P Q D), P, Q, nj_E P Q D)) : wpX_startAnew post (A, nI i, g, s, P, Q, E) := by
  unfold wpX_startAnew
  dsimp only
  refine nj_xm hQ hi hE ?_
  rw [← eD]
  have hD : nj_G D := by rw [eD]; exact nj_DG hQ i
  refine nj_xs ⟨nj_bn _, nj_bf _, nj_br (fun c => ?_) (fun c => ?_)⟩
  · rw [c, nj_Ef c] at h
    rw [c]
    exact nj_xf hD.2 h
  · rw [c, nj_Et c] at h
    rw [c]
    exact h
end
end
section
section
variable {A I g : Int32} {T P P' Q Q' F : Nat → Int32}
theorem nj_yr {post : Int32 → Prop} (hn : nj_net T P P' Q Q') {t : Nat} (ht : t < 8) (m : Int32) (h : post (nj_b (nj_rd P t m))) : wpY_ready post (A, I, g, T, P', Q', F) (nI t) m := by
  have hi : vp_in (nI t) 8 := vp_in_nI ht (by omega)
  have hc : (nI t).toNatClampNeg = t := nI_clamp (by omega)
  have h0 : ¬ nI t < 0 := nI_pos (by omega)
  have h7 : ¬ (7 : Int32) < nI t := nI_nlt (a := 7) (b := t) (by omega) (by omega)
  unfold wpY_ready
  dsimp only
  rw [hc]
  refine br_f h0 (br_f h7 ⟨hi, br_c (fun z => ?_) (fun z => ⟨hi, hi, ?_⟩)⟩)
  · rcases hn t ht with ⟨_, e⟩ | ⟨e, _⟩
    · rw [nj_rd0 e] at h; exact h
    · exact absurd (z.symm.trans e) (by decide)
  · rcases hn t ht with ⟨e, _⟩ | ⟨_, e1, e2, _⟩
    · exact absurd e z
    · rw [e2]
      refine br_c (fun y => ?_) (fun y => ?_)
      · rw [nj_rd1 e1 y] at h; exact h
      · rw [nj_rdn y] at h; exact h
theorem nj_yro {post : Int32 → Prop} {t : Int32} (ht : t < 0 ∨ nI 8 ≤ t) (m : Int32) (h : post 0) : wpY_ready post (A, I, g, T, P', Q', F) t m := by
  unfold wpY_ready
  dsimp only
  by_cases h0 : t < 0
  · exact br_t h0 h
  · refine br_f h0 (br_t ?_ h)
    rcases ht with z | z
    · exact absurd z h0
    · exact Int32.lt_of_lt_of_le (by decide) z
theorem nj_yc {post : Int32 → Prop} (hn : nj_net T P P' Q Q') {t : Nat} (ht : t < 8) (m : Int32) (h : post (nj_b (nj_cl P Q t m))) : wpY_clear post (A, I, g, T, P', Q', F) (nI t) m := by
  have hi : vp_in (nI t) 8 := vp_in_nI ht (by omega)
  have hc : (nI t).toNatClampNeg = t := nI_clamp (by omega)
  unfold wpY_clear
  dsimp only
  rw [hc]
  refine nj_yr hn ht m (nj_br (fun z => ?_) (fun z => ⟨hi, hi, ?_⟩))
  · rw [nj_cl0 z] at h; exact h
  · rcases hn t ht with ⟨_, e⟩ | ⟨_, e1, e2, e3⟩
    · rw [nj_rd0 e] at z; exact absurd z (by decide)
    · rw [e2, e3]
      refine br_c (fun y => ?_) (fun y => ?_)
      · rw [nj_cl1 z y] at h; exact h
      · rw [nj_cln y] at h; exact h
theorem nj_yco {post : Int32 → Prop} {t : Int32} (ht : t < 0 ∨ nI 8 ≤ t) (m : Int32) (h : post 0) : wpY_clear post (A, I, g, T, P', Q', F) t m := by
  unfold wpY_clear
  dsimp only
  exact nj_yro ht m (br_t rfl h)
theorem nj_ya {post : Int32 → Prop} (hn : nj_net T P P' Q Q') {t : Nat} (ht : t < 8) (m : Int32) (hr : ¬ P t = 0) (h : post (nj_af P Q t m)) : wpY_after post (A, I, g, T, P', Q', F) (nI t) m := by
  have hi : vp_in (nI t) 8 := vp_in_nI ht (by omega)
  have hc : (nI t).toNatClampNeg = t := nI_clamp (by omega)
  unfold wpY_after
  dsimp only
  rw [hc]
  rcases hn t ht with ⟨_, e⟩ | ⟨_, e1, e2, e3⟩
  · exact absurd e hr
  · rw [e2, e3]
    exact ⟨hi, hi, h⟩
theorem nj_yp {post : SY → Prop} (hn : nj_net T P P' Q Q') (hQ : nj_R Q) {m d : Nat} (hm : m < 64) (hd : d < 64) (hF : nj_G F) (h : post (A, I, g, T, P', Q', nj_sp P Q m (nI (d + 1)) F 8)) : wpY_spread post (A, I, g, T, P', Q', F) (nI m) (nI d) := by
  unfold wpY_spread
  dsimp only
  refine loop_0 (fun n t D => wY_spread_2 post (nI m) (nI d) A I g n (nI t) T P' Q' D) (fun t D => D = nj_sp P Q m (nI (d + 1)) F t) 8 F rfl (fun n D e => ?_) (fun n t D ht e ih => ?_)
  · refine br_t nj_8e ?_
    rw [e]
    exact h
  · have hG : nj_G D := by rw [e]; exact nj_spG hQ hm (Or.inr ⟨d + 1, by omega, rfl⟩) hF t (by omega)
    obtain ⟨ha, en⟩ := nj_afe (P := P) hQ ht hm
    refine br_f (nj_8n ht) (nj_yc hn ht _ (nj_br (fun c => ?_) (fun c => nj_ya hn ht _ (nj_rdp (nj_clr c)).1 ?_)))
    · exact nm_r (nI_1 t) (ih _ (by show D = nj_st P Q m _ t _; rw [nj_stN c, e]))
    · refine nm_r (e' := nI (nj_an P Q t m)) (by rw [nj_af63 hQ ht hm, en]) ⟨vp_in_nI ha (by omega), ?_⟩
      rw [nI_clamp (by omega)]
      refine br_c (fun b => ?_) (fun b => ?_)
      · have b' := (nj_vle (hG.1 _)).mp b
        exact ⟨vp_in_nI ha (by omega), vp_in_nI ha (by omega), nm_r nj_same (nm_r (nI_1 t) (ih _ (by show D = nj_st P Q m _ t _; rw [nj_stO (by rw [← e]; exact b'), e])))⟩
      · have b' : D (nj_an P Q t m) = -1 := Classical.byContradiction (fun z => b ((nj_vle (hG.1 _)).mpr z))
        refine ⟨vp_in_nI ha (by omega), nm_r ?_ (nm_r (nI_1 t) (ih _ (nj_stY c (by rw [← e]; exact b')).symm))⟩
        rw [nI_1, e]
end
end
section
def nj_in (a b : Bool) (G : Nat → Bool) (t : Nat) : Bool := !(a || (b && nj_any G t))
theorem nj_inF {a b : Bool} {G : Nat → Bool} {t : Nat} (h : b = false ∨ G t = false) : nj_in a b G (t + 1) = nj_in a b G t := by
  show (!(a || (b && (nj_any G t || G t)))) = (!(a || (b && nj_any G t)))
  rcases h with h | h
  · rw [h, Bool.false_and, Bool.false_and]
  · rw [h, Bool.or_false]
theorem nj_inT {a b : Bool} {G : Nat → Bool} {t : Nat} (h : b = true) (h2 : G t = true) : nj_in a b G (t + 1) = false := by
  show (!(a || (b && (nj_any G t || G t)))) = false
  rw [h, h2, Bool.or_true, Bool.and_true, Bool.or_true]
  rfl
section
variable {A I g : Int32} {T P P' Q Q' F : Nat → Int32}
theorem nj_ys {post : Int32 → SY → Prop} (hn : nj_net T P P' Q Q') (hQ : nj_R Q) {i : Nat} (hi : i < 64) (hF : nj_Z F) {D : Nat → Int32} (eD : D = nj_D P Q i) (h : post (nj_b (nj_sf P Q D)) (A, nI i, g, T, P', Q', D)) : wpY_search post (A, nI i, g, T, P', Q', F) := by
  have hD : nj_G D := by rw [eD]; exact nj_DG hQ i
  unfold wpY_search
  dsimp only
  refine loop_0 (fun n m E => wY_search_2 post A (nI i) g n (nI m) T P' Q' E) (fun m E => E = nj_fy i F m) 64 F (nj_fy0 i F).symm (fun n E e => ?_) (fun n m E hm e ih => ?_)
  rotate_left
  · refine br_f (nj_64n hm) ?_
    by_cases z : m = i
    · refine br_t (congrArg nI z) ⟨vp_in_nI hm (by omega), nm_r ?_ (nm_r (nI_1 m) (ih _ (nj_fyS i F m)))⟩
      rw [nI_clamp (by omega), e, if_pos z]
    · refine br_f (fun y => z ((nI_eq (by omega) (by omega)).mp y)) ⟨vp_in_nI hm (by omega), nm_r ?_ (nm_r (nI_1 m) (ih _ (nj_fyS i F m)))⟩
      rw [nI_clamp (by omega), e, if_neg z]
  · refine br_t nj_64e ?_
    rw [e, nj_fyE hF]
    refine loop_0 (fun n d E => wY_search_35 post n (nI d) A (nI i) g T P' Q' E) (fun d E => E = nj_al P Q (nj_0 i) d) 64 (nj_0 i) rfl (fun n E e => ?_) (fun n d E hd e ih => ?_)
    rotate_left
    · have hG : nj_G E := by rw [e]; exact nj_alG hQ (nj_0G i) d (by omega)
      refine br_f (nj_64n hd) ?_
      refine loop_0 (fun k m F => wY_search_43 post (wY_search_35 post n) (nI d) k (nI m) A (nI i) g T P' Q' F) (fun m F => F = nj_rw P Q d E m) 64 E rfl (fun k F f => ?_) (fun k m F hm f jh => ?_)
      · exact br_t nj_64e (nm_r (nI_1 d) (ih _ (by rw [f, e]; rfl)))
      · have hF : nj_G F := by rw [f]; exact nj_rwG hQ hd hG m (by omega)
        refine br_f (nj_64n hm) ⟨vp_in_nI hm (by omega), br_c (fun z => ?_) (fun z => ?_)⟩
        · rw [nI_clamp (by omega)] at z
          exact nj_yp hn hQ hm hd hF (nm_r (nI_1 m) (jh _ (by rw [nj_rwY (by rw [← f]; exact z), f])))
        · rw [nI_clamp (by omega)] at z
          exact nm_r (nI_1 m) (jh _ (by rw [nj_rwN (by rw [← f]; exact z), f]))
    · refine br_t nj_64e ?_
      have eE : E = D := by rw [e, eD]; rfl
      rw [eE]
      refine loop_0 (fun n m x => wY_search_81 post A (nI i) g T P' Q' D n x (nI m)) (fun m x => x = nj_b (!(nj_any (fun m => !(decide (D m = -1)) && nj_cs P Q m) m))) 64 1 rfl (fun n x e => ?_) (fun n m x hm e ih => ?_)
      · refine br_t nj_64e ?_
        rw [e]
        exact ⟨nj_bn _, h⟩
      · refine br_f (nj_64n hm) ?_
        refine loop_0 (fun k t y => wY_search_89 post (wY_search_81 post A (nI i) g T P' Q' D n) (nI m) A (nI i) g T P' Q' D k y (nI t)) (fun t y => y = nj_b (nj_in (nj_any (fun m => !(decide (D m = -1)) && nj_cs P Q m) m) (!(decide (D m = -1))) (fun t => nj_rd P t (nI m) && !(nj_cl P Q t (nI m))) t)) 8 x ?_ (fun k y f => ?_) (fun k t y ht f jh => ?_)
        · rw [e]
          show _ = nj_b (!(_ || (_ && false)))
          rw [Bool.and_false, Bool.or_false]
        · exact br_t nj_8e (nm_r (nI_1 m) (ih _ f))
        · refine br_f (nj_8n ht) ⟨vp_in_nI hm (by omega), ?_⟩
          rw [nI_clamp (by omega)]
          refine br_c (fun z => ?_) (fun z => nj_yr hn ht _ (nj_br (fun c => ?_) (fun c => nj_yc hn ht _ (nj_br (fun b => ?_) (fun b => ?_)))))
          · refine nm_r (nI_1 t) (jh _ ?_)
            rw [nj_inF (Or.inl (by rw [decide_eq_true ((nj_vlt (hD.1 m)).mp z)]; rfl))]
            exact f
          · refine nm_r (nI_1 t) (jh _ ?_)
            rw [nj_inF (Or.inr (by (try dsimp only); rw [c]; rfl))]
            exact f
          · refine nm_r (nI_1 t) (jh _ ?_)
            rw [nj_inT (by rw [decide_eq_false (fun y => z ((nj_vlt (hD.1 m)).mpr y))]; rfl) (by (try dsimp only); rw [c, b]; rfl)]
            rfl
          · refine nm_r (nI_1 t) (jh _ ?_)
            rw [nj_inF (Or.inr (by (try dsimp only); rw [c, b]; rfl))]
            exact f
end
end
section
section
variable {A I g s : Int32} {P Q E : Nat → Int32}
theorem nj_xl {post : Int32 → Prop} (l d : Int32) (h : post (nj_ls l d)) : wpX_lesser post l d := by
  unfold wpX_lesser
  unfold nj_ls at h
  by_cases z : l = -1
  · rw [if_pos (Or.inl z)] at h
    exact br_t z h
  · by_cases y : d < l
    · rw [if_pos (Or.inr y)] at h
      exact br_f z (br_f (Int32.not_le.mpr y) h)
    · rw [if_neg (fun w => w.elim z y)] at h
      exact br_f z (br_t (Int32.not_lt.mp y) h)
theorem nj_xv {post : Int32 → Prop} (c : Int32) (h : post (nj_mn (fun m => !(decide (E m = -1)) && decide (nI m &&& c = c)) E 64)) : wpX_covers post (A, I, g, s, P, Q, E) c := by
  unfold wpX_covers
  dsimp only
  refine loop_0 (fun n m x => wX_covers_4 post c A I g s P Q E n x (nI m)) (fun m x => x = nj_mn (fun m => !(decide (E m = -1)) && decide (nI m &&& c = c)) E m) 64 (-1) rfl (fun n x e => ?_) (fun n m x hm e ih => ?_)
  · refine br_t nj_64e ?_
    rw [e]
    exact h
  · refine br_f (nj_64n hm) (nj_xi hm (nj_br (fun z => ?_) (fun z => br_c (fun y => ⟨vp_in_nI hm (by omega), ?_⟩) (fun y => ?_))))
    · refine nm_r (nI_1 m) (ih _ ?_)
      rw [nj_mnF (by (try dsimp only); rw [z]; rfl)]
      exact e
    · rw [nI_clamp (by omega)]
      refine nj_xl _ _ (nm_r (nI_1 m) (ih _ ?_))
      rw [nj_mnT (by (try dsimp only); rw [z, decide_eq_true y]; rfl), e]
    · refine nm_r (nI_1 m) (ih _ ?_)
      rw [nj_mnF (by (try dsimp only); rw [decide_eq_false y, Bool.and_false])]
      exact e
theorem nj_xk {post : Int32 → Prop} (h : post (nj_mn (fun m => !(decide (E m = -1)) && nj_dd P m) E 64)) : wpX_deadlock post (A, I, g, s, P, Q, E) := by
  unfold wpX_deadlock
  dsimp only
  refine loop_0 (fun n m x => wX_deadlock_4 post A I g s P Q E n x (nI m)) (fun m x => x = nj_mn (fun m => !(decide (E m = -1)) && nj_dd P m) E m) 64 (-1) rfl (fun n x e => ?_) (fun n m x hm e ih => ?_)
  · refine br_t nj_64e ?_
    rw [e]
    exact h
  · refine br_f (nj_64n hm) (nj_xi hm (nj_br (fun z => ?_) (fun z => nj_xd m (nj_br (fun y => ?_) (fun y => ⟨vp_in_nI hm (by omega), ?_⟩)))))
    · refine nm_r (nI_1 m) (ih _ ?_)
      rw [nj_mnF (by (try dsimp only); rw [z]; rfl)]
      exact e
    · refine nm_r (nI_1 m) (ih _ ?_)
      rw [nj_mnF (by (try dsimp only); rw [y, Bool.and_false])]
      exact e
    · rw [nI_clamp (by omega)]
      refine nj_xl _ _ (nm_r (nI_1 m) (ih _ ?_))
      rw [nj_mnT (by (try dsimp only); rw [z, y]; rfl), e]
theorem nj_xg {post : Int32 → Prop} (h : post (nj_ct (fun m => !(decide (E m = -1))) 64)) : wpX_markings post (A, I, g, s, P, Q, E) := by
  unfold wpX_markings
  dsimp only
  refine loop_0 (fun n m x => wX_markings_4 post A I g s P Q E n x (nI m)) (fun m x => x = nj_ct (fun m => !(decide (E m = -1))) m) 64 0 rfl (fun n x e => ?_) (fun n m x hm e ih => ?_)
  · refine br_t nj_64e ?_
    rw [e]
    exact h
  · refine br_f (nj_64n hm) (nj_xi hm (nj_br (fun z => ?_) (fun z => ?_)))
    · refine nm_r (nI_1 m) (ih _ ?_)
      rw [nj_ctF z]
      exact e
    · refine nm_e (nm_r (nI_1 m) (ih _ ?_))
      rw [nj_ctT z, e]
theorem nj_xnum {post : Int32 → Prop} {t : Nat} (ht : t < 8) (h : post 1) : wpX_isNumber post (A, I, g, s, P, Q, E) (nI t) := by
  unfold wpX_isNumber
  dsimp only
  exact br_f (nI_pos (by omega)) (br_f (nj_8n ht) h)
theorem nj_xnumo {post : Int32 → Prop} {t : Int32} (ht : t < 0 ∨ nI 8 ≤ t) (h : post 0) : wpX_isNumber post (A, I, g, s, P, Q, E) t := by
  unfold wpX_isNumber
  dsimp only
  by_cases z : t < 0
  · exact br_t z h
  · exact br_f z (br_t (ht.resolve_left z) h)
theorem nj_xpr {post : Int32 → Prop} {t : Nat} (ht : t < 8) (h : post (nj_b (!(decide (P t = 0))))) : wpX_isPresent post (A, I, g, s, P, Q, E) (nI t) := by
  unfold wpX_isPresent
  dsimp only
  refine nj_xnum ht (br_f (by decide) ⟨vp_in_nI ht (by omega), ?_⟩)
  rw [nI_clamp (by omega)]
  refine br_c (fun z => ?_) (fun z => ?_)
  · rw [decide_eq_true z] at h; exact h
  · rw [decide_eq_false z] at h; exact h
theorem nj_xpro {post : Int32 → Prop} {t : Int32} (ht : t < 0 ∨ nI 8 ≤ t) (h : post 0) : wpX_isPresent post (A, I, g, s, P, Q, E) t := by
  unfold wpX_isPresent
  dsimp only
  exact nj_xnumo ht (br_t rfl h)
theorem nj_xo1 {post : Int32 → Prop} (c : Int32) (h : post (nj_b (nj_xo c))) : wpX_hasOneOrTwoBits post c := by
  unfold wpX_hasOneOrTwoBits
  unfold nj_xo at h
  refine nm_e (nm_e (br_c (fun z => ?_) (fun z => br_c (fun y => ?_) (fun y => ?_))))
  · rw [decide_eq_true z] at h; exact h
  · rw [decide_eq_false z, decide_eq_true y] at h; exact h
  · rw [decide_eq_false z, decide_eq_false y] at h; exact h
theorem nj_xop {post : Int32 → Prop} (c : Int32) (h : post (nj_b (decide (c &&& (A ^^^ (-1)) = 0)))) : wpX_hasOnlyPlaces post (A, I, g, s, P, Q, E) c := by
  unfold wpX_hasOnlyPlaces
  dsimp only
  refine br_c (fun z => ?_) (fun z => ?_)
  · rw [decide_eq_true z] at h; exact h
  · rw [decide_eq_false z] at h; exact h
theorem nj_xas {post : Int32 → Prop} (c : Int32) (h : post (nj_b (nj_ax A c))) : wpX_isArcSet post (A, I, g, s, P, Q, E) c := by
  unfold wpX_isArcSet
  dsimp only
  unfold nj_ax at h
  refine nj_xop c (nj_br (fun z => ?_) (fun z => nj_xo1 c (nj_br (fun y => ?_) (fun y => ?_))))
  · rw [z] at h; exact h
  · rw [z, y] at h; exact h
  · rw [z, y] at h; exact h
end
end
section
section
variable {A I g : Int32} {T P P' Q Q' F : Nat → Int32}
theorem nj_yl {post : Int32 → Prop} {l : Int32} (hl : nj_w l) (d : Int32) (h : post (nj_ls l d)) : wpY_lesser post (A, I, g, T, P', Q', F) l d := by
  unfold wpY_lesser
  dsimp only
  unfold nj_ls at h
  by_cases z : l = -1
  · rw [if_pos (Or.inl z)] at h
    exact br_t ((nj_wlt hl).mpr z) h
  · have z' : ¬ l < 0 := fun y => z ((nj_wlt hl).mp y)
    by_cases y : d < l
    · rw [if_pos (Or.inr y)] at h
      exact br_f z' (br_f (Int32.not_le.mpr y) h)
    · rw [if_neg (fun w => w.elim z y)] at h
      exact br_f z' (br_t (Int32.not_lt.mp y) h)
theorem nj_yd {post : Int32 → Prop} (hn : nj_net T P P' Q Q') (m : Nat) (h : post (nj_b (nj_dd P m))) : wpY_dead post (A, I, g, T, P', Q', F) (nI m) := by
  unfold wpY_dead
  dsimp only
  unfold nj_dd at h
  refine loop_0 (fun n t x => wY_dead_4 post (nI m) A I g T P' Q' F n x (nI t)) (fun t x => x = nj_b (!(nj_any (fun t => nj_rd P t (nI m)) t))) 8 1 rfl (fun n x e => ?_) (fun n t x ht e ih => ?_)
  · refine br_t nj_8e ?_
    rw [e]
    exact ⟨nj_bn _, h⟩
  · refine br_f (nj_8n ht) ?_
    rw [e]
    refine nj_br (fun z => ?_) (fun z => nj_yr hn ht _ (nj_br (fun y => ?_) (fun y => ?_)))
    · refine nm_r (nI_1 t) (ih _ ?_)
      show 0 = nj_b (!(_ || nj_rd P t (nI m)))
      rw [Bool.not_or, z]
      rfl
    · refine nm_r (nI_1 t) (ih _ ?_)
      show 1 = nj_b (!(_ || nj_rd P t (nI m)))
      rw [Bool.not_or, z, y]
      rfl
    · refine nm_r (nI_1 t) (ih _ ?_)
      show 0 = nj_b (!(_ || nj_rd P t (nI m)))
      rw [Bool.not_or, z, y]
      rfl
theorem nj_yv {post : Int32 → SY → Prop} (hn : nj_net T P P' Q Q') (hQ : nj_R Q) {i : Nat} (hi : i < 64) (hF : nj_Z F) {D : Nat → Int32} (eD : D = nj_D P Q i) (c : Int32) (h0 : nj_sf P Q D = false → post (-1) (A, nI i, g, T, P', Q', D)) (h1 : nj_sf P Q D = true → post (nj_mn (fun m => !(decide (D m = -1)) && decide (nI m &&& c = c)) D 64) (A, nI i, g, T, P', Q', D)) : wpY_covers post (A, nI i, g, T, P', Q', F) c := by
  have hD : nj_G D := by rw [eD]; exact nj_DG hQ i
  unfold wpY_covers
  dsimp only
  refine nj_ys hn hQ hi hF eD (nj_br (fun z => h0 z) (fun z => ?_))
  refine loop_0 (fun n m x => wY_covers_13 post c A (nI i) g T P' Q' D n x (nI m)) (fun m x => x = nj_mn (fun m => !(decide (D m = -1)) && decide (nI m &&& c = c)) D m) 64 (-1) rfl (fun n x e => ?_) (fun n m x hm e ih => ?_)
  · refine br_t nj_64e ?_
    rw [e]
    exact h1 z
  · refine br_f (nj_64n hm) ⟨vp_in_nI hm (by omega), ?_⟩
    rw [nI_clamp (by omega)]
    refine br_c (fun y => ?_) (fun y => br_c (fun w => ⟨vp_in_nI hm (by omega), ?_⟩) (fun w => ?_))
    · refine nm_r (nI_1 m) (ih _ ?_)
      rw [nj_mnF (by (try dsimp only); rw [decide_eq_true ((nj_vlt (hD.1 m)).mp y)]; rfl)]
      exact e
    · refine nj_yl (by rw [e]; exact nj_mnw (fun j => nj_vw (hD.1 j)) m) _ (nm_r (nI_1 m) (ih _ ?_))
      rw [nj_mnT (by (try dsimp only); rw [decide_eq_false (fun v => y ((nj_vlt (hD.1 m)).mpr v)), decide_eq_true w]; rfl), e]
    · refine nm_r (nI_1 m) (ih _ ?_)
      rw [nj_mnF (by (try dsimp only); rw [decide_eq_false w, Bool.and_false])]
      exact e
theorem nj_yk {post : Int32 → SY → Prop} (hn : nj_net T P P' Q Q') (hQ : nj_R Q) {i : Nat} (hi : i < 64) (hF : nj_Z F) {D : Nat → Int32} (eD : D = nj_D P Q i) (h0 : nj_sf P Q D = false → post (-1) (A, nI i, g, T, P', Q', D)) (h1 : nj_sf P Q D = true → post (nj_mn (fun m => !(decide (D m = -1)) && nj_dd P m) D 64) (A, nI i, g, T, P', Q', D)) : wpY_deadlock post (A, nI i, g, T, P', Q', F) := by
  have hD : nj_G D := by rw [eD]; exact nj_DG hQ i
  unfold wpY_deadlock
  dsimp only
  refine nj_ys hn hQ hi hF eD (nj_br (fun z => h0 z) (fun z => ?_))
  refine loop_0 (fun n m x => wY_deadlock_13 post A (nI i) g T P' Q' D n x (nI m)) (fun m x => x = nj_mn (fun m => !(decide (D m = -1)) && nj_dd P m) D m) 64 (-1) rfl (fun n x e => ?_) (fun n m x hm e ih => ?_)
  · refine br_t nj_64e ?_
    rw [e]
    exact h1 z
  · refine br_f (nj_64n hm) ⟨vp_in_nI hm (by omega), ?_⟩
    rw [nI_clamp (by omega)]
    refine br_c (fun y => ?_) (fun y => nj_yd hn m (nj_br (fun w => ?_) (fun w => ⟨vp_in_nI hm (by omega), ?_⟩)))
    · refine nm_r (nI_1 m) (ih _ ?_)
      rw [nj_mnF (by (try dsimp only); rw [decide_eq_true ((nj_vlt (hD.1 m)).mp y)]; rfl)]
      exact e
    · refine nm_r (nI_1 m) (ih _ ?_)
      rw [nj_mnF (by (try dsimp only); rw [w, Bool.and_false])]
      exact e
    · refine nj_yl (by rw [e]; exact nj_mnw (fun j => nj_vw (hD.1 j)) m) _ (nm_r (nI_1 m) (ih _ ?_))
      rw [nj_mnT (by (try dsimp only); rw [decide_eq_false (fun v => y ((nj_vlt (hD.1 m)).mpr v)), w]; rfl), e]
theorem nj_yg {post : Int32 → SY → Prop} (hn : nj_net T P P' Q Q') (hQ : nj_R Q) {i : Nat} (hi : i < 64) (hF : nj_Z F) {D : Nat → Int32} (eD : D = nj_D P Q i) (h0 : nj_sf P Q D = false → post 0 (A, nI i, g, T, P', Q', D)) (h1 : nj_sf P Q D = true → post (nj_ct (fun m => !(decide (D m = -1))) 64) (A, nI i, g, T, P', Q', D)) : wpY_markings post (A, nI i, g, T, P', Q', F) := by
  have hD : nj_G D := by rw [eD]; exact nj_DG hQ i
  unfold wpY_markings
  dsimp only
  refine nj_ys hn hQ hi hF eD (nj_br (fun z => h0 z) (fun z => ?_))
  refine loop_0 (fun n m x => wY_markings_13 post A (nI i) g T P' Q' D n x (nI m)) (fun m x => x = nj_ct (fun m => !(decide (D m = -1))) m) 64 0 rfl (fun n x e => ?_) (fun n m x hm e ih => ?_)
  · refine br_t nj_64e ?_
    rw [e]
    exact h1 z
  · refine br_f (nj_64n hm) ⟨vp_in_nI hm (by omega), ?_⟩
    rw [nI_clamp (by omega)]
    refine br_c (fun y => ?_) (fun y => ?_)
    · refine nm_e (nm_r (nI_1 m) (ih _ ?_))
      rw [nj_ctF (by rw [decide_eq_true ((nj_vlt (hD.1 m)).mp y)]; rfl), Int32.add_zero]
      exact e
    · refine nm_e (nm_r (nI_1 m) (ih _ ?_))
      rw [nj_ctT (by rw [decide_eq_false (fun v => y ((nj_vlt (hD.1 m)).mpr v))]; rfl), e]
theorem nj_yf {post : Int32 → SY → Prop} (hn : nj_net T P P' Q Q') (hQ : nj_R Q) {i : Nat} (hi : i < 64) (hF : nj_Z F) {D : Nat → Int32} (eD : D = nj_D P Q i) (t : Int32) (c : Nat → Bool) (hc : ∀ m, m < 64 → ∀ q : Int32 → Prop, q (nj_b (c m)) → wpY_clear q (A, nI i, g, T, P', Q', D) t (nI m)) (h0 : nj_sf P Q D = false → post (-1) (A, nI i, g, T, P', Q', D)) (h1 : nj_sf P Q D = true → post (nj_mn (fun m => !(decide (D m = -1)) && c m) (fun m => D m + 1) 64) (A, nI i, g, T, P', Q', D)) : wpY_firstFiring post (A, nI i, g, T, P', Q', F) t := by
  have hD : nj_G D := by rw [eD]; exact nj_DG hQ i
  have hw : ∀ n, nj_w (nj_mn (fun m => !(decide (D m = -1)) && c m) (fun m => D m + 1) n) := by
    intro n
    rw [nj_mnu hD.1 (fun j hj => by
      rw [Bool.and_eq_true] at hj
      exact nj_nn hj.1)]
    unfold nj_up
    split
    · exact Or.inl rfl
    · rcases nj_mnv (f := fun m => !(decide (D m = -1)) && c m) hD.1 n with e | ⟨k, hk, e⟩
      · rename_i z
        exact absurd e z
      · rw [e, nI_1]
        exact Or.inr ⟨k + 1, by omega, rfl⟩
  unfold wpY_firstFiring
  dsimp only
  refine nj_ys hn hQ hi hF eD (nj_br (fun z => h0 z) (fun z => ?_))
  refine loop_0 (fun n m x => wY_firstFiring_13 post t A (nI i) g T P' Q' D n x (nI m)) (fun m x => x = nj_mn (fun m => !(decide (D m = -1)) && c m) (fun m => D m + 1) m) 64 (-1) rfl (fun n x e => ?_) (fun n m x hm e ih => ?_)
  · refine br_t nj_64e ?_
    rw [e]
    exact h1 z
  · refine br_f (nj_64n hm) ⟨vp_in_nI hm (by omega), ?_⟩
    rw [nI_clamp (by omega)]
    refine br_c (fun y => ?_) (fun y => hc m hm _ (nj_br (fun w => ?_) (fun w => ⟨vp_in_nI hm (by omega), ?_⟩)))
    · refine nm_r (nI_1 m) (ih _ ?_)
      rw [nj_mnF (by (try dsimp only); rw [decide_eq_true ((nj_vlt (hD.1 m)).mp y)]; rfl)]
      exact e
    · refine nm_r (nI_1 m) (ih _ ?_)
      rw [nj_mnF (by (try dsimp only); rw [w, Bool.and_false])]
      exact e
    · refine nj_yl (by rw [e]; exact hw m) _ (nm_r (nI_1 m) (ih _ ?_))
      rw [nj_mnT (by (try dsimp only); rw [decide_eq_false (fun v => y ((nj_vlt (hD.1 m)).mpr v)), w]; rfl), e]
theorem nj_yt {post : Int32 → SY → Prop} (hn : nj_net T P P' Q Q') (hQ : nj_R Q) {i : Nat} (hi : i < 64) (hF : nj_Z F) {D : Nat → Int32} (eD : D = nj_D P Q i) (t u : Int32) (htu : ¬ t = u) (rt ru : Nat → Bool) (e : Bool) (ht : ∀ m, m < 64 → ∀ q : Int32 → Prop, q (nj_b (rt m)) → wpY_ready q (A, nI i, g, T, P', Q', D) t (nI m)) (hu : ∀ m, m < 64 → ∀ q : Int32 → Prop, q (nj_b (ru m)) → wpY_ready q (A, nI i, g, T, P', Q', D) u (nI m)) (he : ∀ m, rt m = true → ru m = true → vp_in t 8 ∧ vp_in u 8 ∧ decide (P' t.toNatClampNeg &&& P' u.toNatClampNeg = 0) = e) (h0 : nj_sf P Q D = false → post 0 (A, nI i, g, T, P', Q', D)) (h1 : nj_sf P Q D = true → post (nj_b (nj_any (fun m => !(decide (D m = -1)) && (rt m && (ru m && e))) 64)) (A, nI i, g, T, P', Q', D)) : wpY_together post (A, nI i, g, T, P', Q', F) t u := by
  have hD : nj_G D := by rw [eD]; exact nj_DG hQ i
  unfold wpY_together
  dsimp only
  refine br_f htu (nj_ys hn hQ hi hF eD (nj_br (fun z => h0 z) (fun z => ?_)))
  refine loop_0 (fun n m x => wY_together_19 post t u A (nI i) g T P' Q' D n x (nI m)) (fun m x => x = nj_b (nj_any (fun m => !(decide (D m = -1)) && (rt m && (ru m && e))) m)) 64 0 rfl (fun n x e => ?_) (fun n m x hm f ih => ?_)
  · refine br_t nj_64e ?_
    rw [e]
    exact ⟨nj_bn _, h1 z⟩
  · have kF : ∀ (c : Bool), c = false → (!(decide (D m = -1)) && (rt m && (ru m && e))) = c → x = nj_b (nj_any (fun m => !(decide (D m = -1)) && (rt m && (ru m && e))) (m + 1)) := by
      intro c hc h
      rw [f]
      show _ = nj_b (_ || (!(decide (D m = -1)) && (rt m && (ru m && e))))
      rw [h, hc, Bool.or_false]
    refine br_f (nj_64n hm) ⟨vp_in_nI hm (by omega), ?_⟩
    rw [nI_clamp (by omega)]
    refine br_c (fun y => ?_) (fun y => ht m hm _ (nj_br (fun w => ?_) (fun w => hu m hm _ (nj_br (fun v => ?_) (fun v => ⟨(he m w v).1, (he m w v).2.1, ?_⟩)))))
    · exact nm_r (nI_1 m) (ih _ (kF _ rfl (by rw [decide_eq_true ((nj_vlt (hD.1 m)).mp y)]; rfl)))
    · exact nm_r (nI_1 m) (ih _ (kF _ rfl (by rw [w, Bool.false_and, Bool.and_false])))
    · exact nm_r (nI_1 m) (ih _ (kF _ rfl (by rw [v, Bool.false_and, Bool.and_false, Bool.and_false])))
    · have he2 := (he m w v).2.2
      refine br_c (fun a => ?_) (fun a => ?_)
      · refine nm_r (nI_1 m) (ih _ ?_)
        rw [decide_eq_true a] at he2
        rw [nj_anyT (j := m) (by (try dsimp only); rw [decide_eq_false (fun b => y ((nj_vlt (hD.1 m)).mpr b)), w, v, ← he2]; rfl) (m + 1) (by omega)]
        rfl
      · rw [decide_eq_false a] at he2
        exact nm_r (nI_1 m) (ih _ (kF _ rfl (by rw [← he2, Bool.and_false, Bool.and_false, Bool.and_false])))
end
end
section
theorem nj_mna {f : Nat → Bool} {D : Nat → Int32} (hf : ∀ j, f j = true → ¬ D j = -1) (n : Nat) : (nj_mn f D n = -1 → nj_any f n = false) ∧ (¬ nj_mn f D n = -1 → nj_any f n = true) := by
  constructor
  · intro h
    refine nj_anyF n (fun j hj => ?_)
    cases e : f j
    · rfl
    · exact absurd h (nj_mnY e (hf j e) n hj (fun k _ z => hf k z))
  · intro h
    cases e : nj_any f n
    · exact absurd (nj_mn0 n (fun j hj => nj_anyE e hj)) h
    · rfl
def nj_fs (f : Nat → Bool) : Nat → Nat → Int32
  | 0, _ => -1
  | d + 1, m => if f m = true then nI m else nj_fs f d (m + 1)
theorem nj_fsT {f : Nat → Bool} {d m : Nat} (h : f m = true) : nj_fs f (d + 1) m = nI m := by
  show (if f m = true then nI m else nj_fs f d (m + 1)) = _
  rw [if_pos h]
theorem nj_fsF {f : Nat → Bool} {d m : Nat} (h : f m = false) : nj_fs f (d + 1) m = nj_fs f d (m + 1) := by
  show (if f m = true then nI m else nj_fs f d (m + 1)) = _
  rw [if_neg (by rw [h]; decide)]
def nj_en (P Q : Nat → Int32) (g : Int32) : Nat → Int32
  | 0 => 0
  | t + 1 => if nj_cl P Q t g = true then nj_en P Q g t ||| ((1 : Int32) <<< (nI t &&& 31)) else nj_en P Q g t
theorem nj_enT {P Q : Nat → Int32} {g : Int32} {t : Nat} (h : nj_cl P Q t g = true) : nj_en P Q g (t + 1) = nj_en P Q g t ||| ((1 : Int32) <<< (nI t &&& 31)) := by
  show (if nj_cl P Q t g = true then nj_en P Q g t ||| ((1 : Int32) <<< (nI t &&& 31)) else nj_en P Q g t) = _
  rw [if_pos h]
theorem nj_enF {P Q : Nat → Int32} {g : Int32} {t : Nat} (h : nj_cl P Q t g = false) : nj_en P Q g (t + 1) = nj_en P Q g t := by
  show (if nj_cl P Q t g = true then nj_en P Q g t ||| ((1 : Int32) <<< (nI t &&& 31)) else nj_en P Q g t) = _
  rw [if_neg (by rw [h]; decide)]
section
variable {A I g s : Int32} {P Q E : Nat → Int32}
theorem nj_xdm {post : Int32 → Prop} (l : Int32) : ∀ d m, m + d = 64 → post (nj_fs (fun m => decide (E m = l) && nj_dd P m) d m) → wX_deadMarking_14 post l A I g s P Q E (d + 1) (nI m) := by
  intro d
  induction d with
  | zero =>
    intro m hm h
    have e : m = 64 := by omega
    subst e
    exact br_t nj_64e h
  | succ d ih =>
    intro m hm h
    have hm' : m < 64 := by omega
    refine br_f (nj_64n hm') ⟨vp_in_nI hm' (by omega), ?_⟩
    rw [nI_clamp (by omega)]
    refine br_c (fun z => nj_xd m (nj_br (fun y => ?_) (fun y => ?_))) (fun z => ?_)
    · rw [nj_fsF (by (try dsimp only); rw [y, Bool.and_false])] at h
      exact nm_r (nI_1 m) (ih (m + 1) (by omega) h)
    · rw [nj_fsT (by (try dsimp only); rw [decide_eq_true z, y]; rfl)] at h
      exact h
    · rw [nj_fsF (by (try dsimp only); rw [decide_eq_false z, Bool.false_and])] at h
      exact nm_r (nI_1 m) (ih (m + 1) (by omega) h)
theorem nj_xen {post : Int32 → Prop} (h : post (nj_en P Q g 8)) : wpX_enabled post (A, I, g, s, P, Q, E) := by
  unfold wpX_enabled
  dsimp only
  refine loop_0 (fun n t x => wX_enabled_4 post A I g s P Q E n x (nI t)) (fun t x => x = nj_en P Q g t) 8 0 rfl (fun n x e => ?_) (fun n t x ht e ih => ?_)
  · refine br_t nj_8e ?_
    rw [e]
    exact h
  · refine br_f (nj_8n ht) (nj_xc ht _ (nj_br (fun z => ?_) (fun z => ?_)))
    · refine nm_r (nI_1 t) (ih _ ?_)
      rw [nj_enF z]
      exact e
    · refine nm_e (nm_r (nI_1 t) (ih _ ?_))
      rw [nj_enT z, e]
end
section
variable {A I g : Int32} {T P P' Q Q' F : Nat → Int32}
theorem nj_ydm {post : Int32 → SY → Prop} (hn : nj_net T P P' Q Q') (l : Int32) (hl : ¬ l < 0) : ∀ d m, m + d = 64 → post (nj_fs (fun m => decide (F m = l) && nj_dd P m) d m) (A, I, g, T, P', Q', F) → wY_deadMarking_7 post l A I g T P' Q' F (d + 1) (nI m) := by
  intro d
  induction d with
  | zero =>
    intro m hm h
    have e : m = 64 := by omega
    subst e
    exact br_t nj_64e h
  | succ d ih =>
    intro m hm h
    have hm' : m < 64 := by omega
    refine br_f (nj_64n hm') (br_f hl ⟨vp_in_nI hm' (by omega), ?_⟩)
    rw [nI_clamp (by omega)]
    refine br_c (fun z => nj_yd hn m (nj_br (fun y => ?_) (fun y => ?_))) (fun z => ?_)
    · rw [nj_fsF (by (try dsimp only); rw [y, Bool.and_false])] at h
      exact nm_r (nI_1 m) (ih (m + 1) (by omega) h)
    · rw [nj_fsT (by (try dsimp only); rw [decide_eq_true z, y]; rfl)] at h
      exact h
    · rw [nj_fsF (by (try dsimp only); rw [decide_eq_false z, Bool.false_and])] at h
      exact nm_r (nI_1 m) (ih (m + 1) (by omega) h)
theorem nj_yen {post : Int32 → Prop} (hn : nj_net T P P' Q Q') (h : post (nj_en P Q g 8)) : wpY_enabled post (A, I, g, T, P', Q', F) := by
  unfold wpY_enabled
  dsimp only
  refine loop_0 (fun n t x => wY_enabled_4 post A I g T P' Q' F n x (nI t)) (fun t x => x = nj_en P Q g t) 8 0 rfl (fun n x e => ?_) (fun n t x ht e ih => ?_)
  · refine br_t nj_8e ?_
    rw [e]
    exact h
  · refine br_f (nj_8n ht) (nj_yc hn ht _ (nj_br (fun z => ?_) (fun z => ?_)))
    · refine nm_e (nm_r (nI_1 t) (ih _ ?_))
      rw [nj_enF z, e, Int32.or_zero]
    · refine nm_e (nm_r (nI_1 t) (ih _ ?_))
      rw [nj_enT z, e]
theorem nj_yo2 {post : Int32 → Prop} (c : Int32) (h : post (nj_b (nj_ay A c))) : wpY_oneOrTwo post (A, I, g, T, P', Q', F) c := by
  unfold wpY_oneOrTwo
  dsimp only
  unfold nj_ay nj_yo at h
  refine br_c (fun z => ?_) (fun z => ?_)
  · refine loop_0 (fun n p x => wY_oneOrTwo_17 post c A I g T P' Q' F n x (nI p)) (fun p x => x = nj_bits c p) 6 0 rfl (fun n x e => ?_) (fun n p x hp e ih => ?_)
    · refine br_t (by decide) ?_
      rw [e]
      refine br_c (fun y => ?_) (fun y => br_c (fun w => ?_) (fun w => ?_))
      · rw [decide_eq_true z, decide_eq_true y] at h; exact h
      · rw [decide_eq_true z, decide_eq_true w, Bool.or_true] at h; exact h
      · rw [decide_eq_true z, decide_eq_false y, decide_eq_false w] at h; exact h
    · refine br_f (nI_ge (b := 6) hp (by decide)) (nm_e (nm_r (nI_1 p) (ih _ ?_)))
      rw [e]
      rfl
  · rw [decide_eq_false z] at h; exact h
end
end
section
theorem nj_ft (b : Bool) : b = false ∨ b = true := by cases b <;> simp
theorem nj_netS {T P P' Q Q' : Nat → Int32} (h : nj_net T P P' Q Q') (j : Nat) {p : Int32} (q : Int32) (hp : ¬ p = 0) : nj_net (upd T j 1) (upd P j p) (upd P' j p) (upd Q j q) (upd Q' j q) := by
  intro t ht
  by_cases e : t = j
  · subst e
    rw [pk_us, pk_us, pk_us, pk_us, pk_us]
    exact Or.inr ⟨rfl, hp, rfl, rfl⟩
  · rw [pk_un e, pk_un e, pk_un e, pk_un e, pk_un e]
    exact h t ht
theorem nj_netD {T P P' Q Q' : Nat → Int32} (h : nj_net T P P' Q Q') (j : Nat) : nj_net (upd T j 0) (upd P j 0) P' (upd Q j 0) Q' := by
  intro t ht
  by_cases e : t = j
  · subst e
    rw [pk_us, pk_us]
    exact Or.inl ⟨rfl, rfl⟩
  · rw [pk_un e, pk_un e, pk_un e]
    exact h t ht
theorem nj_RS {Q : Nat → Int32} (h : nj_R Q) (j : Nat) {q : Int32} (hq : q &&& 63 = q) : nj_R (upd Q j q) := by
  intro t ht
  by_cases e : t = j
  · rw [e, pk_us]
    exact hq
  · rw [pk_un e]
    exact h t ht
theorem nj_count : ∀ c, 1 ≤ c → c ≤ 6 → (((1 : Int32) <<< (nI c &&& 31)) - 1) &&& 63 = ((1 : Int32) <<< (nI c &&& 31)) - 1 := by
  intro c h1 h6
  have H : ∀ c, c < 7 → (((1 : Int32) <<< (nI c &&& 31)) - 1) &&& 63 = ((1 : Int32) <<< (nI c &&& 31)) - 1 := by decide +kernel
  exact H c (by omega)
theorem nj_zf : nj_Z (fun _ => 0) := fun _ _ => rfl
theorem nj_net0 : nj_net (fun _ => 0) (fun _ => 0) (fun _ => 0) (fun _ => 0) (fun _ => 0) := fun _ _ => Or.inl ⟨rfl, rfl⟩
theorem nj_R0 : nj_R (fun _ => 0) := fun _ _ => by show (0 : Int32) &&& 63 = 0; decide
/-- X keeps the distances of its net, none of them where the net isn't safe; Y keeps the net alone -/
def i_Rel (_ : Nat) (u : SX) (v : SY) : Prop := ∃ (A : Int32) (i : Nat) (g : Int32) (P Q T P' Q' F D : Nat → Int32), D = nj_D P Q i ∧ nj_K A i P Q T P' Q' F ∧ u = (A, nI i, g, nj_b (nj_sf P Q D), P, Q, nj_E P Q D) ∧ v = (A, nI i, g, T, P', Q', F)
theorem nj_rel {k : Nat} {A : Int32} {i : Nat} {g : Int32} {P Q T P' Q' F D : Nat → Int32} (eD : D = nj_D P Q i) (hK : nj_K A i P Q T P' Q' F) : i_Rel k (A, nI i, g, nj_b (nj_sf P Q D), P, Q, nj_E P Q D) (A, nI i, g, T, P', Q', F) := ⟨A, i, g, P, Q, T, P', Q', F, D, eD, hK, rfl, rfl⟩
theorem nj_relD {k : Nat} {A : Int32} {i : Nat} {g : Int32} {P Q T P' Q' F D : Nat → Int32} (eD : D = nj_D P Q i) (hK : nj_K A i P Q T P' Q' F) : i_Rel k (A, nI i, g, nj_b (nj_sf P Q D), P, Q, nj_E P Q D) (A, nI i, g, T, P', Q', D) := nj_rel eD ⟨hK.1, hK.2.1, hK.2.2.1, hK.2.2.2.1, by rw [eD]; exact (nj_DG hK.2.2.1 i).2⟩
theorem i_up {k : Nat} {u : SX} {v : SY} (h : i_Rel k u v) : i_Rel (k + 4) u v := h
end
section
theorem i_vc_verdict {k : Nat} {u : SX} {v : SY} (I : i_Rel k u v) (hk : k + 4 ≤ 2050) : wpX_verdict (fun r => wpY_verdict (fun r' v' => r' = r ∧ i_Rel (k + 4) u v') v) u := by
  obtain ⟨A, i, g, P, Q, T, P', Q', F, D, eD, hK, rfl, rfl⟩ := I
  have J := nj_relD (k := k + 4) (g := g) eD hK
  obtain ⟨hA, hi, hQ, hn, hF⟩ := hK
  unfold wpX_verdict wpY_verdict
  dsimp only
  refine nj_br (fun z => ?_) (fun z => ?_)
  · exact nj_ys hn hQ hi hF eD (nj_br (fun y => ⟨rfl, J⟩) (fun y => absurd (z.symm.trans y) (by decide)))
  · exact nj_ys hn hQ hi hF eD (nj_br (fun y => absurd (z.symm.trans y) (by decide)) (fun y => ⟨rfl, J⟩))
theorem i_vc_distance {k : Nat} {u : SX} {v : SY} (I : i_Rel k u v) (hk : k + 4 ≤ 2050) (v1 : Int32) : wpX_distance (fun r => wpY_distance (fun r' v' => r' = r ∧ i_Rel (k + 4) u v') v v1) u v1 := by
  obtain ⟨A, i, g, P, Q, T, P', Q', F, D, eD, hK, rfl, rfl⟩ := I
  have J := nj_relD (k := k + 4) (g := g) eD hK
  obtain ⟨hA, hi, hQ, hn, hF⟩ := hK
  unfold wpX_distance wpY_distance
  dsimp only
  rcases pk_ix v1 (n := 64) (by omega) with h | h | ⟨j, hj, rfl⟩
  · exact br_t h (nj_ys hn hQ hi hF eD (nj_br (fun z => ⟨rfl, J⟩) (fun z => br_t h ⟨rfl, J⟩)))
  · have h0 : ¬ v1 < 0 := Int32.not_lt.mpr (Int32.le_trans (by decide) h)
    exact br_f h0 (br_f (Int32.not_lt.mpr h) (nj_ys hn hQ hi hF eD (nj_br (fun z => ⟨rfl, J⟩) (fun z => br_f h0 (br_t h ⟨rfl, J⟩)))))
  · have h0 : ¬ nI j < 0 := nI_pos (by omega)
    refine br_f h0 (br_t (nI_lt (b := 64) hj (by omega)) ⟨vp_in_nI hj (by omega), ?_⟩)
    rw [nI_clamp (by omega)]
    refine nj_ys hn hQ hi hF eD (nj_br (fun z => ⟨?_, J⟩) (fun z => br_f h0 (br_f (nj_64n hj) ⟨vp_in_nI hj (by omega), ?_, J⟩)))
    · rw [nj_Ef z, nj_NN hj]
    · rw [nj_Et z]
theorem i_vc_markings {k : Nat} {u : SX} {v : SY} (I : i_Rel k u v) (hk : k + 4 ≤ 2050) : wpX_markings (fun r => wpY_markings (fun r' v' => r' = r ∧ i_Rel (k + 4) u v') v) u := by
  obtain ⟨A, i, g, P, Q, T, P', Q', F, D, eD, hK, rfl, rfl⟩ := I
  have J := nj_relD (k := k + 4) (g := g) eD hK
  obtain ⟨hA, hi, hQ, hn, hF⟩ := hK
  refine nj_xg (nj_yg hn hQ hi hF eD (fun z => ⟨?_, J⟩) (fun z => ⟨?_, J⟩))
  · rw [nj_Ef z, nj_ct0 64 (fun j hj => by rw [nj_NN hj]; rfl)]
  · rw [nj_Et z]
theorem i_vc_covers {k : Nat} {u : SX} {v : SY} (I : i_Rel k u v) (hk : k + 4 ≤ 2050) (v1 : Int32) : wpX_covers (fun r => wpY_covers (fun r' v' => r' = r ∧ i_Rel (k + 4) u v') v v1) u v1 := by
  obtain ⟨A, i, g, P, Q, T, P', Q', F, D, eD, hK, rfl, rfl⟩ := I
  have J := nj_relD (k := k + 4) (g := g) eD hK
  obtain ⟨hA, hi, hQ, hn, hF⟩ := hK
  refine nj_xv v1 (nj_yv hn hQ hi hF eD v1 (fun z => ⟨?_, J⟩) (fun z => ⟨?_, J⟩))
  · rw [nj_Ef z, nj_mn0 64 (fun j hj => by rw [nj_NN hj]; rfl)]
  · rw [nj_Et z]
theorem i_vc_deadlock {k : Nat} {u : SX} {v : SY} (I : i_Rel k u v) (hk : k + 4 ≤ 2050) : wpX_deadlock (fun r => wpY_deadlock (fun r' v' => r' = r ∧ i_Rel (k + 4) u v') v) u := by
  obtain ⟨A, i, g, P, Q, T, P', Q', F, D, eD, hK, rfl, rfl⟩ := I
  have J := nj_relD (k := k + 4) (g := g) eD hK
  obtain ⟨hA, hi, hQ, hn, hF⟩ := hK
  refine nj_xk (nj_yk hn hQ hi hF eD (fun z => ⟨?_, J⟩) (fun z => ⟨?_, J⟩))
  · rw [nj_Ef z, nj_mn0 64 (fun j hj => by rw [nj_NN hj]; rfl)]
  · rw [nj_Et z]
theorem i_vc_deadMarking {k : Nat} {u : SX} {v : SY} (I : i_Rel k u v) (hk : k + 4 ≤ 2050) : wpX_deadMarking (fun r => wpY_deadMarking (fun r' v' => r' = r ∧ i_Rel (k + 4) u v') v) u := by
  obtain ⟨A, i, g, P, Q, T, P', Q', F, D, eD, hK, rfl, rfl⟩ := I
  have J := nj_relD (k := k + 4) (g := g) eD hK
  obtain ⟨hA, hi, hQ, hn, hF⟩ := hK
  have hD : nj_G D := by rw [eD]; exact nj_DG hQ i
  unfold wpX_deadMarking wpY_deadMarking
  dsimp only
  rcases nj_ft (nj_sf P Q D) with z | z
  · refine nj_xk (br_t ?_ (nj_yk hn hQ hi hF eD (fun _ => ?_) (fun y => absurd (z.symm.trans y) (by decide))))
    · rw [nj_Ef z]
      exact nj_mn0 64 (fun j hj => by rw [nj_NN hj]; rfl)
    · exact ⟨1, br_f (by decide) (br_t (by decide) ⟨rfl, J⟩)⟩
  · refine nj_xk ?_
    rw [nj_Et z]
    rw [nj_Et z] at J
    have hv := nj_mnv (f := fun m => !(decide (D m = -1)) && nj_dd P m) hD.1 64
    generalize hl : nj_mn (fun m => !(decide (D m = -1)) && nj_dd P m) D 64 = l at hv ⊢
    refine br_c (fun y => ?_) (fun y => ?_)
    · refine nj_yk hn hQ hi hF eD (fun w => absurd (z.symm.trans w) (by decide)) (fun _ => ?_)
      rw [hl]
      exact ⟨1, br_f (by decide) (br_t ((nj_vlt hv).mpr y) ⟨rfl, J⟩)⟩
    · refine ⟨65, nj_xdm l 64 0 rfl ?_⟩
      refine nj_yk hn hQ hi hF eD (fun w => absurd (z.symm.trans w) (by decide)) (fun _ => ?_)
      rw [hl]
      exact ⟨65, nj_ydm hn l (fun w => y ((nj_vlt hv).mp w)) 64 0 rfl ⟨rfl, J⟩⟩
theorem i_vc_current {k : Nat} {u : SX} {v : SY} (I : i_Rel k u v) (hk : k + 4 ≤ 2050) : wpX_current (fun r => wpY_current (fun r' => r' = r ∧ i_Rel (k + 4) u v) v) u := by
  have J := i_up I
  obtain ⟨A, i, g, P, Q, T, P', Q', F, D, eD, hK, rfl, rfl⟩ := I
  exact ⟨rfl, J⟩
theorem i_vc_enabled {k : Nat} {u : SX} {v : SY} (I : i_Rel k u v) (hk : k + 4 ≤ 2050) : wpX_enabled (fun r => wpY_enabled (fun r' => r' = r ∧ i_Rel (k + 4) u v) v) u := by
  have J := i_up I
  obtain ⟨A, i, g, P, Q, T, P', Q', F, D, eD, hK, rfl, rfl⟩ := I
  exact nj_xen (nj_yen hK.2.2.2.1 ⟨rfl, J⟩)
theorem i_vc_rewind {k : Nat} {u : SX} {v : SY} (I : i_Rel k u v) (hk : k + 4 ≤ 2050) : wpX_rewind (fun u' => wpY_rewind (fun v' => i_Rel (k + 4) u' v') v) u := by
  obtain ⟨A, i, g, P, Q, T, P', Q', F, D, eD, hK, rfl, rfl⟩ := I
  exact nj_rel (k := k + 4) eD hK
theorem i_vc_fire {k : Nat} {u : SX} {v : SY} (I : i_Rel k u v) (hk : k + 4 ≤ 2050) (v1 : Int32) : wpX_fire (fun r u' => wpY_fire (fun r' v' => r' = r ∧ i_Rel (k + 4) u' v') v v1) u v1 := by
  have J := i_up I
  obtain ⟨A, i, g, P, Q, T, P', Q', F, D, eD, hK, rfl, rfl⟩ := I
  have hn := hK.2.2.2.1
  unfold wpX_fire wpY_fire
  dsimp only
  rcases pk_ix v1 (n := 8) (by omega) with h | h | ⟨t, ht, rfl⟩
  · exact nj_xpro (Or.inl h) (br_t rfl (nj_yco (Or.inl h) _ (br_t rfl ⟨rfl, J⟩)))
  · exact nj_xpro (Or.inr h) (br_t rfl (nj_yco (Or.inr h) _ (br_t rfl ⟨rfl, J⟩)))
  · refine nj_xpr ht (nj_br (fun z => ?_) (fun z => nj_xc ht _ (nj_br (fun y => ?_) (fun y => nj_xa ht _ ?_))))
    · refine nj_yc hn ht _ ?_
      rw [nj_cl0 (nj_rd0 (nj_nd z))]
      exact br_t rfl ⟨rfl, J⟩
    · refine nj_yc hn ht _ ?_
      rw [y]
      exact br_t rfl ⟨rfl, J⟩
    · refine nj_yc hn ht _ ?_
      rw [y]
      exact br_f (by decide) (nj_ya hn ht _ (nj_nn z) ⟨rfl, nj_rel eD hK⟩)
end
section
theorem nj_7n {t : Nat} (ht : t < 8) : ¬ (7 : Int32) < nI t := nI_nlt (a := 7) (b := t) (by omega) (by omega)
theorem nj_8o {t : Int32} (h : nI 8 ≤ t) : (7 : Int32) < t := Int32.lt_of_lt_of_le (by decide) h
theorem nj_8p {t : Int32} (h : nI 8 ≤ t) : ¬ t < 0 := Int32.not_lt.mpr (Int32.le_trans (by decide) h)
theorem i_vc_setTransition {k : Nat} {u : SX} {v : SY} (I : i_Rel k u v) (hk : k + 4 ≤ 2050) (v1 : Int32) (v2 : Int32) (v3 : Int32) : wpX_setTransition (fun r u' => wpY_setTransition (fun r' v' => r' = r ∧ i_Rel (k + 4) u' v') v v1 v2 v3) u v1 v2 v3 := by
  have J := i_up I
  obtain ⟨A, i, g, P, Q, T, P', Q', F, D, eD, hK, rfl, rfl⟩ := I
  obtain ⟨hA, hi, hQ, hn, hF⟩ := hK
  unfold wpX_setTransition wpY_setTransition
  dsimp only
  rcases pk_ix v1 (n := 8) (by omega) with h | h | ⟨t, ht, rfl⟩
  · exact nj_xnumo (Or.inl h) (br_t rfl (br_t h ⟨rfl, J⟩))
  · exact nj_xnumo (Or.inr h) (br_t rfl (br_f (nj_8p h) (br_t (nj_8o h) ⟨rfl, J⟩)))
  · have hv : vp_in (nI t) 8 := vp_in_nI ht (by omega)
    refine nj_xnum ht (br_f (by decide) (nj_xas v2 (nj_br (fun a => ?_) (fun a => nj_xas v3 (nj_br (fun b => ?_) (fun b => ?_))))))
    · refine br_f (nI_pos (by omega)) (br_f (nj_7n ht) (nj_yo2 v2 ?_))
      rw [← nj_axy hA, a]
      exact br_t rfl ⟨rfl, J⟩
    · refine br_f (nI_pos (by omega)) (br_f (nj_7n ht) (nj_yo2 v2 ?_))
      rw [← nj_axy hA, a]
      refine br_f (by decide) (nj_yo2 v3 ?_)
      rw [← nj_axy hA, b]
      exact br_t rfl ⟨rfl, J⟩
    · obtain ⟨D2, e2⟩ : ∃ D2, D2 = nj_D (upd P t v2) (upd Q t v3) i := ⟨_, rfl⟩
      have q2 := nj_RS hQ t (nj_ax63 hA b).1
      have n2 := nj_netS hn t v3 (nj_ax63 hA a).2
      have hD : nj_G D := by rw [eD]; exact nj_DG hQ i
      refine ⟨hv, nm_r (e' := upd P t v2) (by rw [nI_clamp (by omega)]) ⟨hv, nm_r (e' := upd Q t v3) (by rw [nI_clamp (by omega)]) ?_⟩⟩
      refine nj_xn q2 hi (nj_EG hD).2 e2 ?_
      refine br_f (nI_pos (by omega)) (br_f (nj_7n ht) (nj_yo2 v2 ?_))
      rw [← nj_axy hA, a]
      refine br_f (by decide) (nj_yo2 v3 ?_)
      rw [← nj_axy hA, b]
      refine br_f (by decide) ⟨hv, nm_r (e' := upd T t 1) (by rw [nI_clamp (by omega)]; rfl) ⟨hv, nm_r (e' := upd P' t v2) (by rw [nI_clamp (by omega)]) ⟨hv, nm_r (e' := upd Q' t v3) (by rw [nI_clamp (by omega)]) ⟨rfl, ?_⟩⟩⟩⟩
      exact nj_rel e2 ⟨hA, hi, q2, n2, hF⟩
theorem i_vc_dropTransition {k : Nat} {u : SX} {v : SY} (I : i_Rel k u v) (hk : k + 4 ≤ 2050) (v1 : Int32) : wpX_dropTransition (fun r u' => wpY_dropTransition (fun r' v' => r' = r ∧ i_Rel (k + 4) u' v') v v1) u v1 := by
  have J := i_up I
  obtain ⟨A, i, g, P, Q, T, P', Q', F, D, eD, hK, rfl, rfl⟩ := I
  obtain ⟨hA, hi, hQ, hn, hF⟩ := hK
  unfold wpX_dropTransition wpY_dropTransition
  dsimp only
  rcases pk_ix v1 (n := 8) (by omega) with h | h | ⟨t, ht, rfl⟩
  · exact nj_xpro (Or.inl h) (br_t rfl (br_t h ⟨rfl, J⟩))
  · exact nj_xpro (Or.inr h) (br_t rfl (br_f (nj_8p h) (br_t (nj_8o h) ⟨rfl, J⟩)))
  · have hv : vp_in (nI t) 8 := vp_in_nI ht (by omega)
    have hc : (nI t).toNatClampNeg = t := nI_clamp (by omega)
    refine nj_xpr ht (nj_br (fun a => ?_) (fun a => ?_))
    · refine br_f (nI_pos (by omega)) (br_f (nj_7n ht) ⟨hv, br_t ?_ ⟨rfl, J⟩⟩)
      rw [hc]
      rcases hn t ht with ⟨e, _⟩ | ⟨_, e, _⟩
      · exact e
      · exact absurd (nj_nd a) e
    · obtain ⟨D2, e2⟩ : ∃ D2, D2 = nj_D (upd P t 0) (upd Q t 0) i := ⟨_, rfl⟩
      have q2 := nj_RS hQ t (q := 0) (by decide)
      have n2 := nj_netD hn t
      have hD : nj_G D := by rw [eD]; exact nj_DG hQ i
      refine ⟨hv, nm_r (e' := upd P t 0) (by rw [hc]) ⟨hv, nm_r (e' := upd Q t 0) (by rw [hc]) ?_⟩⟩
      refine nj_xn q2 hi (nj_EG hD).2 e2 ?_
      refine br_f (nI_pos (by omega)) (br_f (nj_7n ht) ⟨hv, br_f ?_ ⟨hv, nm_r (e' := upd T t 0) (by rw [hc]; rfl) ⟨rfl, nj_rel e2 ⟨hA, hi, q2, n2, hF⟩⟩⟩⟩)
      rw [hc]
      rcases hn t ht with ⟨_, e⟩ | ⟨e, _⟩
      · exact absurd e (nj_nn a)
      · rw [e]; decide
theorem i_vc_setInitial {k : Nat} {u : SX} {v : SY} (I : i_Rel k u v) (hk : k + 4 ≤ 2050) (v1 : Int32) : wpX_setInitial (fun r u' => wpY_setInitial (fun r' v' => r' = r ∧ i_Rel (k + 4) u' v') v v1) u v1 := by
  have J := i_up I
  obtain ⟨A, i, g, P, Q, T, P', Q', F, D, eD, hK, rfl, rfl⟩ := I
  obtain ⟨hA, hi, hQ, hn, hF⟩ := hK
  unfold wpX_setInitial wpY_setInitial
  dsimp only
  refine nj_xop v1 (nj_br (fun a => ?_) (fun a => ?_))
  · exact br_f (of_decide_eq_false a) ⟨rfl, J⟩
  · have a' := of_decide_eq_true a
    obtain ⟨j, hj, rfl⟩ := nj_64 (nj_mk hA a')
    obtain ⟨D2, e2⟩ : ∃ D2, D2 = nj_D P Q j := ⟨_, rfl⟩
    have hD : nj_G D := by rw [eD]; exact nj_DG hQ i
    exact nj_xn hQ hj (nj_EG hD).2 e2 (br_t a' ⟨rfl, nj_rel e2 ⟨hA, hj, hQ, hn, hF⟩⟩)
theorem nj_ff {P Q D : Nat → Int32} (hs : nj_sf P Q D = true) (hD : nj_V D) {t : Nat} (ht : t < 8) (hp : ¬ P t = 0) : nj_mn (fun m => !(decide (D m = -1)) && nj_cl P Q t (nI m)) (fun m => D m + 1) 64 = nj_up (nj_mn (fun m => !(decide (D m = -1)) && decide (nI m &&& P t = P t)) D 64) := by
  rw [← nj_mnu hD (fun j hj => by
    try dsimp only at hj
    rw [Bool.and_eq_true] at hj
    exact nj_nn hj.1)]
  refine nj_mnC 64 (fun j hj => ?_)
  try dsimp only
  by_cases z : D j = -1
  · rw [decide_eq_true z]
    rfl
  · by_cases y : nI j &&& P t = P t
    · rw [nj_sc hs hj ht z (nj_rd1 hp y), decide_eq_true y]
    · rw [nj_cl0 (nj_rdn y), decide_eq_false y]
theorem nj_upB {post : Int32 → Prop} {x : Int32} (h : post (nj_up x)) : (x = -1 → post (-1)) ∧ (¬ x = -1 → post (x + 1)) := by
  unfold nj_up at h
  constructor
  · intro z
    rw [if_pos z] at h
    exact h
  · intro z
    rw [if_neg z] at h
    exact h
theorem i_vc_firstFiring {k : Nat} {u : SX} {v : SY} (I : i_Rel k u v) (hk : k + 4 ≤ 2050) (v1 : Int32) : wpX_firstFiring (fun r => wpY_firstFiring (fun r' v' => r' = r ∧ i_Rel (k + 4) u v') v v1) u v1 := by
  obtain ⟨A, i, g, P, Q, T, P', Q', F, D, eD, hK, rfl, rfl⟩ := I
  have J := nj_relD (k := k + 4) (g := g) eD hK
  obtain ⟨hA, hi, hQ, hn, hF⟩ := hK
  have hD : nj_G D := by rw [eD]; exact nj_DG hQ i
  have no : ∀ (c : Nat → Bool), (∀ m, c m = false) → nj_mn (fun m => !(decide (D m = -1)) && c m) (fun m => D m + 1) 64 = -1 := fun c hc => nj_mn0 64 (fun j _ => by rw [hc j, Bool.and_false])
  unfold wpX_firstFiring
  dsimp only
  rcases pk_ix v1 (n := 8) (by omega) with h | h | ⟨t, ht, rfl⟩
  · refine nj_xpro (Or.inl h) (br_t rfl ?_)
    exact nj_yf hn hQ hi hF eD v1 (fun _ => false) (fun m hm q hq => nj_yco (Or.inl h) _ hq) (fun _ => ⟨rfl, J⟩) (fun _ => ⟨no _ (fun _ => rfl), J⟩)
  · refine nj_xpro (Or.inr h) (br_t rfl ?_)
    exact nj_yf hn hQ hi hF eD v1 (fun _ => false) (fun m hm q hq => nj_yco (Or.inr h) _ hq) (fun _ => ⟨rfl, J⟩) (fun _ => ⟨no _ (fun _ => rfl), J⟩)
  · refine nj_xpr ht (nj_br (fun a => ?_) (fun a => ⟨vp_in_nI ht (by omega), ?_⟩))
    · exact nj_yf hn hQ hi hF eD _ (fun m => nj_cl P Q t (nI m)) (fun m hm q hq => nj_yc hn ht _ hq) (fun _ => ⟨rfl, J⟩) (fun _ => ⟨no _ (fun _ => nj_cl0 (nj_rd0 (nj_nd a))), J⟩)
    · rw [nI_clamp (by omega)]
      refine nj_xv _ (nj_upB (post := fun r => wpY_firstFiring (fun r' v' => r' = r ∧ i_Rel (k + 4) _ v') _ _) ?_)
      refine nj_yf hn hQ hi hF eD _ (fun m => nj_cl P Q t (nI m)) (fun m hm q hq => nj_yc hn ht _ hq) (fun z => ⟨?_, J⟩) (fun z => ⟨?_, J⟩)
      · rw [nj_Ef z, nj_mn0 64 (fun j hj => by rw [nj_NN hj]; rfl)]
        rfl
      · rw [nj_Et z]
        exact nj_ff z hD.1 ht (nj_nn a)
theorem nj_ab {A I g s : Int32} {T P P' Q Q' E F : Nat → Int32} (hn : nj_net T P P' Q Q') (v : Int32) : ((∀ post : Int32 → Prop, post 0 → wpX_isPresent post (A, I, g, s, P, Q, E) v) ∧ (∀ (m : Int32) (q : Int32 → Prop), q (nj_b false) → wpY_ready q (A, I, g, T, P', Q', F) v m)) ∨ (∃ t : Nat, t < 8 ∧ v = nI t ∧ ¬ P t = 0) := by
  rcases pk_ix v (n := 8) (by omega) with h | h | ⟨t, ht, rfl⟩
  · exact Or.inl ⟨fun post hp => nj_xpro (Or.inl h) hp, fun m q hq => nj_yro (Or.inl h) m hq⟩
  · exact Or.inl ⟨fun post hp => nj_xpro (Or.inr h) hp, fun m q hq => nj_yro (Or.inr h) m hq⟩
  · by_cases z : P t = 0
    · refine Or.inl ⟨fun post hp => nj_xpr ht ?_, fun m q hq => nj_yr hn ht m ?_⟩
      · rw [decide_eq_true z]
        exact hp
      · rw [nj_rd0 z]
        exact hq
    · exact Or.inr ⟨t, ht, rfl, z⟩
theorem nj_tg {D P : Nat → Int32} {t u : Nat} (hp : ¬ P t = 0) (hq : ¬ P u = 0) (j : Nat) : (!(decide (D j = -1)) && decide (nI j &&& (P t ||| P u) = P t ||| P u)) = (!(decide (D j = -1)) && (nj_rd P t (nI j) && (nj_rd P u (nI j) && true))) := by
  by_cases z : nI j &&& (P t ||| P u) = P t ||| P u
  · obtain ⟨a, b⟩ := nj_un1 z
    rw [decide_eq_true z, nj_rd1 hp a, nj_rd1 hq b]
    rfl
  · rw [decide_eq_false z]
    by_cases a : nI j &&& P t = P t
    · have b : ¬ nI j &&& P u = P u := fun b => z (nj_un2 a b)
      rw [nj_rdn b, Bool.false_and, Bool.and_false, Bool.and_false, Bool.and_false]
    · rw [nj_rdn a, Bool.false_and]
theorem i_vc_together {k : Nat} {u : SX} {v : SY} (I : i_Rel k u v) (hk : k + 4 ≤ 2050) (v1 : Int32) (v2 : Int32) : wpX_together (fun r => wpY_together (fun r' v' => r' = r ∧ i_Rel (k + 4) u v') v v1 v2) u v1 v2 := by
  have J0 := i_up I
  obtain ⟨A, i, g, P, Q, T, P', Q', F, D, eD, hK, rfl, rfl⟩ := I
  have J := nj_relD (k := k + 4) (g := g) eD hK
  obtain ⟨hA, hi, hQ, hn, hF⟩ := hK
  have hD : nj_G D := by rw [eD]; exact nj_DG hQ i
  unfold wpX_together
  dsimp only
  by_cases e : v1 = v2
  · refine br_t e ?_
    unfold wpY_together
    dsimp only
    exact br_t e ⟨rfl, J0⟩
  · refine br_f e ?_
    have no : ∀ (c d : Nat → Bool), (∀ m, c m = false ∨ d m = false) → ∀ b, nj_b (nj_any (fun m => !(decide (D m = -1)) && (c m && (d m && b))) 64) = 0 := by
      intro c d hc b
      rw [nj_anyF 64 (fun j _ => by
        try dsimp only
        rcases hc j with z | z
        · rw [z, Bool.false_and, Bool.and_false]
        · rw [z, Bool.false_and, Bool.and_false, Bool.and_false])]
      rfl
    rcases nj_ab (A := A) (I := nI i) (g := g) (s := nj_b (nj_sf P Q D)) (E := nj_E P Q D) (F := D) hn v1 with ⟨x1, y1⟩ | ⟨t, ht, rfl, hp⟩
    · refine x1 _ (br_t rfl ?_)
      rcases nj_ab (A := A) (I := nI i) (g := g) (s := nj_b (nj_sf P Q D)) (E := nj_E P Q D) (F := D) hn v2 with ⟨x2, y2⟩ | ⟨w, hw, rfl, hq⟩
      · exact nj_yt hn hQ hi hF eD _ _ e (fun _ => false) (fun _ => false) true (fun m _ q h => y1 _ q h) (fun m _ q h => y2 _ q h) (fun m h => absurd h (by decide)) (fun _ => ⟨rfl, J⟩) (fun _ => ⟨no _ _ (fun _ => Or.inl rfl) _, J⟩)
      · exact nj_yt hn hQ hi hF eD _ _ e (fun _ => false) (fun m => nj_rd P w (nI m)) true (fun m _ q h => y1 _ q h) (fun m _ q h => nj_yr hn hw _ h) (fun m h => absurd h (by decide)) (fun _ => ⟨rfl, J⟩) (fun _ => ⟨no _ _ (fun _ => Or.inl rfl) _, J⟩)
    · refine nj_xpr ht ?_
      rw [decide_eq_false hp]
      refine br_f (by decide) ?_
      rcases nj_ab (A := A) (I := nI i) (g := g) (s := nj_b (nj_sf P Q D)) (E := nj_E P Q D) (F := D) hn v2 with ⟨x2, y2⟩ | ⟨w, hw, rfl, hq⟩
      · refine x2 _ (br_t rfl ?_)
        exact nj_yt hn hQ hi hF eD _ _ e (fun m => nj_rd P t (nI m)) (fun _ => false) true (fun m _ q h => nj_yr hn ht _ h) (fun m _ q h => y2 _ q h) (fun m _ h => absurd h (by decide)) (fun _ => ⟨rfl, J⟩) (fun _ => ⟨no _ _ (fun _ => Or.inr rfl) _, J⟩)
      · refine nj_xpr hw ?_
        rw [decide_eq_false hq]
        refine br_f (by decide) ?_
        have ct : (nI t).toNatClampNeg = t := nI_clamp (by omega)
        have cw : (nI w).toNatClampNeg = w := nI_clamp (by omega)
        have it : vp_in (nI t) 8 := vp_in_nI ht (by omega)
        have iw : vp_in (nI w) 8 := vp_in_nI hw (by omega)
        have pt : P' t = P t := by
          rcases hn t ht with ⟨_, z⟩ | ⟨_, _, z, _⟩
          · exact absurd z hp
          · exact z
        have pw : P' w = P w := by
          rcases hn w hw with ⟨_, z⟩ | ⟨_, _, z, _⟩
          · exact absurd z hq
          · exact z
        rw [ct, cw]
        refine ⟨it, iw, ?_⟩
        have Y : ∀ (post : Int32 → SY → Prop), (nj_sf P Q D = false → post 0 (A, nI i, g, T, P', Q', D)) → (nj_sf P Q D = true → post (nj_b (nj_any (fun m => !(decide (D m = -1)) && (nj_rd P t (nI m) && (nj_rd P w (nI m) && decide (P t &&& P w = 0)))) 64)) (A, nI i, g, T, P', Q', D)) → wpY_together post (A, nI i, g, T, P', Q', F) (nI t) (nI w) := by
          intro post h0 h1
          exact nj_yt hn hQ hi hF eD _ _ e (fun m => nj_rd P t (nI m)) (fun m => nj_rd P w (nI m)) (decide (P t &&& P w = 0)) (fun m _ q h => nj_yr hn ht _ h) (fun m _ q h => nj_yr hn hw _ h) (fun m _ _ => ⟨it, iw, by rw [ct, cw, pt, pw]⟩) h0 h1
        refine br_c (fun a => ⟨it, iw, ?_⟩) (fun a => ?_)
        · rw [decide_eq_true a] at Y
          refine nj_xv _ ?_
          rcases nj_ft (nj_sf P Q D) with z | z
          · refine br_t ?_ (Y _ (fun _ => ⟨rfl, J⟩) (fun b => absurd (z.symm.trans b) (by decide)))
            rw [nj_Ef z]
            exact nj_mn0 64 (fun j hj => by (try dsimp only); rw [nj_NN hj]; rfl)
          · have EE := nj_Et z
            have H := nj_mna (f := fun m => !(decide (nj_E P Q D m = -1)) && decide (nI m &&& (P t ||| P w) = P t ||| P w)) (D := nj_E P Q D) (fun j hj => by
              try dsimp only at hj
              rw [Bool.and_eq_true] at hj
              exact nj_nn hj.1) 64
            have C : nj_any (fun m => !(decide (nj_E P Q D m = -1)) && decide (nI m &&& (P t ||| P w) = P t ||| P w)) 64 = nj_any (fun m => !(decide (D m = -1)) && (nj_rd P t (nI m) && (nj_rd P w (nI m) && true))) 64 := by
              rw [EE]
              exact nj_anyC 64 (fun j _ => nj_tg hp hq j)
            rw [C] at H
            refine br_c (fun b => ?_) (fun b => ?_)
            · refine Y _ (fun y => absurd (z.symm.trans y) (by decide)) (fun _ => ⟨?_, J⟩)
              rw [H.1 b]
              rfl
            · refine Y _ (fun y => absurd (z.symm.trans y) (by decide)) (fun _ => ⟨?_, J⟩)
              rw [H.2 b]
              rfl
        · refine Y _ (fun _ => ⟨rfl, J⟩) (fun _ => ⟨?_, J⟩)
          rw [decide_eq_false a]
          rw [nj_anyF 64 (fun j _ => by (try dsimp only); rw [Bool.and_false, Bool.and_false, Bool.and_false])]
          rfl
end
section
theorem nj_i0 {c : Int32} (hA : (((1 : Int32) <<< (c &&& 31)) - 1) &&& 63 = ((1 : Int32) <<< (c &&& 31)) - 1) (p : Int32) (q : SX → Prop) (h : ∀ (i : Nat) (D : Nat → Int32), p &&& (((1 : Int32) <<< (c &&& 31)) - 1) = nI i → i < 64 → D = nj_D (fun _ => 0) (fun _ => 0) i → q (((1 : Int32) <<< (c &&& 31)) - 1, nI i, nI i, nj_b (nj_sf (fun _ => 0) (fun _ => 0) D), (fun _ => 0), (fun _ => 0), nj_E (fun _ => 0) (fun _ => 0) D)) : wX_init_46 q p c 0 0 0 0 (fun _ => 0) (fun _ => 0) (fun _ => 0) := by
  obtain ⟨i, hi, e⟩ := nj_64 (nj_in63 (x := p) hA)
  obtain ⟨D, eD⟩ : ∃ D, D = nj_D (fun _ => 0) (fun _ => 0) i := ⟨_, rfl⟩
  unfold wX_init_46
  exact nm_e (nm_r e (nj_xn nj_R0 hi nj_zf eD (h i D e hi eD)))
theorem nj_i1 {k : Nat} {c : Int32} (hA : (((1 : Int32) <<< (c &&& 31)) - 1) &&& 63 = ((1 : Int32) <<< (c &&& 31)) - 1) (p : Int32) {i : Nat} {D : Nat → Int32} (e : p &&& (((1 : Int32) <<< (c &&& 31)) - 1) = nI i) (hi : i < 64) (eD : D = nj_D (fun _ => 0) (fun _ => 0) i) : wY_init_57 (fun v => i_Rel k (((1 : Int32) <<< (c &&& 31)) - 1, nI i, nI i, nj_b (nj_sf (fun _ => 0) (fun _ => 0) D), (fun _ => 0), (fun _ => 0), nj_E (fun _ => 0) (fun _ => 0) D) v) p c 0 0 0 (fun _ => 0) (fun _ => 0) (fun _ => 0) (fun _ => 0) := by
  unfold wY_init_57
  exact nm_e (nm_r e (nj_rel eD ⟨hA, hi, nj_R0, nj_net0, nj_zf⟩))
theorem nj_cnt (p : Int32) : (p < 1 ∧ ¬ 1 ≤ p) ∨ (6 < p ∧ ¬ p < 1 ∧ 1 ≤ p ∧ ¬ p ≤ 6) ∨ (∃ c, 1 ≤ c ∧ c ≤ 6 ∧ p = nI c ∧ ¬ p < 1 ∧ 1 ≤ p ∧ ¬ 6 < p ∧ p ≤ 6) := by
  by_cases h : p < 1
  · exact Or.inl ⟨h, Int32.not_le.mpr h⟩
  · have h1 : 1 ≤ p := Int32.not_lt.mp h
    by_cases h6 : 6 < p
    · exact Or.inr (Or.inl ⟨h6, h, h1, Int32.not_le.mpr h6⟩)
    · have h6' : p ≤ 6 := Int32.not_lt.mp h6
      have h0 : ¬ p < 0 := Int32.not_lt.mpr (Int32.le_trans (by decide) h1)
      obtain ⟨j, hj, e⟩ := nI_of2 (M := 6) (n := 6) (by decide) h0 h6'
      refine Or.inr (Or.inr ⟨j, ?_, hj, e, h, h1, h6, h6'⟩)
      rw [e] at h1
      exact (nI_leI (a := 1) (by omega) (by omega)).mp h1
theorem i_vc0 (k0 : Int32) (k1 : Int32) : wpX_init (fun u => wpY_init (fun v => i_Rel 2 u v) k0 k1) k0 k1 := by
  unfold wpX_init wpY_init
  rcases nj_cnt k0 with ⟨_, h1⟩ | ⟨_, _, h1, h6⟩ | ⟨c, c1, c6, e, _, h1, _, h6⟩
  · have hA := nj_count 1 (by omega) (by omega)
    refine br_f h1 ?_
    unfold wX_init_37
    exact br_t (by decide) (nj_i0 hA k1 _ (fun i D e hi eD => br_f h1 (nj_i1 hA k1 e hi eD)))
  · have hA := nj_count 6 (by omega) (by omega)
    refine br_t h1 ?_
    unfold wX_init_37
    exact br_f h6 (nj_i0 hA k1 _ (fun i D e hi eD => br_t h1 (br_f h6 (nj_i1 hA k1 e hi eD))))
  · have hA := nj_count c c1 c6
    rw [← e] at hA
    refine br_t h1 ?_
    unfold wX_init_37
    exact br_t h6 (nj_i0 hA k1 _ (fun i D e hi eD => br_t h1 (br_t h6 (nj_i1 hA k1 e hi eD))))
end
