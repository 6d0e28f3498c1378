theorem nj_ft (b : Bool) : b = false ∨ b = true := by cases b <;> simp
theorem nj_netS {T P P' Q Q' : Nat → Int32} (h : nj_net T P P' Q Q') (j : Nat) {p : Int32} (q : Int32) (hp : ¬ p = 0) : nj_net (upd T j 1) (upd P j p) (upd P' j p) (upd Q j q) (upd Q' j q) := by
  intro t ht
  by_cases e : t = j
  · subst e
    rw [pk_us, pk_us, pk_us, pk_us, pk_us]
    exact Or.inr ⟨rfl, hp, rfl, rfl⟩
  · rw [pk_un e, pk_un e, pk_un e, pk_un e, pk_un e]
    exact h t ht
theorem nj_netD {T P P' Q Q' : Nat → Int32} (h : nj_net T P P' Q Q') (j : Nat) : nj_net (upd T j 0) (upd P j 0) P' (upd Q j 0) Q' := by
  intro t ht
  by_cases e : t = j
  · subst e
    rw [pk_us, pk_us]
    exact Or.inl ⟨rfl, rfl⟩
  · rw [pk_un e, pk_un e, pk_un e]
    exact h t ht
theorem nj_RS {Q : Nat → Int32} (h : nj_R Q) (j : Nat) {q : Int32} (hq : q &&& 63 = q) : nj_R (upd Q j q) := by
  intro t ht
  by_cases e : t = j
  · rw [e, pk_us]
    exact hq
  · rw [pk_un e]
    exact h t ht
theorem nj_count : ∀ c, 1 ≤ c → c ≤ 6 → (((1 : Int32) <<< (nI c &&& 31)) - 1) &&& 63 = ((1 : Int32) <<< (nI c &&& 31)) - 1 := by
  intro c h1 h6
  have H : ∀ c, c < 7 → (((1 : Int32) <<< (nI c &&& 31)) - 1) &&& 63 = ((1 : Int32) <<< (nI c &&& 31)) - 1 := by decide +kernel
  exact H c (by omega)
theorem nj_zf : nj_Z (fun _ => 0) := fun _ _ => rfl
theorem nj_net0 : nj_net (fun _ => 0) (fun _ => 0) (fun _ => 0) (fun _ => 0) (fun _ => 0) := fun _ _ => Or.inl ⟨rfl, rfl⟩
theorem nj_R0 : nj_R (fun _ => 0) := fun _ _ => by show (0 : Int32) &&& 63 = 0; decide
/-- X keeps the distances of its net, none of them where the net isn't safe; Y keeps the net alone -/
def i_Rel (_ : Nat) (u : SX) (v : SY) : Prop := ∃ (A : Int32) (i : Nat) (g : Int32) (P Q T P' Q' F D : Nat → Int32), D = nj_D P Q i ∧ nj_K A i P Q T P' Q' F ∧ u = (A, nI i, g, nj_b (nj_sf P Q D), P, Q, nj_E P Q D) ∧ v = (A, nI i, g, T, P', Q', F)
theorem nj_rel {k : Nat} {A : Int32} {i : Nat} {g : Int32} {P Q T P' Q' F D : Nat → Int32} (eD : D = nj_D P Q i) (hK : nj_K A i P Q T P' Q' F) : i_Rel k (A, nI i, g, nj_b (nj_sf P Q D), P, Q, nj_E P Q D) (A, nI i, g, T, P', Q', F) := ⟨A, i, g, P, Q, T, P', Q', F, D, eD, hK, rfl, rfl⟩
theorem nj_relD {k : Nat} {A : Int32} {i : Nat} {g : Int32} {P Q T P' Q' F D : Nat → Int32} (eD : D = nj_D P Q i) (hK : nj_K A i P Q T P' Q' F) : i_Rel k (A, nI i, g, nj_b (nj_sf P Q D), P, Q, nj_E P Q D) (A, nI i, g, T, P', Q', D) := nj_rel eD ⟨hK.1, hK.2.1, hK.2.2.1, hK.2.2.2.1, by rw [eD]; exact (nj_DG hK.2.2.1 i).2⟩
theorem i_up {k : Nat} {u : SX} {v : SY} (h : i_Rel k u v) : i_Rel (k + 4) u v := h
