/-! what holds of the reading's machine on its way -/
def invP (P : Ps) (s : Nat) : Prop := P.1 ≤ 9 ∧ 5 * P.2.2.2.2.2.1.length + (if P.1 ≤ 5 then P.1 else 0) ≤ s ∧ (P.1 ≤ 6 → P.2.2.2.2.2.2.length = 0) ∧ ((P.1 = 7 ∨ P.1 = 8) → P.2.2.2.2.2.2.length < 4) ∧ P.2.2.2.2.2.2.length ≤ 4 ∧ ((1 ≤ P.1 ∧ P.1 ≤ 5) → (P.2.1 = 0 ∨ P.2.1 = 1))
theorem inv_mk {q s : Nat} {w d n mi : Int32} {T : List Tg} {U : List Int32} (h1 : q ≤ 9) (h2 : 5 * T.length + (if q ≤ 5 then q else 0) ≤ s) (h3 : q ≤ 6 → U.length = 0) (h4 : (q = 7 ∨ q = 8) → U.length < 4) (h5 : U.length ≤ 4) (h6 : (1 ≤ q ∧ q ≤ 5) → (w = 0 ∨ w = 1)) : invP (q, w, d, n, mi, T, U) s := ⟨h1, h2, h3, h4, h5, h6⟩
theorem ite_some {α : Type} {p : Prop} [Decidable p] {a b : Option α} {x : α} (h : (if p then a else b) = some x) : (p ∧ a = some x) ∨ (¬ p ∧ b = some x) := by
  by_cases c : p
  · rw [if_pos c] at h; exact Or.inl ⟨c, h⟩
  · rw [if_neg c] at h; exact Or.inr ⟨c, h⟩
theorem inv_step {q s : Nat} {w d n mi c : Int32} {T : List Tg} {U : List Int32} {P' : Ps} (h : invP (q, w, d, n, mi, T, U) s) (hs : stepP (q, w, d, n, mi, T, U) c = some P') : invP P' (s + 1) := by
  obtain ⟨h1, h2, h3, h4, h5, h6⟩ := h
  have h1' : q ≤ 9 := h1
  have h2' : 5 * T.length + (if q ≤ 5 then q else 0) ≤ s := h2
  have h3' : q ≤ 6 → U.length = 0 := h3
  have h4' : (q = 7 ∨ q = 8) → U.length < 4 := h4
  have h5' : U.length ≤ 4 := h5
  have h6' : (1 ≤ q ∧ q ≤ 5) → (w = 0 ∨ w = 1) := h6
  clear h1 h2 h3 h4 h5 h6
  have hT : ∀ t : Tg, (T ++ [t]).length = T.length + 1 := fun t => by rw [List.length_append]; rfl
  have hU : ∀ u : Int32, (U ++ [u]).length = U.length + 1 := fun t => by rw [List.length_append]; rfl
  rcases (show q = 0 ∨ q = 1 ∨ q = 2 ∨ q = 3 ∨ q = 4 ∨ q = 5 ∨ q = 6 ∨ q = 7 ∨ q = 8 ∨ q = 9 by omega) with rfl | rfl | rfl | rfl | rfl | rfl | rfl | rfl | rfl | rfl
  · have h0 := h3' (by decide)
    rcases ite_some hs with ⟨-, e⟩ | ⟨-, e⟩
    · injection e with e; subst e
      exact inv_mk (by decide) (by simp at h2' ⊢; omega) (fun _ => h0) (fun z => by omega) h5' (fun _ => Or.inl rfl)
    · rcases ite_some e with ⟨-, e⟩ | ⟨-, e⟩
      · injection e with e; subst e
        exact inv_mk (by decide) (by simp at h2' ⊢; omega) (fun _ => h0) (fun z => by omega) h5' (fun _ => Or.inr rfl)
      · cases e
  · have h0 := h3' (by decide)
    rcases ite_some hs with ⟨-, e⟩ | ⟨-, e⟩
    · injection e with e; subst e
      exact inv_mk (by decide) (by simp at h2' ⊢; omega) (fun _ => h0) (fun z => by omega) h5' (fun _ => h6' (by decide))
    · cases e
  · have h0 := h3' (by decide)
    rcases ite_some hs with ⟨-, e⟩ | ⟨-, e⟩
    · injection e with e; subst e
      exact inv_mk (by decide) (by simp at h2' ⊢; omega) (fun _ => h0) (fun z => by omega) h5' (fun _ => h6' (by decide))
    · rcases ite_some e with ⟨-, e⟩ | ⟨-, e⟩
      · injection e with e; subst e
        exact inv_mk (by decide) (by simp at h2' ⊢; omega) (fun _ => h0) (fun z => by omega) h5' (fun _ => h6' (by decide))
      · cases e
  · have h0 := h3' (by decide)
    rcases ite_some hs with ⟨-, e⟩ | ⟨-, e⟩
    · injection e with e; subst e
      exact inv_mk (by decide) (by simp at h2' ⊢; omega) (fun _ => h0) (fun z => by omega) h5' (fun _ => h6' (by decide))
    · cases e
  · have h0 := h3' (by decide)
    rcases ite_some hs with ⟨-, e⟩ | ⟨-, e⟩
    · injection e with e; subst e
      exact inv_mk (by decide) (by simp at h2' ⊢; omega) (fun _ => h0) (fun z => by omega) h5' (fun _ => h6' (by decide))
    · rcases ite_some e with ⟨-, e⟩ | ⟨-, e⟩
      · injection e with e; subst e
        exact inv_mk (by decide) (by simp at h2' ⊢; omega) (fun _ => h0) (fun z => by omega) h5' (fun _ => h6' (by decide))
      · rcases ite_some e with ⟨-, e⟩ | ⟨-, e⟩
        · injection e with e; subst e
          exact inv_mk (by decide) (by rw [hT]; simp at h2' ⊢; omega) (fun _ => h0) (fun z => by omega) h5' (fun z => by omega)
        · rcases ite_some e with ⟨-, e⟩ | ⟨-, e⟩
          · injection e with e; subst e
            exact inv_mk (by decide) (by rw [hT]; simp at h2' ⊢; omega) (fun z => by omega) (fun _ => Nat.lt_of_le_of_lt (Nat.le_of_eq h0) (by decide)) h5' (fun z => by omega)
          · cases e
  · have h0 := h3' (by decide)
    rcases ite_some hs with ⟨-, e⟩ | ⟨-, e⟩
    · injection e with e; subst e
      exact inv_mk (by decide) (by rw [hT]; simp at h2' ⊢; omega) (fun _ => h0) (fun z => by omega) h5' (fun z => by omega)
    · cases e
  · have h0 := h3' (by decide)
    rcases ite_some hs with ⟨-, e⟩ | ⟨-, e⟩
    · injection e with e; subst e
      exact inv_mk (by decide) (by simp at h2' ⊢; omega) (fun _ => h0) (fun z => by omega) h5' (fun z => by omega)
    · rcases ite_some e with ⟨-, e⟩ | ⟨-, e⟩
      · injection e with e; subst e
        exact inv_mk (by decide) (by simp at h2' ⊢; omega) (fun z => by omega) (fun _ => Nat.lt_of_le_of_lt (Nat.le_of_eq h0) (by decide)) h5' (fun z => by omega)
      · cases e
  · have h0 := h4' (Or.inl rfl)
    rcases ite_some hs with ⟨-, e⟩ | ⟨-, e⟩
    · injection e with e; subst e
      exact inv_mk (by decide) (by simp at h2' ⊢; omega) (fun z => by omega) (fun _ => h0) h5' (fun z => by omega)
    · cases e
  · have h0 := h4' (Or.inr rfl)
    rcases ite_some hs with ⟨-, e⟩ | ⟨-, e⟩
    · injection e with e; subst e
      exact inv_mk (by decide) (by simp at h2' ⊢; omega) (fun z => by omega) (fun z => by omega) (by rw [hU]; omega) (fun z => by omega)
    · cases e
  · rcases ite_some hs with ⟨z0, e⟩ | ⟨-, e⟩
    · injection e with e; subst e
      exact inv_mk (by decide) (by simp at h2' ⊢; omega) (fun z => by omega) (fun _ => z0.2) h5' (fun z => by omega)
    · cases e
