theorem sumS_pos (f : Bd → Bool) (l : List Bd) (h : ∀ b ∈ l, okBd b) (hl : l.length ≤ 21) : ∀ n, n ≤ l.length → (0 ≤ (sumS f (l.take n)).toInt ∧ (sumS f (l.take n)).toInt ≤ 99 * n) ∧ ((sumS f (l.take n) ≤ 0) ↔ (l.take n).any f = false) := by
  intro n
  induction n with
  | zero =>
    intro _
    rw [List.take_zero, show sumS f ([] : List Bd) = 0 from rfl]
    refine ⟨⟨by decide, by decide⟩, ?_⟩
    exact ⟨fun _ => rfl, fun _ => by decide⟩
  | succ n ih =>
    intro hn
    obtain ⟨b, hb⟩ := get_of (l := l) (i := n) (by omega)
    have hok := h b (List.mem_of_getElem? hb)
    obtain ⟨⟨i1, i2⟩, i3⟩ := ih (by omega)
    rw [take_s hb, sumS_app, List.any_append]
    cases hf : f b
    · simp only [Bool.false_eq_true, if_false, List.any_cons, List.any_nil, hf, Bool.or_false]
      exact ⟨⟨i1, by omega⟩, i3⟩
    · simp only [if_true, List.any_cons, List.any_nil, hf, Bool.or_false, Bool.or_true]
      have hs : (sumS f (l.take n) + b.2.1).toInt = (sumS f (l.take n)).toInt + b.2.1.toInt := tI_add (by have := hok.2.1; omega) (by have := hok.2.1; omega)
      have h2 := hok.2.1
      refine ⟨⟨by omega, by omega⟩, ?_⟩
      rw [Int32.le_iff_toInt_le, hs, k0]
      exact ⟨fun z => by omega, fun z => by cases z⟩
theorem allP_get {q : Nat} (h : q < 11) : allP[q]? = some (pv q) := by
  unfold allP
  rw [List.getElem?_map, List.getElem?_range h]
  rfl
theorem allP_len : allP.length = 11 := by unfold allP; simp
section MLOOK
variable {d : Nat} {σ : St} {E : En} {b : Bd} {S : Sn}
def ltJ (E : En) (j : Nat) (b : Bd) : Bool := !decide (b.2.1 < E.2.2.2) && decide (plE E j b.1 b.2.2.1 < E.2.2.1)
/-- the model's count of echoes -/
def echN (E : En) (i : Nat) : Nat := bN (decide (i / 550 < E.2.1.length) && hbE E (i / 550) (pv (i % 11)) (nI (i / 11 % 50)))
end MLOOK
