theorem sumS_pos (f : Bd → Bool) (l : List Bd) (h : ∀ b ∈ l, okBd b) (hl : l.length ≤ 21) : ∀ n, n ≤ l.length → (0 ≤ (sumS f (l.take n)).toInt ∧ (sumS f (l.take n)).toInt ≤ 99 * n) ∧ ((sumS f (l.take n) ≤ 0) ↔ (l.take n).any f = false) := by
  intro n
  induction n with
  | zero =>
    intro _
    rw [List.take_zero, show sumS f ([] : List Bd) = 0 from rfl]
    refine ⟨⟨by decide, by decide⟩, ?_⟩
    exact ⟨fun _ => rfl, fun _ => by decide⟩
  | succ n ih =>
    intro hn
    obtain ⟨b, hb⟩ := get_of (l := l) (i := n) (by omega)
    have hok := h b (List.mem_of_getElem? hb)
    obtain ⟨⟨i1, i2⟩, i3⟩ := ih (by omega)
    rw [take_s hb, sumS_app, List.any_append]
    cases hf : f b
    · simp only [Bool.false_eq_true, if_false, List.any_cons, List.any_nil, hf, Bool.or_false]
      exact ⟨⟨i1, by omega⟩, i3⟩
    · simp only [if_true, List.any_cons, List.any_nil, hf, Bool.or_false, Bool.or_true]
      have hs : (sumS f (l.take n) + b.2.1).toInt = (sumS f (l.take n)).toInt + b.2.1.toInt := tI_add (by have := hok.2.1; omega) (by have := hok.2.1; omega)
      have h2 := hok.2.1
      refine ⟨⟨by omega, by omega⟩, ?_⟩
      rw [Int32.le_iff_toInt_le, hs, k0]
      exact ⟨fun z => by omega, fun z => by cases z⟩
theorem allP_get {q : Nat} (h : q < 11) : allP[q]? = some (pv q) := by
  unfold allP
  rw [List.getElem?_map, List.getElem?_range h]
  rfl
theorem allP_len : allP.length = 11 := by unfold allP; simp
section MLOOK
variable {d : Nat} {σ : St} {E : En} {b : Bd} {S : Sn}
/-- counted by f: what is told -/
def cntT (E : En) (f : Int32 × Int32 → Bool) (x q : Nat) : Nat := (TL E allP x).countP f + ((allP.take q).filter (told E (nI (x + 1)))).countP (fun v => f (nI (x + 1), v))
theorem cntT_11 (f : Int32 × Int32 → Bool) (x : Nat) : cntT E f x 11 = cntT E f (x + 1) 0 := by
  unfold cntT
  rw [List.take_of_length_le (by rw [allP_len]; omega), List.take_zero, List.filter_nil, List.countP_nil, Nat.add_zero]
  show _ = (TL E allP x ++ (allP.filter (told E (nI (x + 1)))).map (fun v => (nI (x + 1), v))).countP f
  rw [List.countP_append, List.countP_map]
  rfl
theorem cntT_s (f : Int32 × Int32 → Bool) (x : Nat) {q : Nat} (hq : q < 11) : cntT E f x (q + 1) = cntT E f x q + (if told E (nI (x + 1)) (pv q) && f (nI (x + 1), pv q) then 1 else 0) := by
  unfold cntT
  rw [TL_row allP (allP_get hq), List.countP_append]
  cases h : told E (nI (x + 1)) (pv q)
  · simp
  · simp only [if_true, Bool.true_and]
    rw [List.countP_cons, List.countP_nil]
    omega
def ltJ (E : En) (j : Nat) (b : Bd) : Bool := !decide (b.2.1 < E.2.2.2) && decide (plE E j b.1 b.2.2.1 < E.2.2.1)
/-- the model's count of echoes -/
def echN (E : En) (i : Nat) : Nat := bN (decide (i / 550 < E.2.1.length) && hbE E (i / 550) (pv (i % 11)) (nI (i / 11 % 50)))
end MLOOK
