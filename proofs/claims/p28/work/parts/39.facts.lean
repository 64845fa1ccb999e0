theorem brt' {c A B : Prop} (h : ¬ c) (a : A) : (¬ c → A) ∧ (c → B) := ⟨fun _ => a, fun z => absurd z h⟩
theorem brf' {c A B : Prop} (h : c) (b : B) : (¬ c → A) ∧ (c → B) := ⟨fun z => absurd h z, fun _ => b⟩
section LOOKS2
variable {d : Nat} {σ : St} {A : Ab} {S : Sn} {E : En} {b : Bd}
theorem lostB_eq (E : En) (b : Bd) : (List.range E.2.1.length).countP (fun j => ltJ E j b) = lostB E b := by
  unfold lostB ltJ
  by_cases h : b.2.1 < E.2.2.2
  · rw [if_pos h, decide_eq_true h]
    simp
  · rw [if_neg h, decide_eq_false h]
    simp
theorem drop_s {α : Type} {l : List α} {i : Nat} {x : α} (h : l[i]? = some x) : l.drop i = x :: l.drop (i + 1) := by
  have hi := lt_of h
  rw [List.drop_eq_getElem_cons hi]
  rw [List.getElem?_eq_getElem hi] at h
  injection h with h
  rw [h]
end LOOKS2
