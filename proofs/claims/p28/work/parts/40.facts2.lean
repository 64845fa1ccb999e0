theorem TL_at {E : En} (V : List Int32) {x q e n : Nat} {v : Int32} (hx : x < n) (hv : V[q]? = some v) (e2 : told E (nI (x + 1)) v = true) (he : e = (TL E V x).length + ((V.take q).filter (told E (nI (x + 1)))).length) : (TL E V n)[e]? = some (nI (x + 1), v) := by
  obtain ⟨s, hs⟩ := TL_pre E V (k := x + 1) (n := n) (by omega)
  have hq := lt_of hv
  have hrow : V.filter (told E (nI (x + 1))) = (V.take q).filter (told E (nI (x + 1))) ++ v :: (V.drop (q + 1)).filter (told E (nI (x + 1))) := by
    have h1 : V = V.take q ++ v :: V.drop (q + 1) := by
      have h2 := drop_s hv
      rw [← h2, List.take_append_drop]
    conv => lhs; rw [h1]
    rw [List.filter_append, List.filter_cons_of_pos e2]
  have hTL : TL E V (x + 1) = TL E V x ++ (V.filter (told E (nI (x + 1)))).map (fun v => (nI (x + 1), v)) := rfl
  rw [hs, hTL, hrow, List.map_append, List.map_cons, List.append_assoc, List.append_assoc, List.getElem?_append_right (by omega), List.getElem?_append_right (by rw [List.length_map]; omega), List.length_map]
  rw [show e - (TL E V x).length - ((V.take q).filter (told E (nI (x + 1)))).length = 0 by omega]
  rfl
theorem TL_mem {E : En} {V : List Int32} {n : Nat} {p : Int32 × Int32} (h : p ∈ TL E V n) : ∃ x, x < n ∧ p.1 = nI (x + 1) ∧ p.2 ∈ V ∧ told E p.1 p.2 = true := by
  induction n with
  | zero => exact absurd h (by simp [TL])
  | succ n ih =>
    have h2 : p ∈ TL E V n ++ (V.filter (told E (nI (n + 1)))).map (fun v => (nI (n + 1), v)) := h
    rcases List.mem_append.mp h2 with h3 | h3
    · obtain ⟨x, hx, e⟩ := ih h3
      exact ⟨x, by omega, e⟩
    · obtain ⟨v, hv, e⟩ := List.mem_map.mp h3
      obtain ⟨h4, h5⟩ := List.mem_filter.mp hv
      rw [← e]
      exact ⟨n, by omega, rfl, h4, h5⟩
theorem tolds_mem {E : En} {p : Int32 × Int32} (h : p ∈ tolds E) : ∃ x q, x < 600 ∧ q < 11 ∧ p = (nI (x + 1), pv q) ∧ told E (nI (x + 1)) (pv q) = true := by
  obtain ⟨x, hx, e1, e2, e3⟩ := TL_mem h
  obtain ⟨q, hq, e⟩ := List.mem_map.mp e2
  refine ⟨x, q, hx, List.mem_range.mp hq, Prod.ext e1 e.symm, ?_⟩
  rw [← e1, e]
  exact e3
section LOOKS3
variable {d : Nat} {σ : St} {A : Ab} {S : Sn} {E : En} {b : Bd}
theorem fd_eq {x q : Nat} (hx : x < 600) (hq : q < 11) : nI (x + 1) * 11 + pv q + 5 = nI (11 * (x + 1) + q) := by
  unfold pv
  rw [show (11 : Int32) = nI 11 from rfl, pk_mul, Int32.sub_eq_add_neg, ← Int32.add_assoc, Int32.add_assoc, Int32.add_left_neg, Int32.add_zero, nI_add, Nat.mul_comm]
theorem dv11 {n : Nat} (h : n < 2 ^ 31) : nI n / 11 = nI (n / 11) := pk_div (d := 11) h (by decide) (by decide)
theorem rm11 {n : Nat} (h : n < 2 ^ 31) : irem (nI n) 11 = nI (n % 11) := irem_nI (b := 11) h (by decide) (by decide)
theorem hb_nlt {B : List Bd} {bl lo s v p : Int32} {j : Nat} (h : hb B bl lo s j v p = true) : ¬ p < bl := by
  unfold hb at h
  obtain ⟨b, _, h⟩ := List.any_eq_true.mp h
  simp only [Bool.and_eq_true, Bool.not_eq_true', decide_eq_false_iff_not] at h
  exact h.2
end LOOKS3
