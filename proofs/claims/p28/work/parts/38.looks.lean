/-! look calls: both classes answer alike -/
theorem FrL.S {a b : St} (h : FrL a b) : Fr scr a b := h.fr (fun x y z => by unfold scr; omega) (fun x z => by unfold scr; omega) (fun _ => by unfold scr; omega)
theorem FrL.M {a b : St} (h : FrL a b) : FrM a b := fun c hc => ⟨by funext k; exact h.1 c k (by omega), h.2.1 c (by omega)⟩
def LkC (A : Ab) (r : Int32) (m : MI) (as : List Value) : Prop := ∀ (σ : St) (K : Int32 → St → Prop), cR σ A → (∀ σ', Fr scr σ σ' → FrM σ σ' → K r σ') → CallI 9 m as σ K
theorem lt7 {j : Nat} (h : j < 7) : j = 0 ∨ j = 1 ∨ j = 2 ∨ j = 3 ∨ j = 4 ∨ j = 5 ∨ j = 6 := by omega
/-- a number within 0..n, or not -/
theorem wi_cases {n : Nat} (x : Int32) (hn : n < 2 ^ 20) : (decide ((0 : Int32).toInt ≤ x.toInt ∧ x.toInt ≤ (nI n).toInt) = false) ∨ ∃ j, j ≤ n ∧ x = nI j ∧ decide ((0 : Int32).toInt ≤ x.toInt ∧ x.toInt ≤ (nI n).toInt) = true := by
  rw [k0, nI_toInt (show n < 2 ^ 31 by omega)]
  by_cases h : 0 ≤ x.toInt ∧ x.toInt ≤ (n : Int)
  · obtain ⟨j, hj, rfl⟩ := pos_nI (x := x) h.1
    refine Or.inr ⟨j, ?_, rfl, decide_eq_true h⟩
    rw [nI_toInt hj] at h
    omega
  · exact Or.inl (decide_eq_false h)
theorem neg_cases (x : Int32) : x < 0 ∨ ∃ j, j < 2 ^ 31 ∧ x = nI j ∧ ¬ x < 0 := by
  by_cases h : x < 0
  · exact Or.inl h
  · have h' := h
    rw [Int32.lt_iff_toInt_lt, k0] at h
    obtain ⟨j, hj, rfl⟩ := pos_nI (x := x) (by omega)
    exact Or.inr ⟨j, hj, rfl, h'⟩
section LOOKS
variable {d : Nat} {σ : St} {A : Ab} {S : Sn} {E : En}
theorem ct_asNumber {K : Int32 → St → Prop} {b : Bool} (k : K (bI b) σ) : CallI (d + 1) mX5_asNumber [.int (bI b)] σ K := by
  refine cgX5_asNumber (bI_br (fun e => ?_) (fun e => ?_))
  · rw [e] at k; exact k
  · rw [e] at k; exact k
end LOOKS
