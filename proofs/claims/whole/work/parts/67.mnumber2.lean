/-! a number whole -/
section MNUM2
variable {d : Nat} {σ : St} {p : List Int32} {s : Nat}
/-- where something is wrong already, a number only looks -/
theorem ct_number0 {K : Int32 → St → Prop} {most : Int32} (hl : p.length ≤ 60) (hp : mpd σ p) (h17 : sF σ 64 17 = nI s) (hs : s < 2 ^ 20) (h18 : ¬ sF σ 64 18 = -4) (k : ∀ v, K v σ) : CallI (d + 3) mX6_number [.ref 64, .int most] σ K :=
  cgX6_number (ct_figure hp hl h17 hs ⟨fun _ => ct_wants0 h18 (sgX6_number_18 (brt' h18 (k _))), fun _ => ct_wants0 h18 (sgX6_number_18 (brt' h18 (k _)))⟩)
theorem ct_number {K : Int32 → St → Prop} {most : Int32} {Qb : Ps} {Q : Int32 → Ps} {R : Nat ⊕ (List Tg × List Int32)} (hl : p.length ≤ 60) (hp : mpd σ p) (h17 : sF σ 64 17 = nI s) (hs : s ≤ p.length) (h18 : sF σ 64 18 = -4) (hR : runP Qb (p.drop s) s = R)
    (hb : ∀ c, stepP Qb c = if inI 1 9 (c - 48) then some (Q (c - 48)) else none) (he : endP Qb = none)
    (hd : ∀ n c, (inI 0 9 (c - 48) && decide (n * 10 + (c - 48) ≤ most)) = true → stepP (Q n) c = some (Q (n * 10 + (c - 48))))
    (kF : R = .inl s → ∀ v σ', FrZ σ σ' → sF σ' 64 18 = nI s → sF σ' 64 17 = nI (s + 1) → K v σ')
    (kT : ∀ v s' σ', FrZ σ σ' → s < s' → s' ≤ p.length → sF σ' 64 17 = nI s' → sF σ' 64 18 = -4 → runP (Q v) (p.drop s') s' = R → (fig p s' = -4 ∨ most < 10 * v + fig p s') → K v σ') : CallI (d + 3) mX6_number [.ref 64, .int most] σ K := by
  have hn4 : ∀ n : Nat, n ≤ 60 → ¬ nI n = (-4 : Int32) := by
    intro n hn z
    have := congrArg Int32.toInt z
    rw [nI_toInt (by omega)] at this
    have e : (-4 : Int32).toInt = -4 := by decide
    omega
  refine cgX6_number (ct_figure hp hl h17 (by omega) ⟨fun c1 => ct_wantsF h18 h17 ?_, fun c1 => ct_wantsT h18 h17 one_ne ?_⟩)
  · have g18 : sF (setF (setF σ 64 18 (nI s)) 64 17 (nI (s + 1))) 64 18 = nI s := by rw [sF_setF, if_neg (by omega), sF_setF, if_pos ⟨rfl, rfl⟩]
    have g17 : sF (setF (setF σ 64 18 (nI s)) 64 17 (nI (s + 1))) 64 17 = nI (s + 1) := by rw [sF_setF, if_pos ⟨rfl, rfl⟩]
    refine sgX6_number_18 (brt' (by rw [g18]; exact hn4 s (by omega)) (kF ?_ _ _ frZ17 g18 g17))
    rcases hc : p[s]? with _ | c
    · have hge : p.length ≤ s := List.getElem?_eq_none_iff.mp hc
      rw [List.drop_of_length_le hge] at hR
      rw [← hR]
      unfold runP
      rw [he]
    · rw [drop_s hc] at hR
      have hno : inI 1 9 (c - 48) = false := by
        cases hh : inI 1 9 (c - 48)
        · rfl
        · have h1 := of_decide_eq_true hh
          have h2 : inI 0 9 (c - 48) = true := decide_eq_true (by omega)
          have hf : fig p s = c - 48 := by unfold fig; rw [ltr_some hc, h2, if_pos rfl]
          rw [hf, Int32.le_iff_toInt_le, k0] at c1
          omega
      rw [← hR]
      unfold runP
      rw [hb, hno]
      rfl
  · have g18 : sF (setF (setF σ 64 18 (-4)) 64 17 (nI (s + 1))) 64 18 = -4 := by rw [sF_setF, if_neg (by omega), sF_setF, if_pos ⟨rfl, rfl⟩]
    have g17 : sF (setF (setF σ 64 18 (-4)) 64 17 (nI (s + 1))) 64 17 = nI (s + 1) := by rw [sF_setF, if_pos ⟨rfl, rfl⟩]
    have hne : ¬ fig p s = -4 := fun z => c1 (by rw [z]; decide)
    obtain ⟨c, hc, hin, hf⟩ := fig_d hne
    have hlt := lt_of hc
    have h1 := of_decide_eq_true hin
    have hyes : inI 1 9 (c - 48) = true := by
      rw [hf, Int32.le_iff_toInt_le, k0] at c1
      exact decide_eq_true (by omega)
    rw [drop_s hc] at hR
    rw [hf]
    refine num_loop (s := s + 1) (R := R) hl hd (fun v s' σ' f a b e1 e2 e3 e4 => kT v s' σ' f (by omega) b e1 e2 e3 e4) (p.length - (s + 1)) (s + 1) (by omega) (Nat.le_refl _) (c - 48) _ frZ17 (hp.z frZ17) g17 g18 ?_
    rw [← hR]
    conv => rhs; unfold runP
    rw [hb, hyes, if_pos rfl]
end MNUM2
