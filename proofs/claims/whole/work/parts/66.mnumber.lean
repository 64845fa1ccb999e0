/-! the model reads a number as the machine does -/
abbrev FrZ (σ σ' : St) : Prop := FrX (fun c k => c = 64 ∧ (k = 17 ∨ k = 18)) (fun _ => False) False σ σ'
theorem mpd.z {σ σ' : St} {p : List Int32} (h : mpd σ p) (f : FrZ σ σ') : mpd σ' p := ⟨by rw [f.1 _ _ (by omega)]; exact h.1, fun i c hc => by rw [f.2.1 68 id]; exact h.2 i c hc⟩
theorem ltr_some {p : List Int32} {s : Nat} {c : Int32} (h : p[s]? = some c) : ltr p s = c := by unfold ltr; rw [h]
theorem fig_none {p : List Int32} {s : Nat} (h : p[s]? = none) : fig p s = -4 := by
  unfold fig ltr
  rw [h]
  decide
theorem fig_d {p : List Int32} {s : Nat} (h : ¬ fig p s = -4) : ∃ c, p[s]? = some c ∧ inI 0 9 (c - 48) = true ∧ fig p s = c - 48 := by
  rcases hc : p[s]? with _ | c
  · exact absurd (fig_none hc) h
  · refine ⟨c, rfl, ?_⟩
    unfold fig at h ⊢
    rw [ltr_some hc] at h ⊢
    cases e : inI 0 9 (c - 48)
    · rw [e, if_neg (by decide)] at h; exact absurd rfl h
    · exact ⟨rfl, by rw [if_pos rfl]⟩
section MNUM
variable {d : Nat} {σ : St} {p : List Int32} {s : Nat}
theorem frZ17 {v w : Int32} : FrZ σ (setF (setF σ 64 18 v) 64 17 w) := ((FrX.rf σ).toF ⟨rfl, Or.inr rfl⟩).toF ⟨rfl, Or.inl rfl⟩
theorem num_loop {K : Int32 → St → Prop} {most : Int32} {Q : Int32 → Ps} {R : Nat ⊕ (List Tg × List Int32)} (hl : p.length ≤ 60) (hd : ∀ n c, (inI 0 9 (c - 48) && decide (n * 10 + (c - 48) ≤ most)) = true → stepP (Q n) c = some (Q (n * 10 + (c - 48)))) (kT : ∀ v s' σ', FrZ σ σ' → s ≤ s' → s' ≤ p.length → sF σ' 64 17 = nI s' → sF σ' 64 18 = -4 → runP (Q v) (p.drop s') s' = R → (fig p s' = -4 ∨ most < 10 * v + fig p s') → K v σ') : ∀ k2 i, i + k2 = p.length → s ≤ i → ∀ (v : Int32) (σ1 : St), FrZ σ σ1 → mpd σ1 p → sF σ1 64 17 = nI i → sF σ1 64 18 = -4 → runP (Q v) (p.drop i) i = R → Go mX6_number (d + 3) 18 [.ref 64, .int most, .int v] [] σ1 (QI K) := by
  intro k2
  induction k2 with
  | zero =>
    intro i hi hsi v σ1 f1 hp1 h17 h18 hr
    have hn : fig p i = -4 := fig_none (List.getElem?_eq_none_iff.mpr (by omega))
    refine sgX6_number_18 (brf' h18 (ct_figure hp1 hl h17 (by omega) (br_t hn (kT v i σ1 f1 hsi (by omega) h17 h18 hr (Or.inl hn)))))
  | succ k2 ih =>
    intro i hi hsi v σ1 f1 hp1 h17 h18 hr
    refine sgX6_number_18 (brf' h18 (ct_figure hp1 hl h17 (by omega) ⟨fun c1 => kT v i σ1 f1 hsi (by omega) h17 h18 hr (Or.inl c1), fun c1 => ct_figure hp1 hl h17 (by omega) ⟨fun c2 => kT v i σ1 f1 hsi (by omega) h17 h18 hr (Or.inr c2), fun c2 => ct_figure hp1 hl h17 (by omega) ?_⟩⟩))
    obtain ⟨c, hc, hin, hf⟩ := fig_d c1
    rintro _ rfl
    rw [h17, nI1, hf]
    rw [hf] at c2
    have hle : v * 10 + (c - 48) ≤ most := by rw [Int32.mul_comm]; exact Int32.not_lt.mp c2
    have hst := hd v c (by rw [hin, decide_eq_true hle]; rfl)
    rw [drop_s hc] at hr
    refine ih (i + 1) (by omega) (by omega) _ _ (f1.toF ⟨rfl, Or.inl rfl⟩) (hp1.z ((FrX.rf σ1).toF ⟨rfl, Or.inl rfl⟩)) (by rw [sF_setF, if_pos ⟨rfl, rfl⟩]) (by rw [sF_setF, if_neg (by omega)]; exact h18) ?_
    rw [← hr, Int32.mul_comm 10 v]
    conv => rhs; unfold runP
    rw [hst]
end MNUM
