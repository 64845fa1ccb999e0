/-! the reading takes a sign behind a strength -/
section ACC4
variable {e : Nat} {σ : St} {T : List Tg} {U : List Int32} {w d n mi c : Int32}
theorem acc4 {K : Int32 → St → Prop} (h : rdP σ (4, w, d, n, mi, T, U)) (hT : T.length < 12) (hw : w = 0 ∨ w = 1) (kn : stepP (4, w, d, n, mi, T, U) c = none → ∀ σ', FrR σ σ' → K 0 σ') (ks : ∀ P', stepP (4, w, d, n, mi, T, U) c = some P' → ∀ σ', FrR σ σ' → rdP σ' P' → K 1 σ') : CallI (e + 4) mX2_accepts [.ref 46, .int c] σ K := by
  have g : rdG σ 4 w d n mi := h.1
  have t : rdT σ T U := h.2
  have hs : stepP (4, w, d, n, mi, T, U) c = if inI 0 9 (c - 48) && decide (n * 10 + (c - 48) ≤ 99) then some (4, w, d, n * 10 + (c - 48), 0, T, U) else if w = 0 ∧ (c = 43 ∨ c = 45) then some (5, w, d, n, (if c = 45 then 1 else 0), T, U) else if c = 44 then some (0, 0, 0, 0, 0, T ++ [(d, n, 0, w)], U) else if c = 59 then some (7, 0, 0, 0, 0, T ++ [(d, n, 0, w)], U) else none := rfl
  have g11 : sF σ 46 11 = w := g.2.1 (by decide)
  have g9 : sF σ 46 9 = d := g.2.2.2.1 (by decide)
  have g8 : sF σ 46 8 = n := g.2.2.1 (by decide)
  refine cgX2_accepts ?_
  rw [show sF σ 46 7 = nI 4 from g.1]
  refine br_f (by decide) (br_f (by decide) (br_f (by decide) (br_f (by decide) (br_t rfl (cgX2_acceptsBehindStrength (ct_dig (q := 4) g8 (fun z => br_t rfl ?_) (fun z => br_f (by decide) ⟨nar_b (Or.inr rfl), ?_⟩)))))))
  · rw [hs, z, if_neg (by decide)] at kn
    have ks' : ∀ P', (if w = 0 ∧ (c = 43 ∨ c = 45) then some (5, w, d, n, (if c = 45 then (1 : Int32) else 0), T, U) else if c = 44 then some (0, 0, 0, 0, 0, T ++ [(d, n, 0, w)], U) else if c = 59 then some (7, 0, 0, 0, 0, T ++ [(d, n, 0, w)], U) else none) = some P' → ∀ σ', FrR σ σ' → rdP σ' P' → K 1 σ' := by
      rw [hs, z, if_neg (by decide)] at ks
      exact ks
    clear ks
    rw [g11, g8]
    -- keep, and the end of the target
    have fin44 : ¬ (w = 0 ∧ (c = 43 ∨ c = 45)) → (c = 44 ∨ c = 59) → CallU (e + 2) mX2_keepTarget [.ref 46, .int n, .int 0] σ (fun s6 => CallI (e + 2) mX2_acceptsTargetEnd [.ref 46, .int c] s6 (fun r8 s7 => (narrow .boolean (.int r8) = .int r8) ∧ ((narrow .boolean (.int r8) = .int r8) ∧ K r8 s7))) := by
      intro hno hc
      refine ct_keepTarget t hT (by rw [g11]; exact hw) (fun σ2 f2 t2 _ => ?_)
      rw [g11, g9] at t2
      refine ct_tend t2 (fun a b => ?_) (fun a σ' f r => ⟨nar_b (Or.inr rfl), nar_b (Or.inr rfl), ks' _ (by rw [if_neg hno, if_pos a]) σ' (f2.tr f) r⟩) (fun a b σ' f r => ⟨nar_b (Or.inr rfl), nar_b (Or.inr rfl), ks' _ (by rw [if_neg hno, if_neg a, if_pos b]) σ' (f2.tr f) r⟩)
      rcases hc with z | z
      · exact absurd z a
      · exact absurd z b
    have mov : w = 0 → (c = 43 ∨ c = 45) → ∀ v, v = (if c = 45 then (1 : Int32) else 0) → K 1 (setF (setF (setF σ 46 10 n) 46 12 v) 46 7 5) := by
      intro hw0 hc v hv
      refine ks' (5, w, d, n, (if c = 45 then (1 : Int32) else 0), T, U) (by rw [if_pos ⟨hw0, hc⟩]) _ (frF (frF (frF (FrX.rf σ)))) (rdP_mk ⟨by rw [rf46, if_pos rfl]; rfl, fun _ => ?_, fun z => absurd z (by decide), fun _ => ?_, fun _ => ⟨?_, ?_⟩⟩ (((t.f (by decide) (by decide)).f (by decide) (by decide)).f (by decide) (by decide)))
      · rw [rf46, if_neg (by decide), rf46, if_neg (by decide), rf46, if_neg (by decide)]; exact g11
      · rw [rf46, if_neg (by decide), rf46, if_neg (by decide), rf46, if_neg (by decide)]; exact g9
      · rw [rf46, if_neg (by decide), rf46, if_neg (by decide), rf46, if_pos rfl]
      · rw [rf46, if_neg (by decide), rf46, if_pos rfl]; exact hv
    have none' : ¬ (w = 0 ∧ (c = 43 ∨ c = 45)) → ¬ c = 44 → ¬ c = 59 → K 0 σ := fun a b c' => kn (by rw [if_neg a, if_neg b, if_neg c']) σ (FrX.rf σ)
    refine ⟨fun w0 => ?_, fun w0 => ?_⟩
    · have hno : ¬ (w = 0 ∧ (c = 43 ∨ c = 45)) := fun z => w0 z.1
      exact ⟨fun c1 => fin44 hno (Or.inl c1), fun c1 => ⟨fun c2 => fin44 hno (Or.inr c2), fun c2 => ⟨nar_b (Or.inl rfl), none' hno c1 c2⟩⟩⟩
    · refine ⟨fun c1 => ?_, fun c1 => ⟨fun c2 => ?_, fun c2 => ?_⟩⟩
      · rintro _ rfl
        have c2 : ¬ c = 45 := by rw [c1]; decide
        refine brt' c2 ?_
        rintro _ rfl _ rfl
        exact ⟨nar_b (Or.inr rfl), mov w0 (Or.inl c1) 0 (by rw [if_neg c2])⟩
      · have hno : ¬ (w = 0 ∧ (c = 43 ∨ c = 45)) := fun z => by
          rcases z.2 with q | q
          · exact c1 q
          · exact c2 q
        exact ⟨fun c3 => fin44 hno (Or.inl c3), fun c3 => ⟨fun c4 => fin44 hno (Or.inr c4), fun c4 => ⟨nar_b (Or.inl rfl), none' hno c3 c4⟩⟩⟩
      · rintro _ rfl
        refine brf' c2 ?_
        rintro _ rfl _ rfl
        exact ⟨nar_b (Or.inr rfl), mov w0 (Or.inr c2) 1 (by rw [if_pos c2])⟩
  · exact ks (4, w, d, n * 10 + (c - 48), 0, T, U) (by rw [hs, z]; rfl) _ f87 (rdP_mk ⟨q87, fun _ => (s87 (by decide) (by decide)).trans g11, fun _ => n87, fun _ => (s87 (by decide) (by decide)).trans g9, fun z => absurd z (by decide)⟩ (t87 t))
end ACC4
