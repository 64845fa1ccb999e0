/-! the reading takes a sign: numbers, ends -/
section ACC2
variable {e : Nat} {σ : St} {T : List Tg} {U : List Int32} {w d n mi c : Int32}
theorem s87 {x : Int32} {q j : Nat} (h8 : j ≠ 8) (h7 : j ≠ 7) : sF (setF (setF σ 46 8 x) 46 7 (nI q)) 46 j = sF σ 46 j := by rw [rf46, if_neg h7, rf46, if_neg h8]
theorem f87 {x : Int32} {q : Nat} : FrR σ (setF (setF σ 46 8 x) 46 7 (nI q)) := frF (frF (FrX.rf σ))
theorem t87 {x : Int32} {q : Nat} (t : rdT σ T U) : rdT (setF (setF σ 46 8 x) 46 7 (nI q)) T U := (t.f (by decide) (by decide)).f (by decide) (by decide)
theorem n87 {x : Int32} {q : Nat} : sF (setF (setF σ 46 8 x) 46 7 (nI q)) 46 8 = x := by rw [rf46, if_neg (by decide), rf46, if_pos rfl]
theorem q87 {x : Int32} {q : Nat} : sF (setF (setF σ 46 8 x) 46 7 (nI q)) 46 7 = nI q := by rw [rf46, if_pos rfl]
theorem rdP_mk {q : Nat} (a : rdG σ q w d n mi) (b : rdT σ T U) : rdP σ (q, w, d, n, mi, T, U) := ⟨a, b⟩
theorem acc1 {K : Int32 → St → Prop} (h : rdP σ (1, w, d, n, mi, T, U)) (kn : stepP (1, w, d, n, mi, T, U) c = none → ∀ σ', FrR σ σ' → K 0 σ') (ks : ∀ P', stepP (1, w, d, n, mi, T, U) c = some P' → ∀ σ', FrR σ σ' → rdP σ' P' → K 1 σ') : CallI (e + 3) mX2_accepts [.ref 46, .int c] σ K := by
  have g : rdG σ 1 w d n mi := h.1
  have t : rdT σ T U := h.2
  have hs : stepP (1, w, d, n, mi, T, U) c = if inI 1 9 (c - 48) then some (2, w, 0, c - 48, 0, T, U) else none := rfl
  refine cgX2_accepts ?_
  rw [show sF σ 46 7 = nI 1 from g.1]
  refine br_f (by decide) (br_t rfl (ct_begin (q := 2) ⟨nar_b (bI_01 _), ?_⟩))
  rw [k9]
  cases hb : inI 1 9 (c - 48)
  · exact kn (by rw [hs, hb]; rfl) _ f87
  · exact ks (2, w, 0, c - 48, 0, T, U) (by rw [hs, hb]; rfl) _ f87 (rdP_mk ⟨q87, fun _ => (s87 (by decide) (by decide)).trans (g.2.1 (by decide)), fun _ => n87, fun z => absurd z.1 (by decide), fun z => absurd z (by decide)⟩ (t87 t))
theorem acc3 {K : Int32 → St → Prop} (h : rdP σ (3, w, d, n, mi, T, U)) (kn : stepP (3, w, d, n, mi, T, U) c = none → ∀ σ', FrR σ σ' → K 0 σ') (ks : ∀ P', stepP (3, w, d, n, mi, T, U) c = some P' → ∀ σ', FrR σ σ' → rdP σ' P' → K 1 σ') : CallI (e + 3) mX2_accepts [.ref 46, .int c] σ K := by
  have g : rdG σ 3 w d n mi := h.1
  have t : rdT σ T U := h.2
  have hs : stepP (3, w, d, n, mi, T, U) c = if inI 1 9 (c - 48) then some (4, w, d, c - 48, 0, T, U) else none := rfl
  refine cgX2_accepts ?_
  rw [show sF σ 46 7 = nI 3 from g.1]
  refine br_f (by decide) (br_f (by decide) (br_f (by decide) (br_t rfl (ct_begin (q := 4) ⟨nar_b (bI_01 _), ?_⟩))))
  rw [k9]
  cases hb : inI 1 9 (c - 48)
  · exact kn (by rw [hs, hb]; rfl) _ f87
  · exact ks (4, w, d, c - 48, 0, T, U) (by rw [hs, hb]; rfl) _ f87 (rdP_mk ⟨q87, fun _ => (s87 (by decide) (by decide)).trans (g.2.1 (by decide)), fun _ => n87, fun _ => (s87 (by decide) (by decide)).trans (g.2.2.2.1 (by decide)), fun z => absurd z (by decide)⟩ (t87 t))
theorem acc7 {K : Int32 → St → Prop} (h : rdP σ (7, w, d, n, mi, T, U)) (kn : stepP (7, w, d, n, mi, T, U) c = none → ∀ σ', FrR σ σ' → K 0 σ') (ks : ∀ P', stepP (7, w, d, n, mi, T, U) c = some P' → ∀ σ', FrR σ σ' → rdP σ' P' → K 1 σ') : CallI (e + 3) mX2_accepts [.ref 46, .int c] σ K := by
  have g : rdG σ 7 w d n mi := h.1
  have t : rdT σ T U := h.2
  have hs : stepP (7, w, d, n, mi, T, U) c = if inI 1 5 (c - 48) then some (8, 0, 0, c - 48, 0, T, U) else none := rfl
  refine cgX2_accepts ?_
  rw [show sF σ 46 7 = nI 7 from g.1]
  refine br_f (by decide) (br_f (by decide) (br_f (by decide) (br_f (by decide) (br_f (by decide) (br_f (by decide) (br_f (by decide) (br_t rfl (ct_begin (q := 8) ⟨nar_b (bI_01 _), ?_⟩))))))))
  rw [k5]
  cases hb : inI 1 5 (c - 48)
  · exact kn (by rw [hs, hb]; rfl) _ f87
  · exact ks (8, 0, 0, c - 48, 0, T, U) (by rw [hs, hb]; rfl) _ f87 (rdP_mk ⟨q87, fun z => absurd z (by decide), fun _ => n87, fun z => absurd z (by decide), fun z => absurd z (by decide)⟩ (t87 t))
theorem acc2 {K : Int32 → St → Prop} (h : rdP σ (2, w, d, n, mi, T, U)) (kn : stepP (2, w, d, n, mi, T, U) c = none → ∀ σ', FrR σ σ' → K 0 σ') (ks : ∀ P', stepP (2, w, d, n, mi, T, U) c = some P' → ∀ σ', FrR σ σ' → rdP σ' P' → K 1 σ') : CallI (e + 3) mX2_accepts [.ref 46, .int c] σ K := by
  have g : rdG σ 2 w d n mi := h.1
  have t : rdT σ T U := h.2
  have hs : stepP (2, w, d, n, mi, T, U) c = if c = 42 then some (3, w, n, 0, 0, T, U) else if inI 0 9 (c - 48) && decide (n * 10 + (c - 48) ≤ 300) then some (2, w, 0, n * 10 + (c - 48), 0, T, U) else none := rfl
  have gn : sF σ 46 8 = n := g.2.2.1 (by decide)
  refine cgX2_accepts ?_
  rw [show sF σ 46 7 = nI 2 from g.1]
  refine br_f (by decide) (br_f (by decide) (br_t rfl ⟨fun c1 => ct_dig (q := 2) gn (fun z => ⟨nar_b (Or.inl rfl), ?_⟩) (fun z => ⟨nar_b (Or.inr rfl), ?_⟩), fun c1 => cgX2_endDistance ?_⟩))
  · exact kn (by rw [hs, if_neg c1, z]; rfl) _ (FrX.rf σ)
  · exact ks (2, w, 0, n * 10 + (c - 48), 0, T, U) (by rw [hs, if_neg c1, z]; rfl) _ f87 (rdP_mk ⟨q87, fun _ => (s87 (by decide) (by decide)).trans (g.2.1 (by decide)), fun _ => n87, fun z => absurd z.1 (by decide), fun z => absurd z (by decide)⟩ (t87 t))
  · rintro _ rfl _ rfl
    refine ⟨nar_b (Or.inr rfl), ks (3, w, n, 0, 0, T, U) (by rw [hs, if_pos c1]) _ (frF (frF (FrX.rf σ))) (rdP_mk ⟨by rw [rf46, if_pos rfl]; rfl, fun _ => ?_, fun z => absurd z (by decide), fun _ => ?_, fun z => absurd z (by decide)⟩ ((t.f (by decide) (by decide)).f (by decide) (by decide)))⟩
    · rw [rf46, if_neg (by decide), rf46, if_neg (by decide)]
      exact g.2.1 (by decide)
    · rw [rf46, if_neg (by decide), rf46, if_pos rfl]
      exact gn
theorem ct_keepSpacing {K : Int32 → St → Prop} (t : rdT σ T U) (hU : U.length < 4) (k : ∀ σ', FrR σ σ' → rdT σ' T (U ++ [sF σ 46 8]) → sF σ' 46 7 = sF σ 46 7 → K 1 σ') : CallI (e + 1) mX2_keepSpacing [.ref 46] σ K := by
  obtain ⟨h1, h2, h3, h4⟩ := t
  refine cgX2_keepSpacing ?_
  rw [h2, ix_nI (by omega)]
  refine br_f (nI_pos (by omega)) (br_t (nI_lt (b := 4) hU (by omega)) ⟨vp_in_nI hU (by omega), ?_⟩)
  rintro _ rfl
  rw [sF_setA, h2, nI1]
  rintro _ rfl
  refine k _ (((FrX.rf (P := fun c _ => c = 46) (C := fun c => 47 ≤ c ∧ c ≤ 51) (l := False) σ).toA (by omega)).toF rfl) ⟨?_, ?_, fun i u hu => ?_, fun j u hu => ?_⟩ ?_
  · rw [rf46, if_neg (by decide), sF_setA]; exact h1
  · rw [rf46, if_pos rfl, List.length_append]; rfl
  · rw [sA_setF]
    simp only [sA_setA]
    simpa using h3 i u hu
  · rw [sA_setF, sA_setA]
    rcases Nat.lt_or_ge j U.length with z | z
    · rw [List.getElem?_append_left z] at hu
      rw [if_neg (by omega)]
      exact h4 j u hu
    · have hl := lt_of hu
      rw [List.length_append, List.length_singleton] at hl
      have hj : j = U.length := by omega
      subst hj
      rw [List.getElem?_append_right (Nat.le_refl _), Nat.sub_self] at hu
      injection hu with hu
      rw [if_pos ⟨rfl, rfl⟩]
      exact hu
  · rw [rf46, if_neg (by decide), sF_setA]
theorem acc8 {K : Int32 → St → Prop} (h : rdP σ (8, w, d, n, mi, T, U)) (hU : U.length < 4) (kn : stepP (8, w, d, n, mi, T, U) c = none → ∀ σ', FrR σ σ' → K 0 σ') (ks : ∀ P', stepP (8, w, d, n, mi, T, U) c = some P' → ∀ σ', FrR σ σ' → rdP σ' P' → K 1 σ') : CallI (e + 3) mX2_accepts [.ref 46, .int c] σ K := by
  have g : rdG σ 8 w d n mi := h.1
  have t : rdT σ T U := h.2
  have hs : stepP (8, w, d, n, mi, T, U) c = if inI 0 9 (c - 48) && decide (n * 10 + (c - 48) ≤ 50) then some (9, 0, 0, 0, 0, T, U ++ [n * 10 + (c - 48)]) else none := rfl
  have gn : sF σ 46 8 = n := g.2.2.1 (by decide)
  refine cgX2_accepts ?_
  rw [show sF σ 46 7 = nI 8 from g.1]
  refine br_f (by decide) (br_f (by decide) (br_f (by decide) (br_f (by decide) (br_f (by decide) (br_f (by decide) (br_f (by decide) (br_f (by decide) (br_t rfl (ct_dig (q := 9) gn (fun z => br_t rfl ?_) (fun z => br_f (by decide) (ct_keepSpacing (t87 t) hU (fun σ2 f2 t2 q2 => br_f (by decide) ?_))))))))))))
  · exact kn (by rw [hs, z]; rfl) _ (FrX.rf σ)
  · rw [n87] at t2
    exact ks (9, 0, 0, 0, 0, T, U ++ [n * 10 + (c - 48)]) (by rw [hs, z]; rfl) _ (f87.tr f2) (rdP_mk ⟨q2.trans q87, fun z => absurd z (by decide), fun z => absurd z (by decide), fun z => absurd z (by decide), fun z => absurd z (by decide)⟩ t2)
end ACC2
