/-! the reading takes a sign -/
def rdP (σ : St) (P : Ps) : Prop := rdG σ P.1 P.2.1 P.2.2.1 P.2.2.2.1 P.2.2.2.2.1 ∧ rdT σ P.2.2.2.2.2.1 P.2.2.2.2.2.2
section ACC
variable {e : Nat} {σ : St} {T : List Tg} {U : List Int32} {w d n mi c : Int32}
theorem frF {σ s : St} {k : Nat} {v : Int32} (f : FrR σ s) : FrR σ (setF s 46 k v) := f.toF rfl
theorem rf46 {σ : St} {k j : Nat} {v : Int32} : sF (setF σ 46 k v) 46 j = if j = k then v else sF σ 46 j := by
  rw [sF_setF]
  by_cases h : j = k
  · rw [if_pos ⟨rfl, h⟩, if_pos h]
  · rw [if_neg (fun z => h z.2), if_neg h]
theorem ct_begin {K : Int32 → St → Prop} {most : Int32} {q : Nat} (k : K (bI (inI 1 most.toInt (c - 48))) (setF (setF σ 46 8 (c - 48)) 46 7 (nI q))) : CallI (e + 2) mX2_acceptsBegin [.ref 46, .int c, .int most, .int (nI q)] σ K := by
  refine cgX2_acceptsBegin ?_
  rintro _ rfl _ rfl
  refine ct_isWithin ⟨nar_b (bI_01 _), ?_⟩
  rw [rf46, if_neg (by decide), rf46, if_pos rfl, k1]
  exact k
theorem ct_dig {K : Int32 → St → Prop} {most : Int32} {q : Nat} (hn : sF σ 46 8 = n) (k0 : (inI 0 9 (c - 48) && decide (n * 10 + (c - 48) ≤ most)) = false → K 0 σ) (k1 : (inI 0 9 (c - 48) && decide (n * 10 + (c - 48) ≤ most)) = true → K 1 (setF (setF σ 46 8 (n * 10 + (c - 48))) 46 7 (nI q))) : CallI (e + 2) mX2_acceptsDigit [.ref 46, .int c, .int most, .int (nI q)] σ K := by
  have e9 : decide ((0 : Int32).toInt ≤ (c - 48).toInt ∧ (c - 48).toInt ≤ (9 : Int32).toInt) = inI 0 9 (c - 48) := rfl
  refine cgX2_acceptsDigit (ct_isWithin ?_)
  rw [hn, e9]
  refine bI_br (fun h => k0 (by rw [h]; rfl)) (fun h => ⟨fun c1 => ?_, fun c1 => k0 (by rw [h, decide_eq_false c1]; rfl)⟩)
  rintro _ rfl _ rfl
  exact k1 (by rw [h, decide_eq_true c1]; rfl)
theorem acc0 {K : Int32 → St → Prop} (h : rdP σ (0, w, d, n, mi, T, U)) (kn : stepP (0, w, d, n, mi, T, U) c = none → ∀ σ', FrR σ σ' → K 0 σ') (ks : ∀ P', stepP (0, w, d, n, mi, T, U) c = some P' → ∀ σ', FrR σ σ' → rdP σ' P' → K 1 σ') : CallI (e + 3) mX2_accepts [.ref 46, .int c] σ K := by
  obtain ⟨g, t⟩ := h
  have hs : stepP (0, w, d, n, mi, T, U) c = if c = 116 then some (1, 0, 0, 0, 0, T, U) else if c = 119 then some (1, 1, 0, 0, 0, T, U) else none := rfl
  have f0 : ∀ v, FrR σ (setF (setF σ 46 11 v) 46 7 1) := fun v => frF (frF (FrX.rf σ))
  have t0 : ∀ v, rdT (setF (setF σ 46 11 v) 46 7 1) T U := fun v => (t.f (by decide) (by decide)).f (by decide) (by decide)
  have g0 : ∀ v d n mi, rdG (setF (setF σ 46 11 v) 46 7 1) 1 v d n mi := fun v d n mi => ⟨by rw [rf46, if_pos rfl]; rfl, fun _ => by rw [rf46, if_neg (by decide), rf46, if_pos rfl], fun z => by omega, fun z => by omega, fun z => by omega⟩
  refine cgX2_accepts ?_
  rw [g.1]
  refine br_t rfl (cgX2_acceptsKind ⟨fun c1 => ?_, fun c1 => ?_⟩)
  · rintro _ rfl _ rfl
    refine ⟨fun c2 => ⟨nar_b (Or.inr rfl), ks _ (by rw [hs, if_pos c2]) _ (f0 _) ⟨g0 _ _ _ _, t0 _⟩⟩, fun c2 => brt' c1 ⟨nar_b (Or.inl rfl), kn (by rw [hs, if_neg c2, if_neg c1]) _ (f0 _)⟩⟩
  · rintro _ rfl _ rfl
    have c2 : ¬ c = 116 := by rw [c1]; decide
    exact br_f c2 (brf' c1 ⟨nar_b (Or.inr rfl), ks _ (by rw [hs, if_neg c2, if_pos c1]) _ (f0 _) ⟨g0 _ _ _ _, t0 _⟩⟩)
end ACC
