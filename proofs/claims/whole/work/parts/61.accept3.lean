/-! the reading takes a sign: ends, movement, behind a strength -/
section ACC3
variable {e : Nat} {σ : St} {T : List Tg} {U : List Int32} {w d n mi c : Int32}
theorem rdP_q {q : Nat} {v : Int32} (hv : v = nI q) (hq : q = 0 ∨ q = 6 ∨ q = 7) (t : rdT σ T U) : rdP (setF σ 46 7 v) (q, 0, 0, 0, 0, T, U) := rdP_mk ⟨by rw [rf46, if_pos rfl, hv], fun z => by omega, fun z => by omega, fun z => by omega, fun z => by omega⟩ (t.f (by decide) (by decide))
theorem ct_tend {K : Int32 → St → Prop} (t : rdT σ T U) (k0 : ¬ c = 44 → ¬ c = 59 → ∀ σ', FrR σ σ' → K 0 σ') (k44 : c = 44 → ∀ σ', FrR σ σ' → rdP σ' (0, 0, 0, 0, 0, T, U) → K 1 σ') (k59 : ¬ c = 44 → c = 59 → ∀ σ', FrR σ σ' → rdP σ' (7, 0, 0, 0, 0, T, U) → K 1 σ') : CallI (e + 1) mX2_acceptsTargetEnd [.ref 46, .int c] σ K := by
  refine cgX2_acceptsTargetEnd ⟨fun c1 => ?_, fun c1 => ?_⟩
  · rintro _ rfl
    exact br_f c1 ⟨fun c2 => k0 c1 c2 _ (frF (FrX.rf σ)), fun c2 => k59 c1 c2 _ (frF (FrX.rf σ)) (rdP_q rfl (by decide) t)⟩
  · rintro _ rfl
    exact br_t c1 (k44 c1 _ (frF (FrX.rf σ)) (rdP_q rfl (by decide) t))
theorem acc6 {K : Int32 → St → Prop} (h : rdP σ (6, w, d, n, mi, T, U)) (kn : stepP (6, w, d, n, mi, T, U) c = none → ∀ σ', FrR σ σ' → K 0 σ') (ks : ∀ P', stepP (6, w, d, n, mi, T, U) c = some P' → ∀ σ', FrR σ σ' → rdP σ' P' → K 1 σ') : CallI (e + 3) mX2_accepts [.ref 46, .int c] σ K := by
  have g : rdG σ 6 w d n mi := h.1
  have t : rdT σ T U := h.2
  have hs : stepP (6, w, d, n, mi, T, U) c = if c = 44 then some (0, 0, 0, 0, 0, T, U) else if c = 59 then some (7, 0, 0, 0, 0, T, U) else none := rfl
  refine cgX2_accepts ?_
  rw [show sF σ 46 7 = nI 6 from g.1]
  refine br_f (by decide) (br_f (by decide) (br_f (by decide) (br_f (by decide) (br_f (by decide) (br_f (by decide) (br_t rfl (ct_tend t (fun a b σ' f => ⟨nar_b (Or.inl rfl), kn (by rw [hs, if_neg a, if_neg b]) σ' f⟩) (fun a σ' f r => ⟨nar_b (Or.inr rfl), ks _ (by rw [hs, if_pos a]) σ' f r⟩) (fun a b σ' f r => ⟨nar_b (Or.inr rfl), ks _ (by rw [hs, if_neg a, if_pos b]) σ' f r⟩))))))))
theorem acc9 {K : Int32 → St → Prop} (h : rdP σ (9, w, d, n, mi, T, U)) (hU : U.length ≤ 4) (kn : stepP (9, w, d, n, mi, T, U) c = none → ∀ σ', FrR σ σ' → K 0 σ') (ks : ∀ P', stepP (9, w, d, n, mi, T, U) c = some P' → ∀ σ', FrR σ σ' → rdP σ' P' → K 1 σ') : CallI (e + 3) mX2_accepts [.ref 46, .int c] σ K := by
  have g : rdG σ 9 w d n mi := h.1
  have t : rdT σ T U := h.2
  have hs : stepP (9, w, d, n, mi, T, U) c = if c = 47 ∧ U.length < 4 then some (7, 0, 0, 0, 0, T, U) else none := rfl
  refine cgX2_accepts ?_
  rw [show sF σ 46 7 = nI 9 from g.1]
  refine br_f (by decide) (br_f (by decide) (br_f (by decide) (br_f (by decide) (br_f (by decide) (br_f (by decide) (br_f (by decide) (br_f (by decide) (br_f (by decide) (cgX2_acceptsSlash ?_)))))))))
  rintro _ rfl
  rw [rf46, if_neg (by decide), t.2.1]
  refine br_c' (fun c1 => ⟨nar_b (Or.inl rfl), kn (by rw [hs, if_neg (fun z => c1 z.1)]) _ (frF (FrX.rf σ))⟩) (fun c1 => ?_)
  rcases Nat.lt_or_ge U.length 4 with c2 | c2
  · exact br_f (nI_ge (b := 4) c2 (by omega)) ⟨nar_b (Or.inr rfl), ks _ (by rw [hs, if_pos ⟨c1, c2⟩]) _ (frF (FrX.rf σ)) (rdP_q rfl (by decide) t)⟩
  · exact br_t (nI_le (a := 4) (by omega) (by omega)) ⟨nar_b (Or.inl rfl), kn (by rw [hs, if_neg (fun z => by omega)]) _ (frF (FrX.rf σ))⟩
theorem acc5 {K : Int32 → St → Prop} (h : rdP σ (5, w, d, n, mi, T, U)) (hT : T.length < 12) (hw : w = 0 ∨ w = 1) (kn : stepP (5, w, d, n, mi, T, U) c = none → ∀ σ', FrR σ σ' → K 0 σ') (ks : ∀ P', stepP (5, w, d, n, mi, T, U) c = some P' → ∀ σ', FrR σ σ' → rdP σ' P' → K 1 σ') : CallI (e + 3) mX2_accepts [.ref 46, .int c] σ K := by
  have g : rdG σ 5 w d n mi := h.1
  have t : rdT σ T U := h.2
  have hs : stepP (5, w, d, n, mi, T, U) c = if inI 1 5 (c - 48) then some (6, 0, 0, 0, 0, T ++ [(d, n, (if mi = 0 then c - 48 else -(c - 48)), w)], U) else none := rfl
  have g11 : sF σ 46 11 = w := g.2.1 (by decide)
  have g9 : sF σ 46 9 = d := g.2.2.2.1 (by decide)
  have g10 := g.2.2.2.2 rfl
  refine cgX2_accepts ?_
  rw [show sF σ 46 7 = nI 5 from g.1]
  refine br_f (by decide) (br_f (by decide) (br_f (by decide) (br_f (by decide) (br_f (by decide) (br_t rfl (cgX2_acceptsMovement (ct_isWithin ?_)))))))
  rw [k1, k5, g10.2, g10.1]
  show (¬ bI (inI 1 5 (c - 48)) = 0 → _) ∧ _
  refine bI_br' (fun z => ⟨nar_b (Or.inl rfl), kn (by rw [hs, z]; rfl) _ (FrX.rf σ)⟩) (fun z => ⟨fun c1 => ?_, fun c1 => ?_⟩)
  · refine ct_keepTarget t hT (by rw [g11]; exact hw) (fun σ2 f2 t2 _ => ?_)
    rintro _ rfl
    rw [g11, g9] at t2
    exact ⟨nar_b (Or.inr rfl), ks _ (by rw [hs, z, if_pos rfl, if_pos c1]) _ (frF f2) (rdP_q rfl (by decide) t2)⟩
  · refine ct_keepTarget t hT (by rw [g11]; exact hw) (fun σ2 f2 t2 _ => ?_)
    rintro _ rfl
    rw [g11, g9] at t2
    exact ⟨nar_b (Or.inr rfl), ks _ (by rw [hs, z, if_pos rfl, if_neg c1]) _ (frF f2) (rdP_q rfl (by decide) t2)⟩
end ACC3
