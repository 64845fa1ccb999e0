/-! the model reads a target: what is wrong, what is written down -/
abbrev FrQ (σ σ' : St) : Prop := FrX (fun c k => c = 64 ∧ (k = 14 ∨ k = 16 ∨ k = 17 ∨ k = 18)) (fun c => c = 73 ∨ c = 74) False σ σ'
theorem FrZ.Q {a b : St} (h : FrZ a b) : FrQ a b := FrX.mono h (fun _ _ z => ⟨z.1, by omega⟩) (fun _ z => z.elim) (fun z => z)
theorem mpd.q {σ σ' : St} {p : List Int32} (h : mpd σ p) (f : FrQ σ σ') : mpd σ' p := ⟨by rw [f.1 _ _ (by omega)]; exact h.1, fun i c hc => by rw [f.2.1 68 (by omega)]; exact h.2 i c hc⟩
abbrev Rd : Type := Nat ⊕ (List Tg × List Int32)
def mTU (σ : St) (T : List Tg) (U : List Int32) : Prop := sF σ 64 14 = nI T.length ∧ sF σ 64 16 = nI U.length ∧ (∀ (i : Nat) (t : Tg), T[i]? = some t → sA σ 73 (4 * i) = t.1 ∧ sA σ 73 (4 * i + 1) = t.2.1 ∧ sA σ 73 (4 * i + 2) = t.2.2.1 ∧ sA σ 73 (4 * i + 3) = t.2.2.2) ∧ (∀ (j : Nat) (u : Int32), U[j]? = some u → sA σ 74 j = u)
def mBad (σ : St) (R : Rd) : Prop := ∃ e s, R = .inl e ∧ e ≤ 60 ∧ sF σ 64 18 = nI e ∧ sF σ 64 17 = nI s ∧ s < 2 ^ 20
def mGood (σ : St) (s : Nat) : Prop := sF σ 64 17 = nI s ∧ sF σ 64 18 = -4
theorem nI_m4 {n : Nat} (h : n ≤ 60) : ¬ nI n = (-4 : Int32) := by
  intro z
  have := congrArg Int32.toInt z
  rw [nI_toInt (by omega)] at this
  have e : (-4 : Int32).toInt = -4 := by decide
  omega
theorem mBad.ne {σ : St} {R : Rd} (h : mBad σ R) : ¬ sF σ 64 18 = -4 := by
  obtain ⟨e, s, -, h1, h2, -⟩ := h
  rw [h2]
  exact nI_m4 h1
section MTAR
variable {d : Nat} {σ : St} {p : List Int32} {s : Nat} {R : Rd} {T : List Tg} {U : List Int32}
theorem mTU.z {σ' : St} (h : mTU σ T U) (f : FrZ σ σ') : mTU σ' T U := by
  obtain ⟨h1, h2, h3, h4⟩ := h
  exact ⟨by rw [f.1 _ _ (by omega)]; exact h1, by rw [f.1 _ _ (by omega)]; exact h2, fun i t ht => by rw [f.2.1 73 id]; exact h3 i t ht, fun j u hu => by rw [f.2.1 74 id]; exact h4 j u hu⟩
theorem runP_stop {P : Ps} (he : endP P = none) (hs : ∀ c, p[s]? = some c → stepP P c = none) : runP P (p.drop s) s = .inl s := by
  rcases hc : p[s]? with _ | c
  · rw [List.drop_of_length_le (List.getElem?_eq_none_iff.mp hc)]
    unfold runP
    rw [he]
  · rw [drop_s hc]
    unfold runP
    rw [hs c hc]
theorem runP_step {P P' : Ps} {c : Int32} (hc : p[s]? = some c) (hs : stepP P c = some P') : runP P (p.drop s) s = runP P' (p.drop (s + 1)) (s + 1) := by
  rw [drop_s hc]
  conv => lhs; unfold runP
  rw [hs]
theorem ltr_is {k : Int32} (h : ltr p s = k) (hk : ¬ k = -4) : p[s]? = some k := by
  unfold ltr at h
  rcases hc : p[s]? with _ | c
  · rw [hc] at h; exact absurd h.symm hk
  · rw [hc] at h; rw [← h]
theorem ltr_not {k c : Int32} (h : ¬ ltr p s = k) (hc : p[s]? = some c) : ¬ c = k := fun z => h (by rw [ltr_some hc]; exact z)
theorem wn_T {K : St → Prop} (hg : mGood σ s) (k : ∀ σ', FrZ σ σ' → mGood σ' (s + 1) → K σ') : CallU (d + 1) mX6_wants [.ref 64, .int 1] σ K :=
  ct_wantsT hg.2 hg.1 one_ne (k _ frZ17 ⟨by rw [sF_setF, if_pos ⟨rfl, rfl⟩], by rw [sF_setF, if_neg (by omega), sF_setF, if_pos ⟨rfl, rfl⟩]⟩)
theorem wn_F {K : St → Prop} (hg : mGood σ s) (hs : s ≤ 60) (hR : R = .inl s) (k : ∀ σ', FrZ σ σ' → mBad σ' R → K σ') : CallU (d + 1) mX6_wants [.ref 64, .int 0] σ K :=
  ct_wantsF hg.2 hg.1 (k _ frZ17 ⟨s, s + 1, hR, hs, by rw [sF_setF, if_neg (by omega), sF_setF, if_pos ⟨rfl, rfl⟩], by rw [sF_setF, if_pos ⟨rfl, rfl⟩], by omega⟩)
theorem wn_0 {K : St → Prop} {x : Int32} (h : mBad σ R) (k : K σ) : CallU (d + 1) mX6_wants [.ref 64, .int x] σ K := ct_wants0 h.ne k
theorem ix4 (k w : Nat) : (4 : Int32) * nI k + nI w = nI (4 * k + w) := by
  show nI 4 * nI k + nI w = _
  rw [pk_mul, nI_add]
theorem ix40 (k : Nat) : (4 : Int32) * nI k = nI (4 * k) := by
  show nI 4 * nI k = _
  rw [pk_mul]
abbrev FrA (σ σ' : St) : Prop := FrX (fun c k => c = 64 ∧ k = 14) (fun c => c = 73) False σ σ'
theorem FrA.Q {a b : St} (h : FrA a b) : FrQ a b := FrX.mono h (fun _ _ z => ⟨z.1, by omega⟩) (fun _ z => Or.inl z) (fun z => z)
theorem mGood.a {σ' : St} (h : mGood σ s) (f : FrA σ σ') : mGood σ' s := ⟨by rw [f.1 _ _ (by omega)]; exact h.1, by rw [f.1 _ _ (by omega)]; exact h.2⟩
theorem rt_152b {K : St → Prop} {v1 v2 v3 v4 : Int32} (h : mBad σ R) (k : K σ) : Go mX6_readTarget (d + 1) 152 [.ref 64, .int v1, .int v2, .int v3, .int v4, .null] [] σ (QU K) := sgX6_readTarget_152 (brt' h.ne (sgX6_readTarget_226 k))
theorem rt_152 {K : St → Prop} {v1 v2 v3 v4 : Int32} (hg : mGood σ s) (hT : mTU σ T U) (hn : T.length ≤ 12) (hv : v1 = 0 ∨ v1 = 1) (k : ∀ σ', FrA σ σ' → mTU σ' (T ++ [(v2, v3, v4, v1)]) U → K σ') : Go mX6_readTarget (d + 1) 152 [.ref 64, .int v1, .int v2, .int v3, .int v4, .null] [] σ (QU K) := by
  obtain ⟨h1, h2, h3, h4⟩ := hT
  have i1 : (4 : Int32) * nI T.length + 1 = nI (4 * T.length + 1) := ix4 _ 1
  have i2 : (4 : Int32) * nI T.length + 2 = nI (4 * T.length + 2) := ix4 _ 2
  have i3 : (4 : Int32) * nI T.length + 3 = nI (4 * T.length + 3) := ix4 _ 3
  have fin : ∀ x, x = v1 → Go mX6_readTarget (d + 1) 215 [.ref 64, .int v1, .int v2, .int v3, .int v4, .int (nI (4 * T.length))] [.int x, .int (nI (4 * T.length + 3)), .ref 73] (setA (setA (setA σ 73 (4 * T.length) v2) 73 (4 * T.length + 1) v3) 73 (4 * T.length + 2) v4) (QU K) := by
    rintro _ rfl
    refine sgX6_readTarget_215 ⟨vp_in_nI (by omega) (by omega), ?_⟩
    rw [ix_nI (by omega)]
    rintro _ rfl _ rfl
    rw [sF_setA, sF_setA, sF_setA, sF_setA, h1, nI1]
    refine sgX6_readTarget_226 (k _ (((((FrX.rf (P := fun c k => c = 64 ∧ k = 14) (C := fun c => c = 73) (l := False) σ).toA rfl).toA rfl).toA rfl).toA rfl |>.toF ⟨rfl, rfl⟩) ⟨?_, ?_, fun i t ht => ?_, fun j u hu => ?_⟩)
    · rw [sF_setF, if_pos ⟨rfl, rfl⟩, List.length_append]; rfl
    · rw [sF_setF, if_neg (by omega), sF_setA, sF_setA, sF_setA, sF_setA]; exact h2
    · rw [sA_setF]
      simp only [sA_setA]
      rcases Nat.lt_or_ge i T.length with z | z
      · rw [List.getElem?_append_left z] at ht
        have h0 := h3 i t ht
        simp only [true_and]
        rw [if_neg (by omega), if_neg (by omega), if_neg (by omega), if_neg (by omega), if_neg (by omega), if_neg (by omega), if_neg (by omega), if_neg (by omega), if_neg (by omega), if_neg (by omega), if_neg (by omega), if_neg (by omega), if_neg (by omega), if_neg (by omega), if_neg (by omega), if_neg (by omega)]
        exact h0
      · have hl := lt_of ht
        rw [List.length_append, List.length_singleton] at hl
        have hi : i = T.length := by omega
        subst hi
        rw [List.getElem?_append_right (Nat.le_refl _), Nat.sub_self] at ht
        injection ht with ht
        subst ht
        simp
    · rw [sA_setF]
      simp only [sA_setA]
      simpa using h4 j u hu
  refine sgX6_readTarget_152 (brf' hg.2 ?_)
  rw [h1, i1, i2, i3, ix40, ix_nI (by omega), ix_nI (by omega), ix_nI (by omega)]
  refine ⟨vp_in_nI (by omega) (by omega), ?_⟩
  rintro _ rfl
  refine ⟨vp_in_nI (by omega) (by omega), ?_⟩
  rintro _ rfl
  refine ⟨vp_in_nI (by omega) (by omega), ?_⟩
  rintro _ rfl
  rcases hv with rfl | rfl
  · exact br_t rfl (fin 0 rfl)
  · exact br_f one_ne (fin 1 rfl)
end MTAR
