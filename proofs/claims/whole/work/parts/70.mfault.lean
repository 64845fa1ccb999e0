/-! the model reads a spacing; its fault -/
section MFAU
variable {d : Nat} {σ : St} {p : List Int32} {s : Nat} {R : Rd} {T : List Tg} {U : List Int32}
theorem mTU.q14 {σ' : St} {k : Nat} {v : Int32} (h : mTU σ T U) (hk : k = 17 ∨ k = 18) (e : σ' = setF σ 64 k v) : mTU σ' T U := by
  subst e
  obtain ⟨h1, h2, h3, h4⟩ := h
  exact ⟨by rw [sF_setF, if_neg (by omega)]; exact h1, by rw [sF_setF, if_neg (by omega)]; exact h2, h3, h4⟩
theorem runP_stop' {P : Ps} {c : Int32} (hc : p[s]? = some c) (hs : stepP P c = none) : runP P (p.drop s) s = .inl s := by
  rw [drop_s hc]
  unfold runP
  rw [hs]
theorem rs_43b {K : St → Prop} {v1 v2 w0 : Int32} (h : mBad σ R) (k : K σ) : Go mX6_readSpacing (d + 2) 43 [.ref 64, .int v1, .int v2] [.int w0, .ref 64] σ (QU K) :=
  sgX6_readSpacing_43 (wn_0 h (brt' h.ne (sgX6_readSpacing_80 k)))
theorem rs_43F {K : St → Prop} {v1 v2 : Int32} (hg : mGood σ s) (hs : s ≤ 60) (hR : R = .inl s) (k : ∀ σ', FrQ σ σ' → mBad σ' R → K σ') : Go mX6_readSpacing (d + 2) 43 [.ref 64, .int v1, .int v2] [.int 0, .ref 64] σ (QU K) :=
  sgX6_readSpacing_43 (wn_F hg hs hR (fun σ1 f1 b1 => brt' b1.ne (sgX6_readSpacing_80 (k σ1 f1.Q b1))))
theorem rs_43T {K : St → Prop} {v1 v2 : Int32} (hg : mGood σ s) (hT : mTU σ T U) (hU : U.length < 4) (k : ∀ σ', FrQ σ σ' → mGood σ' (s + 1) → mTU σ' T (U ++ [10 * v1 + v2]) → K σ') : Go mX6_readSpacing (d + 2) 43 [.ref 64, .int v1, .int v2] [.int 1, .ref 64] σ (QU K) := by
  refine sgX6_readSpacing_43 (wn_T hg (fun σ1 f1 g1 => brf' g1.2 ?_))
  obtain ⟨h1, h2, h3, h4⟩ := hT.z f1
  rw [h2, ix_nI (by omega)]
  refine ⟨vp_in_nI hU (by omega), ?_⟩
  rintro _ rfl _ rfl
  rw [sF_setA, h2, nI1]
  have f2 : FrQ σ1 (setF (setA σ1 74 U.length (10 * v1 + v2)) 64 16 (nI (U.length + 1))) := ((FrX.rf σ1).toA (Or.inr rfl)).toF ⟨rfl, Or.inr (Or.inl rfl)⟩
  refine sgX6_readSpacing_80 (k _ (f1.Q.tr f2) ⟨?_, ?_⟩ ⟨?_, ?_, fun i t ht => ?_, fun j u hu => ?_⟩)
  · rw [sF_setF, if_neg (by omega)]; exact g1.1
  · rw [sF_setF, if_neg (by omega)]; exact g1.2
  · rw [sF_setF, if_neg (by omega)]; exact h1
  · rw [sF_setF, if_pos ⟨rfl, rfl⟩, List.length_append]; rfl
  · rw [sA_setF]
    simp only [sA_setA]
    simpa using h3 i t ht
  · rw [sA_setF, sA_setA]
    rcases Nat.lt_or_ge j U.length with z | z
    · rw [List.getElem?_append_left z] at hu
      rw [if_neg (by omega)]
      exact h4 j u hu
    · have hl := lt_of hu
      rw [List.length_append, List.length_singleton] at hl
      have hj : j = U.length := by omega
      subst hj
      rw [List.getElem?_append_right (Nat.le_refl _), Nat.sub_self] at hu
      injection hu with hu
      rw [if_pos ⟨rfl, rfl⟩]
      exact hu
theorem ct_readSpacing {K : St → Prop} (hl : p.length ≤ 60) (hp : mpd σ p) (hg : mGood σ s) (hs : s ≤ p.length) (hT : mTU σ T U) (hU : U.length < 4) (hR : runP (7, 0, 0, 0, 0, T, U) (p.drop s) s = R)
    (kF : ∀ σ', FrQ σ σ' → mBad σ' R → K σ') (kT : ∀ u σ', FrQ σ σ' → s + 2 ≤ p.length → mGood σ' (s + 2) → mTU σ' T (U ++ [u]) → runP (9, 0, 0, 0, 0, T, U ++ [u]) (p.drop (s + 2)) (s + 2) = R → K σ') : CallU (d + 3) mX6_readSpacing [.ref 64] σ K := by
  refine cgX6_readSpacing (ct_figure hp hl hg.1 (by omega) (ct_in ?_))
  have e15 : decide ((1 : Int32).toInt ≤ (fig p s).toInt ∧ (fig p s).toInt ≤ (5 : Int32).toInt) = inI 1 5 (fig p s) := rfl
  rw [e15]
  cases h : inI 1 5 (fig p s)
  · refine wn_F (R := R) hg (by omega) ?_ (fun σ2 f2 b2 => ?_)
    · rw [← hR]
      refine runP_stop rfl (fun c hc => ?_)
      show (if inI 1 5 (c - 48) = true then _ else none) = none
      rw [if_neg]
      intro z
      have z1 := of_decide_eq_true z
      have z0 : inI 0 9 (c - 48) = true := decide_eq_true (by omega)
      have hf : fig p s = c - 48 := by unfold fig; rw [ltr_some hc, z0, if_pos rfl]
      rw [hf, z] at h
      cases h
    · obtain ⟨e, s', -, -, -, h17, hs'⟩ := id b2
      exact ct_figure (hp.z f2) hl h17 hs' ⟨fun _ => sgX6_readSpacing_42 (rs_43b b2 (kF σ2 f2.Q b2)), fun _ => ⟨fun _ => sgX6_readSpacing_42 (rs_43b b2 (kF σ2 f2.Q b2)), fun _ => rs_43b b2 (kF σ2 f2.Q b2)⟩⟩
  · have hne : ¬ fig p s = -4 := by
      intro z
      rw [z] at h
      exact absurd h (by decide)
    obtain ⟨c, hc, hin, hf⟩ := fig_d hne
    rw [hf] at h ⊢
    have hlt := lt_of hc
    refine wn_T hg (fun σ2 f2 g2 => ?_)
    have hR2 : runP (8, 0, 0, c - 48, 0, T, U) (p.drop (s + 1)) (s + 1) = R := by
      rw [← hR]
      refine (runP_step hc ?_).symm
      show (if inI 1 5 (c - 48) = true then some (8, 0, 0, c - 48, 0, T, U) else none) = _
      rw [if_pos h]
    have st : ∀ x, stepP (8, 0, 0, c - 48, 0, T, U) x = if (inI 0 9 (x - 48) && decide ((c - 48) * 10 + (x - 48) ≤ 50)) = true then some (9, 0, 0, 0, 0, T, U ++ [(c - 48) * 10 + (x - 48)]) else none := fun _ => rfl
    have no : (fig p (s + 1) = -4 ∨ 50 < 10 * (c - 48) + fig p (s + 1)) → R = .inl (s + 1) := fun z => by
      rw [← hR2]
      exact runP_stop rfl (fun x hx => by rw [st, no_dig z hx, if_neg (by decide)])
    refine ct_figure (hp.z f2) hl g2.1 (by omega) ⟨fun c1 => sgX6_readSpacing_42 (rs_43F g2 (by omega) (no (Or.inl c1)) (fun σ3 f3 b3 => kF σ3 (f2.Q.tr f3) b3)), fun c1 => ⟨fun c2 => sgX6_readSpacing_42 (rs_43F g2 (by omega) (no (Or.inr c2)) (fun σ3 f3 b3 => kF σ3 (f2.Q.tr f3) b3)), fun c2 => ?_⟩⟩
    obtain ⟨x, hx, hin2, hf2⟩ := fig_d c1
    rw [hf2] at c2 ⊢
    refine rs_43T g2 (hT.z f2) hU (fun σ3 f3 g3 t3 => kT _ σ3 (f2.Q.tr f3) (lt_of hx) g3 t3 ?_)
    rw [← hR2]
    refine (runP_step hx ?_).symm
    have hle : (c - 48) * 10 + (x - 48) ≤ 50 := by rw [Int32.mul_comm]; exact Int32.not_lt.mp c2
    rw [st, hin2, decide_eq_true hle, Int32.mul_comm 10 (c - 48)]
    rfl
section LOOP
variable {σ0 : St} {K : Int32 → St → Prop}
theorem fb_25 (hf : FrQ σ0 σ) (h : mBad σ R) (kl : ∀ e, R = .inl e → ∀ σ', FrQ σ0 σ' → K (nI e) σ') : Go mX6_fault (d + 1) 25 [.ref 64] [] σ (QI K) := by
  obtain ⟨e, s', h1, -, h18, -, -⟩ := id h
  refine sgX6_fault_25 (brt' h.ne (brt' h.ne ?_))
  rw [h18]
  exact kl e h1 σ hf
theorem fb_111 (hf : FrQ σ0 σ) (h : mBad σ R) (kl : ∀ e, R = .inl e → ∀ σ', FrQ σ0 σ' → K (nI e) σ') : Go mX6_fault (d + 1) 111 [.ref 64] [] σ (QI K) := by
  obtain ⟨e, s', h1, -, h18, -, -⟩ := id h
  refine sgX6_fault_111 (brt' h.ne ?_)
  rw [h18]
  exact kl e h1 σ hf
theorem fl_111 (hl : p.length ≤ 60) (hp : mpd σ0 p) (kl : ∀ e, R = .inl e → ∀ σ', FrQ σ0 σ' → K (nI e) σ') (kr : ∀ r, R = .inr r → ∀ σ', FrQ σ0 σ' → mTU σ' r.1 r.2 → K (-4) σ') : ∀ k2 s, p.length ≤ s + k2 → s ≤ p.length → ∀ (σ : St) (U : List Int32), FrQ σ0 σ → mGood σ s → mTU σ T U → U.length ≤ 4 → runP (9, 0, 0, 0, 0, T, U) (p.drop s) s = R → Go mX6_fault (d + 4) 111 [.ref 64] [] σ (QI K) := by
  have done : ∀ s, p.length = s → ∀ (σ : St) (U : List Int32), FrQ σ0 σ → mGood σ s → mTU σ T U → runP (9, 0, 0, 0, 0, T, U) (p.drop s) s = R → K (sF σ 64 18) σ := by
    rintro _ rfl σ U f g t hR
    rw [List.drop_of_length_le (Nat.le_refl _)] at hR
    rw [g.2]
    exact kr (T, U) hR.symm σ f t
  intro k2
  induction k2 with
  | zero =>
    intro s h1 h2 σ U f g t hU hR
    have hp1 := hp.q f
    refine sgX6_fault_111 (brf' g.2 ?_)
    rw [hp1.1, g.1]
    exact br_t (nI_le (by omega) (by omega)) (done s (by omega) σ U f g t hR)
  | succ k2 ih =>
    intro s h1 h2 σ U f g t hU hR
    have hp1 := hp.q f
    refine sgX6_fault_111 (brf' g.2 ?_)
    rw [hp1.1, g.1]
    rcases Nat.lt_or_ge s p.length with hlt | hge
    · obtain ⟨c, hc⟩ := get_of hlt
      have st : stepP (9, 0, 0, 0, 0, T, U) c = if c = 47 ∧ U.length < 4 then some (7, 0, 0, 0, 0, T, U) else none := rfl
      have no : ¬ (c = 47 ∧ U.length < 4) → R = .inl s := fun z => by
        rw [← hR]
        exact runP_stop' hc (by rw [st, if_neg z])
      refine br_f (nI_ge hlt (by omega)) (ct_letter hp1 hl g.1 (by omega) ?_)
      rw [ltr_some hc]
      refine ⟨fun c1 => wn_F (R := R) g (by omega) (no (fun z => c1 z.1)) (fun σ2 f2 b2 => brt' b2.ne (fb_111 (f.tr f2.Q) b2 kl)), fun c1 => ?_⟩
      rw [t.2.1]
      rcases Nat.lt_or_ge U.length 4 with z | z
      · refine br_f (nI_ge (b := 4) z (by omega)) (wn_T g (fun σ2 f2 g2 => brf' g2.2 (ct_readSpacing (d := d) hl (hp1.z f2) g2 hlt (t.z f2) z (R := R) ?_ (fun σ3 f3 b3 => fb_111 ((f.tr f2.Q).tr f3) b3 kl) (fun u σ3 f3 a3 g3 t3 hR3 => ih (s + 3) (by omega) a3 σ3 (U ++ [u]) ((f.tr f2.Q).tr f3) g3 t3 (by rw [List.length_append]; exact z) hR3))))
        rw [← hR]
        exact (runP_step hc (by rw [st, if_pos ⟨c1, z⟩])).symm
      · exact br_t (nI_le (a := 4) z (by omega)) (wn_F (R := R) g (by omega) (no (fun z2 => by omega)) (fun σ2 f2 b2 => brt' b2.ne (fb_111 (f.tr f2.Q) b2 kl)))
    · exact br_t (nI_le hge (by omega)) (done s (by omega) σ U f g t hR)
theorem fl_25 (hl : p.length ≤ 60) (hp : mpd σ0 p) (kl : ∀ e, R = .inl e → ∀ σ', FrQ σ0 σ' → K (nI e) σ') (kr : ∀ r, R = .inr r → ∀ σ', FrQ σ0 σ' → mTU σ' r.1 r.2 → K (-4) σ') : ∀ k2 s, p.length ≤ s + k2 → s ≤ p.length → ∀ (σ : St) (T : List Tg), FrQ σ0 σ → mGood σ s → mTU σ T [] → 5 * T.length ≤ s + 1 → runP (6, 0, 0, 0, 0, T, []) (p.drop s) s = R → Go mX6_fault (d + 5) 25 [.ref 64] [] σ (QI K) := by
  have done : ∀ s, p.length = s → ∀ (σ : St) (T : List Tg), FrQ σ0 σ → mGood σ s → mTU σ T [] → runP (6, 0, 0, 0, 0, T, []) (p.drop s) s = R → K (sF σ 64 18) σ := by
    rintro _ rfl σ T f g t hR
    rw [List.drop_of_length_le (Nat.le_refl _)] at hR
    rw [g.2]
    exact kr (T, []) hR.symm σ f t
  intro k2
  induction k2 with
  | zero =>
    intro s h1 h2 σ T f g t hT hR
    have hp1 := hp.q f
    have hno : p[s]? = none := List.getElem?_eq_none_iff.mpr (by omega)
    refine sgX6_fault_25 (brf' g.2 (ct_letter hp1 hl g.1 (by omega) (brt' (fun z => ?_) (brf' g.2 ?_))))
    · rw [ltr_is z (by decide)] at hno
      cases hno
    · rw [hp1.1, g.1]
      exact br_t (nI_le (by omega) (by omega)) (done s (by omega) σ T f g t hR)
  | succ k2 ih =>
    intro s h1 h2 σ T f g t hT hR
    have hp1 := hp.q f
    have st : ∀ c, stepP (6, 0, 0, 0, 0, T, []) c = if c = 44 then some (0, 0, 0, 0, 0, T, []) else if c = 59 then some (7, 0, 0, 0, 0, T, []) else none := fun _ => rfl
    refine sgX6_fault_25 (brf' g.2 (ct_letter hp1 hl g.1 (by omega) ⟨fun c1 => brf' g.2 ?_, fun c1 => ?_⟩))
    · rw [hp1.1, g.1]
      rcases Nat.lt_or_ge s p.length with hlt | hge
      · obtain ⟨c, hc⟩ := get_of hlt
        refine br_f (nI_ge hlt (by omega)) (ct_letter hp1 hl g.1 (by omega) ⟨fun c2 => ?_, fun c2 => ?_⟩)
        · refine wn_F (R := R) g (by omega) ?_ (fun σ2 f2 b2 => brt' b2.ne (fb_111 (f.tr f2.Q) b2 kl))
          rw [← hR]
          exact runP_stop' hc (by rw [st, if_neg (ltr_not c1 hc), if_neg (ltr_not c2 hc)])
        · refine wn_T g (fun σ2 f2 g2 => brf' g2.2 (ct_readSpacing (d := d + 1) hl (hp1.z f2) g2 hlt (t.z f2) (by decide) (R := R) ?_ (fun σ3 f3 b3 => fb_111 ((f.tr f2.Q).tr f3) b3 kl) (fun u σ3 f3 a3 g3 t3 hR3 => fl_111 hl hp kl kr p.length (s + 3) (by omega) a3 σ3 [u] ((f.tr f2.Q).tr f3) g3 t3 (Nat.le_of_ble_eq_true rfl) hR3)))
          rw [← hR]
          exact (runP_step (ltr_is c2 (by decide)) rfl).symm
      · exact br_t (nI_le hge (by omega)) (done s (by omega) σ T f g t hR)
    · have hc := ltr_is c1 (by decide)
      have hlt := lt_of hc
      rintro _ rfl
      have f2 : FrZ σ (setF σ 64 17 (sF σ 64 17 + 1)) := (FrX.rf σ).toF ⟨rfl, Or.inl rfl⟩
      have g2 : mGood (setF σ 64 17 (sF σ 64 17 + 1)) (s + 1) := ⟨by rw [sF_setF, if_pos ⟨rfl, rfl⟩, g.1, nI1], by rw [sF_setF, if_neg (by omega)]; exact g.2⟩
      refine ct_readTarget (d := d) hl (hp1.z f2) g2 hlt (t.z f2) (by omega) (R := R) ?_ (fun σ3 f3 b3 => fb_25 ((f.tr f2.Q).tr f3) b3 kl) (fun u s3 σ3 f3 a3 l3 g3 t3 hR3 => ih s3 (by omega) l3 σ3 (T ++ [u]) ((f.tr f2.Q).tr f3) g3 t3 (by rw [List.length_append, List.length_singleton]; omega) hR3)
      rw [← hR]
      exact (runP_step hc rfl).symm
theorem ct_mfault (hl : p.length ≤ 60) (hp : mpd σ p) (kl : ∀ e, runP P0 p 0 = .inl e → ∀ σ', FrQ σ σ' → K (nI e) σ') (kr : ∀ r, runP P0 p 0 = .inr r → ∀ σ', FrQ σ σ' → mTU σ' r.1 r.2 → K (-4) σ') : CallI (d + 5) mX6_fault [.ref 64] σ K := by
  refine cgX6_fault ?_
  rintro _ rfl _ rfl _ rfl _ rfl
  have f0 : FrQ σ (setF (setF (setF (setF σ 64 14 0) 64 16 0) 64 17 0) 64 18 (-4)) := ((((FrX.rf σ).toF ⟨rfl, by omega⟩).toF ⟨rfl, by omega⟩).toF ⟨rfl, by omega⟩).toF ⟨rfl, by omega⟩
  refine ct_readTarget (d := d) (s := 0) (T := []) (U := []) (R := runP P0 p 0) hl (hp.q f0) ⟨?_, ?_⟩ (Nat.zero_le _) ⟨?_, ?_, fun i t ht => (by cases ht), fun j u hu => (by cases hu)⟩ (by decide) rfl (fun σ3 f3 b3 => fb_25 (f0.tr f3) b3 kl) (fun u s3 σ3 f3 a3 l3 g3 t3 hR3 => fl_25 hl hp kl kr p.length s3 (by omega) l3 σ3 [u] (f0.tr f3) g3 t3 (by rw [List.length_singleton]; omega) hR3)
  · rw [sF_setF, if_neg (by omega), sF_setF, if_pos ⟨rfl, rfl⟩]; rfl
  · rw [sF_setF, if_pos ⟨rfl, rfl⟩]
  · rw [sF_setF, if_neg (by omega), sF_setF, if_neg (by omega), sF_setF, if_neg (by omega), sF_setF, if_pos ⟨rfl, rfl⟩]; rfl
  · rw [sF_setF, if_neg (by omega), sF_setF, if_neg (by omega), sF_setF, if_pos ⟨rfl, rfl⟩]; rfl
end LOOP
end MFAU
