/-! the model reads a target -/
section MTAR2
variable {d : Nat} {σ : St} {p : List Int32} {s : Nat} {R : Rd} {T : List Tg} {U : List Int32} {w dd n mi : Int32} {K : St → Prop}
theorem no_dig {most v c : Int32} (h : fig p s = -4 ∨ most < 10 * v + fig p s) (hc : p[s]? = some c) : (inI 0 9 (c - 48) && decide (v * 10 + (c - 48) ≤ most)) = false := by
  cases e : inI 0 9 (c - 48)
  · rfl
  · have hf : fig p s = c - 48 := by unfold fig; rw [ltr_some hc, e, if_pos rfl]
    rw [hf] at h
    rcases h with h | h
    · rw [h] at e
      exact absurd e (by decide)
    · rw [Int32.mul_comm] at h
      rw [decide_eq_false (Int32.not_le.mpr h)]
      rfl
theorem run_46 (h : ∀ c, p[s]? = some c → (inI 0 9 (c - 48) && decide (n * 10 + (c - 48) ≤ 99)) = false ∧ ¬ (w = 0 ∧ (c = 43 ∨ c = 45))) : runP (4, w, dd, n, mi, T, U) (p.drop s) s = runP (6, 0, 0, 0, 0, T ++ [(dd, n, 0, w)], U) (p.drop s) s := by
  rcases hc : p[s]? with _ | c
  · rw [List.drop_of_length_le (List.getElem?_eq_none_iff.mp hc)]
    rfl
  · obtain ⟨h1, h2⟩ := h c hc
    have e4 : stepP (4, w, dd, n, mi, T, U) c = stepP (6, 0, 0, 0, 0, T ++ [(dd, n, 0, w)], U) c := by
      show (if (inI 0 9 (c - 48) && decide (n * 10 + (c - 48) ≤ 99)) = true then _ else if w = 0 ∧ (c = 43 ∨ c = 45) then _ else _) = _
      rw [if_neg (by rw [h1]; decide), if_neg h2]
      rfl
    rw [drop_s hc]
    unfold runP
    rw [e4]
theorem rt_118 {w0 : Int32} (hl : p.length ≤ 60) (hp : mpd σ p) (hg : mGood σ s) (hs : s < p.length) (hT : mTU σ T U) (hn : T.length ≤ 12) (hw0 : (w0 = 1 ∧ mi = 0) ∨ (w0 = -1 ∧ mi = 1)) (hR : runP (5, 0, dd, n, mi, T, U) (p.drop (s + 1)) (s + 1) = R)
    (kF : ∀ σ', FrQ σ σ' → mBad σ' R → K σ') (kT : ∀ t σ', FrQ σ σ' → s + 2 ≤ p.length → mGood σ' (s + 2) → mTU σ' (T ++ [t]) U → runP (6, 0, 0, 0, 0, T ++ [t], U) (p.drop (s + 2)) (s + 2) = R → K σ') : Go mX6_readTarget (d + 4) 118 [.ref 64, .int 0, .int dd, .int n, .int 0, .null] [.int w0] σ (QU K) := by
  refine sgX6_readTarget_118 ?_
  rintro _ rfl
  have f1 : FrZ σ (setF σ 64 17 (sF σ 64 17 + 1)) := (FrX.rf σ).toF ⟨rfl, Or.inl rfl⟩
  have g1 : mGood (setF σ 64 17 (sF σ 64 17 + 1)) (s + 1) := ⟨by rw [sF_setF, if_pos ⟨rfl, rfl⟩, hg.1, nI1], by rw [sF_setF, if_neg (by omega)]; exact hg.2⟩
  have hp1 := hp.z f1
  refine ct_figure hp1 hl g1.1 (by omega) (ct_figure hp1 hl g1.1 (by omega) (ct_in ?_))
  have e15 : decide ((1 : Int32).toInt ≤ (fig p (s + 1)).toInt ∧ (fig p (s + 1)).toInt ≤ (5 : Int32).toInt) = inI 1 5 (fig p (s + 1)) := rfl
  rw [e15]
  cases h : inI 1 5 (fig p (s + 1))
  · refine wn_F (R := R) g1 (by omega) ?_ (fun σ2 f2 b2 => rt_152b b2 (kF σ2 (FrZ.Q (f1.tr f2)) b2))
    rw [← hR]
    refine runP_stop rfl (fun c hc => ?_)
    show (if inI 1 5 (c - 48) = true then _ else none) = none
    rw [if_neg]
    intro z
    have z1 := of_decide_eq_true z
    have z0 : inI 0 9 (c - 48) = true := decide_eq_true (by omega)
    have hf : fig p (s + 1) = c - 48 := by unfold fig; rw [ltr_some hc, z0, if_pos rfl]
    rw [hf, z] at h
    cases h
  · have hne : ¬ fig p (s + 1) = -4 := by
      intro z
      rw [z] at h
      exact absurd h (by decide)
    obtain ⟨c, hc, hin, hf⟩ := fig_d hne
    rw [hf] at h
    refine wn_T g1 (fun σ2 f2 g2 => rt_152 g2 (hT.z (f1.tr f2)) hn (Or.inl rfl) (fun σ3 f3 t3 => ?_))
    refine kT (dd, n, fig p (s + 1) * w0, 0) σ3 ((FrZ.Q (f1.tr f2)).tr f3.Q) (lt_of hc) (g2.a f3) t3 ?_
    rw [← hR]
    refine (runP_step hc ?_).symm
    show (if inI 1 5 (c - 48) = true then some (6, 0, 0, 0, 0, T ++ [(dd, n, (if mi = 0 then c - 48 else -(c - 48)), 0)], U) else none) = _
    rw [if_pos h, hf]
    rcases hw0 with ⟨rfl, rfl⟩ | ⟨rfl, rfl⟩
    · rw [if_pos rfl, Int32.mul_one]
    · rw [if_neg one_ne, Int32.mul_neg, Int32.mul_one]
theorem rt_60b {w0 v1 v2 : Int32} (hl : p.length ≤ 60) (hp : mpd σ p) (h : mBad σ R) (k : K σ) : Go mX6_readTarget (d + 4) 60 [.ref 64, .int v1, .int v2, .null, .null, .null] [.int w0, .ref 64] σ (QU K) := by
  obtain ⟨e, s', -, -, -, h17, hs⟩ := id h
  exact sgX6_readTarget_60 (wn_0 h (ct_number0 hl hp h17 hs h.ne (fun v => brt' h.ne (rt_152b h k))))
theorem rt_60F {v1 v2 : Int32} (hl : p.length ≤ 60) (hp : mpd σ p) (hg : mGood σ s) (hs : s ≤ p.length) (hR : R = .inl s) (k : ∀ σ', FrQ σ σ' → mBad σ' R → K σ') : Go mX6_readTarget (d + 4) 60 [.ref 64, .int v1, .int v2, .null, .null, .null] [.int 0, .ref 64] σ (QU K) :=
  sgX6_readTarget_60 (wn_F hg (by omega) hR (fun σ1 f1 b1 => by
    obtain ⟨e, s', -, -, -, h17, hs'⟩ := id b1
    exact ct_number0 hl (hp.z f1) h17 hs' b1.ne (fun v => brt' b1.ne (rt_152b b1 (k σ1 f1.Q b1)))))
theorem rt_60T (hl : p.length ≤ 60) (hp : mpd σ p) (hg : mGood σ s) (hs : s < p.length) (hT : mTU σ T U) (hn : T.length ≤ 12) (hw : w = 0 ∨ w = 1) (hR : runP (3, w, dd, 0, 0, T, U) (p.drop (s + 1)) (s + 1) = R)
    (kF : ∀ σ', FrQ σ σ' → mBad σ' R → K σ') (kT : ∀ t s' σ', FrQ σ σ' → s + 2 ≤ s' → s' ≤ p.length → mGood σ' s' → mTU σ' (T ++ [t]) U → runP (6, 0, 0, 0, 0, T ++ [t], U) (p.drop s') s' = R → K σ') : Go mX6_readTarget (d + 4) 60 [.ref 64, .int w, .int dd, .null, .null, .null] [.int 1, .ref 64] σ (QU K) := by
  refine sgX6_readTarget_60 (wn_T hg (fun σ1 f1 g1 => ct_number (Qb := (3, w, dd, 0, 0, T, U)) (Q := fun n => (4, w, dd, n, 0, T, U)) (R := R) hl (hp.z f1) g1.1 hs g1.2 hR (fun c => rfl) rfl (fun n c h => if_pos h) (fun hR2 v σ2 f2 h18 h17 => ?_) (fun v s' σ2 f2 hlt hle h17 h18 hR2 hfig => ?_)))
  · have b : mBad σ2 R := ⟨s + 1, s + 2, hR2, by omega, h18, h17, by omega⟩
    exact brt' b.ne (rt_152b b (kF σ2 (FrZ.Q (f1.tr f2)) b))
  · have f12 : FrZ σ σ2 := f1.tr f2
    have g2 : mGood σ2 s' := ⟨h17, h18⟩
    have hp2 := hp.z f12
    have hT2 := hT.z f12
    have fin : (¬ w = 0 ∨ (¬ ltr p s' = 43 ∧ ¬ ltr p s' = 45)) → Go mX6_readTarget (d + 4) 152 [.ref 64, .int w, .int dd, .int v, .int 0, .null] [] σ2 (QU K) := fun hno =>
      rt_152 g2 hT2 hn hw (fun σ3 f3 t3 => kT _ s' σ3 ((FrZ.Q f12).tr f3.Q) (by omega) hle (g2.a f3) t3 (by
        rw [← hR2]
        refine (run_46 (fun c hc => ⟨no_dig hfig hc, fun z => ?_⟩)).symm
        rcases hno with hno | ⟨n1, n2⟩
        · exact hno z.1
        · rcases z.2 with z2 | z2
          · exact ltr_not n1 hc z2
          · exact ltr_not n2 hc z2))
    refine brf' h18 ⟨fun c1 => fin (Or.inl c1), fun c1 => ?_⟩
    subst c1
    have sgn : ∀ (w0 c mi : Int32), p[s']? = some c → (c = 43 ∨ c = 45) → ((w0 = 1 ∧ mi = 0) ∨ (w0 = -1 ∧ mi = 1)) → (if c = 45 then (1 : Int32) else 0) = mi → Go mX6_readTarget (d + 4) 118 [.ref 64, .int 0, .int dd, .int v, .int 0, .null] [.int w0] σ2 (QU K) := by
      intro w0 c mi hc hc2 hw0 hmi
      have hlt2 := lt_of hc
      refine rt_118 (mi := mi) (R := R) hl hp2 g2 hlt2 hT2 hn hw0 ?_ (fun σ3 f3 b3 => kF σ3 ((FrZ.Q f12).tr f3) b3) (fun t σ3 f3 hle3 g3 t3 hR3 => kT t (s' + 2) σ3 ((FrZ.Q f12).tr f3) (by omega) hle3 g3 t3 hR3)
      rw [← hR2]
      refine (runP_step hc ?_).symm
      show (if (inI 0 9 (c - 48) && decide (v * 10 + (c - 48) ≤ 99)) = true then _ else if (0 : Int32) = 0 ∧ (c = 43 ∨ c = 45) then some (5, 0, dd, v, (if c = 45 then 1 else 0), T, U) else _) = _
      rw [no_dig hfig hc, if_neg (by decide), if_pos ⟨rfl, hc2⟩, hmi]
    refine ct_letter hp2 hl h17 (by omega) ⟨fun c2 => ?_, fun c2 => ct_letter hp2 hl h17 (by omega) ⟨fun c3 => fin (Or.inr ⟨c2, c3⟩), fun c3 => ?_⟩⟩
    · have hc := ltr_is c2 (by decide)
      exact sgX6_readTarget_104 (ct_letter hp2 hl h17 (by omega) (brf' c2 (sgn 1 43 0 hc (Or.inl rfl) (Or.inl ⟨rfl, rfl⟩) (by decide))))
    · have hc := ltr_is c3 (by decide)
      exact sgX6_readTarget_104 (ct_letter hp2 hl h17 (by omega) (brt' c2 (sgn (-1) 45 1 hc (Or.inr rfl) (Or.inr ⟨rfl, rfl⟩) (by decide))))
theorem rt_34F {v1 : Int32} (hl : p.length ≤ 60) (hp : mpd σ p) (hg : mGood σ s) (hs : s ≤ p.length) (hR : R = .inl s) (k : ∀ σ', FrQ σ σ' → mBad σ' R → K σ') : Go mX6_readTarget (d + 4) 34 [.ref 64, .int v1, .null, .null, .null, .null] [.int 0, .ref 64] σ (QU K) :=
  sgX6_readTarget_34 (wn_F hg (by omega) hR (fun σ1 f1 b1 => by
    obtain ⟨e, s', -, -, -, h17, hs'⟩ := id b1
    exact ct_number0 hl (hp.z f1) h17 hs' b1.ne (fun v => ct_letter (hp.z f1) hl h17 hs' ⟨fun _ => rt_60b hl (hp.z f1) b1 (k σ1 f1.Q b1), fun _ => rt_60b hl (hp.z f1) b1 (k σ1 f1.Q b1)⟩)))
theorem rt_34T (hl : p.length ≤ 60) (hp : mpd σ p) (hg : mGood σ s) (hs : s < p.length) (hT : mTU σ T U) (hn : T.length ≤ 12) (hw : w = 0 ∨ w = 1) (hR : runP (1, w, 0, 0, 0, T, U) (p.drop (s + 1)) (s + 1) = R)
    (kF : ∀ σ', FrQ σ σ' → mBad σ' R → K σ') (kT : ∀ t s' σ', FrQ σ σ' → s + 4 ≤ s' → s' ≤ p.length → mGood σ' s' → mTU σ' (T ++ [t]) U → runP (6, 0, 0, 0, 0, T ++ [t], U) (p.drop s') s' = R → K σ') : Go mX6_readTarget (d + 4) 34 [.ref 64, .int w, .null, .null, .null, .null] [.int 1, .ref 64] σ (QU K) := by
  refine sgX6_readTarget_34 (wn_T hg (fun σ1 f1 g1 => ct_number (Qb := (1, w, 0, 0, 0, T, U)) (Q := fun n => (2, w, 0, n, 0, T, U)) (R := R) hl (hp.z f1) g1.1 hs g1.2 hR (fun c => rfl) rfl (fun n c h => ?_) (fun hR2 v σ2 f2 h18 h17 => ?_) (fun v s' σ2 f2 hlt hle h17 h18 hR2 hfig => ?_)))
  · have hne : ¬ c = 42 := by
      rintro rfl
      exact absurd (Bool.and_eq_true_iff.mp h).1 (by decide)
    show (if c = 42 then _ else if (inI 0 9 (c - 48) && decide (n * 10 + (c - 48) ≤ 300)) = true then _ else _) = _
    rw [if_neg hne, if_pos h]
  · have b : mBad σ2 R := ⟨s + 1, s + 2, hR2, by omega, h18, h17, by omega⟩
    have f12 : FrZ σ σ2 := f1.tr f2
    exact ct_letter (hp.z f12) hl h17 (by omega) ⟨fun _ => rt_60b hl (hp.z f12) b (kF σ2 (FrZ.Q f12) b), fun _ => rt_60b hl (hp.z f12) b (kF σ2 (FrZ.Q f12) b)⟩
  · have f12 : FrZ σ σ2 := f1.tr f2
    have g2 : mGood σ2 s' := ⟨h17, h18⟩
    have hp2 := hp.z f12
    refine ct_letter hp2 hl h17 (by omega) ⟨fun c1 => ?_, fun c1 => ?_⟩
    · refine rt_60F hl hp2 g2 hle ?_ (fun σ3 f3 b3 => kF σ3 ((FrZ.Q f12).tr f3) b3)
      rw [← hR2]
      refine runP_stop rfl (fun c hc => ?_)
      show (if c = 42 then _ else if (inI 0 9 (c - 48) && decide (v * 10 + (c - 48) ≤ 300)) = true then _ else none) = none
      rw [if_neg (ltr_not c1 hc), no_dig hfig hc, if_neg (by decide)]
    · have hc := ltr_is c1 (by decide)
      refine rt_60T hl hp2 g2 (lt_of hc) (hT.z f12) hn hw ?_ (fun σ3 f3 b3 => kF σ3 ((FrZ.Q f12).tr f3) b3) (fun t s3 σ3 f3 a3 => kT t s3 σ3 ((FrZ.Q f12).tr f3) (by omega))
      rw [← hR2]
      refine (runP_step hc ?_).symm
      rfl
theorem ct_readTarget (hl : p.length ≤ 60) (hp : mpd σ p) (hg : mGood σ s) (hs : s ≤ p.length) (hT : mTU σ T U) (hn : T.length ≤ 12) (hR : runP (0, 0, 0, 0, 0, T, U) (p.drop s) s = R)
    (kF : ∀ σ', FrQ σ σ' → mBad σ' R → K σ') (kT : ∀ t s' σ', FrQ σ σ' → s + 4 ≤ s' → s' ≤ p.length → mGood σ' s' → mTU σ' (T ++ [t]) U → runP (6, 0, 0, 0, 0, T ++ [t], U) (p.drop s') s' = R → K σ') : CallU (d + 4) mX6_readTarget [.ref 64] σ K := by
  have st : ∀ c, stepP (0, 0, 0, 0, 0, T, U) c = if c = 116 then some (1, 0, 0, 0, 0, T, U) else if c = 119 then some (1, 1, 0, 0, 0, T, U) else none := fun c => rfl
  refine cgX6_readTarget (ct_letter hp hl hg.1 (by omega) ⟨fun c1 => sgX6_readTarget_14 (brf' rfl (ct_letter hp hl hg.1 (by omega) ⟨fun c2 => ?_, fun c2 => ?_⟩)), fun c1 => sgX6_readTarget_14 (brt' one_ne (sgX6_readTarget_29 ?_))⟩)
  · refine rt_34F hl hp hg hs ?_ kF
    rw [← hR]
    exact runP_stop rfl (fun c hc => by rw [st, if_neg (ltr_not c2 hc), if_neg (ltr_not c1 hc)])
  · have hc := ltr_is c2 (by decide)
    refine sgX6_readTarget_29 (rt_34T hl hp hg (lt_of hc) hT hn (Or.inl rfl) ?_ kF kT)
    rw [← hR]
    refine (runP_step hc ?_).symm
    rfl
  · have hc := ltr_is c1 (by decide)
    refine rt_34T hl hp hg (lt_of hc) hT hn (Or.inr rfl) ?_ kF kT
    rw [← hR]
    exact (runP_step hc (by rw [st, if_neg (by decide), if_pos rfl])).symm
end MTAR2
