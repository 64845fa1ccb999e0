/-! load for both -/
section BLOAD
variable {A : Ab}
theorem run_le : ∀ (l : List Int32) (P : Ps) (s e : Nat), runP P l s = .inl e → e ≤ s + l.length := by
  intro l
  induction l with
  | nil =>
    intro P s e h
    unfold runP at h
    rcases hE : endP P with _ | r
    · rw [hE] at h
      injection h with h
      simp
      omega
    · rw [hE] at h; cases h
  | cons c l ih =>
    intro P s e h
    unfold runP at h
    rcases hs : stepP P c with _ | P'
    · rw [hs] at h
      injection h with h
      omega
    · rw [hs] at h
      have := ih P' (s + 1) e h
      rw [List.length_cons]
      omega
theorem mR.fin {σ σ' : St} {S0 S' : Sn} {H : List Sn} {sn : Option Sn} {p : List Int32} (h : mR σ (S0, H, sn, p)) (f : FrJ σ σ') (e : sF σ' 64 6 = 0) (hS : mSc (sA σ' 65) S') : mR σ' (S', H, sn, []) := by
  obtain ⟨h1, ⟨h2, h2'⟩, ⟨h3, h3'⟩, h4, h4'⟩ := h
  refine ⟨hS, ⟨by rw [f.1 _ _ (by omega)]; exact h2, fun q T hq => by rw [f.2.1 66 (by omega)]; exact h2' q T hq⟩, ⟨by rw [f.1 _ _ (by omega)]; exact h3, fun T hT => by rw [f.2.1 67 (by omega)]; exact h3' T hT⟩, e, fun i c hc => by cases hc⟩
theorem FrH.m {a b : St} (f : FrH a b) : Fr mod a b := FrX.fr f (fun x y z => by unfold mod; omega) (fun x z => by unfold mod; omega) (fun z => z.elim)
theorem FrJ.m {a b : St} (f : FrJ a b) : Fr mod a b := FrX.fr f (fun x y z => by unfold mod; omega) (fun x z => by unfold mod; omega) (fun z => z.elim)
theorem okS_load {S : Sn} {T : List Tg} {U : List Int32} (h : okS S) (h1 : T.length ≤ 6) (h2 : ∀ t ∈ T, okT t) (h3 : U.length ≤ 4) (h4 : ∀ u ∈ U, spOK u) : okS (T, (if U = [] then S.2.1 else U), S.2.2) := by
  by_cases e : U = []
  · rw [if_pos e]
    exact ⟨h1, h2, h.2.2⟩
  · rw [if_neg e]
    exact ⟨h1, h2, List.length_pos_iff.mpr e, h3, h4, h.2.2.2.2.2⟩
theorem bo_load (hA : okA A) : Both A mX5_load [.ref 0] mX6_load [.ref 64] := by
  have hl := hA.2.2.2.2.1
  have hc := hA.2.2.2.2.2
  rcases h : runP P0 A.2.2.2 0 with s | r
  · have hs60 : s ≤ 60 := by
      have := run_le _ _ _ _ h
      omega
    refine ⟨-2, A, hA, fun σ K hcr k => cgX5_load (ct_read hcr.2.2.2.2.1 hcr.2.2.2.2.2 hl hc (fun s' hs σ' f => ?_) (fun r hr => ?_)), fun σ K hm k => cgX6_load (ct_mfault hl hm.2.2.2 (fun s' hs σ' f => ?_) (fun r hr => ?_))⟩
    · rw [h] at hs; injection hs with hs; subst hs
      exact brt' (nI_m4 hs60) (k σ' f.M (hcr.keep hA f.S))
    · rw [h] at hr; cases hr
    · rw [h] at hs; injection hs with hs; subst hs
      exact br_f (nI_m4 hs60) (k σ' f.N.1 (hm.keepN f.N))
    · rw [h] at hr; cases hr
  · have hok := read_ok h
    have hT12 : r.1.length ≤ 12 := by have := hok.2.2.1; omega
    by_cases tw : twP r.1
    · refine ⟨-2, A, hA, fun σ K hcr k => cgX5_load (ct_read hcr.2.2.2.2.1 hcr.2.2.2.2.2 hl hc (fun s' hs => ?_) (fun r' hr σ' f t => ?_)), fun σ K hm k => cgX6_load (ct_mfault hl hm.2.2.2 (fun s' hs => ?_) (fun r' hr σ' f t => ?_))⟩
      · rw [h] at hs; cases hs
      · rw [h] at hr; injection hr with hr; subst hr
        exact brf' rfl (ct_hasTwins t hT12 (fun _ => br_f one_ne (k σ' f.M (hcr.keep hA f.S))) (fun z => absurd tw z))
      · rw [h] at hs; cases hs
      · rw [h] at hr; injection hr with hr; subst hr
        exact br_t rfl (ml_16 t hT12 (fun _ => k σ' f.N.1 (hm.keepN f.N)) (fun z => absurd tw z))
    · by_cases h6 : r.1.length ≤ 6
      · refine ⟨nI r.1.length, ((r.1, (if r.2 = [] then A.1.2.1 else r.2), A.1.2.2), pushH A.2.1 A.1, A.2.2.1, []), ?_, fun σ K hcr k => cgX5_load (ct_read hcr.2.2.2.2.1 hcr.2.2.2.2.2 hl hc (fun s' hs => ?_) (fun r' hr σ1 f1 t1 => ?_)), fun σ K hm k => cgX6_load (ct_mfault hl hm.2.2.2 (fun s' hs => ?_) (fun r' hr σ1 f1 t1 => ?_))⟩
        · have o := okA.sc hA (okS_load hA.1 h6 hok.1 hok.2.2.2 hok.2.1)
          exact ⟨o.1, o.2.1, o.2.2.1, o.2.2.2.1, Nat.zero_le _, fun c hc => by cases hc⟩
        · rw [h] at hs; cases hs
        · rw [h] at hr; injection hr with hr; subst hr
          refine brf' rfl (ct_hasTwins t1 hT12 (fun z => absurd z tw) (fun _ => br_t rfl (cgX2_targetCount ?_)))
          rw [t1.1]
          refine br_t (nI_le (b := 6) h6 (by omega)) (ct_rememberG hA (hcr.keep hA f1.S) (fun σ2 f2 c2 => ct_putInto (t1.keep (C := fun _ => False) (fun c a b => f2 c (by omega))) c2.1 h6 (fun t ht => (hok.1 t ht).2.2.2.1) hok.2.2.2 hok.2.1 (fun σ3 f3 s3 => ?_)))
          have hA2 : okA (A.1, pushH A.2.1 A.1, A.2.2) := okA.sc hA hA.1
          have hA3 : okA ((r.1, (if r.2 = [] then A.1.2.1 else r.2), A.1.2.2), pushH A.2.1 A.1, A.2.2) := okA.sc hA (okS_load hA.1 h6 hok.1 hok.2.2.2 hok.2.1)
          have c3 := c2.sc hA2 f3 s3
          exact ct_empty hA3 c3 (fun σ4 f4 c4 => ct_targetCount one_sc c4.1 (k σ4 (((f1.M.tr f2.M).tr (FrM.ofSc f3)).tr f4) c4))
        · rw [h] at hs; cases hs
        · rw [h] at hr; injection hr with hr; subst hr
          refine br_t rfl (ml_16 t1 hT12 (fun z => absurd z tw) (fun _ => br_t (nI_le (b := 6) h6 (by omega)) (ct_recordG hA (hm.keepN f1.N) (fun σ2 f2 m2 => ?_))))
          rintro _ rfl
          have f3 : FrJ σ2 (setA σ2 65 0 0) := (FrX.rf σ2).toA rfl
          have t3 : mTU (setA σ2 65 0 0) r.1 r.2 := (t1.k f2 (by omega) (by omega) (by omega) (by omega)).k f3 (by omega) (by omega) (by omega) (by omega)
          have s3 : mSc (sA (setA σ2 65 0 0) 65) ([], A.1.2) := by
            obtain ⟨z0, z1, z6, z7, zt, zs⟩ := m2.1
            have e65 : ∀ q, sA (setA σ2 65 0 0) 65 q = if q = 0 then 0 else sA σ2 65 q := by
              intro q
              rw [sA_setA]
              by_cases hq : q = 0
              · rw [if_pos ⟨rfl, hq⟩, if_pos hq]
              · rw [if_neg (fun z => hq z.2), if_neg hq]
            exact ⟨by rw [e65, if_pos rfl]; rfl, by rw [e65, if_neg (by omega)]; exact z1, by rw [e65, if_neg (by omega)]; exact z6, by rw [e65, if_neg (by omega)]; exact z7, fun i t ht => (by cases ht), fun j u hu => (by rw [e65, if_neg (by omega)]; exact zs j u hu)⟩
          exact ml_127 (S := A.1) t3 s3 h6 hok.2.2.2 hA.1.2.2.2.1 (fun σ4 f4 e4 s4 => k σ4 ((f1.N.1.tr f2.m).tr (FrJ.m (f3.tr f4))) (m2.fin (f3.tr f4) e4 s4))
      · refine ⟨-3, A, hA, fun σ K hcr k => cgX5_load (ct_read hcr.2.2.2.2.1 hcr.2.2.2.2.2 hl hc (fun s' hs => ?_) (fun r' hr σ' f t => ?_)), fun σ K hm k => cgX6_load (ct_mfault hl hm.2.2.2 (fun s' hs => ?_) (fun r' hr σ' f t => ?_))⟩
        · rw [h] at hs; cases hs
        · rw [h] at hr; injection hr with hr; subst hr
          refine brf' rfl (ct_hasTwins t hT12 (fun z => absurd z tw) (fun _ => br_t rfl (cgX2_targetCount ?_)))
          rw [t.1]
          exact br_f (nI_ge (a := 6) (by omega) (by omega)) (k σ' f.M (hcr.keep hA f.S))
        · rw [h] at hs; cases hs
        · rw [h] at hr; injection hr with hr; subst hr
          exact br_t rfl (ml_16 t hT12 (fun z => absurd z tw) (fun _ => br_f (nI_ge (a := 6) (by omega) (by omega)) (k σ' f.N.1 (hm.keepN f.N))))
end BLOAD
