/-! the law's choices: a target -/
def put4 (σ : St) (m : Nat) (t : Tg) : St := setA (setA (setA (setA σ 64 (4 * m) t.1) 64 (4 * m + 1) t.2.1) 64 (4 * m + 2) t.2.2.1) 64 (4 * m + 3) t.2.2.2
theorem put4_fr (σ : St) (m : Nat) (t : Tg) : Fr (fun c => c = 64) σ (put4 σ m t) := ((((Fr.rf (C := fun c => c = 64) σ).toA (a := 64) rfl).toA (a := 64) rfl).toA (a := 64) rfl).toA (a := 64) rfl
def rowL (σ : St) (L : List Tg) : Prop := ∀ (i : Nat) (t : Tg), L[i]? = some t → sA σ 64 (4 * i) = t.1 ∧ sA σ 64 (4 * i + 1) = t.2.1 ∧ sA σ 64 (4 * i + 2) = t.2.2.1 ∧ sA σ 64 (4 * i + 3) = t.2.2.2
theorem put4_ne (σ : St) (m : Nat) (t : Tg) (j : Nat) (h : j < 4 * m ∨ 4 * m + 4 ≤ j) : sA (put4 σ m t) 64 j = sA σ 64 j := by
  unfold put4
  rw [sA_setA, if_neg (by omega), sA_setA, if_neg (by omega), sA_setA, if_neg (by omega), sA_setA, if_neg (by omega)]
theorem put4_at (σ : St) (m : Nat) (t : Tg) : sA (put4 σ m t) 64 (4 * m) = t.1 ∧ sA (put4 σ m t) 64 (4 * m + 1) = t.2.1 ∧ sA (put4 σ m t) 64 (4 * m + 2) = t.2.2.1 ∧ sA (put4 σ m t) 64 (4 * m + 3) = t.2.2.2 := by
  unfold put4
  simp only [sA_setA]
  refine ⟨?_, ?_, ?_, ?_⟩ <;> simp
theorem put4_row {σ : St} {L : List Tg} {t : Tg} (h : rowL σ L) : rowL (put4 σ L.length t) (L ++ [t]) := by
  intro i u hu
  rcases Nat.lt_or_ge i L.length with hlt | hge
  · rw [List.getElem?_append_left hlt] at hu
    rw [put4_ne _ _ _ _ (by omega), put4_ne _ _ _ _ (by omega), put4_ne _ _ _ _ (by omega), put4_ne _ _ _ _ (by omega)]
    exact h i u hu
  · have hlt := lt_of hu
    rw [List.length_append, List.length_singleton] at hlt
    have e : i = L.length := by omega
    subst e
    rw [List.getElem?_append_right (Nat.le_refl _), Nat.sub_self] at hu
    injection hu with hu
    subst hu
    exact put4_at σ L.length t
section LAWT
variable {X : LX} {L : Nat} {xs : Nat → Int32} {σ : St} {A : Ab} {e : Nat} {v6 v7 v8 v9 v10 v11 v15 : Int32} {x s v w : Int32}
theorem lP.keep {σ σ' : St} {E : En} (h : lP σ E) (f : FrM σ σ') : lP σ' E := by
  have e66 := (f 66 (by omega)).2
  unfold lP at *
  rw [e66]
  exact h
theorem lW.keep {σ' : St} {A' : Ab} (h : lW σ A) (f : FrM σ σ') (hc : cR σ' A') (e : A'.1 = A.1) : lW σ' A' := ⟨hc, by rw [e]; exact h.2.1.keep f, by rw [e]; exact h.2.2.keep f⟩
/-- refused: there already, or six -/
theorem lg_tno (F : LF X L xs) (hA : okA A) (hw : lW σ A) (he : e < 24) (nx : ∀ A' σ', okA A' → lW σ' A' → LGo X 44 [.ref 67, .ref 0, .ref 64, .ref 65, .ref 66, .int (nI (e + 1)), .null, .null, .null, .null, .null, .null, .null, .null, .null, .null, .null, .null] [] σ') (hb : okB x s v = true) (h01 : w = 0 ∨ w = 1) (hwv : w = 1 → v = 0) {v14 r : Int32} (hr : (v14 = 1 ∧ r = -2) ∨ (v14 = 0 ∧ r = -3)) (herr : errT A.1 x s v w = r) : LGo X 257 [.ref 67, .ref 0, .ref 64, .ref 65, .ref 66, .int (nI e), .int v6, .int v7, .int v8, .int v9, .int x, .int s, .int w, .int v, .int v14, .int v15, .null, .null] [.int 0] σ := by
  have hr0 : ¬ r = 0 := by rcases hr with ⟨_, z⟩ | ⟨_, z⟩ <;> rw [z] <;> decide
  have h359 : ∀ v16 s1, cR s1 A → FrM σ s1 → LGo X 359 [.ref 67, .ref 0, .ref 64, .ref 65, .ref 66, .int (nI e), .int v6, .int v7, .int v8, .int v9, .int x, .int s, .int w, .int v, .int v14, .int 0, .int v16, .null] [.int 1] s1 := fun v16 s1 hc f => sgL_law_359 F (br_t rfl (sgL_law_422 F (lg_905 F hA (hw.keep f hc rfl) he (nx A · hA))))
  have h277 : ∀ v16 s0, (w = 1 → v16 = r) → cR s0 A → FrM σ s0 → LGo X 277 [.ref 67, .ref 0, .ref 64, .ref 65, .ref 66, .int (nI e), .int v6, .int v7, .int v8, .int v9, .int x, .int s, .int w, .int v, .int v14, .int 0, .null, .null] [.int v16] s0 := by
    intro v16 s0 h16 hc0 f0
    have hop : opTarget A x s v w = (r, A) := by unfold opTarget; rw [herr, if_neg hr0]
    refine sgL_law_277 F (ct_X5_target h01 hA hc0 (fun s1 f1 hc1 => ?_))
    rw [hop] at hc1 ⊢
    have f := f0.tr f1
    have h354 : LGo X 354 [.ref 67, .ref 0, .ref 64, .ref 65, .ref 66, .int (nI e), .int v6, .int v7, .int v8, .int v9, .int x, .int s, .int w, .int v, .int v14, .int 0, .int v16, .null] [] s1 := sgL_law_354 F (h359 v16 s1 hc1 f)
    rcases hr with ⟨rfl, rfl⟩ | ⟨rfl, rfl⟩
    · refine br_f one_ne (sgL_law_316 F (brf' rfl (br_c (fun _ => h354) (fun c => br_f one_ne (sgL_law_351 F (brf' ?_ h354))))))
      rcases h01 with z | z
      · exact absurd z c
      · exact h16 z
    · refine br_t rfl (br_t rfl (sgL_law_316 F (brf' rfl (br_c (fun _ => h354) (fun c => br_t rfl (br_t rfl (sgL_law_351 F (brf' ?_ h354))))))))
      rcases h01 with z | z
      · exact absurd z c
      · exact h16 z
  refine sgL_law_257 F (br_c (fun c => h277 0 σ (fun z => by rw [z] at c; exact absurd c one_ne) hw.1 (FrM.rf σ)) (fun c => ?_))
  have hw1 : w = 1 := by
    rcases h01 with z | z
    · exact absurd z c
    · exact z
  have hv0 := hwv hw1
  subst hw1
  subst hv0
  exact lc_ifWallE hA herr hr0 σ _ hw.1 (fun s1 f1 hc1 => h277 r s1 (fun _ => rfl) hc1 f1)
/-- a target comes -/
theorem lg_tyes (F : LF X L xs) (hA : okA A) (hw : lW σ A) (he : e < 24) (nx : ∀ A' σ', okA A' → lW σ' A' → LGo X 44 [.ref 67, .ref 0, .ref 64, .ref 65, .ref 66, .int (nI (e + 1)), .null, .null, .null, .null, .null, .null, .null, .null, .null, .null, .null, .null] [] σ') (hb : okB x s v = true) (h01 : w = 0 ∨ w = 1) (hwv : w = 1 → v = 0) (hn : A.1.1.length < 6) (herr : errT A.1 x s v w = 0) : LGo X 257 [.ref 67, .ref 0, .ref 64, .ref 65, .ref 66, .int (nI e), .int v6, .int v7, .int v8, .int v9, .int x, .int s, .int w, .int v, .int 0, .int v15, .null, .null] [.int 1] σ := by
  have hop : opTarget A x s v w = (nI A.1.1.length, ((A.1.1 ++ [(x, s, v, w)], A.1.2), pushH A.2.1 A.1, A.2.2)) := by unfold opTarget; rw [if_pos herr]
  have hA' : okA ((A.1.1 ++ [(x, s, v, w)], A.1.2), pushH A.2.1 A.1, A.2.2) := by
    have := ok_target (x := x) (s := s) (v := v) h01 hA
    rw [hop] at this
    exact this
  have h359 : ∀ v16 s1, cR s1 ((A.1.1 ++ [(x, s, v, w)], A.1.2), pushH A.2.1 A.1, A.2.2) → FrM σ s1 → LGo X 359 [.ref 67, .ref 0, .ref 64, .ref 65, .ref 66, .int (nI e), .int v6, .int v7, .int v8, .int v9, .int x, .int s, .int w, .int v, .int 0, .int 1, .int v16, .null] [.int 1] s1 := by
    intro v16 s1 hc f
    have ht := hw.2.1.keep f
    have hp := hw.2.2.keep f
    have hput : LGo X 422 [.ref 67, .ref 0, .ref 64, .ref 65, .ref 66, .int (nI e), .int v6, .int v7, .int v8, .int 1, .int x, .int s, .int w, .int v, .int 0, .int 1, .int v16, .null] [] (setA (put4 s1 A.1.1.length (x, s, v, w)) 66 6 (nI (A.1.1.length + 1))) := by
      refine sgL_law_422 F (lg_905 F hA' ?_ he (nx _ · hA'))
      have f66 : sA (put4 s1 A.1.1.length (x, s, v, w)) 66 = sA s1 66 := ((put4_fr s1 A.1.1.length (x, s, v, w)).1 66 (by omega)).2
      have fr : Fr (fun c => c = 65 ∨ c = 66 ∨ c = 64) s1 (setA (put4 s1 A.1.1.length (x, s, v, w)) 66 6 (nI (A.1.1.length + 1))) := ((put4_fr s1 A.1.1.length (x, s, v, w)).mono (fun c z => Or.inr (Or.inr z))).toA (a := 66) (Or.inr (Or.inl rfl))
      have hrow : rowL (put4 s1 A.1.1.length (x, s, v, w)) (A.1.1 ++ [(x, s, v, w)]) := put4_row (t := (x, s, v, w)) ht.2
      have e66 : ∀ j, j ≠ 6 → sA (setA (put4 s1 A.1.1.length (x, s, v, w)) 66 6 (nI (A.1.1.length + 1))) 66 j = sA s1 66 j := fun j hj => by rw [sA_setA, if_neg (by omega), f66]
      have hm4 := hA.1.2.2.2.1
      refine ⟨r66_scr hA' hc fr, ⟨?_, fun i t hi => ?_⟩, ?_, ?_, ?_, fun j y hj => ?_⟩
      · rw [sA_setA, if_pos ⟨rfl, rfl⟩]
        show _ = nI (A.1.1 ++ [(x, s, v, w)]).length
        rw [List.length_append]
        rfl
      · rw [sA_setA, sA_setA, sA_setA, sA_setA, if_neg (by omega), if_neg (by omega), if_neg (by omega), if_neg (by omega)]
        exact hrow i t hi
      · rw [e66 7 (by omega)]; exact hp.1
      · rw [e66 4 (by omega)]; exact hp.2.1
      · rw [e66 5 (by omega)]; exact hp.2.2.1
      · have hl := lt_of hj
        have hl' : j < A.1.2.1.length := hl
        rw [e66 j (by omega)]; exact hp.2.2.2 j y hj
    refine sgL_law_359 F (br_f one_ne ?_)
    rw [ht.1, ix40, ix_nI (show 4 * A.1.1.length < 2 ^ 31 by omega), show nI (4 * A.1.1.length) + 1 = nI (4 * A.1.1.length + 1) from nI_add _ 1, show nI (4 * A.1.1.length) + 2 = nI (4 * A.1.1.length + 2) from nI_add _ 2, show nI (4 * A.1.1.length) + 3 = nI (4 * A.1.1.length + 3) from nI_add _ 3, ix_nI (show 4 * A.1.1.length + 1 < 2 ^ 31 by omega), ix_nI (show 4 * A.1.1.length + 2 < 2 ^ 31 by omega)]
    refine ⟨vp_in_nI (by omega) (by omega), ?_⟩
    rintro _ rfl
    refine ⟨vp_in_nI (by omega) (by omega), ?_⟩
    rintro _ rfl
    refine ⟨vp_in_nI (by omega) (by omega), ?_⟩
    rintro _ rfl
    have h412 : LGo X 412 [.ref 67, .ref 0, .ref 64, .ref 65, .ref 66, .int (nI e), .int v6, .int v7, .int v8, .int 1, .int x, .int s, .int w, .int v, .int 0, .int 1, .int v16, .int (nI (4 * A.1.1.length))] [.int w, .int (nI (4 * A.1.1.length + 3)), .ref 64] (setA (setA (setA s1 64 (4 * A.1.1.length) x) 64 (4 * A.1.1.length + 1) s) 64 (4 * A.1.1.length + 2) v) := by
      refine sgL_law_412 F ?_
      rw [ix_nI (show 4 * A.1.1.length + 3 < 2 ^ 31 by omega)]
      refine ⟨vp_in_nI (by omega) (by omega), ?_⟩
      rintro _ rfl
      have f66 : sA (setA (setA (setA (setA s1 64 (4 * A.1.1.length) x) 64 (4 * A.1.1.length + 1) s) 64 (4 * A.1.1.length + 2) v) 64 (4 * A.1.1.length + 3) w) 66 = sA s1 66 := ((put4_fr s1 A.1.1.length (x, s, v, w)).1 66 (by omega)).2
      rw [f66, ht.1, nI1]
      rintro _ rfl
      exact hput
    rcases h01 with z | z
    · rw [z] at h412 ⊢; exact br_t rfl h412
    · rw [z] at h412 ⊢; exact br_f one_ne h412
  have h277 : ∀ v16 s0, (w = 1 → v16 = nI ((enS (A.1.1 ++ [(x, s, v, w)], A.1.2)).1.length - (A.1.1.length + 1))) → cR s0 A → FrM σ s0 → LGo X 277 [.ref 67, .ref 0, .ref 64, .ref 65, .ref 66, .int (nI e), .int v6, .int v7, .int v8, .int v9, .int x, .int s, .int w, .int v, .int 0, .int 1, .null, .null] [.int v16] s0 := by
    intro v16 s0 h16 hc0 f0
    refine sgL_law_277 F (ct_X5_target h01 hA hc0 (fun s1 f1 hc1 => ?_))
    rw [hop] at hc1 ⊢
    have f := f0.tr f1
    have ht := hw.2.1.keep f
    have h354 : ∀ s2, cR s2 ((A.1.1 ++ [(x, s, v, w)], A.1.2), pushH A.2.1 A.1, A.2.2) → FrM σ s2 → LGo X 354 [.ref 67, .ref 0, .ref 64, .ref 65, .ref 66, .int (nI e), .int v6, .int v7, .int v8, .int v9, .int x, .int s, .int w, .int v, .int 0, .int 1, .int v16, .null] [] s2 := fun s2 hc2 f2 => sgL_law_354 F (h359 v16 s2 hc2 f2)
    refine br_t rfl (br_f one_ne ?_)
    rw [ht.1]
    refine sgL_law_316 F (brf' rfl (br_c (fun _ => h354 s1 hc1 f) (fun c => br_t rfl (br_f one_ne ?_))))
    have hw1 : w = 1 := by
      rcases h01 with z | z
      · exact absurd z c
      · exact z
    refine lc_ct2 hA' s1 _ hc1 (fun s2 f2 hc2 => sgL_law_351 F (brf' ?_ (h354 s2 hc2 (f.tr f2))))
    rw [h16 hw1]
    show _ = nI ((enS (A.1.1 ++ [(x, s, v, w)], A.1.2)).1.length - (A.1.1 ++ [(x, s, v, w)]).length)
    rw [List.length_append]
    rfl
  refine sgL_law_257 F (br_c (fun c => h277 0 σ (fun z => by rw [z] at c; exact absurd c one_ne) hw.1 (FrM.rf σ)) (fun c => ?_))
  have hw1 : w = 1 := by
    rcases h01 with z | z
    · exact absurd z c
    · exact z
  have hv0 := hwv hw1
  subst hw1
  subst hv0
  exact lc_ifWall hA hb herr hn σ _ hw.1 (fun s1 f1 hc1 => h277 _ s1 (fun _ => rfl) hc1 f1)
theorem lg_185 (F : LF X L xs) (hA : okA A) (hw : lW σ A) (he : e < 24) (nx : ∀ A' σ', okA A' → lW σ' A' → LGo X 44 [.ref 67, .ref 0, .ref 64, .ref 65, .ref 66, .int (nI (e + 1)), .null, .null, .null, .null, .null, .null, .null, .null, .null, .null, .null, .null] [] σ') (hb : okB x s v = true) (h01 : w = 0 ∨ w = 1) (hwv : w = 1 → v = 0) : ∀ k2 i, i + k2 = A.1.1.length → LGo X 185 [.ref 67, .ref 0, .ref 64, .ref 65, .ref 66, .int (nI e), .int v6, .int v7, .int v8, .int v9, .int x, .int s, .int w, .int v, .int (bI ((A.1.1.take i).any (isAt x v))), .int (nI i), .null, .null] [] σ := by
  have hn := hA.1.1
  have hc2 : w = 0 ∨ v = 0 := by
    rcases h01 with z | z
    · exact Or.inl z
    · exact Or.inr (hwv z)
  have herr := errT_w A.1 x s v w hb hc2
  intro k2
  induction k2 with
  | zero =>
    intro i hi
    refine sgL_law_185 F ?_
    rw [hw.2.1.1, List.take_of_length_le (by omega)]
    refine br_t (nI_le (by omega) (by omega)) ?_
    cases hth : A.1.1.any (isAt x v)
    · rw [hth, if_neg (by decide)] at herr
      refine brf' rfl (br_c (fun c => ?_) (fun c => ?_))
      · rw [show (6 : Int32) = nI 6 from rfl, nI_leI (by omega) (by omega)] at c
        rw [if_neg (by omega)] at herr
        exact sgL_law_256 F (lg_tno F hA hw he nx hb h01 hwv (Or.inr ⟨rfl, rfl⟩) herr)
      · rw [show (6 : Int32) = nI 6 from rfl, nI_leI (by omega) (by omega)] at c
        rw [if_pos (by omega)] at herr
        exact lg_tyes F hA hw he nx hb h01 hwv (by omega) herr
    · rw [hth, if_pos rfl] at herr
      exact brt' one_ne (sgL_law_256 F (lg_tno F hA hw he nx hb h01 hwv (Or.inl ⟨rfl, rfl⟩) herr))
  | succ k2 ih =>
    intro i hi
    obtain ⟨t, ht⟩ := get_of (l := A.1.1) (i := i) (by omega)
    have hk := ih (i + 1) (by omega)
    rw [take_s ht, List.any_append] at hk
    obtain ⟨r0, -, r2, -⟩ := hw.2.1.2 i t ht
    refine sgL_law_185 F ?_
    rw [hw.2.1.1, ix42, ix40, ix_nI (show 4 * i + 2 < 2 ^ 31 by omega), ix_nI (show 4 * i < 2 ^ 31 by omega), r0, r2]
    refine br_f (nI_ge (by omega) (by omega)) ?_
    cases hth : (A.1.1.take i).any (isAt x v)
    · rw [hth, Bool.false_or] at hk
      refine brf' rfl ⟨vp_in_nI (by omega) (by omega), br_c' (fun c => ?_) (fun c => ⟨vp_in_nI (by omega) (by omega), br_c' (fun c2 => ?_) (fun c2 => ?_)⟩)⟩
      · refine sgL_law_228 F (sgL_law_229 F ?_)
        rw [nI1]
        have z : [t].any (isAt x v) = false := by simp [isAt, c]
        rw [z] at hk
        exact hk
      · refine sgL_law_228 F (sgL_law_229 F ?_)
        rw [nI1]
        have z : [t].any (isAt x v) = false := by simp [isAt, c2]
        rw [z] at hk
        exact hk
      · refine sgL_law_224 F (sgL_law_229 F ?_)
        rw [nI1]
        have z : [t].any (isAt x v) = true := by simp [isAt, c, c2]
        rw [z] at hk
        exact hk
    · rw [hth, Bool.true_or] at hk
      refine brt' one_ne (sgL_law_224 F (sgL_law_229 F ?_))
      rw [nI1]
      exact hk
theorem lg_95 (F : LF X L xs) (hA : okA A) (hw : lW σ A) (he : e < 24) (nx : ∀ A' σ', okA A' → lW σ' A' → LGo X 44 [.ref 67, .ref 0, .ref 64, .ref 65, .ref 66, .int (nI (e + 1)), .null, .null, .null, .null, .null, .null, .null, .null, .null, .null, .null, .null] [] σ') : LGo X 95 [.ref 67, .ref 0, .ref 64, .ref 65, .ref 66, .int (nI e), .int v6, .int v7, .int v8, .int v9, .null, .null, .null, .null, .null, .null, .null, .null] [] σ := by
  have h157 : ∀ r a w, r < 300 → a < 99 → (w = 0 ∨ w = 1) → LGo X 157 [.ref 67, .ref 0, .ref 64, .ref 65, .ref 66, .int (nI e), .int v6, .int v7, .int v8, .int v9, .int (nI (1 + r)), .int (nI (1 + a)), .null, .null, .null, .null, .null, .null] [.int w] σ := by
    intro r a w hr ha h01
    have hgo : ∀ v : Int32, (-5 ≤ v.toInt ∧ v.toInt ≤ 5) → (w = 1 → v = 0) → LGo X 177 [.ref 67, .ref 0, .ref 64, .ref 65, .ref 66, .int (nI e), .int v6, .int v7, .int v8, .int v9, .int (nI (1 + r)), .int (nI (1 + a)), .int w, .null, .null, .null, .null, .null] [.int v] σ := by
      intro v hv hwv
      have hb : okB (nI (1 + r)) (nI (1 + a)) v = true := by
        unfold okB
        apply decide_eq_true
        rw [nI_toInt (by omega), nI_toInt (by omega)]
        omega
      exact sgL_law_177 F (lg_185 F hA hw he nx hb h01 hwv A.1.1.length 0 (by omega))
    refine sgL_law_157 F (br_c (fun c => ct_Llow (n := 11) (by omega) (by omega) (fun c2 hc2 => ?_)) (fun c => ?_))
    · refine hgo (pv c2) ?_ (fun z => by rw [z] at c; exact absurd c one_ne)
      rw [pv_toInt (by omega)]
      omega
    · exact hgo 0 (by decide) (fun _ => rfl)
  have h120 : ∀ n, n = 60 ∨ n = 300 → ∀ y, LGo X 120 [.ref 67, .ref 0, .ref 64, .ref 65, .ref 66, .int (nI e), .int v6, .int v7, .int v8, .int v9, .null, .null, .null, .null, .null, .null, .null, .null] [.int (nI n), .int y, .int 1] σ := by
    intro n hn y
    refine sgL_law_120 F (ct_Llow (by omega) (by omega) (fun r hr => ct_Llow (n := 99) (by omega) (by omega) (fun a ha => ct_Llow (n := 3) (by omega) (by omega) (fun c hc => ?_))))
    rw [show (1 : Int32) + nI r = nI (1 + r) from nI_add 1 r, show (1 : Int32) + nI a = nI (1 + a) from nI_add 1 a]
    exact br_c (fun _ => h157 r a 0 (by omega) ha (Or.inl rfl)) (fun _ => h157 r a 1 (by omega) ha (Or.inr rfl))
  exact sgL_law_95 F (ct_Llow (n := 2) (by omega) (by omega) (fun r hr => br_c' (fun _ => h120 60 (Or.inl rfl) _) (fun _ => h120 300 (Or.inr rfl) _)))
end LAWT
