/-! the law's other choices, and its loop -/
def tkL (z : Nat → Int32) (g k : Nat) : Nat → Int32 := fun j => if 4 * g ≤ j ∧ j < k then z (j + 4) else z j
theorem tkL_s (z : Nat → Int32) (g k : Nat) (h : 4 * g ≤ k) : upd (tkL z g k) k (tkL z g k (k + 4)) = tkL z g (k + 1) := by
  funext j
  unfold upd tkL
  by_cases c : j = k
  · rw [if_pos c, if_neg (by omega), if_pos (by omega), c]
  · rw [if_neg c]
    by_cases c2 : 4 * g ≤ j ∧ j < k
    · rw [if_pos c2, if_pos (by omega)]
    · rw [if_neg c2, if_neg (by omega)]
theorem tkL_0 (z : Nat → Int32) (g : Nat) : tkL z g (4 * g) = z := by
  funext j
  unfold tkL
  rw [if_neg (by omega)]
section LAWC
variable {X : LX} {L : Nat} {xs : Nat → Int32} {σ : St} {A : Ab} {e : Nat} {v6 v7 v8 v9 v10 v11 v15 : Int32} {x s v w : Int32}
theorem lg_drop1 (F : LF X L xs) (hA : okA A) (hw : lW σ A) (he : e < 24) (nx : ∀ A' σ', okA A' → lW σ' A' → LGo X 44 [.ref 67, .ref 0, .ref 64, .ref 65, .ref 66, .int (nI (e + 1)), .null, .null, .null, .null, .null, .null, .null, .null, .null, .null, .null, .null] [] σ') {g : Nat} (hg : g < A.1.1.length) : LGo X 458 [.ref 67, .ref 0, .ref 64, .ref 65, .ref 66, .int (nI e), .int v6, .int v7, .int v8, .int v9, .int (nI g), .null, .null, .null, .null, .null, .null, .null] [.int 1] σ := by
  have hn := hA.1.1
  have hm4 := hA.1.2.2.2.1
  refine sgL_law_458 F ?_
  rw [ix40]
  have hinR : inR A.1.1.length (nI g) = true := by
    unfold inR
    apply decide_eq_true
    rw [nI_toInt (by omega)]
    omega
  have hop : opDrop A (nI g) = (nI (A.1.1.length - 1), ((A.1.1.eraseIdx g, A.1.2), pushH A.2.1 A.1, A.2.2)) := by
    unfold opDrop
    rw [hinR, if_pos rfl, ix_nI (by omega)]
  have hA' : okA ((A.1.1.eraseIdx g, A.1.2), pushH A.2.1 A.1, A.2.2) := by
    have := ok_drop (x := nI g) hA
    rw [hop] at this
    exact this
  have hend : LGo X 494 [.ref 67, .ref 0, .ref 64, .ref 65, .ref 66, .int (nI e), .int v6, .int v7, .int v8, .int v9, .int (nI g), .int 1, .int (nI 20), .null, .null, .null, .null, .null] [] (setR σ 64 (tkL (sA σ 64) g 20)) := by
    refine sgL_law_494 F (br_f one_ne (sgL_law_510 F ?_))
    rw [show ix 6 = 6 from ix_nI (n := 6) (by omega), sA_setR, if_neg (by omega), hw.2.1.1]
    refine ⟨vp_in_nI (n := 6) (by omega) (by omega), ?_⟩
    rintro _ rfl
    have en : nI A.1.1.length - 1 = nI (A.1.1.length - 1) := pk_sub (b := 1) (by omega)
    rw [en]
    have fr : Fr (fun c => c = 65 ∨ c = 66 ∨ c = 64) σ (setA (setR σ 64 (tkL (sA σ 64) g 20)) 66 6 (nI (A.1.1.length - 1))) := (Fr.R (Or.inr (Or.inr rfl))).toA (a := 66) (Or.inr (Or.inl rfl))
    have e66 : ∀ j, j ≠ 6 → sA (setA (setR σ 64 (tkL (sA σ 64) g 20)) 66 6 (nI (A.1.1.length - 1))) 66 j = sA σ 66 j := fun j hj => by rw [sA_setA, if_neg (by omega), sA_setR, if_neg (by omega)]
    have e66' : sA (setA (setR σ 64 (tkL (sA σ 64) g 20)) 66 6 (nI (A.1.1.length - 1))) 66 6 = nI (A.1.1.length - 1) := by rw [sA_setA, if_pos ⟨rfl, rfl⟩]
    have e64 : sA (setA (setR σ 64 (tkL (sA σ 64) g 20)) 66 6 (nI (A.1.1.length - 1))) 64 = tkL (sA σ 64) g 20 := by funext j; rw [sA_setA, if_neg (by omega), sA_setR, if_pos rfl]
    generalize setA (setR σ 64 (tkL (sA σ 64) g 20)) 66 6 (nI (A.1.1.length - 1)) = s1 at fr e66 e66' e64 ⊢
    have ht1 : lT s1 (A.1.1.eraseIdx g) := by
      refine ⟨?_, fun i t hi => ?_⟩
      · rw [e66', List.length_eraseIdx, if_pos hg]
      · rw [List.getElem?_eraseIdx] at hi
        rw [e64]
        unfold tkL
        by_cases c : i < g
        · rw [if_pos c] at hi
          rw [if_neg (by omega), if_neg (by omega), if_neg (by omega), if_neg (by omega)]
          exact hw.2.1.2 i t hi
        · rw [if_neg c] at hi
          have hl := lt_of hi
          rw [if_pos (by omega), if_pos (by omega), if_pos (by omega), if_pos (by omega)]
          exact hw.2.1.2 (i + 1) t hi
    refine ct_X5_drop hA (r66_scr hA hw.1 fr) (fun s2 f2 hc2 => br_f one_ne ?_)
    rw [hop] at hc2 ⊢
    have ht2 := ht1.keep f2
    have e66b := (f2 66 (by omega)).2
    rw [ht2.1]
    refine sgL_law_532 F (brf' ?_ (sgL_law_540 F (lg_905 F hA' ⟨hc2, ht2, ?_, ?_, ?_, fun j y hj => ?_⟩ he (nx _ · hA'))))
    · rw [List.length_eraseIdx, if_pos hg]
    · rw [e66b, e66 7 (by omega)]; exact hw.2.2.1
    · rw [e66b, e66 4 (by omega)]; exact hw.2.2.2.1
    · rw [e66b, e66 5 (by omega)]; exact hw.2.2.2.2.1
    · have hl := lt_of hj
      have hl' : j < A.1.2.1.length := hl
      rw [e66b, e66 j (by omega)]; exact hw.2.2.2.2.2 j y hj
  have loop : ∀ k2 k, k + k2 = 20 → 4 * g ≤ k → LGo X 466 [.ref 67, .ref 0, .ref 64, .ref 65, .ref 66, .int (nI e), .int v6, .int v7, .int v8, .int v9, .int (nI g), .int 1, .int (nI k), .null, .null, .null, .null, .null] [] (setR σ 64 (tkL (sA σ 64) g k)) := by
    intro k2
    induction k2 with
    | zero =>
      intro k hk hgk
      refine sgL_law_466 F (br_t (nI_le (a := 20) (by omega) (by omega)) ?_)
      rw [show k = 20 by omega]
      exact hend
    | succ k2 ih =>
      intro k hk hgk
      refine sgL_law_466 F (br_f (nI_ge (b := 20) (by omega) (by omega)) (br_f one_ne ?_))
      rw [show nI k + 4 = nI (k + 4) from nI_add k 4, ix_nI (show k < 2 ^ 31 by omega), ix_nI (show k + 4 < 2 ^ 31 by omega)]
      refine ⟨vp_in_nI (by omega) (by omega), vp_in_nI (by omega) (by omega), ?_⟩
      rintro _ rfl
      rw [sA_setR, if_pos rfl, setA_setR, tkL_s _ _ _ hgk, nI1]
      exact ih (k + 1) (by omega) (by omega)
  have h0 := loop (20 - 4 * g) (4 * g) (by omega) (Nat.le_refl _)
  rw [tkL_0, setR_self] at h0
  exact h0
theorem lg_drop0 (F : LF X L xs) (hA : okA A) (hw : lW σ A) (he : e < 24) (nx : ∀ A' σ', okA A' → lW σ' A' → LGo X 44 [.ref 67, .ref 0, .ref 64, .ref 65, .ref 66, .int (nI (e + 1)), .null, .null, .null, .null, .null, .null, .null, .null, .null, .null, .null, .null] [] σ') {g : Nat} (hg : A.1.1.length ≤ g) (hg6 : g < 6) : LGo X 458 [.ref 67, .ref 0, .ref 64, .ref 65, .ref 66, .int (nI e), .int v6, .int v7, .int v8, .int v9, .int (nI g), .null, .null, .null, .null, .null, .null, .null] [.int 0] σ := by
  have hm4 := hA.1.2.2.2.1
  refine sgL_law_458 F ?_
  have hinR : inR A.1.1.length (nI g) = false := by
    unfold inR
    apply decide_eq_false
    rw [nI_toInt (by omega)]
    omega
  have hop : opDrop A (nI g) = (-1, A) := by
    unfold opDrop
    rw [hinR]
    rfl
  have h494 : ∀ v12 : Int32, LGo X 494 [.ref 67, .ref 0, .ref 64, .ref 65, .ref 66, .int (nI e), .int v6, .int v7, .int v8, .int v9, .int (nI g), .int 0, .int v12, .null, .null, .null, .null, .null] [] σ := by
    intro v12
    refine sgL_law_494 F (br_t rfl (sgL_law_510 F ?_))
    rw [show ix 6 = 6 from ix_nI (n := 6) (by omega), hw.2.1.1]
    refine ⟨vp_in_nI (n := 6) (by omega) (by omega), ?_⟩
    rintro _ rfl
    have fr : Fr (fun c => c = 65 ∨ c = 66 ∨ c = 64) σ (setA σ 66 6 (nI A.1.1.length - 0)) := Fr.A (Or.inr (Or.inl rfl))
    have es : ∀ c, sA (setA σ 66 6 (nI A.1.1.length - 0)) c = sA σ c := by
      intro c
      funext j
      rw [sA_setA]
      split
      · next h => rw [h.1, h.2, hw.2.1.1, Int32.sub_zero]
      · rfl
    generalize setA σ 66 6 (nI A.1.1.length - 0) = s1 at fr es ⊢
    have ht1 : lT s1 A.1.1 := by
      have := hw.2.1
      unfold lT at this ⊢
      rw [es, es]
      exact this
    have hp1 : lP s1 (enS A.1) := by
      have := hw.2.2
      unfold lP at this ⊢
      rw [es]
      exact this
    refine ct_X5_drop hA (r66_scr hA hw.1 fr) (fun s2 f2 hc2 => br_t rfl ?_)
    rw [hop] at hc2 ⊢
    exact sgL_law_532 F (brf' rfl (sgL_law_540 F (lg_905 F hA ⟨hc2, ht1.keep f2, hp1.keep f2⟩ he (nx _ · hA))))
  exact sgL_law_466 F (br_c (fun _ => h494 _) (fun _ => br_t rfl (h494 _)))
/-- what has moved, of the first k -/
def goK (S : Sn) (k : Nat) : List Tg := ((S.1.take k).map (mvT S.2.1.length)).filter inT
theorem goK_le (S : Sn) (k : Nat) : (goK S k).length ≤ k := by
  unfold goK
  have h1 := List.length_filter_le inT ((S.1.take k).map (mvT S.2.1.length))
  rw [List.length_map, List.length_take] at h1
  omega
theorem goK_s (S : Sn) {k : Nat} {t : Tg} (h : S.1[k]? = some t) : goK S (k + 1) = goK S k ++ (if inT (mvT S.2.1.length t) = true then [mvT S.2.1.length t] else []) := by
  unfold goK
  rw [take_s h, List.map_append, List.filter_append]
  congr 1
  show [mvT S.2.1.length t].filter inT = _
  rw [List.filter_cons]
  split <;> rfl
theorem lg_go (F : LF X L xs) (hA : okA A) (hw : lW σ A) (he : e < 24) (nx : ∀ A' σ', okA A' → lW σ' A' → LGo X 44 [.ref 67, .ref 0, .ref 64, .ref 65, .ref 66, .int (nI (e + 1)), .null, .null, .null, .null, .null, .null, .null, .null, .null, .null, .null, .null] [] σ') : LGo X 558 [.ref 67, .ref 0, .ref 64, .ref 65, .ref 66, .int (nI e), .int v6, .int v7, .int v8, .int v9, .int 0, .int 0, .null, .null, .null, .null, .null, .null] [] σ := by
  have hn := hA.1.1
  have hm4 := hA.1.2.2.2.1
  have hA' : okA (opGo A).2 := ok_go hA
  have loop : ∀ k2 k, k + k2 = A.1.1.length → ∀ s, Fr (fun c => c = 64) σ s → rowL s (goK A.1 k) → (∀ j, 4 * k ≤ j → sA s 64 j = sA σ 64 j) → LGo X 558 [.ref 67, .ref 0, .ref 64, .ref 65, .ref 66, .int (nI e), .int v6, .int v7, .int v8, .int v9, .int (nI (goK A.1 k).length), .int (nI k), .null, .null, .null, .null, .null, .null] [] s := by
    intro k2
    induction k2 with
    | zero =>
      intro k hk s f hr hz
      have e66 : sA s 66 = sA σ 66 := (f.1 66 (by omega)).2
      refine sgL_law_558 F ?_
      rw [e66, hw.2.1.1]
      refine br_t (nI_le (by omega) (by omega)) ?_
      rintro _ rfl
      have hG : goK A.1 k = goL A.1 := by
        unfold goK goL
        rw [List.take_of_length_le (by omega)]
      rw [hG] at hr ⊢
      have fr : Fr (fun c => c = 65 ∨ c = 66 ∨ c = 64) σ (setA s 66 6 (nI (goL A.1).length)) := (f.mono (fun c z => Or.inr (Or.inr z))).toA (a := 66) (Or.inr (Or.inl rfl))
      have g66 : ∀ j, j ≠ 6 → sA (setA s 66 6 (nI (goL A.1).length)) 66 j = sA σ 66 j := fun j hj => by rw [sA_setA, if_neg (by omega), e66]
      have ht1 : lT (setA s 66 6 (nI (goL A.1).length)) (goL A.1) := by
        refine ⟨by rw [sA_setA, if_pos ⟨rfl, rfl⟩], fun i t hi => ?_⟩
        rw [sA_setA, sA_setA, sA_setA, sA_setA, if_neg (by omega), if_neg (by omega), if_neg (by omega), if_neg (by omega)]
        exact hr i t hi
      generalize setA s 66 6 (nI (goL A.1).length) = s1 at fr g66 ht1 ⊢
      refine ct_X5_go hA (r66_scr hA hw.1 fr) (fun s2 f2 hc2 => brf' rfl ?_)
      have e66b := (f2 66 (by omega)).2
      refine sgL_law_702 F (lg_905 F hA' ⟨hc2, ht1.keep f2, ?_, ?_, ?_, fun j y hj => ?_⟩ he (nx _ · hA'))
      · rw [e66b, g66 7 (by omega)]; exact hw.2.2.1
      · rw [e66b, g66 4 (by omega)]; exact hw.2.2.2.1
      · rw [e66b, g66 5 (by omega)]; exact hw.2.2.2.2.1
      · have hl := lt_of hj
        have hl' : j < A.1.2.1.length := hl
        rw [e66b, g66 j (by omega)]; exact hw.2.2.2.2.2 j y hj
    | succ k2 ih =>
      intro k hk s f hr hz
      obtain ⟨t, ht⟩ := get_of (l := A.1.1) (i := k) (by omega)
      have e66 : sA s 66 = sA σ 66 := (f.1 66 (by omega)).2
      obtain ⟨r0, r1, r2, r3⟩ := hw.2.1.2 k t ht
      have hle := goK_le A.1 k
      have hG := goK_s A.1 ht
      refine sgL_law_558 F ?_
      rw [e66, hw.2.1.1, show sA σ 66 7 = nI A.1.2.1.length from hw.2.2.1, ix41, ix42, ix43, ix40, ix41, ix42, ix43, ix40, ix_nI (show 4 * k < 2 ^ 31 by omega), ix_nI (show 4 * k + 1 < 2 ^ 31 by omega), ix_nI (show 4 * k + 2 < 2 ^ 31 by omega), ix_nI (show 4 * k + 3 < 2 ^ 31 by omega), hz (4 * k) (by omega), hz (4 * k + 1) (by omega), hz (4 * k + 2) (by omega), hz (4 * k + 3) (by omega), r0, r1, r2, r3, Int32.mul_comm (nI A.1.2.1.length) t.2.2.1]
      have hmv : mvT A.1.2.1.length t = (t.1 + t.2.2.1 * nI A.1.2.1.length, t.2) := rfl
      have hskip : ∀ v12 v13 v14 v15 : Int32, inT (mvT A.1.2.1.length t) = false → LGo X 675 [.ref 67, .ref 0, .ref 64, .ref 65, .ref 66, .int (nI e), .int v6, .int v7, .int v8, .int v9, .int (nI (goK A.1 k).length), .int (nI k), .int v12, .int v13, .int v14, .int v15, .null, .null] [] s := by
        intro v12 v13 v14 v15 z
        refine sgL_law_675 F ?_
        rw [z, if_neg (by decide), List.append_nil] at hG
        rw [nI1, ← hG]
        exact ih (k + 1) (by omega) s f (by rw [hG]; exact hr) (fun j hj => hz j (by omega))
      refine br_f (nI_ge (by omega) (by omega)) ⟨vp_in_nI (by omega) (by omega), vp_in_nI (by omega) (by omega), vp_in_nI (by omega) (by omega), vp_in_nI (by omega) (by omega), vp_in_nI (by omega) (by omega), br_c (fun c => hskip _ _ _ _ ?_) (fun c => br_c (fun c2 => hskip _ _ _ _ ?_) (fun c2 => ?_))⟩
      · rw [hmv]
        unfold inT
        apply decide_eq_false
        rw [Int32.le_iff_toInt_le, k0] at c
        intro z
        have z1 : 1 ≤ (t.1 + t.2.2.1 * nI A.1.2.1.length).toInt := z.1
        omega
      · rw [hmv]
        unfold inT
        apply decide_eq_false
        rw [Int32.le_iff_toInt_le, show (301 : Int32).toInt = 301 from rfl] at c2
        intro z
        have z1 : (t.1 + t.2.2.1 * nI A.1.2.1.length).toInt ≤ 300 := z.2
        omega
      · have hin : inT (mvT A.1.2.1.length t) = true := by
          rw [hmv]
          unfold inT
          apply decide_eq_true
          rw [Int32.le_iff_toInt_le, k0] at c
          rw [Int32.le_iff_toInt_le, show (301 : Int32).toInt = 301 from rfl] at c2
          show 1 ≤ (t.1 + t.2.2.1 * nI A.1.2.1.length).toInt ∧ (t.1 + t.2.2.1 * nI A.1.2.1.length).toInt ≤ 300
          omega
        rw [hin, if_pos rfl, hmv] at hG
        have hput := put4_row (t := (t.1 + t.2.2.1 * nI A.1.2.1.length, t.2)) hr
        rw [← hG] at hput
        have hlen : (goK A.1 (k + 1)).length = (goK A.1 k).length + 1 := by rw [hG, List.length_append]; rfl
        have hgo := ih (k + 1) (by omega) _ (f.tr (put4_fr s (goK A.1 k).length (t.1 + t.2.2.1 * nI A.1.2.1.length, t.2))) hput (fun j hj => by rw [put4_ne _ _ _ _ (by omega)]; exact hz j (by omega))
        rw [hlen] at hgo
        generalize (goK A.1 k).length = M at hle hgo ⊢
        rw [ix_nI (show 4 * M < 2 ^ 31 by omega), ix_nI (show 4 * M + 1 < 2 ^ 31 by omega), ix_nI (show 4 * M + 2 < 2 ^ 31 by omega), ix_nI (show 4 * M + 3 < 2 ^ 31 by omega)]
        refine ⟨vp_in_nI (by omega) (by omega), ?_⟩
        rintro _ rfl
        refine ⟨vp_in_nI (by omega) (by omega), ?_⟩
        rintro _ rfl
        refine ⟨vp_in_nI (by omega) (by omega), ?_⟩
        rintro _ rfl
        refine ⟨vp_in_nI (by omega) (by omega), ?_⟩
        rintro _ rfl
        refine sgL_law_675 F ?_
        rw [nI1, nI1]
        exact hgo
  have h0 := loop A.1.1.length 0 (by omega) σ (Fr.rf σ) (fun i t hi => by cases hi) (fun j _ => rfl)
  exact h0
/-- what the spacings' call makes of rows that hold T of them, then 0 -/
theorem ls_ok {p : Nat → Int32} {T : Nat} (h1 : 1 ≤ T) (h4 : T ≤ 4) (hp : ∀ i, i < 4 → (i < T → isSp (p i) = true) ∧ (T ≤ i → p i = 0)) : okSp (p 0) (p 1) (p 2) (p 3) = true ∧ (lsSp (p 0) (p 1) (p 2) (p 3)).length = T ∧ ∀ (j : Nat) (y : Int32), (lsSp (p 0) (p 1) (p 2) (p 3))[j]? = some y → p j = y := by
  have a0 := (hp 0 (by omega)).1 (by omega)
  rcases (show T = 1 ∨ T = 2 ∨ T = 3 ∨ T = 4 by omega) with rfl | rfl | rfl | rfl
  · have z1 := (hp 1 (by omega)).2 (by omega)
    have z2 := (hp 2 (by omega)).2 (by omega)
    have z3 := (hp 3 (by omega)).2 (by omega)
    rw [z1, z2, z3]
    refine ⟨by simp [okSp, a0], by simp [lsSp], fun j y hj => ?_⟩
    rcases j with _ | j
    · simpa [lsSp] using hj
    · simp [lsSp] at hj
  · have a1 := (hp 1 (by omega)).1 (by omega)
    have n1 := (isSp_pos a1).2
    have z2 := (hp 2 (by omega)).2 (by omega)
    have z3 := (hp 3 (by omega)).2 (by omega)
    rw [z2, z3]
    refine ⟨by simp [okSp, a0, a1, n1], by simp [lsSp, n1], fun j y hj => ?_⟩
    rcases j with _ | _ | j
    · simpa [lsSp, n1] using hj
    · simpa [lsSp, n1] using hj
    · simp [lsSp, n1] at hj
  · have a1 := (hp 1 (by omega)).1 (by omega)
    have n1 := (isSp_pos a1).2
    have a2 := (hp 2 (by omega)).1 (by omega)
    have n2 := (isSp_pos a2).2
    have z3 := (hp 3 (by omega)).2 (by omega)
    rw [z3]
    refine ⟨by simp [okSp, a0, a1, n1, a2, n2], by simp [lsSp, n1, n2], fun j y hj => ?_⟩
    rcases j with _ | _ | _ | j
    · simpa [lsSp, n1, n2] using hj
    · simpa [lsSp, n1, n2] using hj
    · simpa [lsSp, n1, n2] using hj
    · simp [lsSp, n1, n2] at hj
  · have a1 := (hp 1 (by omega)).1 (by omega)
    have n1 := (isSp_pos a1).2
    have a2 := (hp 2 (by omega)).1 (by omega)
    have n2 := (isSp_pos a2).2
    have a3 := (hp 3 (by omega)).1 (by omega)
    have n3 := (isSp_pos a3).2
    refine ⟨by simp [okSp, a0, a1, n1, a2, n2, a3, n3], by simp [lsSp, n1, n2, n3], fun j y hj => ?_⟩
    rcases j with _ | _ | _ | _ | j
    · simpa [lsSp, n1, n2, n3] using hj
    · simpa [lsSp, n1, n2, n3] using hj
    · simpa [lsSp, n1, n2, n3] using hj
    · simpa [lsSp, n1, n2, n3] using hj
    · simp [lsSp, n1, n2, n3] at hj
theorem lg_spac (F : LF X L xs) (hA : okA A) (hw : lW σ A) (he : e < 24) (nx : ∀ A' σ', okA A' → lW σ' A' → LGo X 44 [.ref 67, .ref 0, .ref 64, .ref 65, .ref 66, .int (nI (e + 1)), .null, .null, .null, .null, .null, .null, .null, .null, .null, .null, .null, .null] [] σ') {T : Nat} (h1 : 1 ≤ T) (h4 : T ≤ 4) : LGo X 729 [.ref 67, .ref 0, .ref 64, .ref 65, .ref 66, .int (nI e), .int v6, .int v7, .int v8, .int v9, .int (nI T), .int 0, .null, .null, .null, .null, .null, .null] [] σ := by
  have loop : ∀ k2 j, j + k2 = 4 → ∀ s, Fr (fun c => c = 66) σ s → (∀ i, 4 ≤ i → sA s 66 i = sA σ 66 i) → (∀ i, i < j → (i < T → isSp (sA s 66 i) = true) ∧ (T ≤ i → sA s 66 i = 0)) → LGo X 729 [.ref 67, .ref 0, .ref 64, .ref 65, .ref 66, .int (nI e), .int v6, .int v7, .int v8, .int v9, .int (nI T), .int (nI j), .null, .null, .null, .null, .null, .null] [] s := by
    intro k2
    induction k2 with
    | zero =>
      intro j hj s f hz hr
      refine sgL_law_729 F (br_t (nI_le (a := 4) (by omega) (by omega)) ?_)
      rintro _ rfl
      have fr : Fr (fun c => c = 65 ∨ c = 66 ∨ c = 64) σ (setA s 66 7 (nI T)) := (f.mono (fun c z => Or.inr (Or.inl z))).toA (a := 66) (Or.inr (Or.inl rfl))
      have e64 : sA (setA s 66 7 (nI T)) 64 = sA σ 64 := by
        rw [← (f.1 64 (by omega)).2]
        funext i
        rw [sA_setA, if_neg (by omega)]
      have e7 : sA (setA s 66 7 (nI T)) 66 7 = nI T := by rw [sA_setA, if_pos ⟨rfl, rfl⟩]
      have ez : ∀ i, 4 ≤ i → i ≠ 7 → sA (setA s 66 7 (nI T)) 66 i = sA σ 66 i := fun i a b => by rw [sA_setA, if_neg (by omega)]; exact hz i a
      have er : ∀ i, i < 4 → (i < T → isSp (sA (setA s 66 7 (nI T)) 66 i) = true) ∧ (T ≤ i → sA (setA s 66 7 (nI T)) 66 i = 0) := fun i a => by rw [sA_setA, if_neg (by omega)]; exact hr i (by omega)
      generalize setA s 66 7 (nI T) = s1 at fr e64 e7 ez er ⊢
      obtain ⟨o1, o2, o3⟩ := ls_ok (p := sA s1 66) h1 h4 er
      have hop : opSpac A (sA s1 66 0) (sA s1 66 1) (sA s1 66 2) (sA s1 66 3) = (nI T, ((A.1.1, lsSp (sA s1 66 0) (sA s1 66 1) (sA s1 66 2) (sA s1 66 3), A.1.2.2), pushH A.2.1 A.1, A.2.2)) := by
        unfold opSpac
        rw [o1, if_pos rfl, o2]
      have hA' := ok_spac (a := sA s1 66 0) (b := sA s1 66 1) (c := sA s1 66 2) (e := sA s1 66 3) hA
      rw [hop] at hA'
      refine ct_X5_spacings hA (r66_scr hA hw.1 fr) (fun s2 f2 hc2 => ?_)
      rw [hop] at hc2 ⊢
      have e66b := (f2 66 (by omega)).2
      have e64b := (f2 64 (by omega)).2
      refine brf' rfl (sgL_law_812 F (lg_905 F hA' ⟨hc2, ⟨?_, fun i t hi => ?_⟩, ?_, ?_, ?_, fun i y hy => ?_⟩ he (nx _ · hA')))
      · rw [e66b, ez 6 (by omega) (by omega)]; exact hw.2.1.1
      · rw [e64b, e64]; exact hw.2.1.2 i t hi
      · rw [e66b, e7]
        show nI T = nI (lsSp (sA s1 66 0) (sA s1 66 1) (sA s1 66 2) (sA s1 66 3)).length
        rw [o2]
      · rw [e66b, ez 4 (by omega) (by omega)]; exact hw.2.2.2.1
      · rw [e66b, ez 5 (by omega) (by omega)]; exact hw.2.2.2.2.1
      · rw [e66b]; exact o3 i y hy
    | succ k2 ih =>
      intro j hj s f hz hr
      have hput : ∀ y : Int32, ((j < T → isSp y = true) ∧ (T ≤ j → y = 0)) → LGo X 768 [.ref 67, .ref 0, .ref 64, .ref 65, .ref 66, .int (nI e), .int v6, .int v7, .int v8, .int v9, .int (nI T), .int (nI j), .null, .null, .null, .null, .null, .null] [.int y, .int (nI j), .ref 66] s := by
        intro y hy
        refine sgL_law_768 F ?_
        rw [ix_nI (show j < 2 ^ 31 by omega), nI1]
        refine ⟨vp_in_nI (by omega) (by omega), ?_⟩
        rintro _ rfl
        refine ih (j + 1) (by omega) _ (f.toA (a := 66) rfl) (fun i hi => ?_) (fun i hi => ?_)
        · rw [sA_setA, if_neg (by omega)]; exact hz i hi
        · rw [sA_setA]
          split
          · next c => rw [c.2]; exact hy
          · exact hr i (by omega)
      refine sgL_law_729 F (br_f (nI_ge (b := 4) (by omega) (by omega)) (br_c (fun c => ?_) (fun c => ?_)))
      · rw [nI_leI (by omega) (by omega)] at c
        exact hput 0 ⟨fun z => by omega, fun _ => rfl⟩
      · rw [nI_leI (by omega) (by omega)] at c
        refine ct_Llow (n := 41) (by omega) (by omega) (fun r hr => ?_)
        rw [show (10 : Int32) + nI r = nI (10 + r) from nI_add 10 r]
        refine hput _ ⟨fun _ => ?_, fun z => by omega⟩
        unfold isSp
        apply decide_eq_true
        rw [nI_toInt (by omega)]
        omega
  exact loop 4 0 rfl σ (Fr.rf σ) (fun _ _ => rfl) (fun i hi => by omega)
theorem lg_set (F : LF X L xs) (hA : okA A) (hw : lW σ A) (he : e < 24) (nx : ∀ A' σ', okA A' → lW σ' A' → LGo X 44 [.ref 67, .ref 0, .ref 64, .ref 65, .ref 66, .int (nI (e + 1)), .null, .null, .null, .null, .null, .null, .null, .null, .null, .null, .null, .null] [] σ') {m : Nat} {y : Int32} (hm : (m = 0 ∧ 0 ≤ y.toInt ∧ y.toInt ≤ 9) ∨ (m = 1 ∧ 1 ≤ y.toInt ∧ y.toInt ≤ 99)) : LGo X 869 [.ref 67, .ref 0, .ref 64, .ref 65, .ref 66, .int (nI e), .int v6, .int v7, .int v8, .int v9, .int (nI m), .null, .null, .null, .null, .null, .null, .null] [.int y] σ := by
  have hm4 := hA.1.2.2.2.1
  have hm1 : m ≤ 1 := by omega
  refine sgL_law_869 F (ct_X5_set hA hw.1 (fun s1 f1 hc1 => ?_))
  have hA' := ok_set (x := nI m) (y := y) hA
  have e66 := (f1 66 (by omega)).2
  have e64 := (f1 64 (by omega)).2
  rw [show (4 : Int32) + nI m = nI (4 + m) from nI_add 4 m, ix_nI (show 4 + m < 2 ^ 31 by omega), e66]
  have key : (opSet A (nI m) y).1 = sA σ 66 (4 + m) ∧ (opSet A (nI m) y).2.1.1 = A.1.1 ∧ (opSet A (nI m) y).2.1.2.1 = A.1.2.1 ∧ (opSet A (nI m) y).2.1.2.2.1 = (if m = 0 then y else A.1.2.2.1) ∧ (opSet A (nI m) y).2.1.2.2.2 = (if m = 1 then y else A.1.2.2.2) := by
    rcases hm with ⟨rfl, h⟩ | ⟨rfl, h⟩
    · have e1 : opSet A (nI 0) y = (A.1.2.2.1, ((A.1.1, A.1.2.1, y, A.1.2.2.2), pushH A.2.1 A.1, A.2.2)) := by unfold opSet; rw [if_pos ⟨rfl, h⟩]
      rw [e1]
      exact ⟨hw.2.2.2.1.symm, rfl, rfl, rfl, rfl⟩
    · have e1 : opSet A (nI 1) y = (A.1.2.2.2, ((A.1.1, A.1.2.1, A.1.2.2.1, y), pushH A.2.1 A.1, A.2.2)) := by
        unfold opSet
        rw [if_neg (fun z => absurd z.1 (by decide)), if_pos ⟨rfl, h⟩]
      rw [e1]
      exact ⟨hw.2.2.2.2.1.symm, rfl, rfl, rfl, rfl⟩
  generalize opSet A (nI m) y = O at key hc1 hA' ⊢
  obtain ⟨r, A'⟩ := O
  obtain ⟨q1, q2, q3, q4, q5⟩ := key
  refine ⟨vp_in_nI (by omega) (by omega), brf' q1 (sgL_law_894 F ?_)⟩
  rw [show (4 : Int32) + nI m = nI (4 + m) from nI_add 4 m, ix_nI (show 4 + m < 2 ^ 31 by omega)]
  refine ⟨vp_in_nI (by omega) (by omega), ?_⟩
  rintro _ rfl
  have g66 : ∀ j, j ≠ 4 + m → sA (setA s1 66 (4 + m) y) 66 j = sA σ 66 j := fun j hj => by rw [sA_setA, if_neg (by omega), e66]
  have g66' : sA (setA s1 66 (4 + m) y) 66 (4 + m) = y := by rw [sA_setA, if_pos ⟨rfl, rfl⟩]
  have g64 : sA (setA s1 66 (4 + m) y) 64 = sA σ 64 := by rw [← e64]; funext i; rw [sA_setA, if_neg (by omega)]
  have fr : Fr (fun c => c = 65 ∨ c = 66 ∨ c = 64) s1 (setA s1 66 (4 + m) y) := Fr.A (Or.inr (Or.inl rfl))
  generalize setA s1 66 (4 + m) y = s2 at g66 g66' g64 fr ⊢
  have hA2 : okA A' := hA'
  refine lg_905 F hA2 ⟨r66_scr hA2 hc1 fr, ⟨?_, fun i t hi => ?_⟩, ?_, ?_, ?_, fun j z hj => ?_⟩ he (nx _ · hA2)
  · rw [g66 6 (by omega), show A'.1.1 = A.1.1 from q2]; exact hw.2.1.1
  · rw [show A'.1.1 = A.1.1 from q2] at hi
    rw [g64]; exact hw.2.1.2 i t hi
  · rw [g66 7 (by omega)]
    show _ = nI A'.1.2.1.length
    rw [show A'.1.2.1 = A.1.2.1 from q3]
    exact hw.2.2.1
  · show _ = A'.1.2.2.1
    rw [show A'.1.2.2.1 = (if m = 0 then y else A.1.2.2.1) from q4]
    rcases (show m = 0 ∨ m = 1 by omega) with rfl | rfl
    · exact g66'
    · rw [g66 4 (by omega)]; exact hw.2.2.2.1
  · show _ = A'.1.2.2.2
    rw [show A'.1.2.2.2 = (if m = 1 then y else A.1.2.2.2) from q5]
    rcases (show m = 0 ∨ m = 1 by omega) with rfl | rfl
    · rw [g66 5 (by omega)]; exact hw.2.2.2.2.1
    · exact g66'
  · have hj' : A'.1.2.1[j]? = some z := hj
    rw [show A'.1.2.1 = A.1.2.1 from q3] at hj'
    have hl := lt_of hj'
    rw [g66 j (by omega)]
    exact hw.2.2.2.2.2 j z hj'
theorem lg_44 (F : LF X L xs) : ∀ k2 e, e + k2 = 24 → ∀ (A : Ab) (σ : St), okA A → lW σ A → LGo X 44 [.ref 67, .ref 0, .ref 64, .ref 65, .ref 66, .int (nI e), .null, .null, .null, .null, .null, .null, .null, .null, .null, .null, .null, .null] [] σ := by
  intro k2
  induction k2 with
  | zero =>
    intro e he A σ hA hw
    exact sgL_law_44 F (br_t (nI_le (a := 24) (by omega) (by omega)) trivial)
  | succ k2 ih =>
    intro e he A σ hA hw
    have nx : ∀ A' σ', okA A' → lW σ' A' → LGo X 44 [.ref 67, .ref 0, .ref 64, .ref 65, .ref 66, .int (nI (e + 1)), .null, .null, .null, .null, .null, .null, .null, .null, .null, .null, .null, .null] [] σ' := fun A' σ' => ih (e + 1) (by omega) A' σ'
    have h24 : e < 24 := by omega
    refine sgL_law_44 F (br_f (nI_ge (b := 24) (by omega) (by omega)) ⟨nI_pos (by omega), fun h => ?_⟩)
    rw [show (30 : Int32) + nI e = nI (30 + e) from nI_add 30 e]
    refine ⟨nI_pos (by omega), fun g => ct_Llow (n := 12) (by omega) (by omega) (fun kd hkd => ?_)⟩
    refine br_c (fun _ => lg_95 F hA hw h24 nx) (fun c6 => br_c (fun _ => ?_) (fun _ => lg_95 F hA hw h24 nx))
    have c6' : 6 ≤ kd := by
      rw [Int32.lt_iff_toInt_lt, nI_toInt (by omega), show (6 : Int32).toInt = 6 from rfl] at c6
      omega
    refine br_c' (fun n6 => br_c' (fun n7 => br_c (fun c10 => ?_) (fun _ => ?_)) (fun _ => lg_go F hA hw h24 nx)) (fun _ => ?_)
    · have c10' : 10 ≤ kd := by
        rw [Int32.le_iff_toInt_le, nI_toInt (by omega), show (10 : Int32).toInt = 10 from rfl] at c10
        omega
      have ek : nI kd - 10 = nI (kd - 10) := pk_sub (b := 10) c10'
      rw [ek]
      refine br_c' (fun c => ct_Llow (n := 3) (by omega) (by omega) (fun q hq => ?_)) (fun c => ct_Llow (n := 10) (by omega) (by omega) (fun q hq => ?_))
      · have e1 : kd - 10 = 1 := by
          rcases (show kd - 10 = 0 ∨ kd - 10 = 1 by omega) with z | z
          · rw [z] at c; exact absurd rfl c
          · exact z
        rw [e1]
        have h865 : ∀ n, n = 12 ∨ n = 99 → LGo X 865 [.ref 67, .ref 0, .ref 64, .ref 65, .ref 66, .int (nI e), .int h, .int g, .int (nI kd), .int 1, .int (nI 1), .null, .null, .null, .null, .null, .null, .null] [.int (nI n), .int ((h >>> (4 &&& 31))), .int 1] σ := by
          intro n hn
          refine sgL_law_865 F (ct_Llow (by omega) (by omega) (fun q2 hq2 => ?_))
          rw [show (1 : Int32) + nI q2 = nI (1 + q2) from nI_add 1 q2]
          exact lg_set F hA hw h24 nx (m := 1) (Or.inr ⟨rfl, by rw [nI_toInt (by omega)]; omega⟩)
        exact br_c' (fun _ => h865 12 (Or.inl rfl)) (fun _ => h865 99 (Or.inr rfl))
      · have e1 : kd - 10 = 0 := (nI_eq (a := kd - 10) (b := 0) (by omega) (by omega)).mp c
        rw [e1]
        exact lg_set F hA hw h24 nx (m := 0) (Or.inl ⟨rfl, by rw [nI_toInt (by omega)]; omega⟩)
    · refine ct_Llow (n := 4) (by omega) (by omega) (fun q hq => ?_)
      rw [show (1 : Int32) + nI q = nI (1 + q) from nI_add 1 q]
      exact lg_spac F hA hw h24 nx (by omega) (by omega)
    · refine ct_Llow (n := 6) (by omega) (by omega) (fun q hq => ?_)
      rw [hw.2.1.1]
      refine br_c (fun c => ?_) (fun c => ?_)
      · rw [nI_leI (by have := hA.1.1; omega) (by omega)] at c
        exact lg_drop0 F hA hw h24 nx c hq
      · rw [nI_leI (by have := hA.1.1; omega) (by omega)] at c
        exact lg_drop1 F hA hw h24 nx (by omega)
end LAWC
