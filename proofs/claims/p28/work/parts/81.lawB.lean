/-! the law's loop: behind a choice -/
/-- the class holds A, the law's targets, spacings and settings its scene -/
def lW (σ : St) (A : Ab) : Prop := cR σ A ∧ lT σ A.1.1 ∧ lP σ (enS A.1)
theorem aN_step (E : En) (k : Nat) : aN E ((k + 1) / 11) ((k + 1) % 11) = aN E (k / 11) (k % 11 + 1) := by
  rcases Nat.lt_or_ge (k % 11) 10 with h | h
  · rw [show (k + 1) / 11 = k / 11 by omega, show (k + 1) % 11 = k % 11 + 1 by omega]
  · rw [show (k + 1) / 11 = k / 11 + 1 by omega, show (k + 1) % 11 = 0 by omega, show k % 11 + 1 = 11 by omega, aN_11]
theorem pN_step (E : En) (k : Nat) : pN E ((k + 1) / 11) ((k + 1) % 11) = pN E (k / 11) (k % 11 + 1) := by
  rcases Nat.lt_or_ge (k % 11) 10 with h | h
  · rw [show (k + 1) / 11 = k / 11 by omega, show (k + 1) % 11 = k % 11 + 1 by omega]
  · rw [show (k + 1) / 11 = k / 11 + 1 by omega, show (k + 1) % 11 = 0 by omega, show k % 11 + 1 = 11 by omega, show pN E (k / 11) 11 = pN E (k / 11 + 1) 0 from cntT_11 _ _]
section LAWB
variable {X : LX} {L : Nat} {xs : Nat → Int32} {σ : St} {A : Ab} {e : Nat} {v6 v7 v8 v9 v10 v11 : Int32}
theorem r66_scr {σ' : St} (hA : okA A) (h : cR σ A) (f : Fr (fun c => c = 65 ∨ c = 66 ∨ c = 64) σ σ') : cR σ' A := h.keep hA (f.mono (fun c hc => by unfold scr; omega))
/-- one turn more, looked at by the law -/
theorem lg_1252 (F : LF X L xs) (hA : okA A) (hs : lS σ A) {x : Int32} (h1 : isSp x = true) (h3 : A.1.2.1.length < 4) (nx : ∀ σ', lW σ' A → LGo X 44 [.ref 67, .ref 0, .ref 64, .ref 65, .ref 66, .int (nI (e + 1)), .null, .null, .null, .null, .null, .null, .null, .null, .null, .null, .null, .null] [] σ') :
    LGo X 1252 [.ref 67, .ref 0, .ref 64, .ref 65, .ref 66, .int (nI e), .int v6, .int v7, .int v8, .int v9, .int x, .int (nI (tolds (enS (A.1.1, A.1.2.1 ++ [x], A.1.2.2))).length), .int (nI (phant (enS (A.1.1, A.1.2.1 ++ [x], A.1.2.2)))), .int 0, .int 0, .null, .null, .null] [] (setA (setA σ 66 A.1.2.1.length x) 66 7 (nI (A.1.2.1.length + 1))) := by
  have h21 := (okE_S hA.1).1
  have hok' := okS_turn hA.1 h3 h1
  have hE := okE_S hok'
  have hm1 := hA.1.2.2.1
  generalize hs6 : setA (setA σ 66 A.1.2.1.length x) 66 7 (nI (A.1.2.1.length + 1)) = s6
  have f6 : Fr (fun c => c = 65 ∨ c = 66 ∨ c = 64) σ s6 := by rw [← hs6]; exact ((Fr.rf (C := fun c => c = 65 ∨ c = 66 ∨ c = 64) σ).toA (a := 66) (Or.inr (Or.inl rfl))).toA (a := 66) (Or.inr (Or.inl rfl))
  have e65 : sA s6 65 = sA σ 65 := by rw [← hs6]; funext j; rw [sA_setA, if_neg (by omega), sA_setA, if_neg (by omega)]
  have e64 : sA s6 64 = sA σ 64 := by rw [← hs6]; funext j; rw [sA_setA, if_neg (by omega), sA_setA, if_neg (by omega)]
  have e667 : sA s6 66 7 = nI (A.1.2.1.length + 1) := by rw [← hs6, sA_setA, if_pos ⟨rfl, rfl⟩]
  have e66n : sA s6 66 A.1.2.1.length = x := by rw [← hs6, sA_setA, if_neg (by omega), sA_setA, if_pos ⟨rfl, rfl⟩]
  have e66 : ∀ j, j ≠ 7 → j ≠ A.1.2.1.length → sA s6 66 j = sA σ 66 j := fun j a b => by rw [← hs6, sA_setA, if_neg (by omega), sA_setA, if_neg (by omega)]
  have hBl : (enS (A.1.1, A.1.2.1 ++ [x], A.1.2.2)).1.length = (enS A.1).1.length := rfl
  have hl6 : lE s6 (enS (A.1.1, A.1.2.1 ++ [x], A.1.2.2)) := by
    refine ⟨⟨?_, fun k b hb => ?_⟩, ?_, ?_, ?_, fun j s hj => ?_⟩
    · rw [e66 8 (by omega) (by omega)]; exact hs.2.2.1.1
    · rw [e65]; exact hs.2.2.1.2 k b hb
    · rw [e667]
      show _ = nI (A.1.2.1 ++ [x]).length
      rw [List.length_append]
      rfl
    · rw [e66 4 (by omega) (by omega)]; exact hs.2.2.2.2.1
    · rw [e66 5 (by omega) (by omega)]; exact hs.2.2.2.2.2.1
    · have hj' : (A.1.2.1 ++ [x])[j]? = some s := hj
      have hl := lt_of hj'
      rw [List.length_append, List.length_singleton] at hl
      rcases Nat.lt_or_ge j A.1.2.1.length with z | z
      · rw [List.getElem?_append_left z] at hj'
        rw [e66 j (by omega) (by omega)]
        exact hs.2.2.2.2.2.2 j s hj'
      · have : j = A.1.2.1.length := by omega
        subst this
        rw [List.getElem?_append_right (Nat.le_refl _), Nat.sub_self] at hj'
        injection hj' with hj'
        rw [e66n, hj']
  -- back again
  have hs7 : lS (setA (setA s6 66 7 (nI A.1.2.1.length)) 66 A.1.2.1.length 0) A := by
    have fr : Fr (fun c => c = 65 ∨ c = 66 ∨ c = 64) σ (setA (setA s6 66 7 (nI A.1.2.1.length)) 66 A.1.2.1.length 0) := (f6.toA (a := 66) (Or.inr (Or.inl rfl))).toA (a := 66) (Or.inr (Or.inl rfl))
    have g65 : sA (setA (setA s6 66 7 (nI A.1.2.1.length)) 66 A.1.2.1.length 0) 65 = sA σ 65 := by rw [← e65]; funext j; rw [sA_setA, if_neg (by omega), sA_setA, if_neg (by omega)]
    have g64 : sA (setA (setA s6 66 7 (nI A.1.2.1.length)) 66 A.1.2.1.length 0) 64 = sA σ 64 := by rw [← e64]; funext j; rw [sA_setA, if_neg (by omega), sA_setA, if_neg (by omega)]
    have g667 : sA (setA (setA s6 66 7 (nI A.1.2.1.length)) 66 A.1.2.1.length 0) 66 7 = nI A.1.2.1.length := by rw [sA_setA, if_neg (by omega), sA_setA, if_pos ⟨rfl, rfl⟩]
    have g66 : ∀ j, j ≠ 7 → j ≠ A.1.2.1.length → sA (setA (setA s6 66 7 (nI A.1.2.1.length)) 66 A.1.2.1.length 0) 66 j = sA σ 66 j := fun j a b => by rw [sA_setA, if_neg (by omega), sA_setA, if_neg (by omega), e66 j a b]
    generalize setA (setA s6 66 7 (nI A.1.2.1.length)) 66 A.1.2.1.length 0 = s7 at fr g65 g64 g667 g66 ⊢
    refine ⟨r66_scr hA hs.1 fr, ⟨?_, fun i t ht => ?_⟩, ⟨?_, fun k b hb => ?_⟩, ?_, ?_, ?_, fun j s hj => ?_⟩
    · rw [g66 6 (by omega) (by omega)]; exact hs.2.1.1
    · rw [g64]; exact hs.2.1.2 i t ht
    · rw [g66 8 (by omega) (by omega)]; exact hs.2.2.1.1
    · rw [g65]; exact hs.2.2.1.2 k b hb
    · exact g667
    · rw [g66 4 (by omega) (by omega)]; exact hs.2.2.2.2.1
    · rw [g66 5 (by omega) (by omega)]; exact hs.2.2.2.2.2.1
    · have hl := lt_of hj
      have hl' : j < A.1.2.1.length := hl
      rw [g66 j (by omega) (by omega)]; exact hs.2.2.2.2.2.2 j s hj
  have hmE : missE (enS (A.1.1, A.1.2.1 ++ [x], A.1.2.2)) = (enS (A.1.1, A.1.2.1 ++ [x], A.1.2.2)).1.countP (fun b => !told (enS (A.1.1, A.1.2.1 ++ [x], A.1.2.2)) b.1 b.2.2.1) := rfl
  have loop : ∀ k2 i, i + k2 = (enS A.1).1.length → LGo X 1252 [.ref 67, .ref 0, .ref 64, .ref 65, .ref 66, .int (nI e), .int v6, .int v7, .int v8, .int v9, .int x, .int (nI (tolds (enS (A.1.1, A.1.2.1 ++ [x], A.1.2.2))).length), .int (nI (phant (enS (A.1.1, A.1.2.1 ++ [x], A.1.2.2)))), .int (nI (((enS (A.1.1, A.1.2.1 ++ [x], A.1.2.2)).1.take i).countP (fun b => !told (enS (A.1.1, A.1.2.1 ++ [x], A.1.2.2)) b.1 b.2.2.1))), .int (nI i), .null, .null, .null] [] s6 := by
    intro k2
    induction k2 with
    | zero =>
      intro i hi
      refine sgL_law_1252 F ?_
      rw [hl6.1.1]
      refine br_t (nI_le (by omega) (by omega)) ?_
      rw [e667, show nI (A.1.2.1.length + 1) - 1 = nI A.1.2.1.length from nI_pred _]
      rintro _ rfl
      have e1 : sA (setA s6 66 7 (nI A.1.2.1.length)) 66 7 = nI A.1.2.1.length := by rw [sA_setA, if_pos ⟨rfl, rfl⟩]
      rw [e1, ix_nI (by omega)]
      refine ⟨vp_in_nI (by omega) (by omega), ?_⟩
      rintro _ rfl
      refine hs7.step (lc_ifTurn hA h1 (m := 0) (by omega) h3) (fun s8 hs8 f8 => brf' rfl ?_)
      refine hs8.step (lc_ifTurn hA h1 (m := 1) (by omega) h3) (fun s9 hs9 f9 => brf' rfl ?_)
      refine hs9.step (lc_ifTurn hA h1 (m := 2) (by omega) h3) (fun s10 hs10 f10 => br_t ?_ ?_)
      · rw [wtR2, hmE, List.take_of_length_le (by omega)]
      · refine sgL_law_1357 F ?_
        rw [nI1]
        exact nx s10 ⟨hs10.1, hs10.2.1, hs10.2.2.2⟩
    | succ k2 ih =>
      intro i hi
      obtain ⟨b, hb⟩ := get_of (l := (enS (A.1.1, A.1.2.1 ++ [x], A.1.2.2)).1) (i := i) (by omega)
      have hk := ih (i + 1) (by omega)
      rw [take_s hb, List.countP_append] at hk
      obtain ⟨r1, r2, r3⟩ := hl6.1.2 i b hb
      refine sgL_law_1252 F ?_
      rw [hl6.1.1, ix32, ix30, ix_nI (show 3 * i < 2 ^ 31 by omega), ix_nI (show 3 * i + 2 < 2 ^ 31 by omega), r1, r3]
      refine br_f (nI_ge (by omega) (by omega)) ⟨vp_in_nI (by omega) (by omega), vp_in_nI (by omega) (by omega), ct_Ltold hE hl6 (lt_br hE (fun z => ?_) (fun z => ?_))⟩
      · refine sgL_law_1292 F ?_
        rw [nI1, nI1]
        have : [b].countP (fun b => !told (enS (A.1.1, A.1.2.1 ++ [x], A.1.2.2)) b.1 b.2.2.1) = 1 := by simp [z]
        rw [this] at hk
        exact hk
      · refine sgL_law_1292 F ?_
        rw [Int32.add_zero, nI1]
        have : [b].countP (fun b => !told (enS (A.1.1, A.1.2.1 ++ [x], A.1.2.2)) b.1 b.2.2.1) = 0 := by simp [z]
        rw [this, Nat.add_zero] at hk
        exact hk
  exact loop (enS A.1).1.length 0 (by omega)
theorem lE_6 (hA : okA A) (hs : lS σ A) {x : Int32} (h3 : A.1.2.1.length < 4) : lE (setA (setA σ 66 A.1.2.1.length x) 66 7 (nI (A.1.2.1.length + 1))) (enS (A.1.1, A.1.2.1 ++ [x], A.1.2.2)) := by
  have hm1 := hA.1.2.2.1
  generalize hs6 : setA (setA σ 66 A.1.2.1.length x) 66 7 (nI (A.1.2.1.length + 1)) = s6
  have e65 : sA s6 65 = sA σ 65 := by rw [← hs6]; funext j; rw [sA_setA, if_neg (by omega), sA_setA, if_neg (by omega)]
  have e667 : sA s6 66 7 = nI (A.1.2.1.length + 1) := by rw [← hs6, sA_setA, if_pos ⟨rfl, rfl⟩]
  have e66n : sA s6 66 A.1.2.1.length = x := by rw [← hs6, sA_setA, if_neg (by omega), sA_setA, if_pos ⟨rfl, rfl⟩]
  have e66 : ∀ j, j ≠ 7 → j ≠ A.1.2.1.length → sA s6 66 j = sA σ 66 j := fun j a b => by rw [← hs6, sA_setA, if_neg (by omega), sA_setA, if_neg (by omega)]
  refine ⟨⟨?_, fun k b hb => ?_⟩, ?_, ?_, ?_, fun j s hj => ?_⟩
  · rw [e66 8 (by omega) (by omega)]; exact hs.2.2.1.1
  · rw [e65]; exact hs.2.2.1.2 k b hb
  · rw [e667]
    show _ = nI (A.1.2.1 ++ [x]).length
    rw [List.length_append]
    rfl
  · rw [e66 4 (by omega) (by omega)]; exact hs.2.2.2.2.1
  · rw [e66 5 (by omega) (by omega)]; exact hs.2.2.2.2.2.1
  · have hj' : (A.1.2.1 ++ [x])[j]? = some s := hj
    have hl := lt_of hj'
    rw [List.length_append, List.length_singleton] at hl
    rcases Nat.lt_or_ge j A.1.2.1.length with z | z
    · rw [List.getElem?_append_left z] at hj'
      rw [e66 j (by omega) (by omega)]
      exact hs.2.2.2.2.2.2 j s hj'
    · have : j = A.1.2.1.length := by omega
      subst this
      rw [List.getElem?_append_right (Nat.le_refl _), Nat.sub_self] at hj'
      injection hj' with hj'
      rw [e66n, hj']
/-- the loop over all distances and pitches, one turn more -/
theorem lg_1152 (F : LF X L xs) {E : En} (hE : okE E) (hl : lE σ E) {x : Int32} (nx : LGo X 1252 [.ref 67, .ref 0, .ref 64, .ref 65, .ref 66, .int (nI e), .int v6, .int v7, .int v8, .int v9, .int x, .int (nI (tolds E).length), .int (nI (phant E)), .int 0, .int 0, .null, .null, .null] [] σ) : LGo X 1152 [.ref 67, .ref 0, .ref 64, .ref 65, .ref 66, .int (nI e), .int v6, .int v7, .int v8, .int v9, .int x, .int 0, .int 0, .int 0, .int 0, .null, .null, .null] [] σ := by
  rw [aN_600, pN_600] at nx
  have loop : ∀ k2 k, k + k2 = 6600 → LGo X 1152 [.ref 67, .ref 0, .ref 64, .ref 65, .ref 66, .int (nI e), .int v6, .int v7, .int v8, .int v9, .int x, .int (nI (aN E (k / 11) (k % 11))), .int (nI (pN E (k / 11) (k % 11))), .int 0, .int (nI k), .null, .null, .null] [] σ := by
    intro k2
    induction k2 with
    | zero =>
      intro k hk
      refine sgL_law_1152 F (br_t (nI_le (a := 6600) (by omega) (by omega)) ?_)
      rw [show k / 11 = 600 by omega, show k % 11 = 0 by omega]
      exact nx
    | succ k2 ih =>
      intro k hk
      have hk2 := ih (k + 1) (by omega)
      have hps : pN E (k / 11) (k % 11 + 1) = pN E (k / 11) (k % 11) + (if told E (nI (k / 11 + 1)) (pv (k % 11)) && !isTr E (nI (k / 11 + 1), pv (k % 11)) then 1 else 0) := cntT_s _ _ (by omega)
      rw [aN_step, pN_step, aN_s E (k / 11) (by omega), hps] at hk2
      have e1 : (1 : Int32) + nI k / 11 = nI (k / 11 + 1) := by
        rw [dv11 (by omega), show (1 : Int32) + nI (k / 11) = nI (1 + k / 11) from nI_add 1 _, Nat.add_comm]
      have e2 : irem (nI k) 11 - 5 = pv (k % 11) := by rw [rm11 (by omega)]; rfl
      refine sgL_law_1152 F (br_f (nI_ge (b := 6600) (by omega) (by omega)) ?_)
      rw [e1, e2]
      refine ct_Ltold hE hl (lt_br hE (fun z => ?_) (fun z => ?_))
      · rw [z, Bool.false_and, if_neg (by decide), Nat.add_zero, Nat.add_zero] at hk2
        refine sgL_law_1188 F (br_t rfl (sgL_law_1202 F (br_t rfl (sgL_law_1239 F (sgL_law_1240 F ?_)))))
        rw [Int32.add_zero, Int32.add_zero, nI1]
        exact hk2
      · rw [z, Bool.true_and, if_pos rfl] at hk2
        refine sgL_law_1188 F (br_f one_ne (sgL_law_1202 F (br_f one_ne ?_)))
        rw [e1, e2]
        refine ct_LisTrue hE hl (bI_br' (fun y => ?_) (fun y => ?_))
        · rw [y, Bool.not_false, if_pos rfl] at hk2
          refine sgL_law_1240 F ?_
          rw [nI1, nI1, nI1]
          exact hk2
        · rw [y, Bool.not_true, if_neg (by decide), Nat.add_zero] at hk2
          refine sgL_law_1239 F (sgL_law_1240 F ?_)
          rw [Int32.add_zero, nI1, nI1]
          exact hk2
  exact loop 6600 0 rfl
theorem lg_1090 (F : LF X L xs) (hA : okA A) (hs : lS σ A) (he : e < 24) (nx : ∀ σ', lW σ' A → LGo X 44 [.ref 67, .ref 0, .ref 64, .ref 65, .ref 66, .int (nI (e + 1)), .null, .null, .null, .null, .null, .null, .null, .null, .null, .null, .null, .null] [] σ') : LGo X 1090 [.ref 67, .ref 0, .ref 64, .ref 65, .ref 66, .int (nI e), .int v6, .int v7, .int v8, .int v9, .int v10, .int v11, .null, .null, .null, .null, .null, .null] [] σ := by
  have hm4 := hA.1.2.2.2.1
  have r7 : sA σ 66 7 = nI A.1.2.1.length := hs.2.2.2.1
  have hend : ∀ v10 v11 : Int32, LGo X 1357 [.ref 67, .ref 0, .ref 64, .ref 65, .ref 66, .int (nI e), .int v6, .int v7, .int v8, .int v9, .int v10, .int v11, .null, .null, .null, .null, .null, .null] [] σ := by
    intro v10 v11
    refine sgL_law_1357 F ?_
    rw [nI1]
    exact nx σ ⟨hs.1, hs.2.1, hs.2.2.2⟩
  refine sgL_law_1090 F (br_c' (fun _ => hend _ _) (fun _ => ?_))
  rw [r7]
  refine br_c (fun _ => hend _ _) (fun c => ?_)
  have h3 : A.1.2.1.length < 4 := by
    rw [show (4 : Int32) = nI 4 from rfl, nI_leI (by omega) (by omega)] at c
    omega
  refine ct_Llow (n := 41) (by omega) (by omega) (fun r hr => ?_)
  rw [r7, ix_nI (by omega), show (10 : Int32) + nI r = nI (10 + r) from nI_add 10 r]
  refine ⟨vp_in_nI (by omega) (by omega), ?_⟩
  rintro _ rfl
  have e7 : sA (setA σ 66 A.1.2.1.length (nI (10 + r))) 66 7 = nI A.1.2.1.length := by rw [sA_setA, if_neg (by omega)]; exact r7
  rw [e7, nI1]
  rintro _ rfl
  have hsp : isSp (nI (10 + r)) = true := by
    unfold isSp
    apply decide_eq_true
    rw [nI_toInt (by omega)]
    omega
  exact lg_1152 F (okE_S (okS_turn hA.1 h3 hsp)) (lE_6 hA hs h3) (lg_1252 F hA hs hsp h3 nx)
theorem lg_957 (F : LF X L xs) (hA : okA A) (he : e < 24) (nx : ∀ σ', lW σ' A → LGo X 44 [.ref 67, .ref 0, .ref 64, .ref 65, .ref 66, .int (nI (e + 1)), .null, .null, .null, .null, .null, .null, .null, .null, .null, .null, .null, .null] [] σ') : ∀ k2 q, q + k2 = 4 → ∀ (v11 : Int32) (σ : St), lS σ A → LGo X 957 [.ref 67, .ref 0, .ref 64, .ref 65, .ref 66, .int (nI e), .int v6, .int v7, .int v8, .int v9, .int (nI q), .int v11, .null, .null, .null, .null, .null, .null] [] σ := by
  have hm1 := hA.1.2.2.1
  have hm4 := hA.1.2.2.2.1
  intro k2
  induction k2 with
  | zero =>
    intro q hq v11 σ hs
    refine sgL_law_957 F (br_t (nI_le (a := 4) (by omega) (by omega)) (br_c' (fun _ => lg_1090 F hA hs he nx) (fun _ => ?_)))
    exact ct_Ldistances hA hs (fun s1 hs1 f1 => brt' one_ne (lg_1090 F hA hs1 he nx))
  | succ k2 ih =>
    intro q hq v11 σ hs
    have ei : (60 + (4 : Int32) * nI e) + nI q = nI (60 + 4 * e + q) := by
      rw [ix40, show (60 : Int32) + nI (4 * e) = nI (60 + 4 * e) from nI_add 60 _, nI_add]
    refine sgL_law_957 F (br_f (nI_ge (b := 4) (by omega) (by omega)) ?_)
    rw [ei]
    refine ⟨nI_pos (by omega), fun x => ct_Llow (n := 600) (by omega) (by omega) (fun a ha => ct_Llow (n := 2) (by omega) (by omega) (fun b hb => ?_))⟩
    rw [show (1 : Int32) + nI a = nI (1 + a) from nI_add 1 a]
    have hgo : ∀ c, c < 11 → LGo X 1019 [.ref 67, .ref 0, .ref 64, .ref 65, .ref 66, .int (nI e), .int v6, .int v7, .int v8, .int v9, .int (nI q), .int x, .int (nI (1 + a)), .null, .null, .null, .null, .null] [.int (pv c)] σ := by
      intro c hc
      refine sgL_law_1019 F ?_
      rw [show sA σ 66 7 = nI A.1.2.1.length from hs.2.2.2.1]
      refine ct_Llow (by omega) (by omega) (fun j hj => ?_)
      refine hs.step (lc_fits hA (x := nI (1 + a)) (by rw [nI_toInt (by omega)]; omega) hc hj) (fun s1 hs1 f1 => ?_)
      refine ct_Lfit (okE_S hA.1) hs1.2.2 hj (br_t rfl ?_)
      rw [nI1]
      exact ih (q + 1) (by omega) x s1 hs1
    refine br_c' (fun _ => ct_Llow (n := 11) (by omega) (by omega) (fun c hc => hgo c hc)) (fun _ => ?_)
    exact hgo 5 (by omega)
/-- behind a choice -/
theorem lg_905 (F : LF X L xs) (hA : okA A) (hw : lW σ A) (he : e < 24) (nx : ∀ σ', lW σ' A → LGo X 44 [.ref 67, .ref 0, .ref 64, .ref 65, .ref 66, .int (nI (e + 1)), .null, .null, .null, .null, .null, .null, .null, .null, .null, .null, .null, .null] [] σ') : LGo X 905 [.ref 67, .ref 0, .ref 64, .ref 65, .ref 66, .int (nI e), .int v6, .int v7, .int v8, .int 1, .int v10, .int v11, .null, .null, .null, .null, .null, .null] [] σ := by
  have hm4 := hA.1.2.2.2.1
  refine sgL_law_905 F (ct_Lbodies hA.1.1 hA.1.2.1 hw.2.1 (fun s1 f1 g66 hB => ?_))
  have hs1 : lS s1 A := by
    have e64 : sA s1 64 = sA σ 64 := (f1.1 64 (by omega)).2
    refine ⟨r66_scr hA hw.1 (f1.mono (fun c z => by omega)), ⟨?_, fun i t ht => ?_⟩, hB, ?_, ?_, ?_, fun j s hj => ?_⟩
    · rw [g66 6 (by omega)]; exact hw.2.1.1
    · rw [e64]; exact hw.2.1.2 i t ht
    · rw [g66 7 (by omega)]; exact hw.2.2.1
    · rw [g66 4 (by omega)]; exact hw.2.2.2.1
    · rw [g66 5 (by omega)]; exact hw.2.2.2.2.1
    · have hl := lt_of hj
      have hl' : j < A.1.2.1.length := hl
      rw [g66 j (by omega)]; exact hw.2.2.2.2.2 j s hj
  refine br_f one_ne (ct_Ltargets hA hs1 (fun s2 hs2 f2 => br_f one_ne (ct_Lechoes hA hs2 (fun s3 hs3 f3 => br_f one_ne (ct_Lnumbers hA hs3 (fun s4 hs4 f4 => brt' one_ne ?_))))))
  exact lg_957 F hA he nx 4 0 rfl _ s4 hs4
end LAWB
