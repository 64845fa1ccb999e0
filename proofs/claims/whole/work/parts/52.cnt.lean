/-! count -/
theorem lt19 {m : Nat} (h : m ≤ 18) : m = 0 ∨ m = 1 ∨ m = 2 ∨ m = 3 ∨ m = 4 ∨ m = 5 ∨ m = 6 ∨ m = 7 ∨ m = 8 ∨ m = 9 ∨ m = 10 ∨ m = 11 ∨ m = 12 ∨ m = 13 ∨ m = 14 ∨ m = 15 ∨ m = 16 ∨ m = 17 ∨ m = 18 := by omega
section COUNT
variable {A : Ab}
set_option maxRecDepth 20000 in
theorem lk_count (hA : okA A) (x : Int32) : ∃ r, LkC A r mX5_count [.ref 0, .int x] ∧ LkM A r mX6_count [.ref 64, .int x] := by
  have hok := hA.1
  have hE := okE_S hok
  have hn := hok.1
  have hm4 := hok.2.2.2.1
  have hbl := bods_len hn
  have hw : ∀ t ∈ A.1.1, t.2.2.2 = 0 ∨ t.2.2.2 = 1 := fun t ht => (hok.2.1 t ht).2.2.2.1
  have hsub : nI (enS A.1).1.length - nI A.1.1.length = nI ((enS A.1).1.length - A.1.1.length) := pk_sub hbl.2
  rcases wi_cases (n := 18) x (by decide) with h4 | ⟨m, hm, rfl, h4⟩
  · have h4' : decide ((0 : Int32).toInt ≤ x.toInt ∧ x.toInt ≤ (18 : Int32).toInt) = false := h4
    refine ⟨-1, fun σ K h k => cgX5_count (ct_isWithin (by rw [h4']; exact brf' rfl (k σ (Fr.rf σ) (FrM.rf σ)))), fun σ K h k => cgX6_count (ct_mlisten h.1 hok (fun σ' f e => ?_))⟩
    have hne : ∀ n : Nat, n ≤ 18 → ¬ x = nI n := by
      intro n hn z
      rw [z] at h4
      have := of_decide_eq_false h4
      rw [k0, nI_toInt (show n < 2 ^ 31 by omega), nI_toInt (show 18 < 2 ^ 31 by decide)] at this
      omega
    exact br_f (hne 0 (by decide)) (br_f (hne 1 (by decide)) (br_f (hne 2 (by decide)) (br_f (hne 3 (by decide)) (br_f (hne 4 (by decide)) (br_f (hne 5 (by decide)) (br_f (hne 6 (by decide)) (br_f (hne 7 (by decide)) (br_f (hne 8 (by decide)) (br_f (hne 9 (by decide)) (br_f (hne 10 (by decide)) (br_f (hne 11 (by decide)) (br_f (hne 12 (by decide)) (br_f (hne 13 (by decide)) (br_f (hne 14 (by decide)) (br_f (hne 15 (by decide)) (br_f (hne 16 (by decide)) (br_f (hne 17 (by decide)) (br_f (hne 18 (by decide)) (k σ' f.N)))))))))))))))))))
  have h4' : decide ((0 : Int32).toInt ≤ (nI m).toInt ∧ (nI m).toInt ≤ (18 : Int32).toInt) = true := h4
  rcases lt19 hm with rfl | rfl | rfl | rfl | rfl | rfl | rfl | rfl | rfl | rfl | rfl | rfl | rfl | rfl | rfl | rfl | rfl | rfl | rfl
  · refine ⟨nI A.1.1.length, fun σ K h k => cgX5_count (ct_isWithin ?_), fun σ K h k => cgX6_count (ct_mlisten h.1 hok (fun σ' f e => ?_))⟩
    · rw [h4']
      refine brt' one_ne ?_
      repeat (first | refine br_t (by decide) ?_ | refine br_f (by decide) ?_ | refine brt' (by decide) ?_ | refine brf' (by decide) ?_)
      exact ct_targetCount one_sc h.1 (k σ (Fr.rf σ) (FrM.rf σ))
    · have hz := h.keepN f.N
      repeat (first | refine br_t (by decide) ?_ | refine br_f (by decide) ?_ | refine brt' (by decide) ?_ | refine brf' (by decide) ?_)
      rw [hz.1.1]
      exact k σ' f.N
  · refine ⟨nI (A.1.1.countP isW), fun σ K h k => cgX5_count (ct_isWithin ?_), fun σ K h k => cgX6_count (ct_mlisten h.1 hok (fun σ' f e => ?_))⟩
    · rw [h4']
      refine brt' one_ne ?_
      repeat (first | refine br_t (by decide) ?_ | refine br_f (by decide) ?_ | refine brt' (by decide) ?_ | refine brf' (by decide) ?_)
      exact ct_wallCount one_sc h.1 hn hw (k σ (Fr.rf σ) (FrM.rf σ))
    · have hz := h.keepN f.N
      repeat (first | refine br_t (by decide) ?_ | refine br_f (by decide) ?_ | refine brt' (by decide) ?_ | refine brf' (by decide) ?_)
      exact ct_walls hz.1 hok (k σ' f.N)
  · refine ⟨nI ((enS A.1).1.length - A.1.1.length), fun σ K h k => cgX5_count (ct_isWithin ?_), fun σ K h k => cgX6_count (ct_mlisten h.1 hok (fun σ' f e => ?_))⟩
    · rw [h4']
      refine brt' one_ne ?_
      repeat (first | refine br_t (by decide) ?_ | refine br_f (by decide) ?_ | refine brt' (by decide) ?_ | refine brf' (by decide) ?_)
      refine cgX5_countHeard (ct_listen one_sc h.1 hok (fun σ' f e => ?_))
      repeat (first | refine br_t (by decide) ?_ | refine br_f (by decide) ?_ | refine brt' (by decide) ?_ | refine brf' (by decide) ?_)
      exact ct_ghostCount hE e hbl.2 (k σ' f.S f.M)
    · have hz := h.keepN f.N
      repeat (first | refine br_t (by decide) ?_ | refine br_f (by decide) ?_ | refine brt' (by decide) ?_ | refine brf' (by decide) ?_)
      rw [show sF σ' 64 8 = nI (enS A.1).1.length from e.1.1, hz.1.1, hsub]
      exact k σ' f.N
  · refine ⟨nI A.1.2.1.length, fun σ K h k => cgX5_count (ct_isWithin ?_), fun σ K h k => cgX6_count (ct_mlisten h.1 hok (fun σ' f e => ?_))⟩
    · rw [h4']
      refine brt' one_ne ?_
      repeat (first | refine br_t (by decide) ?_ | refine br_f (by decide) ?_ | refine brt' (by decide) ?_ | refine brf' (by decide) ?_)
      exact ct_turnCount one_sc h.1 (k σ (Fr.rf σ) (FrM.rf σ))
    · have hz := h.keepN f.N
      repeat (first | refine br_t (by decide) ?_ | refine br_f (by decide) ?_ | refine brt' (by decide) ?_ | refine brf' (by decide) ?_)
      rw [hz.1.2.1]
      exact k σ' f.N
  · have e5 : nI 4 - 4 = nI 0 := by decide
    have e6 : (2 + nI 4) - 4 = nI 2 := by decide
    rcases Nat.lt_or_ge 0 A.1.2.1.length with c | c
    · obtain ⟨s, hs⟩ := get_of c
      refine ⟨s, fun σ K h k => cgX5_count (ct_isWithin ?_), fun σ K h k => cgX6_count (ct_mlisten h.1 hok (fun σ' f e => ?_))⟩
      · rw [h4']
        refine brt' one_ne ?_
        repeat (first | refine br_t (by decide) ?_ | refine br_f (by decide) ?_ | refine brt' (by decide) ?_ | refine brf' (by decide) ?_)
        rw [e5]
        exact ct_hasTurn one_sc h.1 hm4 c (br_f one_ne (ct_spacingOf one_sc h.1 hm4 hs (k σ (Fr.rf σ) (FrM.rf σ))))
      · have hz := h.keepN f.N
        repeat (first | refine br_t (by decide) ?_ | refine br_f (by decide) ?_ | refine brt' (by decide) ?_ | refine brf' (by decide) ?_)
        rw [e5, e6, hz.1.2.1, ix_nI (by decide), hz.1.2.2.2.2.2 0 s hs]
        exact br_f (nI_ge (by omega) (by omega)) ⟨vp_in_nI (by omega) (by omega), k σ' f.N⟩
    · refine ⟨-4, fun σ K h k => cgX5_count (ct_isWithin ?_), fun σ K h k => cgX6_count (ct_mlisten h.1 hok (fun σ' f e => ?_))⟩
      · rw [h4']
        refine brt' one_ne ?_
        repeat (first | refine br_t (by decide) ?_ | refine br_f (by decide) ?_ | refine brt' (by decide) ?_ | refine brf' (by decide) ?_)
        rw [e5]
        exact ct_hasTurn0 one_sc h.1 (Or.inr (nI_le (by omega) (by omega))) (br_t rfl (k σ (Fr.rf σ) (FrM.rf σ)))
      · have hz := h.keepN f.N
        repeat (first | refine br_t (by decide) ?_ | refine br_f (by decide) ?_ | refine brt' (by decide) ?_ | refine brf' (by decide) ?_)
        rw [e5, hz.1.2.1]
        exact br_t (nI_le (by omega) (by omega)) (k σ' f.N)
  · have e5 : nI 5 - 4 = nI 1 := by decide
    have e6 : (2 + nI 5) - 4 = nI 3 := by decide
    rcases Nat.lt_or_ge 1 A.1.2.1.length with c | c
    · obtain ⟨s, hs⟩ := get_of c
      refine ⟨s, fun σ K h k => cgX5_count (ct_isWithin ?_), fun σ K h k => cgX6_count (ct_mlisten h.1 hok (fun σ' f e => ?_))⟩
      · rw [h4']
        refine brt' one_ne ?_
        repeat (first | refine br_t (by decide) ?_ | refine br_f (by decide) ?_ | refine brt' (by decide) ?_ | refine brf' (by decide) ?_)
        rw [e5]
        exact ct_hasTurn one_sc h.1 hm4 c (br_f one_ne (ct_spacingOf one_sc h.1 hm4 hs (k σ (Fr.rf σ) (FrM.rf σ))))
      · have hz := h.keepN f.N
        repeat (first | refine br_t (by decide) ?_ | refine br_f (by decide) ?_ | refine brt' (by decide) ?_ | refine brf' (by decide) ?_)
        rw [e5, e6, hz.1.2.1, ix_nI (by decide), hz.1.2.2.2.2.2 1 s hs]
        exact br_f (nI_ge (by omega) (by omega)) ⟨vp_in_nI (by omega) (by omega), k σ' f.N⟩
    · refine ⟨-4, fun σ K h k => cgX5_count (ct_isWithin ?_), fun σ K h k => cgX6_count (ct_mlisten h.1 hok (fun σ' f e => ?_))⟩
      · rw [h4']
        refine brt' one_ne ?_
        repeat (first | refine br_t (by decide) ?_ | refine br_f (by decide) ?_ | refine brt' (by decide) ?_ | refine brf' (by decide) ?_)
        rw [e5]
        exact ct_hasTurn0 one_sc h.1 (Or.inr (nI_le (by omega) (by omega))) (br_t rfl (k σ (Fr.rf σ) (FrM.rf σ)))
      · have hz := h.keepN f.N
        repeat (first | refine br_t (by decide) ?_ | refine br_f (by decide) ?_ | refine brt' (by decide) ?_ | refine brf' (by decide) ?_)
        rw [e5, hz.1.2.1]
        exact br_t (nI_le (by omega) (by omega)) (k σ' f.N)
  · have e5 : nI 6 - 4 = nI 2 := by decide
    have e6 : (2 + nI 6) - 4 = nI 4 := by decide
    rcases Nat.lt_or_ge 2 A.1.2.1.length with c | c
    · obtain ⟨s, hs⟩ := get_of c
      refine ⟨s, fun σ K h k => cgX5_count (ct_isWithin ?_), fun σ K h k => cgX6_count (ct_mlisten h.1 hok (fun σ' f e => ?_))⟩
      · rw [h4']
        refine brt' one_ne ?_
        repeat (first | refine br_t (by decide) ?_ | refine br_f (by decide) ?_ | refine brt' (by decide) ?_ | refine brf' (by decide) ?_)
        rw [e5]
        exact ct_hasTurn one_sc h.1 hm4 c (br_f one_ne (ct_spacingOf one_sc h.1 hm4 hs (k σ (Fr.rf σ) (FrM.rf σ))))
      · have hz := h.keepN f.N
        repeat (first | refine br_t (by decide) ?_ | refine br_f (by decide) ?_ | refine brt' (by decide) ?_ | refine brf' (by decide) ?_)
        rw [e5, e6, hz.1.2.1, ix_nI (by decide), hz.1.2.2.2.2.2 2 s hs]
        exact br_f (nI_ge (by omega) (by omega)) ⟨vp_in_nI (by omega) (by omega), k σ' f.N⟩
    · refine ⟨-4, fun σ K h k => cgX5_count (ct_isWithin ?_), fun σ K h k => cgX6_count (ct_mlisten h.1 hok (fun σ' f e => ?_))⟩
      · rw [h4']
        refine brt' one_ne ?_
        repeat (first | refine br_t (by decide) ?_ | refine br_f (by decide) ?_ | refine brt' (by decide) ?_ | refine brf' (by decide) ?_)
        rw [e5]
        exact ct_hasTurn0 one_sc h.1 (Or.inr (nI_le (by omega) (by omega))) (br_t rfl (k σ (Fr.rf σ) (FrM.rf σ)))
      · have hz := h.keepN f.N
        repeat (first | refine br_t (by decide) ?_ | refine br_f (by decide) ?_ | refine brt' (by decide) ?_ | refine brf' (by decide) ?_)
        rw [e5, hz.1.2.1]
        exact br_t (nI_le (by omega) (by omega)) (k σ' f.N)
  · have e5 : nI 7 - 4 = nI 3 := by decide
    have e6 : (2 + nI 7) - 4 = nI 5 := by decide
    rcases Nat.lt_or_ge 3 A.1.2.1.length with c | c
    · obtain ⟨s, hs⟩ := get_of c
      refine ⟨s, fun σ K h k => cgX5_count (ct_isWithin ?_), fun σ K h k => cgX6_count (ct_mlisten h.1 hok (fun σ' f e => ?_))⟩
      · rw [h4']
        refine brt' one_ne ?_
        repeat (first | refine br_t (by decide) ?_ | refine br_f (by decide) ?_ | refine brt' (by decide) ?_ | refine brf' (by decide) ?_)
        rw [e5]
        exact ct_hasTurn one_sc h.1 hm4 c (br_f one_ne (ct_spacingOf one_sc h.1 hm4 hs (k σ (Fr.rf σ) (FrM.rf σ))))
      · have hz := h.keepN f.N
        repeat (first | refine br_t (by decide) ?_ | refine br_f (by decide) ?_ | refine brt' (by decide) ?_ | refine brf' (by decide) ?_)
        rw [e5, e6, hz.1.2.1, ix_nI (by decide), hz.1.2.2.2.2.2 3 s hs]
        exact br_f (nI_ge (by omega) (by omega)) ⟨vp_in_nI (by omega) (by omega), k σ' f.N⟩
    · refine ⟨-4, fun σ K h k => cgX5_count (ct_isWithin ?_), fun σ K h k => cgX6_count (ct_mlisten h.1 hok (fun σ' f e => ?_))⟩
      · rw [h4']
        refine brt' one_ne ?_
        repeat (first | refine br_t (by decide) ?_ | refine br_f (by decide) ?_ | refine brt' (by decide) ?_ | refine brf' (by decide) ?_)
        rw [e5]
        exact ct_hasTurn0 one_sc h.1 (Or.inr (nI_le (by omega) (by omega))) (br_t rfl (k σ (Fr.rf σ) (FrM.rf σ)))
      · have hz := h.keepN f.N
        repeat (first | refine br_t (by decide) ?_ | refine br_f (by decide) ?_ | refine brt' (by decide) ?_ | refine brf' (by decide) ?_)
        rw [e5, hz.1.2.1]
        exact br_t (nI_le (by omega) (by omega)) (k σ' f.N)
  · refine ⟨nI (sm (echN (enS A.1)) 2200), fun σ K h k => cgX5_count (ct_isWithin ?_), fun σ K h k => cgX6_count (ct_mlisten h.1 hok (fun σ' f e => ?_))⟩
    · rw [h4']
      refine brt' one_ne ?_
      repeat (first | refine br_t (by decide) ?_ | refine br_f (by decide) ?_ | refine brt' (by decide) ?_ | refine brf' (by decide) ?_)
      refine cgX5_countHeard (ct_listen one_sc h.1 hok (fun σ' f e => ?_))
      repeat (first | refine br_t (by decide) ?_ | refine br_f (by decide) ?_ | refine brt' (by decide) ?_ | refine brf' (by decide) ?_)
      exact ct_echoCount hE e (k σ' f.S f.M)
    · have hz := h.keepN f.N
      repeat (first | refine br_t (by decide) ?_ | refine br_f (by decide) ?_ | refine brt' (by decide) ?_ | refine brf' (by decide) ?_)
      exact ct_echoes hE e (k σ' f.N)
  · refine ⟨nI (sm (fun j => (enS A.1).1.countP (ltJ (enS A.1) j)) (enS A.1).2.1.length), fun σ K h k => cgX5_count (ct_isWithin ?_), fun σ K h k => cgX6_count (ct_mlisten h.1 hok (fun σ' f e => ?_))⟩
    · rw [h4']
      refine brt' one_ne ?_
      repeat (first | refine br_t (by decide) ?_ | refine br_f (by decide) ?_ | refine brt' (by decide) ?_ | refine brf' (by decide) ?_)
      refine cgX5_countHeard (ct_listen one_sc h.1 hok (fun σ' f e => ?_))
      repeat (first | refine br_t (by decide) ?_ | refine br_f (by decide) ?_ | refine brt' (by decide) ?_ | refine brf' (by decide) ?_)
      refine ct_lostCount hE e ?_
      rw [lsum_all]
      exact (k σ' f.S f.M)
    · have hz := h.keepN f.N
      repeat (first | refine br_t (by decide) ?_ | refine br_f (by decide) ?_ | refine brt' (by decide) ?_ | refine brf' (by decide) ?_)
      exact ct_lostMany hE e (k σ' f.N)
  · refine ⟨nI ((enS A.1).1.countP (fun b => decide (b.2.1 < (enS A.1).2.2.2))), fun σ K h k => cgX5_count (ct_isWithin ?_), fun σ K h k => cgX6_count (ct_mlisten h.1 hok (fun σ' f e => ?_))⟩
    · rw [h4']
      refine brt' one_ne ?_
      repeat (first | refine br_t (by decide) ?_ | refine br_f (by decide) ?_ | refine brt' (by decide) ?_ | refine brf' (by decide) ?_)
      refine cgX5_countHeard (ct_listen one_sc h.1 hok (fun σ' f e => ?_))
      repeat (first | refine br_t (by decide) ?_ | refine br_f (by decide) ?_ | refine brt' (by decide) ?_ | refine brf' (by decide) ?_)
      exact ct_faintCount hE e (k σ' f.S f.M)
    · have hz := h.keepN f.N
      repeat (first | refine br_t (by decide) ?_ | refine br_f (by decide) ?_ | refine brt' (by decide) ?_ | refine brf' (by decide) ?_)
      exact ct_faintMany hE e (k σ' f.N)
  · refine ⟨nI (tolds (enS A.1)).length, fun σ K h k => cgX5_count (ct_isWithin ?_), fun σ K h k => cgX6_count (ct_mlisten h.1 hok (fun σ' f e => ?_))⟩
    · rw [h4']
      refine brt' one_ne ?_
      repeat (first | refine br_t (by decide) ?_ | refine br_f (by decide) ?_ | refine brt' (by decide) ?_ | refine brf' (by decide) ?_)
      refine cgX5_countHeard (ct_listen one_sc h.1 hok (fun σ' f e => ?_))
      repeat (first | refine br_t (by decide) ?_ | refine br_f (by decide) ?_ | refine brt' (by decide) ?_ | refine brf' (by decide) ?_)
      exact ct_toldCount hE e (k σ' f.S f.M)
    · have hz := h.keepN f.N
      repeat (first | refine br_t (by decide) ?_ | refine br_f (by decide) ?_ | refine brt' (by decide) ?_ | refine brf' (by decide) ?_)
      exact ct_toldAll hE e (k σ' f.N)
  · refine ⟨nI (phant (enS A.1)), fun σ K h k => cgX5_count (ct_isWithin ?_), fun σ K h k => cgX6_count (ct_mlisten h.1 hok (fun σ' f e => ?_))⟩
    · rw [h4']
      refine brt' one_ne ?_
      repeat (first | refine br_t (by decide) ?_ | refine br_f (by decide) ?_ | refine brt' (by decide) ?_ | refine brf' (by decide) ?_)
      refine cgX5_countHeard (ct_listen one_sc h.1 hok (fun σ' f e => ?_))
      repeat (first | refine br_t (by decide) ?_ | refine br_f (by decide) ?_ | refine brt' (by decide) ?_ | refine brf' (by decide) ?_)
      refine ct_toldCount hE e (ct_trueCount hE e ?_)
      rw [sub_phant hE]
      exact (k σ' f.S f.M)
    · have hz := h.keepN f.N
      repeat (first | refine br_t (by decide) ?_ | refine br_f (by decide) ?_ | refine brt' (by decide) ?_ | refine brf' (by decide) ?_)
      exact ct_toldPh hE e (k σ' f.N)
  · refine ⟨nI (missE (enS A.1)), fun σ K h k => cgX5_count (ct_isWithin ?_), fun σ K h k => cgX6_count (ct_mlisten h.1 hok (fun σ' f e => ?_))⟩
    · rw [h4']
      refine brt' one_ne ?_
      repeat (first | refine br_t (by decide) ?_ | refine br_f (by decide) ?_ | refine brt' (by decide) ?_ | refine brf' (by decide) ?_)
      refine cgX5_countHeard (ct_listen one_sc h.1 hok (fun σ' f e => ?_))
      repeat (first | refine br_t (by decide) ?_ | refine br_f (by decide) ?_ | refine brt' (by decide) ?_ | refine brf' (by decide) ?_)
      exact ct_missedCount hE e (k σ' f.S f.M)
    · have hz := h.keepN f.N
      repeat (first | refine br_t (by decide) ?_ | refine br_f (by decide) ?_ | refine brt' (by decide) ?_ | refine brf' (by decide) ?_)
      exact ct_missed hE e (k σ' f.N)
  · refine ⟨A.1.2.2.1, fun σ K h k => cgX5_count (ct_isWithin ?_), fun σ K h k => cgX6_count (ct_mlisten h.1 hok (fun σ' f e => ?_))⟩
    · rw [h4']
      refine brt' one_ne ?_
      repeat (first | refine br_t (by decide) ?_ | refine br_f (by decide) ?_ | refine brt' (by decide) ?_ | refine brf' (by decide) ?_)
      exact ct_blindBelow one_sc h.1 (k σ (Fr.rf σ) (FrM.rf σ))
    · have hz := h.keepN f.N
      repeat (first | refine br_t (by decide) ?_ | refine br_f (by decide) ?_ | refine brt' (by decide) ?_ | refine brf' (by decide) ?_)
      rw [show (6 + nI 14) - 14 = nI 6 by decide, ix_nI (by decide), hz.1.2.2.1]
      exact ⟨vp_in_nI (by omega) (by omega), k σ' f.N⟩
  · refine ⟨A.1.2.2.2, fun σ K h k => cgX5_count (ct_isWithin ?_), fun σ K h k => cgX6_count (ct_mlisten h.1 hok (fun σ' f e => ?_))⟩
    · rw [h4']
      refine brt' one_ne ?_
      repeat (first | refine br_t (by decide) ?_ | refine br_f (by decide) ?_ | refine brt' (by decide) ?_ | refine brf' (by decide) ?_)
      exact ct_loudFrom one_sc h.1 (k σ (Fr.rf σ) (FrM.rf σ))
    · have hz := h.keepN f.N
      repeat (first | refine br_t (by decide) ?_ | refine br_f (by decide) ?_ | refine brt' (by decide) ?_ | refine brf' (by decide) ?_)
      rw [show (6 + nI 15) - 14 = nI 7 by decide, ix_nI (by decide), hz.1.2.2.2.1]
      exact ⟨vp_in_nI (by omega) (by omega), k σ' f.N⟩
  · refine ⟨nI (txS A.1).length, fun σ K h k => cgX5_count (ct_isWithin ?_), fun σ K h k => cgX6_count (ct_mlisten h.1 hok (fun σ' f e => ?_))⟩
    · rw [h4']
      refine brt' one_ne ?_
      repeat (first | refine br_t (by decide) ?_ | refine br_f (by decide) ?_ | refine brt' (by decide) ?_ | refine brf' (by decide) ?_)
      refine ct_write one_sc h.1 hok (fun σ' f e => cgX4_length ?_)
      rw [e.1]
      exact (k σ' f.S f.M)
    · have hz := h.keepN f.N
      repeat (first | refine br_t (by decide) ?_ | refine br_f (by decide) ?_ | refine brt' (by decide) ?_ | refine brf' (by decide) ?_)
      refine ct_mwrite hz.1 hok (fun σ2 f2 e2 => ?_)
      rw [e2.1]
      exact k σ2 (f.N.tr f2.N)
  · refine ⟨nI A.2.2.2.length, fun σ K h k => cgX5_count (ct_isWithin ?_), fun σ K h k => cgX6_count (ct_mlisten h.1 hok (fun σ' f e => ?_))⟩
    · rw [h4']
      refine brt' one_ne ?_
      repeat (first | refine br_t (by decide) ?_ | refine br_f (by decide) ?_ | refine brt' (by decide) ?_ | refine brf' (by decide) ?_)
      refine cgX1_length ?_
      rw [h.2.2.2.2.1]
      exact (k σ (Fr.rf σ) (FrM.rf σ))
    · have hz := h.keepN f.N
      repeat (first | refine br_t (by decide) ?_ | refine br_f (by decide) ?_ | refine brt' (by decide) ?_ | refine brf' (by decide) ?_)
      rw [hz.2.2.2.1]
      exact k σ' f.N
  · refine ⟨nI A.2.1.length, fun σ K h k => cgX5_count (ct_isWithin ?_), fun σ K h k => cgX6_count (ct_mlisten h.1 hok (fun σ' f e => ?_))⟩
    · rw [h4']
      refine brt' one_ne ?_
      repeat (first | refine br_t (by decide) ?_ | refine br_f (by decide) ?_ | refine brt' (by decide) ?_ | refine brf' (by decide) ?_)
      rw [h.2.1.1]
      exact (k σ (Fr.rf σ) (FrM.rf σ))
    · have hz := h.keepN f.N
      repeat (first | refine br_t (by decide) ?_ | refine br_f (by decide) ?_ | refine brt' (by decide) ?_ | refine brf' (by decide) ?_)
      rw [hz.2.1.1]
      exact k σ' f.N
end COUNT
