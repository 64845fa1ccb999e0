/-! the class's counts, what would be, truth: answer by answer -/
section LC2
variable {A : Ab}
theorem isW_18 {m : Nat} (h : m ≤ 18) : decide ((0 : Int32).toInt ≤ (nI m).toInt ∧ (nI m).toInt ≤ (18 : Int32).toInt) = true := by
  apply decide_eq_true
  rw [k0, nI_toInt (show m < 2 ^ 31 by omega), show (18 : Int32).toInt = 18 from rfl]
  omega
theorem lc_ct0 (hA : okA A) : LkD A (nI A.1.1.length) mX5_count [.ref 0, .int (nI 0)] := by
  refine LkC.D hA (fun σ K h k => cgX5_count (ct_isWithin ?_))
  rw [isW_18 (by omega)]
  refine brt' one_ne ?_
  repeat (first | refine br_t (by decide) ?_ | refine br_f (by decide) ?_ | refine brt' (by decide) ?_ | refine brf' (by decide) ?_)
  exact ct_targetCount one_sc h.1 (k σ (Fr.rf σ) (FrM.rf σ))
theorem lc_ct1 (hA : okA A) : LkD A (nI (A.1.1.countP isW)) mX5_count [.ref 0, .int (nI 1)] := by
  refine LkC.D hA (fun σ K h k => cgX5_count (ct_isWithin ?_))
  have hw : ∀ t ∈ A.1.1, t.2.2.2 = 0 ∨ t.2.2.2 = 1 := fun t ht => (hA.1.2.1 t ht).2.2.2.1
  rw [isW_18 (by omega)]
  refine brt' one_ne ?_
  repeat (first | refine br_t (by decide) ?_ | refine br_f (by decide) ?_ | refine brt' (by decide) ?_ | refine brf' (by decide) ?_)
  exact ct_wallCount one_sc h.1 hA.1.1 hw (k σ (Fr.rf σ) (FrM.rf σ))
theorem lc_ct2 (hA : okA A) : LkD A (nI ((enS A.1).1.length - A.1.1.length)) mX5_count [.ref 0, .int (nI 2)] := by
  refine LkC.D hA (fun σ K h k => cgX5_count (ct_isWithin ?_))
  have hbl := bods_len hA.1.1
  rw [isW_18 (by omega)]
  refine brt' one_ne ?_
  repeat (first | refine br_t (by decide) ?_ | refine br_f (by decide) ?_ | refine brt' (by decide) ?_ | refine brf' (by decide) ?_)
  refine cgX5_countHeard (ct_listen one_sc h.1 hA.1 (fun σ' f e => ?_))
  repeat (first | refine br_t (by decide) ?_ | refine br_f (by decide) ?_ | refine brt' (by decide) ?_ | refine brf' (by decide) ?_)
  exact ct_ghostCount (okE_S hA.1) e hbl.2 (k σ' f.S f.M)
theorem lc_ct3 (hA : okA A) : LkD A (nI A.1.2.1.length) mX5_count [.ref 0, .int (nI 3)] := by
  refine LkC.D hA (fun σ K h k => cgX5_count (ct_isWithin ?_))
  rw [isW_18 (by omega)]
  refine brt' one_ne ?_
  repeat (first | refine br_t (by decide) ?_ | refine br_f (by decide) ?_ | refine brt' (by decide) ?_ | refine brf' (by decide) ?_)
  exact ct_turnCount one_sc h.1 (k σ (Fr.rf σ) (FrM.rf σ))
theorem lc_sp (hA : okA A) {j : Nat} (hj : j < 4) {r : Int32} (hr : ∀ (σ : St) (K : Int32 → St → Prop), cR σ A → (∀ σ', Fr scr σ σ' → FrM σ σ' → K r σ') → CallI 8 mX3_hasTurn [.ref 1, .int (nI j)] σ (fun r1 s1 => (r1 = 0 → K (-4) s1) ∧ (¬ r1 = 0 → CallI 8 mX3_spacingOf [.ref 1, .int (nI j)] s1 K))) : LkD A r mX5_count [.ref 0, .int (nI (4 + j))] := by
  refine LkC.D hA (fun σ K h k => cgX5_count (ct_isWithin ?_))
  rw [isW_18 (by omega)]
  refine brt' one_ne ?_
  have hh := hr σ K h k
  rcases (show j = 0 ∨ j = 1 ∨ j = 2 ∨ j = 3 by omega) with rfl | rfl | rfl | rfl
  all_goals
    repeat (first | refine br_t (by decide) ?_ | refine br_f (by decide) ?_ | refine brt' (by decide) ?_ | refine brf' (by decide) ?_)
    exact hh
theorem lc_ct4 (hA : okA A) {j : Nat} {s : Int32} (hs : A.1.2.1[j]? = some s) : LkD A s mX5_count [.ref 0, .int (nI (4 + j))] :=
  lc_sp hA (by have := lt_of hs; have := hA.1.2.2.2.1; omega) (fun σ K h k => ct_hasTurn one_sc h.1 hA.1.2.2.2.1 (lt_of hs) (br_f one_ne (ct_spacingOf one_sc h.1 hA.1.2.2.2.1 hs (k σ (Fr.rf σ) (FrM.rf σ)))))
theorem lc_ct4x (hA : okA A) (hn : A.1.2.1.length < 4) : LkD A (-4) mX5_count [.ref 0, .int (nI (4 + A.1.2.1.length))] :=
  lc_sp hA hn (fun σ K h k => ct_hasTurn0 one_sc h.1 (Or.inr (nI_le (by omega) (by omega))) (br_t rfl (k σ (Fr.rf σ) (FrM.rf σ))))
theorem lc_ct8 (hA : okA A) : LkD A (nI (sm (echN (enS A.1)) 2200)) mX5_count [.ref 0, .int (nI 8)] := by
  refine LkC.D hA (fun σ K h k => cgX5_count (ct_isWithin ?_))
  rw [isW_18 (by omega)]
  refine brt' one_ne ?_
  repeat (first | refine br_t (by decide) ?_ | refine br_f (by decide) ?_ | refine brt' (by decide) ?_ | refine brf' (by decide) ?_)
  refine cgX5_countHeard (ct_listen one_sc h.1 hA.1 (fun σ' f e => ?_))
  repeat (first | refine br_t (by decide) ?_ | refine br_f (by decide) ?_ | refine brt' (by decide) ?_ | refine brf' (by decide) ?_)
  exact ct_echoCount (okE_S hA.1) e (k σ' f.S f.M)
theorem lc_ct9 (hA : okA A) : LkD A (nI (sm (fun j => (enS A.1).1.countP (ltJ (enS A.1) j)) (enS A.1).2.1.length)) mX5_count [.ref 0, .int (nI 9)] := by
  refine LkC.D hA (fun σ K h k => cgX5_count (ct_isWithin ?_))
  rw [isW_18 (by omega)]
  refine brt' one_ne ?_
  repeat (first | refine br_t (by decide) ?_ | refine br_f (by decide) ?_ | refine brt' (by decide) ?_ | refine brf' (by decide) ?_)
  refine cgX5_countHeard (ct_listen one_sc h.1 hA.1 (fun σ' f e => ?_))
  repeat (first | refine br_t (by decide) ?_ | refine br_f (by decide) ?_ | refine brt' (by decide) ?_ | refine brf' (by decide) ?_)
  refine ct_lostCount (okE_S hA.1) e ?_
  rw [lsum_all]
  exact k σ' f.S f.M
theorem lc_ct10 (hA : okA A) : LkD A (nI ((enS A.1).1.countP (fun b => decide (b.2.1 < (enS A.1).2.2.2)))) mX5_count [.ref 0, .int (nI 10)] := by
  refine LkC.D hA (fun σ K h k => cgX5_count (ct_isWithin ?_))
  rw [isW_18 (by omega)]
  refine brt' one_ne ?_
  repeat (first | refine br_t (by decide) ?_ | refine br_f (by decide) ?_ | refine brt' (by decide) ?_ | refine brf' (by decide) ?_)
  refine cgX5_countHeard (ct_listen one_sc h.1 hA.1 (fun σ' f e => ?_))
  repeat (first | refine br_t (by decide) ?_ | refine br_f (by decide) ?_ | refine brt' (by decide) ?_ | refine brf' (by decide) ?_)
  exact ct_faintCount (okE_S hA.1) e (k σ' f.S f.M)
theorem lc_ct11 (hA : okA A) : LkD A (nI (tolds (enS A.1)).length) mX5_count [.ref 0, .int (nI 11)] := by
  refine LkC.D hA (fun σ K h k => cgX5_count (ct_isWithin ?_))
  rw [isW_18 (by omega)]
  refine brt' one_ne ?_
  repeat (first | refine br_t (by decide) ?_ | refine br_f (by decide) ?_ | refine brt' (by decide) ?_ | refine brf' (by decide) ?_)
  refine cgX5_countHeard (ct_listen one_sc h.1 hA.1 (fun σ' f e => ?_))
  repeat (first | refine br_t (by decide) ?_ | refine br_f (by decide) ?_ | refine brt' (by decide) ?_ | refine brf' (by decide) ?_)
  exact ct_toldCount (okE_S hA.1) e (k σ' f.S f.M)
theorem lc_ct12 (hA : okA A) : LkD A (nI (phant (enS A.1))) mX5_count [.ref 0, .int (nI 12)] := by
  refine LkC.D hA (fun σ K h k => cgX5_count (ct_isWithin ?_))
  rw [isW_18 (by omega)]
  refine brt' one_ne ?_
  repeat (first | refine br_t (by decide) ?_ | refine br_f (by decide) ?_ | refine brt' (by decide) ?_ | refine brf' (by decide) ?_)
  refine cgX5_countHeard (ct_listen one_sc h.1 hA.1 (fun σ' f e => ?_))
  repeat (first | refine br_t (by decide) ?_ | refine br_f (by decide) ?_ | refine brt' (by decide) ?_ | refine brf' (by decide) ?_)
  refine ct_toldCount (okE_S hA.1) e (ct_trueCount (okE_S hA.1) e ?_)
  rw [sub_phant (okE_S hA.1)]
  exact k σ' f.S f.M
theorem lc_ct13 (hA : okA A) : LkD A (nI (missE (enS A.1))) mX5_count [.ref 0, .int (nI 13)] := by
  refine LkC.D hA (fun σ K h k => cgX5_count (ct_isWithin ?_))
  rw [isW_18 (by omega)]
  refine brt' one_ne ?_
  repeat (first | refine br_t (by decide) ?_ | refine br_f (by decide) ?_ | refine brt' (by decide) ?_ | refine brf' (by decide) ?_)
  refine cgX5_countHeard (ct_listen one_sc h.1 hA.1 (fun σ' f e => ?_))
  repeat (first | refine br_t (by decide) ?_ | refine br_f (by decide) ?_ | refine brt' (by decide) ?_ | refine brf' (by decide) ?_)
  exact ct_missedCount (okE_S hA.1) e (k σ' f.S f.M)
theorem lc_ct14 (hA : okA A) : LkD A A.1.2.2.1 mX5_count [.ref 0, .int (nI 14)] := by
  refine LkC.D hA (fun σ K h k => cgX5_count (ct_isWithin ?_))
  rw [isW_18 (by omega)]
  refine brt' one_ne ?_
  repeat (first | refine br_t (by decide) ?_ | refine br_f (by decide) ?_ | refine brt' (by decide) ?_ | refine brf' (by decide) ?_)
  exact ct_blindBelow one_sc h.1 (k σ (Fr.rf σ) (FrM.rf σ))
theorem lc_ct15 (hA : okA A) : LkD A A.1.2.2.2 mX5_count [.ref 0, .int (nI 15)] := by
  refine LkC.D hA (fun σ K h k => cgX5_count (ct_isWithin ?_))
  rw [isW_18 (by omega)]
  refine brt' one_ne ?_
  repeat (first | refine br_t (by decide) ?_ | refine br_f (by decide) ?_ | refine brt' (by decide) ?_ | refine brf' (by decide) ?_)
  exact ct_loudFrom one_sc h.1 (k σ (Fr.rf σ) (FrM.rf σ))
theorem lc_ifTurn (hA : okA A) {x : Int32} {m : Nat} (h1 : isSp x = true) (hm : m ≤ 2) (h3 : A.1.2.1.length < 4) : LkD A (nI (wtR (enS (A.1.1, A.1.2.1 ++ [x], A.1.2.2)) m)) mX5_ifTurn [.ref 0, .int x, .int (nI m)] := by
  intro σ K h k
  have hok := hA.1
  have hok' := okS_turn hok h3 h1
  have hE := okE_S hok'
  have h2' : decide ((0 : Int32).toInt ≤ (nI m).toInt ∧ (nI m).toInt ≤ (2 : Int32).toInt) = true := by
    apply decide_eq_true
    rw [k0, nI_toInt (show m < 2 ^ 31 by omega), show (2 : Int32).toInt = 2 from rfl]
    omega
  refine cgX5_ifTurn (ct_isSpacing ?_)
  rw [h1]
  refine br_f one_ne (ct_isWithin ?_)
  rw [h2']
  refine brt' one_ne (ct_turnCount one_sc h.1 (br_t (nI_lt (b := 4) (by omega) (by omega)) (ct_become sc7 one_sc h.1 hok (fun σ1 f1 c1 => ct_addTurn sc7 c1 h3 ?_ (fun σ2 f2 c2 => ct_listen sc7 c2 hok' (fun σ3 f3 e => ?_))))))
  · have := of_decide_eq_true h1
    rw [Int32.le_iff_toInt_le, k0]; omega
  · have fs : Fr scr σ σ3 := ((f1.mono (fun c hc => by unfold inSc at hc; unfold scr; omega)).tr (f2.mono (fun c hc => by unfold inSc at hc; unfold scr; omega))).tr f3.S
    have fm : FrM σ σ3 := ((f1.M (fun c hc => by unfold inSc at hc; omega)).tr (f2.M (fun c hc => by unfold inSc at hc; omega))).tr f3.M
    have hk := k σ3 fm (h.keep hA fs)
    rcases (show m = 0 ∨ m = 1 ∨ m = 2 by omega) with rfl | rfl | rfl
    · exact br_t rfl (ct_toldCount hE e hk)
    · refine br_f (by decide) (br_t rfl (ct_toldCount hE e (ct_trueCount hE e ?_)))
      rw [sub_phant hE]; exact hk
    · exact br_f (by decide) (br_f (by decide) (ct_missedCount hE e hk))
theorem errT_w (S : Sn) (x s v w : Int32) (c : okB x s v = true) (c2 : w = 0 ∨ v = 0) : errT S x s v w = if S.1.any (isAt x v) then -2 else if S.1.length < 6 then 0 else -3 := by
  unfold errT
  rw [if_pos ⟨c, c2⟩]
theorem lc_ifWallE (hA : okA A) {x s : Int32} {r : Int32} (he : errT A.1 x s 0 1 = r) (hr : r ≠ 0) : LkD A r mX5_ifWall [.ref 0, .int x, .int s, .int 0] := by
  intro σ K h k
  refine cgX5_ifWall (ct_isWithin ?_)
  rw [show decide ((0 : Int32).toInt ≤ (0 : Int32).toInt ∧ (0 : Int32).toInt ≤ (1 : Int32).toInt) = true by decide]
  refine brt' one_ne (ct_comingError hA.1 h (br_f (by rw [he]; exact hr) ?_))
  rw [he]
  exact k σ (FrM.rf σ) h
theorem lc_ifWall (hA : okA A) {x s : Int32} (h3 : okB x s 0 = true) (he : errT A.1 x s 0 1 = 0) (h5 : A.1.1.length < 6) : LkD A (nI ((enS (A.1.1 ++ [(x, s, 0, 1)], A.1.2)).1.length - (A.1.1.length + 1))) mX5_ifWall [.ref 0, .int x, .int s, .int 0] := by
  intro σ K h k
  have hok := hA.1
  have hb := of_decide_eq_true h3
  have hok' := okS_tg (t := (x, s, 0, 1)) hok h5 ⟨hb.1, hb.2.1, hb.2.2, Or.inr rfl, fun _ => rfl⟩
  have hE := okE_S hok'
  have hbl := bods_len hok'.1
  refine cgX5_ifWall (ct_isWithin ?_)
  rw [show decide ((0 : Int32).toInt ≤ (0 : Int32).toInt ∧ (0 : Int32).toInt ≤ (1 : Int32).toInt) = true by decide]
  refine brt' one_ne (ct_comingError hok h (br_t he (ct_become sc7 one_sc h.1 hok (fun σ1 f1 c1 => ct_join (t := (x, s, 0, 1)) sc7 c1 h5 (Or.inr rfl) (fun σ2 f2 c2 => ct_listen sc7 c2 hok' (fun σ3 f3 e => ?_))))))
  have fs : Fr scr σ σ3 := ((f1.mono (fun c hc => by unfold inSc at hc; unfold scr; omega)).tr (f2.mono (fun c hc => by unfold inSc at hc; unfold scr; omega))).tr f3.S
  have fm : FrM σ σ3 := ((f1.M (fun c hc => by unfold inSc at hc; omega)).tr (f2.M (fun c hc => by unfold inSc at hc; omega))).tr f3.M
  have hk := k σ3 fm (h.keep hA fs)
  refine brf' rfl (ct_ghostCount hE e hbl.2 ?_)
  rw [List.length_append]
  exact hk
end LC2
