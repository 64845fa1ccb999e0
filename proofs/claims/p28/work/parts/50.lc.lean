/-! the class's looks, answer by answer -/
/-- a call that answers r and leaves the class as it was, and the law's rows -/
def LkD (A : Ab) (r : Int32) (m : MI) (as : List Value) : Prop := ∀ (σ : St) (K : Int32 → St → Prop), cR σ A → (∀ σ', FrM σ σ' → cR σ' A → K r σ') → CallI 9 m as σ K
theorem LkC.D {A : Ab} {r : Int32} {m : MI} {as : List Value} (hA : okA A) (h : LkC A r m as) : LkD A r m as := fun σ K hc k => h σ K hc (fun σ' f fm => k σ' fm (hc.keep hA f))
section LC
variable {A : Ab} {b : Bd} {t : Tg}
theorem lc_fits (hA : okA A) {x : Int32} {q j : Nat} (hx : 1 ≤ x.toInt ∧ x.toInt ≤ 600) (hq : q < 11) (hj : j < A.1.2.1.length) : LkD A (nI (fitE (enS A.1) x (pv q) j)) mX5_fits [.ref 0, .int x, .int (pv q), .int (nI j)] := by
  refine LkC.D hA (fun σ K h k => ?_)
  have hok := hA.1
  refine cgX5_fits (ct_isWithin ?_)
  rw [decide_eq_true (show (1 : Int32).toInt ≤ x.toInt ∧ x.toInt ≤ (600 : Int32).toInt from hx)]
  refine br_f one_ne (ct_isWithin ?_)
  rw [decide_eq_true (show (-5 : Int32).toInt ≤ (pv q).toInt ∧ (pv q).toInt ≤ (5 : Int32).toInt by
    rw [pv_toInt (by omega), k5, show (-5 : Int32).toInt = -5 from rfl]; omega)]
  exact br_f one_ne (ct_hasTurn one_sc h.1 hok.2.2.2.1 hj (br_c' (fun _ => ct_listen one_sc h.1 hok (fun σ' f e => ct_fitOf (okE_S hok) e hj hq (k σ' f.S f.M))) (fun c => absurd c one_ne)))
theorem lc_tOx (hA : okA A) {i : Nat} (hi : i = A.1.1.length) : LkD A (-1) mX5_targetOf [.ref 0, .int (nI i), .int 0] := by
  refine LkC.D hA (fun σ K h k => ?_)
  subst hi
  have hn := hA.1.1
  exact cgX5_targetOf (ct_has0 one_sc h.1 (Or.inr (nI_le (by omega) (by omega))) (br_t rfl (k σ (Fr.rf σ) (FrM.rf σ))))
theorem lc_tO0 (hA : okA A) {i : Nat} (ht : A.1.1[i]? = some t) : LkD A t.1 mX5_targetOf [.ref 0, .int (nI i), .int 0] := by
  refine LkC.D hA (fun σ K h k => cgX5_targetOf (ct_has one_sc h.1 hA.1.1 (lt_of ht) (br_f one_ne (ct_isWithin ?_))))
  rw [show decide ((0 : Int32).toInt ≤ (0 : Int32).toInt ∧ (0 : Int32).toInt ≤ (6 : Int32).toInt) = true by decide]
  exact brt' one_ne (br_t rfl (ct_distanceOf one_sc h.1 hA.1.1 ht (k σ (Fr.rf σ) (FrM.rf σ))))
theorem lc_tO1 (hA : okA A) {i : Nat} (ht : A.1.1[i]? = some t) : LkD A t.2.1 mX5_targetOf [.ref 0, .int (nI i), .int 1] := by
  refine LkC.D hA (fun σ K h k => cgX5_targetOf (ct_has one_sc h.1 hA.1.1 (lt_of ht) (br_f one_ne (ct_isWithin ?_))))
  rw [show decide ((0 : Int32).toInt ≤ (1 : Int32).toInt ∧ (1 : Int32).toInt ≤ (6 : Int32).toInt) = true by decide]
  exact brt' one_ne (br_f (by decide) (br_t rfl (ct_strengthOf one_sc h.1 hA.1.1 ht (k σ (Fr.rf σ) (FrM.rf σ)))))
theorem lc_tO2 (hA : okA A) {i : Nat} (ht : A.1.1[i]? = some t) : LkD A (t.2.2.1 + 5) mX5_targetOf [.ref 0, .int (nI i), .int 2] := by
  refine LkC.D hA (fun σ K h k => cgX5_targetOf (ct_has one_sc h.1 hA.1.1 (lt_of ht) (br_f one_ne (ct_isWithin ?_))))
  rw [show decide ((0 : Int32).toInt ≤ (2 : Int32).toInt ∧ (2 : Int32).toInt ≤ (6 : Int32).toInt) = true by decide]
  exact brt' one_ne (br_f (by decide) (br_f (by decide) (br_t rfl (ct_movementOf one_sc h.1 hA.1.1 ht (k σ (Fr.rf σ) (FrM.rf σ))))))
theorem lc_tO3 (hA : okA A) {i : Nat} (ht : A.1.1[i]? = some t) : LkD A t.2.2.2 mX5_targetOf [.ref 0, .int (nI i), .int 3] := by
  refine LkC.D hA (fun σ K h k => cgX5_targetOf (ct_has one_sc h.1 hA.1.1 (lt_of ht) (br_f one_ne (ct_isWithin ?_))))
  have hw := (hA.1.2.1 t (List.mem_of_getElem? ht)).2.2.2.1
  rw [show decide ((0 : Int32).toInt ≤ (3 : Int32).toInt ∧ (3 : Int32).toInt ≤ (6 : Int32).toInt) = true by decide]
  refine brt' one_ne (br_f (by decide) (br_f (by decide) (br_f (by decide) (br_t rfl (ct_isWall one_sc h.1 hA.1.1 ht hw ?_)))))
  have hk := k σ (Fr.rf σ) (FrM.rf σ)
  rcases hw with e | e
  · rw [e] at hk ⊢; exact ct_asNumber (b := false) hk
  · rw [e] at hk ⊢; exact ct_asNumber (b := true) hk
theorem lc_tO4 (hA : okA A) {i : Nat} (ht : A.1.1[i]? = some t) : LkD A (bI (told (enS A.1) t.1 t.2.2.1)) mX5_targetOf [.ref 0, .int (nI i), .int 4] := by
  refine LkC.D hA (fun σ K h k => cgX5_targetOf (ct_has one_sc h.1 hA.1.1 (lt_of ht) (br_f one_ne (ct_isWithin ?_))))
  have hb : (enS A.1).1[i]? = some (tgB i t) := bods_get ht
  rw [show decide ((0 : Int32).toInt ≤ (4 : Int32).toInt ∧ (4 : Int32).toInt ≤ (6 : Int32).toInt) = true by decide]
  exact brt' one_ne (br_f (by decide) (br_f (by decide) (br_f (by decide) (br_f (by decide) (cgX5_heardOf (ct_listen one_sc h.1 hA.1 (fun σ' f e => br_t rfl (ct_isToldSource (okE_S hA.1) e hb (ct_asNumber (k σ' f.S f.M))))))))))
theorem lc_tO5 (hA : okA A) {i : Nat} (ht : A.1.1[i]? = some t) : LkD A (nI (lostB (enS A.1) (tgB i t))) mX5_targetOf [.ref 0, .int (nI i), .int 5] := by
  refine LkC.D hA (fun σ K h k => cgX5_targetOf (ct_has one_sc h.1 hA.1.1 (lt_of ht) (br_f one_ne (ct_isWithin ?_))))
  have hb : (enS A.1).1[i]? = some (tgB i t) := bods_get ht
  rw [show decide ((0 : Int32).toInt ≤ (5 : Int32).toInt ∧ (5 : Int32).toInt ≤ (6 : Int32).toInt) = true by decide]
  exact brt' one_ne (br_f (by decide) (br_f (by decide) (br_f (by decide) (br_f (by decide) (cgX5_heardOf (ct_listen one_sc h.1 hA.1 (fun σ' f e => br_f (by decide) (br_t rfl (ct_lostTurns (okE_S hA.1) e hb (k σ' f.S f.M))))))))))
theorem lc_tO6 (hA : okA A) {i : Nat} (ht : A.1.1[i]? = some t) : LkD A (nI (((enS A.1).1.drop A.1.1.length).countP (gwB (nI i)))) mX5_targetOf [.ref 0, .int (nI i), .int 6] := by
  refine LkC.D hA (fun σ K h k => cgX5_targetOf (ct_has one_sc h.1 hA.1.1 (lt_of ht) (br_f one_ne (ct_isWithin ?_))))
  have hbl := bods_len hA.1.1
  rw [show decide ((0 : Int32).toInt ≤ (6 : Int32).toInt ∧ (6 : Int32).toInt ≤ (6 : Int32).toInt) = true by decide]
  exact brt' one_ne (br_f (by decide) (br_f (by decide) (br_f (by decide) (br_f (by decide) (cgX5_heardOf (ct_listen one_sc h.1 hA.1 (fun σ' f e => br_f (by decide) (br_f (by decide) (ct_ghostsOf (okE_S hA.1) e hbl.2 (k σ' f.S f.M))))))))))
theorem lc_gh (hA : okA A) {g m : Nat} {r : Int32} (hm : m ≤ 4) (hg : A.1.1.length + g < (enS A.1).1.length) (hr : ∀ (σ : St) (K : Int32 → St → Prop), earOK σ (enS A.1) A.1.1.length → K r σ → (nI m = 0 → CallI 8 mX0_distanceOf [.ref 54, .int (nI (A.1.1.length + g))] σ (fun r13 s12 => K r13 s12)) ∧ (¬ nI m = 0 → (nI m = 1 → CallI 8 mX0_strengthOf [.ref 54, .int (nI (A.1.1.length + g))] σ (fun r16 s15 => K r16 s15)) ∧ (¬ nI m = 1 → (nI m = 2 → CallI 8 mX0_lesserWall [.ref 54, .int (nI (A.1.1.length + g))] σ (fun r19 s18 => K r19 s18)) ∧ (¬ nI m = 2 → (nI m = 3 → CallI 8 mX0_greaterWall [.ref 54, .int (nI (A.1.1.length + g))] σ (fun r22 s21 => K r22 s21)) ∧ (¬ nI m = 3 → CallI 8 mX0_isToldSource [.ref 54, .int (nI (A.1.1.length + g))] σ (fun r24 s23 => CallI 8 mX5_asNumber [.int r24] s23 (fun r26 s25 => K r26 s25))))))) : LkD A r mX5_ghost [.ref 0, .int (nI g), .int (nI m)] := by
  refine LkC.D hA (fun σ K h k => ?_)
  have hok := hA.1
  have hE := okE_S hok
  have hbl := bods_len hok.1
  have h21 := hE.1
  have h4' : decide ((0 : Int32).toInt ≤ (nI m).toInt ∧ (nI m).toInt ≤ (4 : Int32).toInt) = true := by
    apply decide_eq_true
    rw [k0, nI_toInt (show m < 2 ^ 31 by omega), show (4 : Int32).toInt = 4 from rfl]
    omega
  refine cgX5_ghost (br_f (nI_pos (by omega)) (ct_isWithin ?_))
  rw [h4']
  refine brt' one_ne (ct_listen one_sc h.1 hok (fun σ' f e => ct_ghostCount hE e hbl.2 (br_t (nI_lt (by omega) (by omega)) (ct_targetCount one_sc (h.keep hA f.S).1 ?_))))
  rw [nI_add]
  exact hr σ' K e (k σ' f.S f.M)
theorem lc_gh0 (hA : okA A) {g : Nat} (hb : (enS A.1).1[A.1.1.length + g]? = some b) : LkD A b.1 mX5_ghost [.ref 0, .int (nI g), .int 0] :=
  lc_gh hA (m := 0) (by omega) (lt_of hb) (fun σ K h k => br_t rfl (ct_edist h.1 (okE_S hA.1).1 hb k))
theorem lc_gh1 (hA : okA A) {g : Nat} (hb : (enS A.1).1[A.1.1.length + g]? = some b) : LkD A b.2.1 mX5_ghost [.ref 0, .int (nI g), .int 1] :=
  lc_gh hA (m := 1) (by omega) (lt_of hb) (fun σ K h k => br_f (by decide) (br_t rfl (ct_estr h.1 (okE_S hA.1).1 hb k)))
theorem lc_gh2 (hA : okA A) {g : Nat} (hb : (enS A.1).1[A.1.1.length + g]? = some b) : LkD A b.2.2.2.1 mX5_ghost [.ref 0, .int (nI g), .int 2] :=
  lc_gh hA (m := 2) (by omega) (lt_of hb) (fun σ K h k => br_f (by decide) (br_f (by decide) (br_t rfl (ct_elw h.1 (okE_S hA.1).1 hb k))))
theorem lc_gh3 (hA : okA A) {g : Nat} (hb : (enS A.1).1[A.1.1.length + g]? = some b) : LkD A b.2.2.2.2 mX5_ghost [.ref 0, .int (nI g), .int 3] :=
  lc_gh hA (m := 3) (by omega) (lt_of hb) (fun σ K h k => br_f (by decide) (br_f (by decide) (br_f (by decide) (br_t rfl (ct_egw h.1 (okE_S hA.1).1 hb k)))))
theorem lc_gh4 (hA : okA A) {g : Nat} (hb : (enS A.1).1[A.1.1.length + g]? = some b) : LkD A (bI (told (enS A.1) b.1 b.2.2.1)) mX5_ghost [.ref 0, .int (nI g), .int 4] :=
  lc_gh hA (m := 4) (by omega) (lt_of hb) (fun σ K h k => br_f (by decide) (br_f (by decide) (br_f (by decide) (br_f (by decide) (ct_isToldSource (okE_S hA.1) h hb (ct_asNumber k))))))
theorem lc_ghx (hA : okA A) {g : Nat} (hg : A.1.1.length + g = (enS A.1).1.length) : LkD A (-4) mX5_ghost [.ref 0, .int (nI g), .int 0] := by
  refine LkC.D hA (fun σ K h k => ?_)
  have hok := hA.1
  have hE := okE_S hok
  have hbl := bods_len hok.1
  have h21 := hE.1
  refine cgX5_ghost (br_f (nI_pos (by omega)) (ct_isWithin ?_))
  rw [show decide ((0 : Int32).toInt ≤ (0 : Int32).toInt ∧ (0 : Int32).toInt ≤ (4 : Int32).toInt) = true by decide]
  exact brt' one_ne (ct_listen one_sc h.1 hok (fun σ' f e => ct_ghostCount hE e hbl.2 (br_f (nI_nlt (by omega) (by omega)) (k σ' f.S f.M))))
theorem lc_td (hA : okA A) {g m x q : Nat} {r : Int32} (hm : m ≤ 3) (hg : g < 2 ^ 31) (hT : (tolds (enS A.1))[g]? = some (nI (x + 1), pv q)) (hx6 : x < 600) (hq : q < 11) (hr : ∀ (σ : St) (K : Int32 → St → Prop), earOK σ (enS A.1) A.1.1.length → K r σ → (nI m = 0 → K (nI (x + 1)) σ) ∧ (¬ nI m = 0 → (nI m = 1 → K (pv q + 5) σ) ∧ (¬ nI m = 1 → (nI m = 2 → CallI 8 mX0_isTrue [.ref 54, .int (nI (x + 1)), .int (pv q)] σ (fun r13 s12 => CallI 8 mX5_asNumber [.int r13] s12 (fun r15 s14 => K r15 s14))) ∧ (¬ nI m = 2 → CallI 8 mX0_turnsThatFit [.ref 54, .int (nI (x + 1)), .int (pv q)] σ (fun r17 s16 => K r17 s16))))) : LkD A r mX5_told [.ref 0, .int (nI g), .int (nI m)] := by
  refine LkC.D hA (fun σ K h k => ?_)
  have hok := hA.1
  have hE := okE_S hok
  have h4' : decide ((0 : Int32).toInt ≤ (nI m).toInt ∧ (nI m).toInt ≤ (3 : Int32).toInt) = true := by
    apply decide_eq_true
    rw [k0, nI_toInt (show m < 2 ^ 31 by omega), show (3 : Int32).toInt = 3 from rfl]
    omega
  have hfd : fdE (enS A.1) g = nI (11 * (x + 1) + q) := by
    unfold fdE
    rw [hT]
    exact fd_eq hx6 hq
  refine cgX5_told (br_f (nI_pos hg) (ct_isWithin ?_))
  rw [h4']
  refine brt' one_ne (ct_listen one_sc h.1 hok (fun σ' f e => ct_findTold hg hE e ?_))
  rw [hfd, dv11 (by omega), rm11 (by omega), show (11 * (x + 1) + q) / 11 = x + 1 by omega, show (11 * (x + 1) + q) % 11 = q by omega]
  exact br_t (nI_le (a := 0) (by omega) (by omega)) (hr σ' K e (k σ' f.S f.M))
theorem lc_td0 (hA : okA A) {g x q : Nat} (hg : g < 2 ^ 31) (hT : (tolds (enS A.1))[g]? = some (nI (x + 1), pv q)) (hx6 : x < 600) (hq : q < 11) : LkD A (nI (x + 1)) mX5_told [.ref 0, .int (nI g), .int 0] :=
  lc_td hA (m := 0) (by omega) hg hT hx6 hq (fun σ K h k => br_t rfl k)
theorem lc_td1 (hA : okA A) {g x q : Nat} (hg : g < 2 ^ 31) (hT : (tolds (enS A.1))[g]? = some (nI (x + 1), pv q)) (hx6 : x < 600) (hq : q < 11) : LkD A (pv q + 5) mX5_told [.ref 0, .int (nI g), .int 1] :=
  lc_td hA (m := 1) (by omega) hg hT hx6 hq (fun σ K h k => br_f (by decide) (br_t rfl k))
theorem lc_td2 (hA : okA A) {g x q : Nat} (hg : g < 2 ^ 31) (hT : (tolds (enS A.1))[g]? = some (nI (x + 1), pv q)) (hx6 : x < 600) (hq : q < 11) : LkD A (bI (isTr (enS A.1) (nI (x + 1), pv q))) mX5_told [.ref 0, .int (nI g), .int 2] :=
  lc_td hA (m := 2) (by omega) hg hT hx6 hq (fun σ K h k => br_f (by decide) (br_f (by decide) (br_t rfl (ct_eisTrue (okE_S hA.1) h (ct_asNumber k)))))
theorem lc_td3 (hA : okA A) {g x q : Nat} (hg : g < 2 ^ 31) (hT : (tolds (enS A.1))[g]? = some (nI (x + 1), pv q)) (hx6 : x < 600) (hq : q < 11) (ht : told (enS A.1) (nI (x + 1)) (pv q) = true) : LkD A (nI (cfit (enS A.1) (nI (x + 1)) (pv q) (enS A.1).2.1.length)) mX5_told [.ref 0, .int (nI g), .int 3] :=
  lc_td hA (m := 3) (by omega) hg hT hx6 hq (fun σ K h k => br_f (by decide) (br_f (by decide) (br_f (by decide) (ct_turnsThatFit (okE_S hA.1) h hq (by rw [tfE_told ht]; exact k)))))
theorem lc_tdx (hA : okA A) {g : Nat} (hg : g < 2 ^ 31) (hT : (tolds (enS A.1))[g]? = none) : LkD A (-4) mX5_told [.ref 0, .int (nI g), .int 0] := by
  refine LkC.D hA (fun σ K h k => ?_)
  have hok := hA.1
  refine cgX5_told (br_f (nI_pos hg) (ct_isWithin ?_))
  rw [show decide ((0 : Int32).toInt ≤ (0 : Int32).toInt ∧ (0 : Int32).toInt ≤ (3 : Int32).toInt) = true by decide]
  refine brt' one_ne (ct_listen one_sc h.1 hok (fun σ' f e => ct_findTold hg (okE_S hok) e ?_))
  unfold fdE
  rw [hT]
  exact br_f (by decide) (k σ' f.S f.M)
theorem lc_ec (hA : okA A) {j e m i : Nat} {r : Int32} (hm : m ≤ 3) (hj : j < A.1.2.1.length) (he : e < 2 ^ 31) (hT : (hdL (enS A.1) j)[e]? = some i) (hi : i < 550) (hr : ∀ (σ : St) (K : Int32 → St → Prop), earOK σ (enS A.1) A.1.1.length → K r σ → (nI m = 0 → K (nI (i / 11)) σ) ∧ (¬ nI m = 0 → (nI m = 1 → K ((nI (i % 11) - 5) + 5) σ) ∧ (¬ nI m = 1 → (nI m = 2 → CallI 8 mX0_strengthTogether [.ref 54, .int (nI j), .int (nI (i / 11)), .int (nI (i % 11) - 5)] σ (fun r16 s15 => K r16 s15)) ∧ (¬ nI m = 2 → CallI 8 mX0_sourcesTogether [.ref 54, .int (nI j), .int (nI (i / 11)), .int (nI (i % 11) - 5)] σ (fun r18 s17 => K r18 s17))))) : LkD A r mX5_echo [.ref 0, .int (nI j), .int (nI e), .int (nI m)] := by
  refine LkC.D hA (fun σ K h k => ?_)
  have hok := hA.1
  have hE := okE_S hok
  have h4' : decide ((0 : Int32).toInt ≤ (nI m).toInt ∧ (nI m).toInt ≤ (3 : Int32).toInt) = true := by
    apply decide_eq_true
    rw [k0, nI_toInt (show m < 2 ^ 31 by omega), show (3 : Int32).toInt = 3 from rfl]
    omega
  have hfe : feE (enS A.1) j e = nI i := by
    unfold feE
    rw [hT]
  refine cgX5_echo (ct_hasTurn one_sc h.1 hok.2.2.2.1 hj (br_f one_ne (br_f (nI_pos he) (ct_isWithin ?_))))
  rw [h4']
  refine brt' one_ne (ct_listen one_sc h.1 hok (fun σ' f e2 => ct_findEcho he hE e2 hj ?_))
  rw [hfe, dv11 (by omega), rm11 (by omega)]
  exact br_t (nI_le (a := 0) (by omega) (by omega)) (hr σ' K e2 (k σ' f.S f.M))
theorem lc_ec0 (hA : okA A) {j e i : Nat} (hj : j < A.1.2.1.length) (he : e < 2 ^ 31) (hT : (hdL (enS A.1) j)[e]? = some i) (hi : i < 550) : LkD A (nI (i / 11)) mX5_echo [.ref 0, .int (nI j), .int (nI e), .int 0] :=
  lc_ec hA (m := 0) (by omega) hj he hT hi (fun σ K h k => br_t rfl k)
theorem lc_ec1 (hA : okA A) {j e i : Nat} (hj : j < A.1.2.1.length) (he : e < 2 ^ 31) (hT : (hdL (enS A.1) j)[e]? = some i) (hi : i < 550) : LkD A (pv (i % 11) + 5) mX5_echo [.ref 0, .int (nI j), .int (nI e), .int 1] :=
  lc_ec hA (m := 1) (by omega) hj he hT hi (fun σ K h k => br_f (by decide) (br_t rfl k))
theorem lc_ec2 (hA : okA A) {j e i : Nat} (hj : j < A.1.2.1.length) (he : e < 2 ^ 31) (hT : (hdL (enS A.1) j)[e]? = some i) (hi : i < 550) : LkD A (sumS (partB (enS A.1).2.2.2 (spE (enS A.1) j) j (pv (i % 11)) (nI (i / 11))) (enS A.1).1) mX5_echo [.ref 0, .int (nI j), .int (nI e), .int 2] :=
  lc_ec hA (m := 2) (by omega) hj he hT hi (fun σ K h k => br_f (by decide) (br_f (by decide) (br_t rfl (ct_strengthTogether (okE_S hA.1) h hj k))))
theorem lc_ec3 (hA : okA A) {j e i : Nat} (hj : j < A.1.2.1.length) (he : e < 2 ^ 31) (hT : (hdL (enS A.1) j)[e]? = some i) (hi : i < 550) : LkD A (nI ((enS A.1).1.countP (partB (enS A.1).2.2.2 (spE (enS A.1) j) j (pv (i % 11)) (nI (i / 11))))) mX5_echo [.ref 0, .int (nI j), .int (nI e), .int 3] :=
  lc_ec hA (m := 3) (by omega) hj he hT hi (fun σ K h k => br_f (by decide) (br_f (by decide) (br_f (by decide) (ct_sourcesTogether (okE_S hA.1) h hj k))))
theorem lc_ecx (hA : okA A) {j e : Nat} (hj : j < A.1.2.1.length) (he : e < 2 ^ 31) (hT : (hdL (enS A.1) j)[e]? = none) : LkD A (-4) mX5_echo [.ref 0, .int (nI j), .int (nI e), .int 0] := by
  refine LkC.D hA (fun σ K h k => ?_)
  have hok := hA.1
  refine cgX5_echo (ct_hasTurn one_sc h.1 hok.2.2.2.1 hj (br_f one_ne (br_f (nI_pos he) (ct_isWithin ?_))))
  rw [show decide ((0 : Int32).toInt ≤ (0 : Int32).toInt ∧ (0 : Int32).toInt ≤ (3 : Int32).toInt) = true by decide]
  refine brt' one_ne (ct_listen one_sc h.1 hok (fun σ' f e2 => ct_findEcho he (okE_S hok) e2 hj ?_))
  unfold feE
  rw [hT]
  exact br_f (by decide) (k σ' f.S f.M)
theorem lc_alike (hA : okA A) {m : Nat} (hm : m ≤ 1) : LkD A (nI (Lm A.1 A.1.2.1.length)) mX5_alike [.ref 0, .int (nI m)] := by
  refine LkC.D hA (fun σ K h k => ?_)
  have hok := hA.1
  have hm1 := hok.2.2.1
  have hm4 := hok.2.2.2.1
  have h4' : decide ((0 : Int32).toInt ≤ (nI m).toInt ∧ (nI m).toInt ≤ (1 : Int32).toInt) = true := by
    apply decide_eq_true
    rw [k0, nI_toInt (show m < 2 ^ 31 by omega), show (1 : Int32).toInt = 1 from rfl]
    omega
  refine cgX5_alike (ct_isWithin ?_)
  rw [h4']
  obtain ⟨n0, hs0, b1, b2⟩ := spN hok (j := 0) (by omega)
  refine brt' one_ne (ct_spacingOf (i := 0) one_sc h.1 hm4 hs0 ?_)
  have loop : ∀ k2 j, j + k2 = A.1.2.1.length → Go mX5_alike 9 22 [.ref 0, .int (nI m), .int (nI (Lm A.1 j)), .int (nI j), .null] [] σ (QI K) := by
    intro k2
    induction k2 with
    | zero =>
      intro j hj
      refine sgX5_alike_22 (ct_turnCount one_sc h.1 (br_t (nI_le (by omega) (by omega)) ?_))
      rw [show j = A.1.2.1.length by omega]
      exact k σ (Fr.rf σ) (FrM.rf σ)
    | succ k2 ih =>
      intro j hj
      obtain ⟨n, hs, n1, n2⟩ := spN hok (j := j) (by omega)
      have hk := ih (j + 1) (by omega)
      rw [Lm_s hs n2] at hk
      have hb := Lm_bd2 hok (j := j) (by omega)
      have hp := (Lm_bd hok j (by omega)).1
      have hxy : Lm A.1 j * n ≤ 125000 * 50 := Nat.mul_le_mul hb n2
      refine sgX5_alike_22 (ct_turnCount one_sc h.1 (br_f (nI_ge (by omega) (by omega)) (ct_spacingOf one_sc h.1 hm4 hs (br_c' (fun _ => ct_commonMultiple (by omega) hp n2 (by omega) ?_) (fun _ => ct_firstCommon hp n2 (by omega) (by omega) ?_)))))
      · rw [nI1]; exact hk
      · rw [nI1]; exact hk
  have h1 := loop (A.1.2.1.length - 1) 1 (by omega)
  rw [Lm_s hs0 b2, show Lm A.1 0 = 1 from rfl, Nat.lcm_one_left] at h1
  exact h1
/-- the second spacing as a number, 1 where there is none -/
def sp2 (S : Sn) : Nat := if 1 < S.2.1.length then ix (S.2.1.getD 1 0) else 1
theorem lc_unfold (hA : okA A) {s a b m : Nat} {R : Int32} (hs : A.1.2.1[0]? = some (nI s)) (s1 : 10 ≤ s) (s2 : s ≤ 50) (ha : a < s) (hb : b < sp2 A.1) (hm : m ≤ 1)
    (hR : (∃ k, k < sp2 A.1 ∧ decide ((a + k * s) % sp2 A.1 = b) = true ∧ (∀ j, j < k → decide ((a + j * s) % sp2 A.1 = b) = false) ∧ R = nI (a + k * s)) ∨ ((∀ k, k < sp2 A.1 → decide ((a + k * s) % sp2 A.1 = b) = false) ∧ R = -4)) : LkD A R mX5_unfold [.ref 0, .int (nI a), .int (nI b), .int (nI m)] := by
  refine LkC.D hA (fun σ K h k => ?_)
  have hok := hA.1
  have hm1 := hok.2.2.1
  have hm4 := hok.2.2.2.1
  have es : nI s - 1 = nI (s - 1) := pk_sub (b := 1) (by omega)
  have hin : ∀ n x : Nat, x ≤ n → n < 2 ^ 20 → decide ((0 : Int32).toInt ≤ (nI x).toInt ∧ (nI x).toInt ≤ (nI n).toInt) = true := by
    intro n x h1 h2
    apply decide_eq_true
    rw [k0, nI_toInt (show x < 2 ^ 31 by omega), nI_toInt (show n < 2 ^ 31 by omega)]
    omega
  have h3' : decide ((0 : Int32).toInt ≤ (nI m).toInt ∧ (nI m).toInt ≤ (1 : Int32).toInt) = true := hin 1 m hm (by decide)
  have ho2 : 1 ≤ sp2 A.1 ∧ sp2 A.1 ≤ 50 := by
    unfold sp2
    split
    · next c =>
      obtain ⟨o, ho, o1, o2⟩ := spN hok (j := 1) c
      rw [List.getD_eq_getElem?_getD, ho]
      have : ix ((some (nI o)).getD 0) = o := ix_nI (by omega)
      omega
    · omega
  have hend : CallI 8 mX5_isWithin [.int (nI a), .int 0, .int (nI (s - 1))] σ (fun r23 s22 => (r23 = 0 → K (-1) s22) ∧ (¬ r23 = 0 → CallI 8 mX5_isWithin [.int (nI b), .int 0, .int (nI (sp2 A.1 - 1))] s22 (fun r26 s25 => (r26 = 0 → K (-1) s25) ∧ (¬ r26 = 0 → CallI 8 mX5_isWithin [.int (nI m), .int 0, .int 1] s25 (fun r29 s28 => (¬ r29 = 0 → (¬ nI m = 0 → CallI 8 mX5_tryDistances [.int (nI a), .int (nI s), .int (nI b), .int (nI (sp2 A.1)), .int (nI a), .int (nI s)] s28 (fun r33 s32 => K r33 s32)) ∧ (nI m = 0 → CallI 8 mX5_tryDistances [.int (nI a), .int (nI s), .int (nI b), .int (nI (sp2 A.1)), .int 0, .int 1] s28 (fun r35 s34 => K r35 s34))) ∧ (r29 = 0 → K (-1) s28)))))) := by
    refine ct_isWithin ?_
    rw [hin (s - 1) a (by omega) (by omega)]
    refine br_f one_ne (ct_isWithin ?_)
    rw [hin (sp2 A.1 - 1) b (by omega) (by omega)]
    refine br_f one_ne (ct_isWithin ?_)
    rw [h3']
    refine brt' one_ne (br_c' (fun c => ?_) (fun c => ?_))
    · exact ct_try2 (w := true) (by omega) (by omega) s2 ho2.2 ha hb hR (k σ (Fr.rf σ) (FrM.rf σ))
    · exact ct_try2 (w := false) (by omega) (by omega) s2 ho2.2 ha hb hR (k σ (Fr.rf σ) (FrM.rf σ))
  rcases Nat.lt_or_ge 1 A.1.2.1.length with h2 | h2
  · obtain ⟨o, ho, o1, o2⟩ := spN hok (j := 1) (by omega)
    have eo : nI o - 1 = nI (o - 1) := pk_sub (b := 1) (by omega)
    have e : sp2 A.1 = o := by
      unfold sp2
      rw [if_pos h2, List.getD_eq_getElem?_getD, ho]
      exact ix_nI (by omega)
    rw [e] at hend
    refine cgX5_unfold (ct_spacingOf (i := 0) one_sc h.1 hm4 hs (ct_hasTurn (i := 1) one_sc h.1 hm4 h2 (br_f one_ne (ct_spacingOf (i := 1) one_sc h.1 hm4 ho ?_))))
    rw [es, eo]
    exact hend
  · have e : sp2 A.1 = 1 := by unfold sp2; rw [if_neg (by omega)]
    rw [e] at hend
    refine cgX5_unfold (ct_spacingOf (i := 0) one_sc h.1 hm4 hs (ct_hasTurn0 one_sc h.1 (Or.inr (nI_le (b := 1) (by omega) (by omega))) (br_t rfl ?_)))
    rw [es]
    exact hend
theorem lc_unfoldx (hA : okA A) {s : Nat} (hs : A.1.2.1[0]? = some (nI s)) (s1 : 10 ≤ s) (s2 : s ≤ 50) : LkD A (-1) mX5_unfold [.ref 0, .int (nI s), .int 0, .int 0] := by
  refine LkC.D hA (fun σ K h k => ?_)
  have hok := hA.1
  have hm1 := hok.2.2.1
  have hm4 := hok.2.2.2.1
  have es : nI s - 1 = nI (s - 1) := pk_sub (b := 1) (by omega)
  rcases Nat.lt_or_ge 1 A.1.2.1.length with h2 | h2
  · obtain ⟨o, ho, o1, o2⟩ := spN hok (j := 1) (by omega)
    refine cgX5_unfold (ct_spacingOf (i := 0) one_sc h.1 hm4 hs (ct_hasTurn (i := 1) one_sc h.1 hm4 h2 (br_f one_ne (ct_spacingOf (i := 1) one_sc h.1 hm4 ho ?_))))
    rw [es]
    refine ct_isWithin ?_
    rw [decide_eq_false (show ¬ ((0 : Int32).toInt ≤ (nI s).toInt ∧ (nI s).toInt ≤ (nI (s - 1)).toInt) by
      rw [k0, nI_toInt (show s < 2 ^ 31 by omega), nI_toInt (show s - 1 < 2 ^ 31 by omega)]; omega)]
    exact br_t rfl (k σ (Fr.rf σ) (FrM.rf σ))
  · refine cgX5_unfold (ct_spacingOf (i := 0) one_sc h.1 hm4 hs (ct_hasTurn0 one_sc h.1 (Or.inr (nI_le (b := 1) (by omega) (by omega))) (br_t rfl ?_)))
    rw [es]
    refine ct_isWithin ?_
    rw [decide_eq_false (show ¬ ((0 : Int32).toInt ≤ (nI s).toInt ∧ (nI s).toInt ≤ (nI (s - 1)).toInt) by
      rw [k0, nI_toInt (show s < 2 ^ 31 by omega), nI_toInt (show s - 1 < 2 ^ 31 by omega)]; omega)]
    exact br_t rfl (k σ (Fr.rf σ) (FrM.rf σ))
end LC
