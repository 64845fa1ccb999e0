/-! targetOf, ghost -/
theorem brt' {c A B : Prop} (h : ¬ c) (a : A) : (¬ c → A) ∧ (c → B) := ⟨fun _ => a, fun z => absurd z h⟩
theorem brf' {c A B : Prop} (h : c) (b : B) : (¬ c → A) ∧ (c → B) := ⟨fun z => absurd h z, fun _ => b⟩
/-- the end of the model's look at a target -/
def tOL (d : Nat) (v1 v2 v3 : Int32) (σ : St) (K : Int32 → St → Prop) : Prop := (v2 = 2 → CallI d mX6_of [.ref 64, .int v1, .int 2] σ (fun r4 s3 => K (r4 + 5) s3)) ∧ (¬ v2 = 2 → (v2 = 3 → CallI d mX6_of [.ref 64, .int v1, .int v2] σ (fun r7 s6 => K r7 s6)) ∧ (¬ v2 = 3 → (v2 = 4 → CallI d mX6_isTold [.ref 64, .int v1] σ (fun r10 s9 => (r10 = 0 → K 0 s9) ∧ (¬ r10 = 0 → K 1 s9))) ∧ (¬ v2 = 4 → (v2 = 5 → K v3 σ) ∧ (¬ v2 = 5 → (v2 = 6 → K v3 σ) ∧ (¬ v2 = 6 → CallI d mX6_of [.ref 64, .int v1, .int v2] σ (fun r15 s14 => K r15 s14))))))
section LOOKS2
variable {d : Nat} {σ : St} {A : Ab} {S : Sn} {E : En} {b : Bd}
theorem tO77 {K : Int32 → St → Prop} {v1 v2 v3 v4 : Int32} (h6 : ¬ v2 = 6) (h : tOL d v1 v2 v3 σ K) : Go mX6_targetOf (d + 1) 77 [.ref 64, .int v1, .int v2, .int v3, .int v4] [] σ (QI K) := by
  unfold tOL at h
  exact sgX6_targetOf_77 ⟨fun _ => h, fun _ => brt' h6 h⟩
/-- no loop: neither 5 nor 6 -/
theorem tO29 {K : Int32 → St → Prop} {v1 v2 v3 v4 : Int32} (h5 : ¬ v2 = 5) (h6 : ¬ v2 = 6) (h : tOL d v1 v2 v3 σ K) : Go mX6_targetOf (d + 1) 29 [.ref 64, .int v1, .int v2, .int v3, .int v4] [] σ (QI K) :=
  sgX6_targetOf_29 ⟨fun _ => tO77 h6 h, fun _ => brt' h5 (tO77 h6 h)⟩
theorem lostB_eq (E : En) (b : Bd) : (List.range E.2.1.length).countP (fun j => ltJ E j b) = lostB E b := by
  unfold lostB ltJ
  by_cases h : b.2.1 < E.2.2.2
  · rw [if_pos h, decide_eq_true h]
    simp
  · rw [if_neg h, decide_eq_false h]
    simp
theorem tO29_5 {K : Int32 → St → Prop} {i : Nat} (hE : okE E) (h : modOK σ E) (hi : E.1[i]? = some b) (k : K (nI (lostB E b)) σ) : Go mX6_targetOf (d + 4) 29 [.ref 64, .int (nI i), .int 5, .int 0, .int 0] [] σ (QI K) := by
  have hm := hE.2.2.1
  have h21 := hE.1
  have loop : ∀ k2 j, j + k2 = E.2.1.length → Go mX6_targetOf (d + 4) 29 [.ref 64, .int (nI i), .int 5, .int (nI ((List.range j).countP (fun j => ltJ E j b))), .int (nI j)] [] σ (QI K) := by
    intro k2
    induction k2 with
    | zero =>
      intro j hj
      refine sgX6_targetOf_29 ?_
      rw [h.2.1.1]
      refine br_t (nI_le (by omega) (by omega)) (tO77 (by decide) ?_)
      unfold tOL
      rw [show j = E.2.1.length by omega, lostB_eq]
      exact br_f (by decide) (br_f (by decide) (br_f (by decide) (br_t rfl k)))
    | succ k2 ih =>
      intro j hj
      have hk := ih (j + 1) (by omega)
      rw [countP_rs] at hk
      refine sgX6_targetOf_29 ?_
      rw [h.2.1.1]
      refine br_f (nI_ge (by omega) (by omega)) (brf' rfl (ct_isLost hE h.1 h.2.1 (by omega) hi ?_))
      show (bI (ltJ E j b) = 0 → _) ∧ (¬ bI (ltJ E j b) = 0 → _)
      refine bI_br (fun e => ?_) (fun e => ?_)
      · rw [e, if_neg (by decide), Nat.add_zero] at hk
        rw [Int32.add_zero, nI1]
        exact hk
      · rw [e, if_pos rfl] at hk
        rw [nI1, nI1]
        exact hk
  exact loop E.2.1.length 0 (by omega)
theorem drop_s {α : Type} {l : List α} {i : Nat} {x : α} (h : l[i]? = some x) : l.drop i = x :: l.drop (i + 1) := by
  have hi := lt_of h
  rw [List.drop_eq_getElem_cons hi]
  rw [List.getElem?_eq_getElem hi] at h
  injection h with h
  rw [h]
theorem tO77_6 {K : Int32 → St → Prop} {w : Int32} {n : Nat} (hE : okE E) (h : modOK σ E) (hn : n ≤ E.1.length) (k : K (nI ((E.1.drop n).countP (gwB w))) σ) : Go mX6_targetOf (d + 2) 77 [.ref 64, .int w, .int 6, .int 0, .int (nI n)] [] σ (QI K) := by
  have h21 := hE.1
  have loop : ∀ k2 i, i + k2 = E.1.length → ∀ c : Nat, c + (E.1.drop i).countP (gwB w) = (E.1.drop n).countP (gwB w) → Go mX6_targetOf (d + 2) 77 [.ref 64, .int w, .int 6, .int (nI c), .int (nI i)] [] σ (QI K) := by
    intro k2
    induction k2 with
    | zero =>
      intro i hi c hc
      refine sgX6_targetOf_77 ?_
      rw [h.1.1]
      refine br_t (nI_le (by omega) (by omega)) ?_
      rw [show i = E.1.length by omega, List.drop_length, List.countP_nil] at hc
      rw [show c = (E.1.drop n).countP (gwB w) by omega]
      exact br_f (by decide) (br_f (by decide) (br_f (by decide) (br_f (by decide) (br_t rfl k))))
    | succ k2 ih =>
      intro i hi c hc
      obtain ⟨b, hb⟩ := get_of (l := E.1) (i := i) (by omega)
      have hrow := h.1.2 i b hb
      rw [drop_s hb, List.countP_cons] at hc
      refine sgX6_targetOf_77 ?_
      rw [h.1.1, nI1]
      refine br_f (nI_ge (by omega) (by omega)) (brf' rfl (ct_body (w := 3) (by omega) (by omega) ?_))
      rw [hrow.2.2.2.1]
      have hgo : gwB w b = true → Go mX6_targetOf (d + 2) 77 [.ref 64, .int w, .int 6, .int (nI (c + 1)), .int (nI (i + 1))] [] σ (QI K) := by
        intro e
        rw [e, if_pos rfl] at hc
        exact ih (i + 1) (by omega) (c + 1) (by omega)
      have hno : gwB w b = false → Go mX6_targetOf (d + 2) 77 [.ref 64, .int w, .int 6, .int (nI c), .int (nI (i + 1))] [] σ (QI K) := by
        intro e
        rw [e, if_neg (by decide)] at hc
        exact ih (i + 1) (by omega) c (by omega)
      refine ⟨fun e => ?_, fun e => ct_body (w := 4) (by omega) (by omega) ?_⟩
      · rw [nI1]
        exact hgo (by unfold gwB; rw [decide_eq_true e]; rfl)
      · rw [hrow.2.2.2.2]
        refine br_c' (fun e2 => ?_) (fun e2 => ?_)
        · rw [Int32.add_zero, nI1]
          exact hno (by unfold gwB; rw [decide_eq_false e, decide_eq_false e2]; rfl)
        · rw [nI1]
          exact hgo (by unfold gwB; rw [decide_eq_true e2, Bool.or_true])
  exact loop (E.1.length - n) n (by omega) 0 (by omega)
theorem lk_targetOf (hA : okA A) (x w : Int32) : ∃ r, LkC A r mX5_targetOf [.ref 0, .int x, .int w] ∧ LkM A r mX6_targetOf [.ref 64, .int x, .int w] := by
  have hok := hA.1
  have hE := okE_S hok
  have hn := hok.1
  have hbl := bods_len hn
  rcases ix_cases (n := A.1.1.length) x (by omega) with ⟨h3, h3'⟩ | ⟨i, hi, rfl, h3⟩
  · exact ⟨-1, fun σ K h k => cgX5_targetOf (ct_has0 one_sc h.1 h3' (br_t rfl (k σ (Fr.rf σ) (FrM.rf σ)))), fun σ K h k => cgX6_targetOf (ct_isTarget (n := A.1.1.length) h.1.1 hn (by rw [h3]; exact br_t rfl (k σ (FrN.rf σ))))⟩
  obtain ⟨t, ht⟩ := get_of hi
  have hok2 := hok.2.1 t (List.mem_of_getElem? ht)
  have hb : (enS A.1).1[i]? = some (tgB i t) := bods_get ht
  rcases wi_cases (n := 6) w (by decide) with h4 | ⟨m, hm, rfl, h4⟩
  · have h4' : decide ((0 : Int32).toInt ≤ w.toInt ∧ w.toInt ≤ (6 : Int32).toInt) = false := h4
    exact ⟨-1, fun σ K h k => cgX5_targetOf (ct_has one_sc h.1 hn hi (br_f one_ne (ct_isWithin (by rw [h4']; exact brf' rfl (k σ (Fr.rf σ) (FrM.rf σ)))))), fun σ K h k => cgX6_targetOf (ct_isTarget (n := A.1.1.length) h.1.1 hn (by rw [h3]; exact br_f one_ne (ct_in (by rw [h4']; exact brf' rfl (k σ (FrN.rf σ))))))⟩
  have h4' : decide ((0 : Int32).toInt ≤ (nI m).toInt ∧ (nI m).toInt ≤ (6 : Int32).toInt) = true := h4
  have hC : ∀ (r : Int32), (∀ (σ : St) (K : Int32 → St → Prop), cR σ A → (∀ σ', Fr scr σ σ' → FrM σ σ' → K r σ') → (nI m = 0 → CallI 8 mX3_distanceOf [.ref 1, .int (nI i)] σ (fun r9 s8 => K r9 s8)) ∧ (¬ nI m = 0 → (nI m = 1 → CallI 8 mX3_strengthOf [.ref 1, .int (nI i)] σ (fun r12 s11 => K r12 s11)) ∧ (¬ nI m = 1 → (nI m = 2 → CallI 8 mX3_movementOf [.ref 1, .int (nI i)] σ (fun r15 s14 => K (r15 + 5) s14)) ∧ (¬ nI m = 2 → (nI m = 3 → CallI 8 mX3_isWall [.ref 1, .int (nI i)] σ (fun r18 s17 => CallI 8 mX5_asNumber [.int r18] s17 (fun r20 s19 => K r20 s19))) ∧ (¬ nI m = 3 → CallI 8 mX5_heardOf [.ref 0, .int (nI i), .int (nI m)] σ (fun r22 s21 => K r22 s21)))))) → LkC A r mX5_targetOf [.ref 0, .int (nI i), .int (nI m)] := by
    intro r hr σ K h k
    refine cgX5_targetOf (ct_has one_sc h.1 hn hi (br_f one_ne (ct_isWithin ?_)))
    rw [h4']
    exact brt' one_ne (hr σ K h k)
  have hM : ∀ (r : Int32), (∀ (σ : St) (K : Int32 → St → Prop), mSc (sA σ 65) A.1 → modOK σ (enS A.1) → K r σ → Go mX6_targetOf 9 29 [.ref 64, .int (nI i), .int (nI m), .int 0, .int 0] [] σ (QI K)) → LkM A r mX6_targetOf [.ref 64, .int (nI i), .int (nI m)] := by
    intro r hr σ K h k
    refine cgX6_targetOf (ct_isTarget (n := A.1.1.length) h.1.1 hn ?_)
    rw [h3]
    refine br_f one_ne (ct_in ?_)
    rw [h4']
    exact brt' one_ne (ct_mlisten h.1 hok (fun σ' f e => hr σ' K (h.keepN f.N).1 e (k σ' f.N)))
  rcases lt7 (show m < 7 by omega) with rfl | rfl | rfl | rfl | rfl | rfl | rfl
  · refine ⟨t.1, hC _ (fun σ K h k => br_t rfl (ct_distanceOf one_sc h.1 hn ht (k σ (Fr.rf σ) (FrM.rf σ)))), hM _ (fun σ K hz h k => tO29 (by decide) (by decide) (br_f (by decide) (br_f (by decide) (br_f (by decide) (br_f (by decide) (br_f (by decide) (ct_of0 (by omega) (hz.2.2.2.2.1 i t ht).1 k)))))))⟩
  · refine ⟨t.2.1, hC _ (fun σ K h k => br_f (by decide) (br_t rfl (ct_strengthOf one_sc h.1 hn ht (k σ (Fr.rf σ) (FrM.rf σ))))), hM _ (fun σ K hz h k => tO29 (by decide) (by decide) (br_f (by decide) (br_f (by decide) (br_f (by decide) (br_f (by decide) (br_f (by decide) (ct_of (w := 1) (by omega) (by omega) (by rw [(hz.2.2.2.2.1 i t ht).2.1]; exact k))))))))⟩
  · refine ⟨t.2.2.1 + 5, hC _ (fun σ K h k => br_f (by decide) (br_f (by decide) (br_t rfl (ct_movementOf one_sc h.1 hn ht (k σ (Fr.rf σ) (FrM.rf σ)))))), hM _ (fun σ K hz h k => tO29 (by decide) (by decide) (br_t rfl (ct_of (w := 2) (by omega) (by omega) (by rw [(hz.2.2.2.2.1 i t ht).2.2.1]; exact k))))⟩
  · have hw := hok2.2.2.2.1
    refine ⟨t.2.2.2, hC _ (fun σ K h k => br_f (by decide) (br_f (by decide) (br_f (by decide) (br_t rfl (ct_isWall one_sc h.1 hn ht hw ?_))))), hM _ (fun σ K hz h k => tO29 (by decide) (by decide) (br_f (by decide) (br_t rfl (ct_of (w := 3) (by omega) (by omega) (by rw [(hz.2.2.2.2.1 i t ht).2.2.2]; exact k)))))⟩
    have hk := k σ (Fr.rf σ) (FrM.rf σ)
    rcases hw with e | e
    · rw [e] at hk ⊢; exact ct_asNumber (b := false) hk
    · rw [e] at hk ⊢; exact ct_asNumber (b := true) hk
  · refine ⟨bI (told (enS A.1) t.1 t.2.2.1), hC _ (fun σ K h k => br_f (by decide) (br_f (by decide) (br_f (by decide) (br_f (by decide) (cgX5_heardOf (ct_listen one_sc h.1 hok (fun σ' f e => br_t rfl (ct_isToldSource hE e hb (ct_asNumber (k σ' f.S f.M)))))))))), hM _ (fun σ K hz h k => tO29 (by decide) (by decide) (br_f (by decide) (br_f (by decide) (br_t rfl (ct_isTold hE h hb (bI_br (fun e => ?_) (fun e => ?_)))))))⟩
    · have e' : told (enS A.1) t.1 t.2.2.1 = false := e
      rw [e'] at k; exact k
    · have e' : told (enS A.1) t.1 t.2.2.1 = true := e
      rw [e'] at k; exact k
  · exact ⟨nI (lostB (enS A.1) (tgB i t)), hC _ (fun σ K h k => br_f (by decide) (br_f (by decide) (br_f (by decide) (br_f (by decide) (cgX5_heardOf (ct_listen one_sc h.1 hok (fun σ' f e => br_f (by decide) (br_t rfl (ct_lostTurns hE e hb (k σ' f.S f.M)))))))))), hM _ (fun σ K hz h k => tO29_5 hE h hb k)⟩
  · refine ⟨nI (((enS A.1).1.drop A.1.1.length).countP (gwB (nI i))), hC _ (fun σ K h k => br_f (by decide) (br_f (by decide) (br_f (by decide) (br_f (by decide) (cgX5_heardOf (ct_listen one_sc h.1 hok (fun σ' f e => br_f (by decide) (br_f (by decide) (ct_ghostsOf hE e hbl.2 (k σ' f.S f.M)))))))))), hM _ (fun σ K hz h k => ?_)⟩
    have h77 := tO77_6 (d := 7) (w := nI i) hE h hbl.2 k
    refine sgX6_targetOf_29 ?_
    rw [hz.1]
    exact ⟨fun _ => h77, fun _ => brt' (by decide) h77⟩
theorem lk_ghost (hA : okA A) (x w : Int32) : ∃ r, LkC A r mX5_ghost [.ref 0, .int x, .int w] ∧ LkM A r mX6_ghost [.ref 64, .int x, .int w] := by
  have hok := hA.1
  have hE := okE_S hok
  have hn := hok.1
  have hbl := bods_len hn
  have h21 := hE.1
  rcases neg_cases x with hx | ⟨g, hg, rfl, hx⟩
  · exact ⟨-1, fun σ K h k => cgX5_ghost (br_t hx (k σ (Fr.rf σ) (FrM.rf σ))), fun σ K h k => cgX6_ghost (br_t hx (k σ (FrN.rf σ)))⟩
  rcases wi_cases (n := 4) w (by decide) with h4 | ⟨m, hm, rfl, h4⟩
  · have h4' : decide ((0 : Int32).toInt ≤ w.toInt ∧ w.toInt ≤ (4 : Int32).toInt) = false := h4
    exact ⟨-1, fun σ K h k => cgX5_ghost (br_f hx (ct_isWithin (by rw [h4']; exact brf' rfl (k σ (Fr.rf σ) (FrM.rf σ))))), fun σ K h k => cgX6_ghost (br_f hx (ct_in (by rw [h4']; exact brf' rfl (k σ (FrN.rf σ)))))⟩
  have h4' : decide ((0 : Int32).toInt ≤ (nI m).toInt ∧ (nI m).toInt ≤ (4 : Int32).toInt) = true := h4
  have hlen : (enS A.1).1.length = (bods A.1.1).length := rfl
  have hsub : nI (enS A.1).1.length - nI A.1.1.length = nI ((enS A.1).1.length - A.1.1.length) := pk_sub hbl.2
  rcases Nat.lt_or_ge (A.1.1.length + g) (enS A.1).1.length with hgl | hgl
  rotate_left
  · refine ⟨-4, fun σ K h k => cgX5_ghost (br_f hx (ct_isWithin ?_)), fun σ K h k => cgX6_ghost (br_f hx (ct_in ?_))⟩
    · rw [h4']
      exact brt' one_ne (ct_listen one_sc h.1 hok (fun σ' f e => ct_ghostCount hE e hbl.2 (br_f (nI_nlt (by omega) (by omega)) (k σ' f.S f.M))))
    · rw [h4']
      refine brt' one_ne (ct_mlisten h.1 hok (fun σ' f e => ?_))
      rw [e.1.1, (h.keepN f.N).1.1, hsub]
      exact br_f (nI_nlt (by omega) (by omega)) (k σ' f.N)
  obtain ⟨b, hb⟩ := get_of hgl
  have hC : ∀ (r : Int32), (∀ (σ : St) (K : Int32 → St → Prop), earOK σ (enS A.1) A.1.1.length → K r σ → (nI m = 0 → CallI 8 mX0_distanceOf [.ref 54, .int (nI (A.1.1.length + g))] σ (fun r13 s12 => K r13 s12)) ∧ (¬ nI m = 0 → (nI m = 1 → CallI 8 mX0_strengthOf [.ref 54, .int (nI (A.1.1.length + g))] σ (fun r16 s15 => K r16 s15)) ∧ (¬ nI m = 1 → (nI m = 2 → CallI 8 mX0_lesserWall [.ref 54, .int (nI (A.1.1.length + g))] σ (fun r19 s18 => K r19 s18)) ∧ (¬ nI m = 2 → (nI m = 3 → CallI 8 mX0_greaterWall [.ref 54, .int (nI (A.1.1.length + g))] σ (fun r22 s21 => K r22 s21)) ∧ (¬ nI m = 3 → CallI 8 mX0_isToldSource [.ref 54, .int (nI (A.1.1.length + g))] σ (fun r24 s23 => CallI 8 mX5_asNumber [.int r24] s23 (fun r26 s25 => K r26 s25))))))) → LkC A r mX5_ghost [.ref 0, .int (nI g), .int (nI m)] := by
    intro r hr σ K h k
    refine cgX5_ghost (br_f hx (ct_isWithin ?_))
    rw [h4']
    refine brt' one_ne (ct_listen one_sc h.1 hok (fun σ' f e => ct_ghostCount hE e hbl.2 (br_t (nI_lt (by omega) (by omega)) (ct_targetCount one_sc (h.keep hA f.S).1 ?_))))
    rw [nI_add]
    exact hr σ' K e (k σ' f.S f.M)
  have hM : ∀ (r : Int32), (∀ (σ : St) (K : Int32 → St → Prop), modOK σ (enS A.1) → K r σ → (¬ nI m = 4 → (2 ≤ nI m → CallI 8 mX6_body [.ref 64, .int (nI (A.1.1.length + g)), .int (nI m + 1)] σ (fun r10 s9 => K r10 s9)) ∧ (¬ 2 ≤ nI m → CallI 8 mX6_body [.ref 64, .int (nI (A.1.1.length + g)), .int (nI m)] σ (fun r12 s11 => K r12 s11))) ∧ (nI m = 4 → CallI 8 mX6_isTold [.ref 64, .int (nI (A.1.1.length + g))] σ (fun r14 s13 => (r14 = 0 → K 0 s13) ∧ (¬ r14 = 0 → K 1 s13)))) → LkM A r mX6_ghost [.ref 64, .int (nI g), .int (nI m)] := by
    intro r hr σ K h k
    refine cgX6_ghost (br_f hx (ct_in ?_))
    rw [h4']
    refine brt' one_ne (ct_mlisten h.1 hok (fun σ' f e => ?_))
    rw [e.1.1, (h.keepN f.N).1.1, hsub, nI_add]
    exact br_t (nI_lt (by omega) (by omega)) (hr σ' K e (k σ' f.N))
  rcases lt7 (show m < 7 by omega) with rfl | rfl | rfl | rfl | rfl | rfl | rfl
  · exact ⟨b.1, hC _ (fun σ K h k => br_t rfl (ct_edist h.1 h21 hb k)), hM _ (fun σ K h k => brt' (by decide) (br_f (by decide) (ct_body0 (by omega) (h.1.2 _ b hb).1 k)))⟩
  · exact ⟨b.2.1, hC _ (fun σ K h k => br_f (by decide) (br_t rfl (ct_estr h.1 h21 hb k))), hM _ (fun σ K h k => brt' (by decide) (br_f (by decide) (ct_body (w := 1) (by omega) (by omega) (by rw [(h.1.2 _ b hb).2.1]; exact k))))⟩
  · exact ⟨b.2.2.2.1, hC _ (fun σ K h k => br_f (by decide) (br_f (by decide) (br_t rfl (ct_elw h.1 h21 hb k)))), hM _ (fun σ K h k => brt' (by decide) (br_t (by decide) (ct_body (w := 3) (by omega) (by omega) (by rw [(h.1.2 _ b hb).2.2.2.1]; exact k))))⟩
  · exact ⟨b.2.2.2.2, hC _ (fun σ K h k => br_f (by decide) (br_f (by decide) (br_f (by decide) (br_t rfl (ct_egw h.1 h21 hb k))))), hM _ (fun σ K h k => brt' (by decide) (br_t (by decide) (ct_body (w := 4) (by omega) (by omega) (by rw [(h.1.2 _ b hb).2.2.2.2]; exact k))))⟩
  · refine ⟨bI (told (enS A.1) b.1 b.2.2.1), hC _ (fun σ K h k => br_f (by decide) (br_f (by decide) (br_f (by decide) (br_f (by decide) (ct_isToldSource hE h hb (ct_asNumber k)))))), hM _ (fun σ K h k => brf' rfl (ct_isTold hE h hb (bI_br (fun e => ?_) (fun e => ?_))))⟩
    · rw [e] at k; exact k
    · rw [e] at k; exact k
  · omega
  · omega
end LOOKS2
