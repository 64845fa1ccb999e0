/-! told, echo -/
theorem TL_at {E : En} (V : List Int32) {x q e n : Nat} {v : Int32} (hx : x < n) (hv : V[q]? = some v) (e2 : told E (nI (x + 1)) v = true) (he : e = (TL E V x).length + ((V.take q).filter (told E (nI (x + 1)))).length) : (TL E V n)[e]? = some (nI (x + 1), v) := by
  obtain ⟨s, hs⟩ := TL_pre E V (k := x + 1) (n := n) (by omega)
  have hq := lt_of hv
  have hrow : V.filter (told E (nI (x + 1))) = (V.take q).filter (told E (nI (x + 1))) ++ v :: (V.drop (q + 1)).filter (told E (nI (x + 1))) := by
    have h1 : V = V.take q ++ v :: V.drop (q + 1) := by
      have h2 := drop_s hv
      rw [← h2, List.take_append_drop]
    conv => lhs; rw [h1]
    rw [List.filter_append, List.filter_cons_of_pos e2]
  have hTL : TL E V (x + 1) = TL E V x ++ (V.filter (told E (nI (x + 1)))).map (fun v => (nI (x + 1), v)) := rfl
  rw [hs, hTL, hrow, List.map_append, List.map_cons, List.append_assoc, List.append_assoc, List.getElem?_append_right (by omega), List.getElem?_append_right (by rw [List.length_map]; omega), List.length_map]
  rw [show e - (TL E V x).length - ((V.take q).filter (told E (nI (x + 1)))).length = 0 by omega]
  rfl
theorem TL_mem {E : En} {V : List Int32} {n : Nat} {p : Int32 × Int32} (h : p ∈ TL E V n) : ∃ x, x < n ∧ p.1 = nI (x + 1) ∧ p.2 ∈ V ∧ told E p.1 p.2 = true := by
  induction n with
  | zero => exact absurd h (by simp [TL])
  | succ n ih =>
    have h2 : p ∈ TL E V n ++ (V.filter (told E (nI (n + 1)))).map (fun v => (nI (n + 1), v)) := h
    rcases List.mem_append.mp h2 with h3 | h3
    · obtain ⟨x, hx, e⟩ := ih h3
      exact ⟨x, by omega, e⟩
    · obtain ⟨v, hv, e⟩ := List.mem_map.mp h3
      obtain ⟨h4, h5⟩ := List.mem_filter.mp hv
      rw [← e]
      exact ⟨n, by omega, rfl, h4, h5⟩
theorem tolds_mem {E : En} {p : Int32 × Int32} (h : p ∈ tolds E) : ∃ x q, x < 600 ∧ q < 11 ∧ p = (nI (x + 1), pv q) ∧ told E (nI (x + 1)) (pv q) = true := by
  obtain ⟨x, hx, e1, e2, e3⟩ := TL_mem h
  obtain ⟨q, hq, e⟩ := List.mem_map.mp e2
  refine ⟨x, q, hx, List.mem_range.mp hq, Prod.ext e1 e.symm, ?_⟩
  rw [← e1, e]
  exact e3
def tdL (d : Nat) (v2 v4 v5 r3 : Int32) (s2 : St) (K : Int32 → St → Prop) : Prop := (¬ v2 = 0 → (¬ v2 = 1 → (¬ v2 = 2 → K r3 s2) ∧ (v2 = 2 → CallI d mX6_isTrue [.ref 64, .int v4, .int v5] s2 (fun r10 s9 => (r10 = 0 → K 0 s9) ∧ (¬ r10 = 0 → K 1 s9)))) ∧ (v2 = 1 → K (v5 + 5) s2)) ∧ (v2 = 0 → K v4 s2)
section LOOKS3
variable {d : Nat} {σ : St} {A : Ab} {S : Sn} {E : En} {b : Bd}
theorem td_walk {K : Int32 → St → Prop} {e : Nat} {w : Int32} (he : e < 2 ^ 31) (hE : okE E) (h : modOK σ E) (h0 : (tolds E)[e]? = none → K (-4) σ) (h1 : ∀ x q, (tolds E)[e]? = some (nI (x + 1), pv q) → tdL (d + 3) w (nI (x + 1)) (pv q) (ftE E (nI (x + 1)) (pv q)) σ K) : Go mX6_told (d + 4) 24 [.ref 64, .int (nI e), .int w, .int (nI e), .int 1, .null, .null] [] σ (QI K) := by
  have outer : ∀ k2 x, x + k2 = 600 → (TL E allP x).length ≤ e → Go mX6_told (d + 4) 24 [.ref 64, .int (nI e), .int w, .int (nI (e - (TL E allP x).length)), .int (nI (x + 1)), .null, .null] [] σ (QI K) := by
    intro k2
    induction k2 with
    | zero =>
      intro x hx hle
      refine sgX6_told_24 (br_t (nI_lt (a := 600) (by omega) (by omega)) (h0 ?_))
      rw [List.getElem?_eq_none]
      unfold tolds
      rw [show (600 : Nat) = x by omega]
      exact hle
    | succ k2 ih =>
      intro x hx hle
      refine sgX6_told_24 (br_f (nI_nlt (a := 600) (by omega) (by omega)) ?_)
      have inner : ∀ k3 q, q + k3 = 11 → (TL E allP x).length + ((allP.take q).filter (told E (nI (x + 1)))).length ≤ e → Go mX6_told (d + 4) 36 [.ref 64, .int (nI e), .int w, .int (nI (e - ((TL E allP x).length + ((allP.take q).filter (told E (nI (x + 1)))).length))), .int (nI (x + 1)), .int (pv q), .null] [] σ (QI K) := by
        intro k3
        induction k3 with
        | zero =>
          intro q hq hle2
          refine sgX6_told_36 (br_t ?_ ?_)
          · rw [Int32.lt_iff_toInt_lt, pv_toInt (by omega), k5]; omega
          · rw [nI1]
            rw [List.take_of_length_le (by rw [allP_len]; omega), ← TL_s] at hle2 ⊢
            exact ih (x + 1) (by omega) hle2
        | succ k3 ih3 =>
          intro q hq hle2
          have hk := ih3 (q + 1) (by omega)
          rw [TL_row allP (allP_get (by omega)), List.length_append] at hk
          refine sgX6_told_36 (br_f ?_ (ct_fitting hE h (by omega) (ft_br hE (fun e2 => ?_) (fun e2 => ?_))))
          · rw [Int32.lt_iff_toInt_lt, pv_toInt (by omega), k5]; omega
          · rw [pv_s]
            rw [e2, if_neg (by decide)] at hk
            exact hk hle2
          · rw [e2, if_pos rfl] at hk
            refine br_c' (fun c => ?_) (fun c => ?_)
            · rw [pv_s]
              have hlt : (TL E allP x).length + ((allP.take q).filter (told E (nI (x + 1)))).length < e := by
                rcases Nat.lt_or_ge ((TL E allP x).length + ((allP.take q).filter (told E (nI (x + 1)))).length) e with z | z
                · exact z
                · exact absurd (by rw [show e - ((TL E allP x).length + ((allP.take q).filter (told E (nI (x + 1)))).length) = 0 by omega]; rfl) c
              have em : nI (e - ((TL E allP x).length + ((allP.take q).filter (told E (nI (x + 1)))).length)) + (-1) = nI (e - ((TL E allP x).length + (((allP.take q).filter (told E (nI (x + 1)))).length + [pv q].length))) := by
                rw [show e - ((TL E allP x).length + ((allP.take q).filter (told E (nI (x + 1)))).length) = (e - ((TL E allP x).length + (((allP.take q).filter (told E (nI (x + 1)))).length + [pv q].length))) + 1 by simp; omega, pk_m1]
              rw [em]
              exact hk (by simp; omega)
            · have h0 := (nI_eq (a := e - ((TL E allP x).length + ((allP.take q).filter (told E (nI (x + 1)))).length)) (b := 0) (by omega) (by omega)).mp c
              exact h1 x q (TL_at allP (by omega) (allP_get (by omega)) e2 (by omega))
      exact inner 11 0 rfl hle
  exact outer 600 0 rfl (Nat.zero_le _)
theorem fd_eq {x q : Nat} (hx : x < 600) (hq : q < 11) : nI (x + 1) * 11 + pv q + 5 = nI (11 * (x + 1) + q) := by
  unfold pv
  rw [show (11 : Int32) = nI 11 from rfl, pk_mul, Int32.sub_eq_add_neg, ← Int32.add_assoc, Int32.add_assoc, Int32.add_left_neg, Int32.add_zero, nI_add, Nat.mul_comm]
theorem dv11 {n : Nat} (h : n < 2 ^ 31) : nI n / 11 = nI (n / 11) := pk_div (d := 11) h (by decide) (by decide)
theorem rm11 {n : Nat} (h : n < 2 ^ 31) : irem (nI n) 11 = nI (n % 11) := irem_nI (b := 11) h (by decide) (by decide)
theorem lk_told (hA : okA A) (x w : Int32) : ∃ r, LkC A r mX5_told [.ref 0, .int x, .int w] ∧ LkM A r mX6_told [.ref 64, .int x, .int w] := by
  have hok := hA.1
  have hE := okE_S hok
  have hn := hok.1
  have hm4 := hok.2.2.2.1
  have hE4 : (enS A.1).2.1.length ≤ 4 := hm4
  rcases neg_cases x with hx | ⟨g, hg, rfl, hx⟩
  · exact ⟨-1, fun σ K h k => cgX5_told (br_t hx (k σ (Fr.rf σ) (FrM.rf σ))), fun σ K h k => cgX6_told (br_t hx (k σ (FrN.rf σ)))⟩
  rcases wi_cases (n := 3) w (by decide) with h4 | ⟨m, hm, rfl, h4⟩
  · have h4' : decide ((0 : Int32).toInt ≤ w.toInt ∧ w.toInt ≤ (3 : Int32).toInt) = false := h4
    exact ⟨-1, fun σ K h k => cgX5_told (br_f hx (ct_isWithin (by rw [h4']; exact brf' rfl (k σ (Fr.rf σ) (FrM.rf σ))))), fun σ K h k => cgX6_told (br_f hx (ct_in (by rw [h4']; exact brf' rfl (k σ (FrN.rf σ)))))⟩
  have h4' : decide ((0 : Int32).toInt ≤ (nI m).toInt ∧ (nI m).toInt ≤ (3 : Int32).toInt) = true := h4
  rcases hT : (tolds (enS A.1))[g]? with _ | p
  · refine ⟨-4, fun σ K h k => cgX5_told (br_f hx (ct_isWithin ?_)), fun σ K h k => cgX6_told (br_f hx (ct_in ?_))⟩
    · rw [h4']
      refine brt' one_ne (ct_listen one_sc h.1 hok (fun σ' f e => ct_findTold hg hE e ?_))
      unfold fdE
      rw [hT]
      exact br_f (by decide) (k σ' f.S f.M)
    · rw [h4']
      exact brt' one_ne (ct_mlisten h.1 hok (fun σ' f e => td_walk (d := 5) hg hE e (fun _ => k σ' f.N) (fun x q z => by rw [hT] at z; cases z)))
  obtain ⟨x, q, hx6, hq, rfl, ht⟩ := tolds_mem (List.mem_of_getElem? hT)
  have hfd : fdE (enS A.1) g = nI (11 * (x + 1) + q) := by
    unfold fdE
    rw [hT]
    exact fd_eq hx6 hq
  have hC : ∀ (r : Int32), (∀ (σ : St) (K : Int32 → St → Prop), earOK σ (enS A.1) A.1.1.length → K r σ → (nI m = 0 → K (nI (x + 1)) σ) ∧ (¬ nI m = 0 → (nI m = 1 → K (pv q + 5) σ) ∧ (¬ nI m = 1 → (nI m = 2 → CallI 8 mX0_isTrue [.ref 54, .int (nI (x + 1)), .int (pv q)] σ (fun r13 s12 => CallI 8 mX5_asNumber [.int r13] s12 (fun r15 s14 => K r15 s14))) ∧ (¬ nI m = 2 → CallI 8 mX0_turnsThatFit [.ref 54, .int (nI (x + 1)), .int (pv q)] σ (fun r17 s16 => K r17 s16))))) → LkC A r mX5_told [.ref 0, .int (nI g), .int (nI m)] := by
    intro r hr σ K h k
    refine cgX5_told (br_f hx (ct_isWithin ?_))
    rw [h4']
    refine brt' one_ne (ct_listen one_sc h.1 hok (fun σ' f e => ct_findTold hg hE e ?_))
    rw [hfd, dv11 (by omega), rm11 (by omega), show (11 * (x + 1) + q) / 11 = x + 1 by omega, show (11 * (x + 1) + q) % 11 = q by omega]
    exact br_t (nI_le (a := 0) (by omega) (by omega)) (hr σ' K e (k σ' f.S f.M))
  have hM : ∀ (r : Int32), (∀ (σ : St) (K : Int32 → St → Prop), modOK σ (enS A.1) → K r σ → tdL 8 (nI m) (nI (x + 1)) (pv q) (ftE (enS A.1) (nI (x + 1)) (pv q)) σ K) → LkM A r mX6_told [.ref 64, .int (nI g), .int (nI m)] := by
    intro r hr σ K h k
    refine cgX6_told (br_f hx (ct_in ?_))
    rw [h4']
    refine brt' one_ne (ct_mlisten h.1 hok (fun σ' f e => td_walk (d := 5) hg hE e (fun z => by rw [hT] at z; cases z) (fun x' q' z => ?_)))
    rw [hT] at z
    injection z with z
    injection z with z1 z2
    rw [← z1, ← z2]
    exact hr σ' K e (k σ' f.N)
  rcases (show m = 0 ∨ m = 1 ∨ m = 2 ∨ m = 3 by omega) with rfl | rfl | rfl | rfl
  · exact ⟨_, hC _ (fun σ K h k => br_t rfl k), hM _ (fun σ K h k => brf' rfl k)⟩
  · exact ⟨_, hC _ (fun σ K h k => br_f (by decide) (br_t rfl k)), hM _ (fun σ K h k => brt' (by decide) (brf' rfl k))⟩
  · refine ⟨bI (isTr (enS A.1) (nI (x + 1), pv q)), hC _ (fun σ K h k => br_f (by decide) (br_f (by decide) (br_t rfl (ct_eisTrue hE h (ct_asNumber k))))), hM _ (fun σ K h k => brt' (by decide) (brt' (by decide) (brf' rfl (ct_misTrue hE h (bI_br (fun e => ?_) (fun e => ?_))))))⟩
    · rw [e] at k; exact k
    · rw [e] at k; exact k
  · refine ⟨nI (cfit (enS A.1) (nI (x + 1)) (pv q) (enS A.1).2.1.length), hC _ (fun σ K h k => br_f (by decide) (br_f (by decide) (br_f (by decide) (ct_turnsThatFit hE h hq ?_)))), hM _ (fun σ K h k => brt' (by decide) (brt' (by decide) (brt' (by decide) (by rw [ftE_told ht]; exact k))))⟩
    have h2 := ht
    unfold told at h2
    rw [Bool.and_eq_true] at h2
    unfold tfE
    rw [show nofit (enS A.1) (nI (x + 1)) (pv q) (enS A.1).2.1.length = false by simpa using h2.1, if_neg (by decide)]
    exact k
theorem hb_nlt {B : List Bd} {bl lo s v p : Int32} {j : Nat} (h : hb B bl lo s j v p = true) : ¬ p < bl := by
  unfold hb at h
  obtain ⟨b, _, h⟩ := List.any_eq_true.mp h
  simp only [Bool.and_eq_true, Bool.not_eq_true', decide_eq_false_iff_not] at h
  exact h.2
def ecL (v3 k7 k71 v5 : Int32) (s : St) (K : Int32 → St → Prop) : Prop := (¬ v3 = 0 → (¬ v3 = 1 → (¬ v3 = 2 → K k71 s) ∧ (v3 = 2 → K k7 s)) ∧ (v3 = 1 → K (irem v5 11) s)) ∧ (v3 = 0 → K (v5 / 11) s)
theorem ec_walk {K : Int32 → St → Prop} {e j : Nat} {w : Int32} (he : e < 2 ^ 31) (hE : okE E) (h : modOK σ E) (hj : j < E.2.1.length) (h0 : (hdL E j)[e]? = none → K (-4) σ) (h1 : ∀ k, k < 550 → (hdL E j)[e]? = some k → hdP E j k = true → ecL w (sA σ 70 (j * 550 + k)) (sA σ 71 (j * 550 + k)) (nI k) σ K) : Go mX6_echo (d + 1) 33 [.ref 64, .int (nI j), .int (nI e), .int w, .int (nI e), .int 0] [] σ (QI K) := by
  have hm := hE.2.2.1
  have loop : ∀ k2 i, i + k2 = 550 → (List.range i).countP (hdP E j) ≤ e → Go mX6_echo (d + 1) 33 [.ref 64, .int (nI j), .int (nI e), .int w, .int (nI (e - (List.range i).countP (hdP E j))), .int (nI i)] [] σ (QI K) := by
    intro k2
    induction k2 with
    | zero =>
      intro i hi hle
      refine sgX6_echo_33 (br_t (nI_le (a := 550) (by omega) (by omega)) (h0 ?_))
      unfold hdL
      rw [show i = 550 by omega] at hle
      exact filter_none hle
    | succ k2 ih =>
      intro i hi hle
      have hk := ih (i + 1) (by omega)
      rw [countP_rs] at hk
      have hix : nI j * 50 * 11 + nI i = nI (j * 550 + i) := by
        rw [show (50 : Int32) = nI 50 from rfl, show (11 : Int32) = nI 11 from rfl, pk_mul, pk_mul, nI_add, Nat.mul_assoc]
      have hs := mod_str hE h hj (p := i / 11) (q := i % 11) (by omega) (by omega)
      rw [show (j * 50 + i / 11) * 11 + i % 11 = j * 550 + i by omega] at hs
      have hs' : sA σ 70 (j * 550 + i) ≤ 0 ↔ hdP E j i = false := hs
      refine sgX6_echo_33 (br_f (nI_ge (b := 550) (by omega) (by omega)) ?_)
      rw [hix, ix_nI (by omega), nI1]
      refine ⟨vp_in_nI (by omega) (by omega), fun c => ?_, fun c => ?_⟩
      · rw [hs'.mp c, if_neg (by decide)] at hk
        exact hk hle
      · have hd : hdP E j i = true := by
          cases hh : hdP E j i
          · exact absurd (hs'.mpr hh) c
          · rfl
        rw [hd, if_pos rfl] at hk
        refine br_c' (fun c2 => ?_) (fun c2 => ?_)
        · have hlt : (List.range i).countP (hdP E j) < e := by
            rcases Nat.lt_or_ge ((List.range i).countP (hdP E j)) e with z | z
            · exact z
            · exact absurd (by rw [show e - (List.range i).countP (hdP E j) = 0 by omega]; rfl) c2
          rw [show e - (List.range i).countP (hdP E j) = (e - ((List.range i).countP (hdP E j) + 1)) + 1 by omega, pk_m1]
          exact hk (by omega)
        · have h0 := (nI_eq (a := e - (List.range i).countP (hdP E j)) (b := 0) (by omega) (by omega)).mp c2
          have hg : (hdL E j)[e]? = some i := filter_get (by omega) hd (by omega)
          have hL := h1 i (by omega) hg hd
          unfold ecL at hL
          exact ⟨fun a => ⟨fun b => ⟨fun c => ⟨vp_in_nI (by omega) (by omega), (((hL.1 a).1 b).1 c)⟩, fun c => ⟨vp_in_nI (by omega) (by omega), (((hL.1 a).1 b).2 c)⟩⟩, (hL.1 a).2⟩, hL.2⟩
  exact loop 550 0 rfl (Nat.zero_le _)
theorem lk_echo (hA : okA A) (x g w : Int32) : ∃ r, LkC A r mX5_echo [.ref 0, .int x, .int g, .int w] ∧ LkM A r mX6_echo [.ref 64, .int x, .int g, .int w] := by
  have hok := hA.1
  have hE := okE_S hok
  have hn := hok.1
  have hm4 := hok.2.2.2.1
  have hE4 : (enS A.1).2.1.length ≤ 4 := hm4
  rcases ix_cases (n := A.1.2.1.length) x (by omega) with ⟨h3, h3'⟩ | ⟨j, hj, rfl, h3⟩
  · exact ⟨-1, fun σ K h k => cgX5_echo (ct_hasTurn0 one_sc h.1 h3' (br_t rfl (k σ (Fr.rf σ) (FrM.rf σ)))), fun σ K h k => cgX6_echo (ct_isTurn (n := A.1.2.1.length) h.1.2.1 (by omega) (by rw [h3]; exact br_t rfl (k σ (FrN.rf σ))))⟩
  rcases neg_cases g with hx | ⟨e, he, rfl, hx⟩
  · exact ⟨-1, fun σ K h k => cgX5_echo (ct_hasTurn one_sc h.1 hm4 hj (br_f one_ne (br_t hx (k σ (Fr.rf σ) (FrM.rf σ))))), fun σ K h k => cgX6_echo (ct_isTurn (n := A.1.2.1.length) h.1.2.1 (by omega) (by rw [h3]; exact br_f one_ne (br_t hx (k σ (FrN.rf σ)))))⟩
  rcases wi_cases (n := 3) w (by decide) with h4 | ⟨m, hm, rfl, h4⟩
  · have h4' : decide ((0 : Int32).toInt ≤ w.toInt ∧ w.toInt ≤ (3 : Int32).toInt) = false := h4
    exact ⟨-1, fun σ K h k => cgX5_echo (ct_hasTurn one_sc h.1 hm4 hj (br_f one_ne (br_f hx (ct_isWithin (by rw [h4']; exact brf' rfl (k σ (Fr.rf σ) (FrM.rf σ))))))), fun σ K h k => cgX6_echo (ct_isTurn (n := A.1.2.1.length) h.1.2.1 (by omega) (by rw [h3]; exact br_f one_ne (br_f hx (ct_in (by rw [h4']; exact brf' rfl (k σ (FrN.rf σ)))))))⟩
  have h4' : decide ((0 : Int32).toInt ≤ (nI m).toInt ∧ (nI m).toInt ≤ (3 : Int32).toInt) = true := h4
  rcases hT : (hdL (enS A.1) j)[e]? with _ | i
  · refine ⟨-4, fun σ K h k => cgX5_echo (ct_hasTurn one_sc h.1 hm4 hj (br_f one_ne (br_f hx (ct_isWithin ?_)))), fun σ K h k => cgX6_echo (ct_isTurn (n := A.1.2.1.length) h.1.2.1 (by omega) ?_)⟩
    · rw [h4']
      refine brt' one_ne (ct_listen one_sc h.1 hok (fun σ' f e2 => ct_findEcho he hE e2 hj ?_))
      unfold feE
      rw [hT]
      exact br_f (by decide) (k σ' f.S f.M)
    · rw [h3]
      refine br_f one_ne (br_f hx (ct_in ?_))
      rw [h4']
      exact brt' one_ne (ct_mlisten h.1 hok (fun σ' f e2 => ec_walk (d := 8) he hE e2 hj (fun _ => k σ' f.N) (fun k' _ z => by rw [hT] at z; cases z)))
  have hmem := List.mem_of_getElem? hT
  unfold hdL at hmem
  obtain ⟨hi1, hi2⟩ := List.mem_filter.mp hmem
  have hi : i < 550 := List.mem_range.mp hi1
  have hfe : feE (enS A.1) j e = nI i := by
    unfold feE
    rw [hT]
  have hC : ∀ (r : Int32), (∀ (σ : St) (K : Int32 → St → Prop), earOK σ (enS A.1) A.1.1.length → K r σ → (nI m = 0 → K (nI (i / 11)) σ) ∧ (¬ nI m = 0 → (nI m = 1 → K ((nI (i % 11) - 5) + 5) σ) ∧ (¬ nI m = 1 → (nI m = 2 → CallI 8 mX0_strengthTogether [.ref 54, .int (nI j), .int (nI (i / 11)), .int (nI (i % 11) - 5)] σ (fun r16 s15 => K r16 s15)) ∧ (¬ nI m = 2 → CallI 8 mX0_sourcesTogether [.ref 54, .int (nI j), .int (nI (i / 11)), .int (nI (i % 11) - 5)] σ (fun r18 s17 => K r18 s17))))) → LkC A r mX5_echo [.ref 0, .int (nI j), .int (nI e), .int (nI m)] := by
    intro r hr σ K h k
    refine cgX5_echo (ct_hasTurn one_sc h.1 hm4 hj (br_f one_ne (br_f hx (ct_isWithin ?_))))
    rw [h4']
    refine brt' one_ne (ct_listen one_sc h.1 hok (fun σ' f e2 => ct_findEcho he hE e2 hj ?_))
    rw [hfe, dv11 (by omega), rm11 (by omega)]
    exact br_t (nI_le (a := 0) (by omega) (by omega)) (hr σ' K e2 (k σ' f.S f.M))
  have hM : ∀ (r : Int32), (∀ (σ : St) (K : Int32 → St → Prop), modOK σ (enS A.1) → K r σ → ecL (nI m) (sA σ 70 (j * 550 + i)) (sA σ 71 (j * 550 + i)) (nI i) σ K) → LkM A r mX6_echo [.ref 64, .int (nI j), .int (nI e), .int (nI m)] := by
    intro r hr σ K h k
    refine cgX6_echo (ct_isTurn (n := A.1.2.1.length) h.1.2.1 (by omega) ?_)
    rw [h3]
    refine br_f one_ne (br_f hx (ct_in ?_))
    rw [h4']
    refine brt' one_ne (ct_mlisten h.1 hok (fun σ' f e2 => ec_walk (d := 8) he hE e2 hj (fun z => by rw [hT] at z; cases z) (fun k' _ z _ => ?_)))
    rw [hT] at z
    injection z with z
    rw [← z]
    exact hr σ' K e2 (k σ' f.N)
  have hfun : htE (enS A.1) (j * 550 + i) = partB (enS A.1).2.2.2 (spE (enS A.1) j) j (pv (i % 11)) (nI (i / 11)) := by
    have hn2 : ¬ nI (i / 11) < (enS A.1).2.2.1 := hb_nlt hi2
    funext b
    unfold htE
    rw [show (j * 550 + i) / 550 = j by omega, show (j * 550 + i) % 11 = i % 11 by omega, show (j * 550 + i) / 11 % 50 = i / 11 by omega, decide_eq_false hn2, Bool.not_false, Bool.and_true]
  have h70 : ∀ σ : St, modOK σ (enS A.1) → sA σ 70 (j * 550 + i) = sumS (partB (enS A.1).2.2.2 (spE (enS A.1) j) j (pv (i % 11)) (nI (i / 11))) (enS A.1).1 ∧ sA σ 71 (j * 550 + i) = nI ((enS A.1).1.countP (partB (enS A.1).2.2.2 (spE (enS A.1) j) j (pv (i % 11)) (nI (i / 11)))) := by
    intro σ h
    have h2 := h.2.2 (j * 550 + i) (by omega)
    unfold pS pC at h2
    rw [show (j * 550 + i) / 550 = j by omega, if_pos (show j < (enS A.1).2.1.length from hj), if_pos (show j < (enS A.1).2.1.length from hj), hfun] at h2
    exact h2
  rcases (show m = 0 ∨ m = 1 ∨ m = 2 ∨ m = 3 by omega) with rfl | rfl | rfl | rfl
  · exact ⟨_, hC _ (fun σ K h k => br_t rfl k), hM _ (fun σ K h k => brf' rfl (by rw [dv11 (by omega)]; exact k))⟩
  · exact ⟨nI (i % 11), hC _ (fun σ K h k => br_f (by decide) (br_t rfl (by rw [Int32.sub_add_cancel]; exact k))), hM _ (fun σ K h k => brt' (by decide) (brf' rfl (by rw [rm11 (by omega)]; exact k)))⟩
  · exact ⟨_, hC _ (fun σ K h k => br_f (by decide) (br_f (by decide) (br_t rfl (ct_strengthTogether hE h hj k)))), hM _ (fun σ K h k => brt' (by decide) (brt' (by decide) (brf' rfl (by rw [(h70 σ h).1]; exact k))))⟩
  · exact ⟨_, hC _ (fun σ K h k => br_f (by decide) (br_f (by decide) (br_f (by decide) (ct_sourcesTogether hE h hj k)))), hM _ (fun σ K h k => brt' (by decide) (brt' (by decide) (brt' (by decide) (by rw [(h70 σ h).2]; exact k))))⟩
end LOOKS3
