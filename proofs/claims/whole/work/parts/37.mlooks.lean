/-! the model: its looks -/
def ftE (E : En) (x v : Int32) : Int32 := if nofit E x v E.2.1.length then 0 else nI (cfit E x v E.2.1.length)
theorem sumS_pos (f : Bd → Bool) (l : List Bd) (h : ∀ b ∈ l, okBd b) (hl : l.length ≤ 21) : ∀ n, n ≤ l.length → (0 ≤ (sumS f (l.take n)).toInt ∧ (sumS f (l.take n)).toInt ≤ 99 * n) ∧ ((sumS f (l.take n) ≤ 0) ↔ (l.take n).any f = false) := by
  intro n
  induction n with
  | zero =>
    intro _
    rw [List.take_zero, show sumS f ([] : List Bd) = 0 from rfl]
    refine ⟨⟨by decide, by decide⟩, ?_⟩
    exact ⟨fun _ => rfl, fun _ => by decide⟩
  | succ n ih =>
    intro hn
    obtain ⟨b, hb⟩ := get_of (l := l) (i := n) (by omega)
    have hok := h b (List.mem_of_getElem? hb)
    obtain ⟨⟨i1, i2⟩, i3⟩ := ih (by omega)
    rw [take_s hb, sumS_app, List.any_append]
    cases hf : f b
    · simp only [Bool.false_eq_true, if_false, List.any_cons, List.any_nil, hf, Bool.or_false]
      exact ⟨⟨i1, by omega⟩, i3⟩
    · simp only [if_true, List.any_cons, List.any_nil, hf, Bool.or_false, Bool.or_true]
      have hs : (sumS f (l.take n) + b.2.1).toInt = (sumS f (l.take n)).toInt + b.2.1.toInt := tI_add (by have := hok.2.1; omega) (by have := hok.2.1; omega)
      have h2 := hok.2.1
      refine ⟨⟨by omega, by omega⟩, ?_⟩
      rw [Int32.le_iff_toInt_le, hs, k0]
      exact ⟨fun z => by omega, fun z => by cases z⟩
theorem allP_get {q : Nat} (h : q < 11) : allP[q]? = some (pv q) := by
  unfold allP
  rw [List.getElem?_map, List.getElem?_range h]
  rfl
theorem allP_len : allP.length = 11 := by unfold allP; simp
section MLOOK
variable {d : Nat} {σ : St} {E : En} {b : Bd} {S : Sn}
theorem hb_ht {j p q : Nat} (hp : p < 50) (hq : q < 11) : E.1.any (htE E ((j * 50 + p) * 11 + q)) = hbE E j (pv q) (nI p) := by
  have h0 := ht_at (j := j) (p := p) (q := q) (k := 0) (i := (j * 50 + p) * 11 + q) (x := 0) (v := 0) hp hq rfl
  unfold hbE hb
  have : htE E ((j * 50 + p) * 11 + q) = fun b => !decide (b.2.1 < E.2.2.2) && decide (b.2.2.1 = pv q) && decide (pl (spE E j) b.1 b.2.2.1 j = nI p) && !decide (nI p < E.2.2.1) := by
    funext b
    unfold htE partB
    rw [h0.1, h0.2.1, h0.2.2]
  rw [this]
theorem mod_str (hE : okE E) (h : modOK σ E) {j p q : Nat} (hj : j < E.2.1.length) (hp : p < 50) (hq : q < 11) : (sA σ 70 ((j * 50 + p) * 11 + q) ≤ 0 ↔ hbE E j (pv q) (nI p) = false) := by
  have hm := hE.2.2.1
  have h0 := ht_at (j := j) (p := p) (q := q) (k := 0) (i := (j * 50 + p) * 11 + q) (x := 0) (v := 0) hp hq rfl
  rw [(h.2.2 _ (by omega)).1]
  unfold pS
  rw [h0.1, if_pos hj]
  have := (sumS_pos (htE E ((j * 50 + p) * 11 + q)) E.1 hE.2.1 hE.1 E.1.length (Nat.le_refl _)).2
  rw [List.take_length] at this
  rw [this, hb_ht hp hq]
theorem ct_mfit {K : Int32 → St → Prop} {j q : Nat} {x : Int32} (hE : okE E) (h : modOK σ E) (hj : j < E.2.1.length) (hq : q < 11) (k : K (nI (fitE E x (pv q) j)) σ) : CallI (d + 2) mX6_fit [.ref 64, .int x, .int (pv q), .int (nI j)] σ K := by
  have hm := hE.2.2.1
  have hsp : 10 ≤ (spE E j).toInt ∧ (spE E j).toInt ≤ 50 := by
    obtain ⟨s, hs⟩ := get_of hj
    rw [spE_get hs]
    exact hE.2.2.2.1 s (List.mem_of_getElem? hs)
  obtain ⟨p, hp, ep⟩ := pl_lt (s := spE E j) (x := x) (v := pv q) (j := j) (by omega)
  have epE : plE E j x (pv q) = nI p := ep
  refine cgX6_fit (ct_placeIn hE h.2.1 hj ?_)
  rw [h.2.1.2.1]
  unfold fitE at k
  refine br_c (fun c => ?_) (fun c => ?_)
  · rw [if_neg (Int32.not_lt.mpr c)] at k
    rw [epE] at k ⊢
    have hx0 : (j * 50 + p) * 11 + q < 2200 := by omega
    refine ct_mark (q := q) rfl ⟨vp_in_nI hx0 (by omega), ?_⟩
    rw [ix_nI (by omega)]
    have hs := mod_str hE h hj hp hq
    refine ⟨fun c2 => ?_, fun c2 => ?_⟩
    · rw [hs.mp c2, if_neg (by decide)] at k; exact k
    · have : hbE E j (pv q) (nI p) = true := by
        cases hh : hbE E j (pv q) (nI p)
        · exact absurd (hs.mpr hh) c2
        · rfl
      rw [this, if_pos rfl] at k; exact k
  · rw [if_pos (Int32.not_le.mp c)] at k; exact k
theorem ct_fitting {K : Int32 → St → Prop} {q : Nat} {x : Int32} (hE : okE E) (h : modOK σ E) (hq : q < 11) (k : K (ftE E x (pv q)) σ) : CallI (d + 3) mX6_fitting [.ref 64, .int x, .int (pv q)] σ K := by
  have hm := hE.2.2.1
  refine cgX6_fitting ?_
  have loop : ∀ k2 i, i + k2 = E.2.1.length → nofit E x (pv q) i = false → Go mX6_fitting (d + 3) 5 [.ref 64, .int x, .int (pv q), .int (nI (cfit E x (pv q) i)), .int (nI i), .null] [] σ (QI K) := by
    intro k2
    induction k2 with
    | zero =>
      intro i hi hf
      refine sgX6_fitting_5 ?_
      rw [h.2.1.1]
      refine br_t (nI_le (by omega) (by omega)) ?_
      rw [show i = E.2.1.length by omega] at hf ⊢
      unfold ftE at k
      rw [hf, if_neg (by decide)] at k
      exact k
    | succ k2 ih =>
      intro i hi hf
      refine sgX6_fitting_5 ?_
      rw [h.2.1.1, nI1, nI1]
      have hk := ih (i + 1) (by omega)
      rw [nofit_s, cfit_s, hf, Bool.false_or] at hk
      refine br_f (nI_ge (by omega) (by omega)) (ct_mfit hE h (by omega) hq ?_)
      have hle := fitE_le E x (pv q) i
      refine br_c' (fun c => ?_) (fun c => ?_)
      · have h0 : fitE E x (pv q) i ≠ 0 := fun z => c (by rw [z]; rfl)
        refine br_c' (fun c2 => ?_) (fun c2 => ?_)
        · have h1 : fitE E x (pv q) i ≠ 1 := fun z => c2 (by rw [z]; rfl)
          rw [if_neg h1] at hk
          rw [Int32.add_zero]
          exact hk (by simp [h0])
        · have h1 : fitE E x (pv q) i = 1 := (nI_eq (by omega) (by omega)).mp c2
          rw [if_pos h1] at hk
          exact hk (by rw [h1]; rfl)
      · have h0 : fitE E x (pv q) i = 0 := (nI_eq (by omega) (by omega)).mp c
        have hno : nofit E x (pv q) E.2.1.length = true := by
          unfold nofit
          exact List.any_eq_true.mpr ⟨i, List.mem_range.mpr (by omega), by rw [h0]; rfl⟩
        unfold ftE at k
        rw [hno, if_pos rfl] at k
        exact k
  exact loop E.2.1.length 0 (by omega) rfl
theorem ftE_pos {x v : Int32} (hE : okE E) : (ftE E x v ≤ 0 ↔ told E x v = false) := by
  have hm := hE.2.2.1
  have hc := cfit_le E x v E.2.1.length
  unfold ftE told
  cases hno : nofit E x v E.2.1.length
  · simp only [Bool.false_eq_true, if_false, Bool.not_false, Bool.true_and, decide_eq_false_iff_not]
    rw [show (0 : Int32) = nI 0 from rfl, nI_leI (by omega) (by omega)]
    omega
  · simp only [if_true, Bool.not_true, Bool.false_and]
    exact ⟨fun _ => trivial, fun _ => by decide⟩
theorem ftE_told {x v : Int32} (h : told E x v = true) : ftE E x v = nI (cfit E x v E.2.1.length) := by
  unfold told at h
  rw [Bool.and_eq_true] at h
  unfold ftE
  rw [show nofit E x v E.2.1.length = false by simpa using h.1, if_neg (by decide)]
theorem ft_br {x v : Int32} {P Q : Prop} (hE : okE E) (h0 : told E x v = false → P) (h1 : told E x v = true → Q) : (ftE E x v ≤ 0 → P) ∧ (¬ ftE E x v ≤ 0 → Q) := by
  refine ⟨fun c => h0 ((ftE_pos hE).mp c), fun c => h1 ?_⟩
  cases h : told E x v
  · exact absurd ((ftE_pos hE).mpr h) c
  · rfl
theorem ct_misTrue {K : Int32 → St → Prop} {x v : Int32} (hE : okE E) (h : modOK σ E) (k : K (bI (isTr E (x, v))) σ) : CallI (d + 2) mX6_isTrue [.ref 64, .int x, .int v] σ K := by
  have h21 := hE.1
  refine cgX6_isTrue ?_
  have loop : ∀ k2 i, i + k2 = E.1.length → Go mX6_isTrue (d + 2) 5 [.ref 64, .int x, .int v, .int (bI ((E.1.take i).any (posB x v))), .int (nI i)] [] σ (QI K) := by
    intro k2
    induction k2 with
    | zero =>
      intro i hi
      refine sgX6_isTrue_5 ?_
      rw [h.1.1]
      refine br_t (nI_le (by omega) (by omega)) ⟨nar_b (bI_01 _), ?_⟩
      rw [List.take_of_length_le (by omega)]
      exact k
    | succ k2 ih =>
      intro i hi
      obtain ⟨b, hb⟩ := get_of (l := E.1) (i := i) (by omega)
      have hrow := h.1.2 i b hb
      have hk := ih (i + 1) (by omega)
      have hs : (E.1.take (i + 1)).any (posB x v) = ((E.1.take i).any (posB x v) || posB x v b) := by rw [take_s hb, List.any_append]; simp
      rw [hs] at hk
      refine sgX6_isTrue_5 ?_
      rw [h.1.1, nI1]
      refine br_f (nI_ge (by omega) (by omega)) (bI_br' (fun e => ?_) (fun e => ?_))
      · rw [e, Bool.false_or] at hk
        refine ct_body0 (by omega) hrow.1 (br_c' (fun c => ?_) (fun c => ct_body (w := 2) (by omega) (by omega) ?_))
        · rw [show posB x v b = false by unfold posB; rw [decide_eq_false c]; rfl] at hk; exact hk
        · rw [hrow.2.2.1]
          refine br_c' (fun c2 => ?_) (fun c2 => ?_)
          · rw [show posB x v b = false by unfold posB; rw [decide_eq_false c2, Bool.and_false]] at hk; exact hk
          · rw [show posB x v b = true by unfold posB; rw [decide_eq_true c, decide_eq_true c2]; rfl] at hk; exact hk
      · rw [e, Bool.true_or] at hk
        exact hk
  exact loop E.1.length 0 (by omega)
/-- counted by f: what is told -/
def cntT (E : En) (f : Int32 × Int32 → Bool) (x q : Nat) : Nat := (TL E allP x).countP f + ((allP.take q).filter (told E (nI (x + 1)))).countP (fun v => f (nI (x + 1), v))
theorem cntT_11 (f : Int32 × Int32 → Bool) (x : Nat) : cntT E f x 11 = cntT E f (x + 1) 0 := by
  unfold cntT
  rw [List.take_of_length_le (by rw [allP_len]; omega), List.take_zero, List.filter_nil, List.countP_nil, Nat.add_zero]
  show _ = (TL E allP x ++ (allP.filter (told E (nI (x + 1)))).map (fun v => (nI (x + 1), v))).countP f
  rw [List.countP_append, List.countP_map]
  rfl
theorem cntT_s (f : Int32 × Int32 → Bool) (x : Nat) {q : Nat} (hq : q < 11) : cntT E f x (q + 1) = cntT E f x q + (if told E (nI (x + 1)) (pv q) && f (nI (x + 1), pv q) then 1 else 0) := by
  unfold cntT
  rw [TL_row allP (allP_get hq), List.countP_append]
  cases h : told E (nI (x + 1)) (pv q)
  · simp
  · simp only [if_true, Bool.true_and]
    rw [List.countP_cons, List.countP_nil]
    omega
theorem ct_toldMany {K : Int32 → St → Prop} {ph : Bool} (hE : okE E) (h : modOK σ E) (k : K (nI (if ph then phant E else (tolds E).length)) σ) : CallI (d + 4) mX6_toldMany [.ref 64, .int (bI ph)] σ K := by
  refine cgX6_toldMany ?_
  have hf : (if ph then phant E else (tolds E).length) = cntT E (fun e => !(ph && isTr E e)) 600 0 := by
    unfold cntT
    rw [List.take_zero, List.filter_nil, List.countP_nil, Nat.add_zero]
    cases ph
    · simp [tolds]
    · simp [tolds, phant]
  rw [hf] at k
  have outer : ∀ k2 x, x + k2 = 600 → Go mX6_toldMany (d + 4) 4 [.ref 64, .int (bI ph), .int (nI (cntT E (fun e => !(ph && isTr E e)) x 0)), .int (nI (x + 1)), .null] [] σ (QI K) := by
    intro k2
    induction k2 with
    | zero =>
      intro x hx
      refine sgX6_toldMany_4 (br_t (nI_lt (a := 600) (by omega) (by omega)) ?_)
      rw [show x = 600 by omega]
      exact k
    | succ k2 ih =>
      intro x hx
      refine sgX6_toldMany_4 (br_f (nI_nlt (a := 600) (by omega) (by omega)) ?_)
      have inner : ∀ k3 q, q + k3 = 11 → Go mX6_toldMany (d + 4) 15 [.ref 64, .int (bI ph), .int (nI (cntT E (fun e => !(ph && isTr E e)) x q)), .int (nI (x + 1)), .int (pv q)] [] σ (QI K) := by
        intro k3
        induction k3 with
        | zero =>
          intro q hq
          refine sgX6_toldMany_15 (br_t ?_ ?_)
          · rw [Int32.lt_iff_toInt_lt, pv_toInt (by omega), k5]; omega
          · rw [nI1, show q = 11 by omega, cntT_11]
            exact ih (x + 1) (by omega)
        | succ k3 ih3 =>
          intro q hq
          have hk := ih3 (q + 1) (by omega)
          rw [cntT_s _ _ (by omega)] at hk
          refine sgX6_toldMany_15 (br_f ?_ (ct_fitting hE h (by omega) (ft_br hE (fun e => ?_) (fun e => bI_br (fun e2 => ?_) (fun e2 => ct_misTrue hE h (bI_br' (fun e3 => ?_) (fun e3 => ?_)))))))
          · rw [Int32.lt_iff_toInt_lt, pv_toInt (by omega), k5]; omega
          · rw [e, Bool.false_and, if_neg (by decide), Nat.add_zero] at hk
            rw [pv_s, Int32.add_zero]; exact hk
          · rw [e, e2, if_pos (by rfl)] at hk
            rw [pv_s, nI1, e2]; exact hk
          · rw [e, e2, e3, if_pos (by rfl)] at hk
            rw [pv_s, nI1, e2]; exact hk
          · rw [e, e2, e3, if_neg (by decide), Nat.add_zero] at hk
            rw [pv_s, Int32.add_zero, e2]; exact hk
      exact inner 11 0 rfl
  exact outer 600 0 rfl
theorem ct_isTold {K : Int32 → St → Prop} {i : Nat} (hE : okE E) (h : modOK σ E) (hi : E.1[i]? = some b) (k : K (bI (told E b.1 b.2.2.1)) σ) : CallI (d + 4) mX6_isTold [.ref 64, .int (nI i)] σ K := by
  have hl := lt_of hi
  have h21 := hE.1
  obtain ⟨q, hq, e⟩ := pitch_of (hE.2.1 b (List.mem_of_getElem? hi)).2.2
  have hrow := h.1.2 i b hi
  refine cgX6_isTold (ct_body0 (by omega) hrow.1 (ct_body (w := 2) (by omega) (by omega) ?_))
  rw [hrow.2.2.1]
  rw [e] at k ⊢
  refine ct_fitting hE h hq (ft_br hE (fun e2 => ?_) (fun e2 => ?_))
  · have e2' : told E b.1 (nI q - 5) = false := e2
    rw [e2'] at k; exact k
  · have e2' : told E b.1 (nI q - 5) = true := e2
    rw [e2'] at k; exact k
theorem ct_missed {K : Int32 → St → Prop} (hE : okE E) (h : modOK σ E) (k : K (nI (missE E)) σ) : CallI (d + 5) mX6_missed [.ref 64] σ K := by
  have h21 := hE.1
  refine cgX6_missed ?_
  have loop : ∀ k2 i, i + k2 = E.1.length → Go mX6_missed (d + 5) 4 [.ref 64, .int (nI ((E.1.take i).countP (fun b => !told E b.1 b.2.2.1))), .int (nI i)] [] σ (QI K) := by
    intro k2
    induction k2 with
    | zero =>
      intro i hi
      refine sgX6_missed_4 ?_
      rw [h.1.1]
      refine br_t (nI_le (by omega) (by omega)) ?_
      rw [List.take_of_length_le (by omega)]
      exact k
    | succ k2 ih =>
      intro i hi
      obtain ⟨b, hb⟩ := get_of (l := E.1) (i := i) (by omega)
      have hk := ih (i + 1) (by omega)
      rw [take_s hb, List.countP_append, List.countP_cons, List.countP_nil, Nat.zero_add] at hk
      refine sgX6_missed_4 ?_
      rw [h.1.1, nI1, nI1]
      refine br_f (nI_ge (by omega) (by omega)) (ct_isTold hE h hb (bI_br (fun e => ?_) (fun e => ?_)))
      · rw [e, Bool.not_false, if_pos rfl] at hk
        exact hk
      · rw [e, Bool.not_true, if_neg (by decide), Nat.add_zero] at hk
        rw [Int32.add_zero]
        exact hk
  exact loop E.1.length 0 (by omega)
theorem ct_faintMany {K : Int32 → St → Prop} (hE : okE E) (h : modOK σ E) (k : K (nI (E.1.countP (fun b => decide (b.2.1 < E.2.2.2)))) σ) : CallI (d + 3) mX6_faintMany [.ref 64] σ K := by
  have h21 := hE.1
  refine cgX6_faintMany ?_
  have loop : ∀ k2 i, i + k2 = E.1.length → Go mX6_faintMany (d + 3) 4 [.ref 64, .int (nI ((E.1.take i).countP (fun b => decide (b.2.1 < E.2.2.2)))), .int (nI i)] [] σ (QI K) := by
    intro k2
    induction k2 with
    | zero =>
      intro i hi
      refine sgX6_faintMany_4 ?_
      rw [h.1.1]
      refine br_t (nI_le (by omega) (by omega)) ?_
      rw [List.take_of_length_le (by omega)]
      exact k
    | succ k2 ih =>
      intro i hi
      obtain ⟨b, hb⟩ := get_of (l := E.1) (i := i) (by omega)
      have hk := ih (i + 1) (by omega)
      rw [take_s hb, List.countP_append, List.countP_cons, List.countP_nil, Nat.zero_add] at hk
      refine sgX6_faintMany_4 ?_
      rw [h.1.1, nI1, nI1]
      refine br_f (nI_ge (by omega) (by omega)) (ct_mfaint h.1 h21 h.2.1 hb (bI_br (fun e => ?_) (fun e => ?_)))
      · rw [e, if_neg (by decide), Nat.add_zero] at hk
        rw [Int32.add_zero]
        exact hk
      · rw [e, if_pos rfl] at hk
        exact hk
  exact loop E.1.length 0 (by omega)
def ltJ (E : En) (j : Nat) (b : Bd) : Bool := !decide (b.2.1 < E.2.2.2) && decide (plE E j b.1 b.2.2.1 < E.2.2.1)
theorem ct_lostMany {K : Int32 → St → Prop} (hE : okE E) (h : modOK σ E) (k : K (nI (sm (fun j => E.1.countP (ltJ E j)) E.2.1.length)) σ) : CallI (d + 4) mX6_lostMany [.ref 64] σ K := by
  have h21 := hE.1
  have hm := hE.2.2.1
  refine cgX6_lostMany ?_
  have outer : ∀ k2 j, j + k2 = E.2.1.length → Go mX6_lostMany (d + 4) 4 [.ref 64, .int (nI (sm (fun j => E.1.countP (ltJ E j)) j)), .int (nI j), .null] [] σ (QI K) := by
    intro k2
    induction k2 with
    | zero =>
      intro j hj
      refine sgX6_lostMany_4 ?_
      rw [h.2.1.1]
      refine br_t (nI_le (by omega) (by omega)) ?_
      rw [show j = E.2.1.length by omega]
      exact k
    | succ k2 ih =>
      intro j hj
      refine sgX6_lostMany_4 ?_
      rw [h.2.1.1]
      refine br_f (nI_ge (by omega) (by omega)) ?_
      have inner : ∀ k3 i, i + k3 = E.1.length → Go mX6_lostMany (d + 4) 16 [.ref 64, .int (nI (sm (fun j => E.1.countP (ltJ E j)) j + (E.1.take i).countP (ltJ E j))), .int (nI j), .int (nI i)] [] σ (QI K) := by
        intro k3
        induction k3 with
        | zero =>
          intro i hi
          refine sgX6_lostMany_16 ?_
          rw [h.1.1, nI1]
          refine br_t (nI_le (by omega) (by omega)) ?_
          rw [List.take_of_length_le (by omega)]
          exact ih (j + 1) (by omega)
        | succ k3 ih3 =>
          intro i hi
          obtain ⟨b, hb⟩ := get_of (l := E.1) (i := i) (by omega)
          have hk := ih3 (i + 1) (by omega)
          rw [take_s hb, List.countP_append, List.countP_cons, List.countP_nil, Nat.zero_add] at hk
          refine sgX6_lostMany_16 ?_
          rw [h.1.1]
          refine br_f (nI_ge (by omega) (by omega)) (ct_isLost hE h.1 h.2.1 (by omega) hb ?_)
          show (bI (ltJ E j b) = 0 → _) ∧ (¬ bI (ltJ E j b) = 0 → _)
          refine bI_br (fun e => ?_) (fun e => ?_)
          · rw [e, if_neg (by decide), Nat.add_zero] at hk
            rw [Int32.add_zero, nI1]
            exact hk
          · rw [e, if_pos rfl, ← Nat.add_assoc] at hk
            rw [nI1, nI1]
            exact hk
      exact inner E.1.length 0 (by omega)
  exact outer E.2.1.length 0 (by omega)
theorem ct_walls {K : Int32 → St → Prop} (hS : mSc (sA σ 65) S) (hok : okS S) (k : K (nI (S.1.countP isW)) σ) : CallI (d + 2) mX6_walls [.ref 64] σ K := by
  have hn := hok.1
  refine cgX6_walls ?_
  have loop : ∀ k2 i, i + k2 = S.1.length → Go mX6_walls (d + 2) 4 [.ref 64, .int (nI ((S.1.take i).countP isW)), .int (nI i)] [] σ (QI K) := by
    intro k2
    induction k2 with
    | zero =>
      intro i hi
      refine sgX6_walls_4 ?_
      rw [hS.1]
      refine br_t (nI_le (by omega) (by omega)) ?_
      rw [List.take_of_length_le (by omega)]
      exact k
    | succ k2 ih =>
      intro i hi
      obtain ⟨t, ht⟩ := get_of (l := S.1) (i := i) (by omega)
      have hk := ih (i + 1) (by omega)
      rw [take_s ht, List.countP_append, List.countP_cons, List.countP_nil, Nat.zero_add] at hk
      refine sgX6_walls_4 ?_
      rw [hS.1]
      refine br_f (nI_ge (by omega) (by omega)) (ct_of (w := 3) (by omega) (by omega) ?_)
      rw [(hS.2.2.2.2.1 i t ht).2.2.2]
      rcases wOK hok t (List.mem_of_getElem? ht) with e | e
      · rw [show isW t = false by unfold isW; rw [e]; decide, if_neg (by decide), Nat.add_zero] at hk
        rw [e, Int32.add_zero, nI1]
        exact hk
      · rw [show isW t = true by unfold isW; rw [e]; decide, if_pos rfl] at hk
        rw [e, nI1, nI1]
        exact hk
  exact loop S.1.length 0 (by omega)
/-- the model's count of echoes -/
def echN (E : En) (i : Nat) : Nat := bN (decide (i / 550 < E.2.1.length) && hbE E (i / 550) (pv (i % 11)) (nI (i / 11 % 50)))
theorem ct_echoes {K : Int32 → St → Prop} (hE : okE E) (h : modOK σ E) (k : K (nI (sm (echN E) 2200)) σ) : CallI (d + 1) mX6_echoes [.ref 64] σ K := by
  have hm := hE.2.2.1
  refine cgX6_echoes ?_
  have loop : ∀ k2 i, i + k2 = 2200 → Go mX6_echoes (d + 1) 4 [.ref 64, .int (nI (sm (echN E) i)), .int (nI i)] [] σ (QI K) := by
    intro k2
    induction k2 with
    | zero =>
      intro i hi
      refine sgX6_echoes_4 (br_t (nI_le (a := 2200) (by omega) (by omega)) ?_)
      rw [show i = 2200 by omega]
      exact k
    | succ k2 ih =>
      intro i hi
      have hk := ih (i + 1) (by omega)
      rw [show sm (echN E) (i + 1) = sm (echN E) i + echN E i from rfl] at hk
      refine sgX6_echoes_4 (br_f (nI_ge (b := 2200) (by omega) (by omega)) ⟨vp_in_nI (by omega) (by omega), ?_⟩)
      rw [ix_nI (by omega), nI1, nI1, Int32.add_zero]
      have hix : (i / 550 * 50 + i / 11 % 50) * 11 + i % 11 = i := by omega
      unfold echN at hk
      by_cases hj : i / 550 < E.2.1.length
      · have hs := mod_str hE h hj (p := i / 11 % 50) (q := i % 11) (by omega) (by omega)
        rw [hix] at hs
        rw [decide_eq_true hj, Bool.true_and] at hk
        refine ⟨fun c => ?_, fun c => ?_⟩
        · rw [hs.mp c] at hk; exact hk
        · have : hbE E (i / 550) (pv (i % 11)) (nI (i / 11 % 50)) = true := by
            cases hh : hbE E (i / 550) (pv (i % 11)) (nI (i / 11 % 50))
            · exact absurd (hs.mpr hh) c
            · rfl
          rw [this] at hk; exact hk
      · rw [decide_eq_false hj, Bool.false_and] at hk
        have h0 : sA σ 70 i = 0 := by
          rw [(h.2.2 i (by omega)).1]
          unfold pS
          rw [if_neg hj, List.take_zero]
          split <;> rfl
        rw [h0]
        exact br_t (by decide) hk
  exact loop 2200 0 rfl
end MLOOK
