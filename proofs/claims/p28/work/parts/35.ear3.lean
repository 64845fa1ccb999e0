/-! the class Ear: its looks -/
section EAR3
variable {d : Nat} {σ : St} {E : En} {n : Nat} {b : Bd}
theorem earOK.sp (hE : okE E) (h : earOK σ E n) {j : Nat} (hj : j < E.2.1.length) : sA σ 60 j = spE E j ∧ (10 ≤ (spE E j).toInt ∧ (spE E j).toInt ≤ 50) ∧ earT σ E.1 E.2.2.1 E.2.2.2 (spE E j) j := by
  obtain ⟨s, hs⟩ := get_of hj
  rw [spE_get hs]
  have := h.2.2.2.2.2.1 j s hs
  exact ⟨this.1, hE.2.2.2.1 s (List.mem_of_getElem? hs), this.2⟩
theorem ct_isHeard {K : Int32 → St → Prop} {j q p : Nat} (hE : okE E) (h : earOK σ E n) (hj : j < E.2.1.length) (hq : q < 11) (hp : p < 50) (k : K (bI (hbE E j (pv q) (nI p))) σ) : CallI (d + 1) mX0_isHeard [.ref 54, .int (nI j), .int (pv q), .int (nI p)] σ K := by
  have hm := hE.2.2.1
  refine cgX0_isHeard ?_
  rw [rowI j (show pv q = nI q - 5 from rfl), ix_nI (by omega)]
  refine br_f (nI_pos (by omega)) (br_f (nI_ge (b := 44) (by omega) (by omega)) ⟨vp_in_nI (by omega) (by omega), ?_⟩)
  have hb := (h.sp hE hj).2.2 q hq p (by omega)
  have hb' : (sL σ (11 * j + q)).toBitVec.getLsbD p = hbE E j (pv q) (nI p) := hb
  refine ⟨fun c => ?_, fun c => ?_⟩
  · rw [heard_bit _ hp] at c
    rw [← hb', c] at k; exact k
  · have : (sL σ (11 * j + q)).toBitVec.getLsbD p = true := by
      cases hh : (sL σ (11 * j + q)).toBitVec.getLsbD p
      · exact absurd ((heard_bit _ hp).mpr hh) c
      · rfl
    rw [← hb', this] at k; exact k
theorem ct_fitOf {K : Int32 → St → Prop} {j q : Nat} {x : Int32} (hE : okE E) (h : earOK σ E n) (hj : j < E.2.1.length) (hq : q < 11) (k : K (nI (fitE E x (pv q) j)) σ) : CallI (d + 2) mX0_fitOf [.ref 54, .int x, .int (pv q), .int (nI j)] σ K := by
  have hsp := h.sp hE hj
  have hm := hE.2.2.1
  obtain ⟨p, hp, ep⟩ := pl_lt (s := spE E j) (x := x) (v := pv q) (j := j) (by omega)
  refine cgX0_fitOf (ct_placeOf (by omega) hsp.1 (by omega) ?_)
  rw [h.2.2.2.1]
  unfold fitE plE at k
  refine br_c (fun c => ?_) (fun c => ?_)
  · rw [if_neg (Int32.not_lt.mpr c)] at k
    rw [ep] at k ⊢
    refine ct_isHeard hE h hj hq hp (bI_br (fun e => ?_) (fun e => ?_))
    · rw [e, if_neg (by decide)] at k; exact k
    · rw [e, if_pos rfl] at k; exact k
  · rw [if_pos (Int32.not_le.mp c)] at k; exact k
def tfE (E : En) (x v : Int32) : Int32 := if nofit E x v E.2.1.length then -1 else nI (cfit E x v E.2.1.length)
theorem ct_turnsThatFit {K : Int32 → St → Prop} {q : Nat} {x : Int32} (hE : okE E) (h : earOK σ E n) (hq : q < 11) (k : K (tfE E x (pv q)) σ) : CallI (d + 3) mX0_turnsThatFit [.ref 54, .int x, .int (pv q)] σ K := by
  have hm := hE.2.2.1
  refine cgX0_turnsThatFit ?_
  have loop : ∀ k2 i, i + k2 = E.2.1.length → nofit E x (pv q) i = false → Go mX0_turnsThatFit (d + 3) 5 [.ref 54, .int x, .int (pv q), .int (nI (cfit E x (pv q) i)), .int (nI i), .null] [] σ (QI K) := by
    intro k2
    induction k2 with
    | zero =>
      intro i hi hf
      refine sgX0_turnsThatFit_5 ?_
      rw [h.2.2.1]
      refine br_t (nI_le (by omega) (by omega)) ?_
      rw [show i = E.2.1.length by omega] at hf ⊢
      unfold tfE at k
      rw [hf, if_neg (by decide)] at k
      exact k
    | succ k2 ih =>
      intro i hi hf
      refine sgX0_turnsThatFit_5 ?_
      rw [h.2.2.1, nI1, nI1]
      have hk := ih (i + 1) (by omega)
      rw [nofit_s, cfit_s, hf, Bool.false_or] at hk
      refine br_f (nI_ge (by omega) (by omega)) (ct_fitOf hE h (by omega) hq ?_)
      have hle := fitE_le E x (pv q) i
      refine br_c' (fun c => ?_) (fun c => ?_)
      · have h0 : fitE E x (pv q) i ≠ 0 := fun z => c (by rw [z]; rfl)
        refine br_c' (fun c2 => ?_) (fun c2 => ?_)
        · have h1 : fitE E x (pv q) i ≠ 1 := fun z => c2 (by rw [z]; rfl)
          rw [if_neg h1] at hk
          rw [Int32.add_zero]
          exact hk (by simp [h0])
        · have h1 : fitE E x (pv q) i = 1 := (nI_eq (by omega) (by omega)).mp c2
          rw [if_pos h1] at hk
          exact hk (by rw [h1]; rfl)
      · have h0 : fitE E x (pv q) i = 0 := (nI_eq (by omega) (by omega)).mp c
        have hno : nofit E x (pv q) E.2.1.length = true := by
          unfold nofit
          exact List.any_eq_true.mpr ⟨i, List.mem_range.mpr (by omega), by rw [h0]; rfl⟩
        unfold tfE at k
        rw [hno, if_pos rfl] at k
        exact k
  exact loop E.2.1.length 0 (by omega) rfl
theorem tfE_pos {x v : Int32} (hE : okE E) : (tfE E x v ≤ 0 ↔ told E x v = false) := by
  have hm := hE.2.2.1
  have hc := cfit_le E x v E.2.1.length
  unfold tfE told
  cases hno : nofit E x v E.2.1.length
  · simp only [Bool.false_eq_true, if_false, Bool.not_false, Bool.true_and, decide_eq_false_iff_not]
    rw [show (0 : Int32) = nI 0 from rfl, nI_leI (by omega) (by omega)]
    omega
  · simp only [if_true, Bool.not_true, Bool.false_and]
    exact ⟨fun _ => trivial, fun _ => by decide⟩
theorem tfE_told {x v : Int32} (h : told E x v = true) : tfE E x v = nI (cfit E x v E.2.1.length) := by
  unfold told at h
  rw [Bool.and_eq_true] at h
  unfold tfE
  rw [show nofit E x v E.2.1.length = false by simpa using h.1, if_neg (by decide)]
/-- by what is told -/
theorem told_br {x v : Int32} {P Q : Prop} (hE : okE E) (h0 : told E x v = false → P) (h1 : told E x v = true → Q) : (tfE E x v ≤ 0 → P) ∧ (¬ tfE E x v ≤ 0 → Q) := by
  refine ⟨fun c => h0 ((tfE_pos hE).mp c), fun c => h1 ?_⟩
  cases h : told E x v
  · exact absurd ((tfE_pos hE).mpr h) c
  · rfl
theorem ct_isToldSource {K : Int32 → St → Prop} {i : Nat} (hE : okE E) (h : earOK σ E n) (hi : E.1[i]? = some b) (k : K (bI (told E b.1 b.2.2.1)) σ) : CallI (d + 4) mX0_isToldSource [.ref 54, .int (nI i)] σ K := by
  obtain ⟨q, hq, e⟩ := pitch_of (hE.2.1 b (List.mem_of_getElem? hi)).2.2
  refine cgX0_isToldSource (ct_edist h.1 hE.1 hi (ct_emov h.1 hE.1 hi ?_))
  rw [e] at k ⊢
  refine ct_turnsThatFit hE h hq (told_br hE (fun e2 => ?_) (fun e2 => ?_))
  · have e2' : told E b.1 (nI q - 5) = false := e2
    rw [e2'] at k; exact k
  · have e2' : told E b.1 (nI q - 5) = true := e2
    rw [e2'] at k; exact k
def posB (x v : Int32) (b : Bd) : Bool := decide (b.1 = x) && decide (b.2.2.1 = v)
theorem ct_sourcesAt {K : Int32 → St → Prop} {x v : Int32} {m : Nat} (hE : okE E) (h : earOK σ E n) (hm : m ≤ E.1.length) (k : K (nI ((E.1.take m).countP (posB x v))) σ) : CallI (d + 3) mX0_sourcesAt [.ref 54, .int x, .int v, .int (nI m)] σ K := by
  have h21 := hE.1
  refine cgX0_sourcesAt ?_
  have loop : ∀ k2 i, i + k2 = m → Go mX0_sourcesAt (d + 3) 6 [.ref 54, .int x, .int v, .int (nI m), .int (nI ((E.1.take i).countP (posB x v))), .int (nI i)] [] σ (QI K) := by
    intro k2
    induction k2 with
    | zero =>
      intro i hi
      refine sgX0_sourcesAt_6 (br_t (nI_le (by omega) (by omega)) ?_)
      rw [show i = m by omega]
      exact k
    | succ k2 ih =>
      intro i hi
      obtain ⟨b, hb⟩ := get_of (l := E.1) (i := i) (by omega)
      have hk := ih (i + 1) (by omega)
      rw [take_s hb, List.countP_append, List.countP_cons, List.countP_nil, Nat.zero_add] at hk
      refine sgX0_sourcesAt_6 (br_f (nI_ge (by omega) (by omega)) (ct_edist h.1 h21 hb ?_))
      rw [nI1, nI1]
      have no : posB x v b = false → Go mX0_sourcesAt (d + 3) 6 [.ref 54, .int x, .int v, .int (nI m), .int (nI ((E.1.take i).countP (posB x v))), .int (nI (i + 1))] [] σ (QI K) := fun e => by
        rw [e, if_neg (by decide), Nat.add_zero] at hk; exact hk
      refine br_c' (fun c => no (by unfold posB; rw [decide_eq_false c]; rfl)) (fun c => ct_emov h.1 h21 hb (br_c' (fun c2 => no (by unfold posB; rw [decide_eq_false c2, Bool.and_false])) (fun c2 => ?_)))
      have : posB x v b = true := by unfold posB; rw [decide_eq_true c, decide_eq_true c2]; rfl
      rw [this, if_pos rfl] at hk
      exact hk
  exact loop m 0 (by omega)
theorem ct_eisTrue {K : Int32 → St → Prop} {x v : Int32} (hE : okE E) (h : earOK σ E n) (k : K (bI (isTr E (x, v))) σ) : CallI (d + 4) mX0_isTrue [.ref 54, .int x, .int v] σ K := by
  have h21 := hE.1
  refine cgX0_isTrue ?_
  rw [h.1.1]
  refine ct_sourcesAt hE h (Nat.le_refl _) ?_
  rw [List.take_length]
  have hle := List.countP_le_length (p := posB x v) (l := E.1)
  have e : isTr E (x, v) = decide (0 < E.1.countP (posB x v)) := by
    unfold isTr
    cases hh : E.1.any (fun b => decide (b.1 = x) && decide (b.2.2.1 = v))
    · symm
      apply decide_eq_false
      rw [List.countP_pos_iff]
      rintro ⟨b, hb, h2⟩
      have := List.any_eq_false.mp hh b hb
      exact this h2
    · symm
      apply decide_eq_true
      obtain ⟨b, hb, h2⟩ := List.any_eq_true.mp hh
      exact List.countP_pos_iff.mpr ⟨b, hb, h2⟩
  rw [e] at k
  refine pk_le _ 0 (fun c => ?_) (fun c => ?_) rfl rfl (by omega)
  · rw [decide_eq_false (by omega)] at k; exact k
  · rw [decide_eq_true c] at k; exact k
theorem pits_get {i : Nat} {v : Int32} (h : (pits E.1 E.2.2.2)[i]? = some v) : ∃ q, q < 11 ∧ v = pv q := by
  have hm := List.mem_of_getElem? h
  unfold pits allP at hm
  obtain ⟨h1, -⟩ := List.mem_filter.mp hm
  obtain ⟨q, hq, e⟩ := List.mem_map.mp h1
  exact ⟨q, List.mem_range.mp hq, e.symm⟩
theorem pits_len : (pits E.1 E.2.2.2).length ≤ 11 := by
  unfold pits
  refine Nat.le_trans (List.length_filter_le _ _) ?_
  unfold allP
  simp
theorem tolds_le : (TL E (pits E.1 E.2.2.2) 600).length ≤ 6600 := by
  have h1 := TL_len_le E (pits E.1 E.2.2.2) 600
  have h2 := pits_len (E := E)
  have : 600 * (pits E.1 E.2.2.2).length ≤ 600 * 11 := Nat.mul_le_mul (Nat.le_refl _) h2
  omega
/-- told before the place i of the pitches at the distance x + 1 -/
theorem TL_row (V : List Int32) {x i : Nat} {v : Int32} (hv : V[i]? = some v) : ((V.take (i + 1)).filter (told E (nI (x + 1)))) = ((V.take i).filter (told E (nI (x + 1)))) ++ (if told E (nI (x + 1)) v then [v] else []) := by
  rw [take_s hv, List.filter_append]
  congr 1
  cases h : told E (nI (x + 1)) v
  · rw [List.filter_cons_of_neg (by rw [h]; decide)]; rfl
  · rw [List.filter_cons_of_pos (by rw [h])]; rfl
theorem TL_s (V : List Int32) (x : Nat) : (TL E V (x + 1)).length = (TL E V x).length + ((V.filter (told E (nI (x + 1))))).length := by
  show (TL E V x ++ (V.filter (told E (nI (x + 1)))).map (fun v => (nI (x + 1), v))).length = _
  rw [List.length_append, List.length_map]
theorem ct_toldCount {K : Int32 → St → Prop} (hE : okE E) (h : earOK σ E n) (k : K (nI (tolds E).length) σ) : CallI (d + 4) mX0_toldCount [.ref 54] σ K := by
  have hp11 := pits_len (E := E)
  have hP := h.2.2.2.2.2.2
  refine cgX0_toldCount ?_
  have outer : ∀ k2 x, x + k2 = 600 → Go mX0_toldCount (d + 4) 4 [.ref 54, .int (nI (TL E (pits E.1 E.2.2.2) x).length), .int (nI (x + 1)), .null] [] σ (QI K) := by
    intro k2
    induction k2 with
    | zero =>
      intro x hx
      refine sgX0_toldCount_4 (br_t (nI_lt (a := 600) (by omega) (by omega)) ?_)
      rw [show x = 600 by omega, TL_pits]
      exact k
    | succ k2 ih =>
      intro x hx
      refine sgX0_toldCount_4 (br_f (nI_nlt (a := 600) (by omega) (by omega)) ?_)
      have inner : ∀ k3 i, i + k3 = (pits E.1 E.2.2.2).length → Go mX0_toldCount (d + 4) 13 [.ref 54, .int (nI ((TL E (pits E.1 E.2.2.2) x).length + (((pits E.1 E.2.2.2).take i).filter (told E (nI (x + 1)))).length)), .int (nI (x + 1)), .int (nI i)] [] σ (QI K) := by
        intro k3
        induction k3 with
        | zero =>
          intro i hi
          refine sgX0_toldCount_13 ?_
          rw [hP.1, nI1]
          refine br_t (nI_le (by omega) (by omega)) ?_
          rw [List.take_of_length_le (by omega), ← TL_s]
          exact ih (x + 1) (by omega)
        | succ k3 ih3 =>
          intro i hi
          obtain ⟨v, hv⟩ := get_of (l := pits E.1 E.2.2.2) (i := i) (by omega)
          obtain ⟨q, hq, e⟩ := pits_get hv
          have hk := ih3 (i + 1) (by omega)
          rw [TL_row _ hv, List.length_append] at hk
          refine sgX0_toldCount_13 ?_
          rw [hP.1, nI1, nI1, nI1, ix_nI (by omega), hP.2 i v hv, e]
          rw [e] at hk
          refine br_f (nI_ge (by omega) (by omega)) (br_f (nI_ge (b := 11) (by omega) (by omega)) ⟨vp_in_nI (by omega) (by omega), ct_turnsThatFit hE h hq (told_br hE (fun e2 => ?_) (fun e2 => ?_))⟩)
          · rw [e2, if_neg (by decide)] at hk
            exact hk
          · rw [e2, if_pos rfl, ← Nat.add_assoc] at hk
            exact hk
      exact inner (pits E.1 E.2.2.2).length 0 (by omega)
  exact outer 600 0 (by omega)
/-- the answer of a search: the place of a told one, or none -/
def fdE (E : En) (e : Nat) : Int32 := match (tolds E)[e]? with
  | some (x, v) => x * 11 + v + 5
  | none => -4
theorem ct_findTold {K : Int32 → St → Prop} {e : Nat} (he : e < 2 ^ 31) (hE : okE E) (h : earOK σ E n) (k : K (fdE E e) σ) : CallI (d + 4) mX0_findTold [.ref 54, .int (nI e)] σ K := by
  have hp11 := pits_len (E := E)
  have hP := h.2.2.2.2.2.2
  refine cgX0_findTold ?_
  have outer : ∀ k2 x, x + k2 = 600 → (TL E (pits E.1 E.2.2.2) x).length ≤ e → Go mX0_findTold (d + 4) 4 [.ref 54, .int (nI e), .int (nI (e - (TL E (pits E.1 E.2.2.2) x).length)), .int (nI (x + 1)), .null] [] σ (QI K) := by
    intro k2
    induction k2 with
    | zero =>
      intro x hx hle
      refine sgX0_findTold_4 (br_t (nI_lt (a := 600) (by omega) (by omega)) ?_)
      have : (tolds E)[e]? = none := by
        rw [List.getElem?_eq_none]
        unfold tolds
        rw [← TL_pits, show (600 : Nat) = x by omega]
        exact hle
      unfold fdE at k
      rw [this] at k
      exact k
    | succ k2 ih =>
      intro x hx hle
      refine sgX0_findTold_4 (br_f (nI_nlt (a := 600) (by omega) (by omega)) ?_)
      have inner : ∀ k3 i, i + k3 = (pits E.1 E.2.2.2).length → (TL E (pits E.1 E.2.2.2) x).length + (((pits E.1 E.2.2.2).take i).filter (told E (nI (x + 1)))).length ≤ e → Go mX0_findTold (d + 4) 14 [.ref 54, .int (nI e), .int (nI (e - ((TL E (pits E.1 E.2.2.2) x).length + (((pits E.1 E.2.2.2).take i).filter (told E (nI (x + 1)))).length))), .int (nI (x + 1)), .int (nI i)] [] σ (QI K) := by
        intro k3
        induction k3 with
        | zero =>
          intro i hi hle2
          refine sgX0_findTold_14 ?_
          rw [hP.1, nI1]
          refine br_t (nI_le (by omega) (by omega)) ?_
          rw [List.take_of_length_le (by omega), ← TL_s] at hle2 ⊢
          exact ih (x + 1) (by omega) hle2
        | succ k3 ih3 =>
          intro i hi hle2
          obtain ⟨v, hv⟩ := get_of (l := pits E.1 E.2.2.2) (i := i) (by omega)
          obtain ⟨q, hq, ev⟩ := pits_get hv
          have hk := ih3 (i + 1) (by omega)
          rw [TL_row _ hv, List.length_append] at hk
          refine sgX0_findTold_14 ?_
          rw [hP.1, nI1, nI1, ix_nI (by omega), hP.2 i v hv]
          refine br_f (nI_ge (by omega) (by omega)) (br_f (nI_ge (b := 11) (by omega) (by omega)) ⟨vp_in_nI (by omega) (by omega), ?_⟩)
          have hvq : ∀ K' : Int32 → St → Prop, K' (tfE E (nI (x + 1)) v) σ → CallI (d + 3) mX0_turnsThatFit [.ref 54, .int (nI (x + 1)), .int v] σ K' := fun K' k' => by rw [ev] at k' ⊢; exact ct_turnsThatFit hE h hq k'
          refine hvq _ (told_br hE (fun e2 => ?_) (fun e2 => ?_))
          · rw [e2, if_neg (by decide)] at hk
            exact hk hle2
          · rw [e2, if_pos rfl] at hk
            refine br_c' (fun c => ?_) (fun c => ⟨vp_in_nI (by omega) (by omega), ?_⟩)
            · have hlt : (TL E (pits E.1 E.2.2.2) x).length + (((pits E.1 E.2.2.2).take i).filter (told E (nI (x + 1)))).length < e := by
                rcases Nat.lt_or_ge ((TL E (pits E.1 E.2.2.2) x).length + (((pits E.1 E.2.2.2).take i).filter (told E (nI (x + 1)))).length) e with z | z
                · exact z
                · exact absurd (by rw [show e - ((TL E (pits E.1 E.2.2.2) x).length + (((pits E.1 E.2.2.2).take i).filter (told E (nI (x + 1)))).length) = 0 by omega]; rfl) c
              have em : nI (e - ((TL E (pits E.1 E.2.2.2) x).length + (((pits E.1 E.2.2.2).take i).filter (told E (nI (x + 1)))).length)) + (-1) = nI (e - ((TL E (pits E.1 E.2.2.2) x).length + ((((pits E.1 E.2.2.2).take i).filter (told E (nI (x + 1)))).length + [v].length))) := by
                rw [show e - ((TL E (pits E.1 E.2.2.2) x).length + (((pits E.1 E.2.2.2).take i).filter (told E (nI (x + 1)))).length) = (e - ((TL E (pits E.1 E.2.2.2) x).length + ((((pits E.1 E.2.2.2).take i).filter (told E (nI (x + 1)))).length + [v].length))) + 1 by simp; omega, pk_m1]
              rw [em]
              exact hk (by simp; omega)
            · have h0 := (nI_eq (a := e - ((TL E (pits E.1 E.2.2.2) x).length + (((pits E.1 E.2.2.2).take i).filter (told E (nI (x + 1)))).length)) (b := 0) (by omega) (by omega)).mp c
              have hee : e = (TL E (pits E.1 E.2.2.2) x).length + (((pits E.1 E.2.2.2).take i).filter (told E (nI (x + 1)))).length := by omega
              refine cgX0_codeOf ?_
              have hfd : fdE E e = nI (x + 1) * 11 + v + 5 := by
                unfold fdE
                have : (tolds E)[e]? = some (nI (x + 1), v) := by
                  unfold tolds
                  rw [← TL_pits]
                  obtain ⟨s, hs⟩ := TL_pre E (pits E.1 E.2.2.2) (k := x + 1) (n := 600) (by omega)
                  have hrow : (pits E.1 E.2.2.2).filter (told E (nI (x + 1))) = ((pits E.1 E.2.2.2).take i).filter (told E (nI (x + 1))) ++ v :: ((pits E.1 E.2.2.2).drop (i + 1)).filter (told E (nI (x + 1))) := by
                    have h1 : pits E.1 E.2.2.2 = (pits E.1 E.2.2.2).take i ++ v :: (pits E.1 E.2.2.2).drop (i + 1) := by
                      have h2 := List.drop_eq_getElem_cons (l := pits E.1 E.2.2.2) (i := i) (by omega)
                      rw [(List.getElem?_eq_some_iff.mp hv).2] at h2
                      rw [← h2, List.take_append_drop]
                    conv => lhs; rw [h1]
                    rw [List.filter_append, List.filter_cons_of_pos e2]
                  have hTL : TL E (pits E.1 E.2.2.2) (x + 1) = TL E (pits E.1 E.2.2.2) x ++ ((pits E.1 E.2.2.2).filter (told E (nI (x + 1)))).map (fun v => (nI (x + 1), v)) := rfl
                  rw [hs, hTL, hrow, List.map_append, List.map_cons, List.append_assoc, List.append_assoc, List.getElem?_append_right (by omega), List.getElem?_append_right (by rw [List.length_map]; omega), List.length_map]
                  rw [show e - (TL E (pits E.1 E.2.2.2) x).length - (((pits E.1 E.2.2.2).take i).filter (told E (nI (x + 1)))).length = 0 by omega]
                  rfl
                rw [this]
              rw [hfd] at k
              rw [hP.2 i v hv]
              exact k
      exact inner (pits E.1 E.2.2.2).length 0 (by omega) hle
  exact outer 600 0 (by omega) (Nat.zero_le _)
/-- true ones among the first i bodies, each place once -/
def trC (E : En) : Nat → Nat
  | 0 => 0
  | i + 1 => trC E i + (match E.1[i]? with | some b => if told E b.1 b.2.2.1 && ((E.1.take i).countP (posB b.1 b.2.2.1) == 0) then 1 else 0 | none => 0)
theorem ct_trueCount {K : Int32 → St → Prop} (hE : okE E) (h : earOK σ E n) (k : K (nI (trC E E.1.length)) σ) : CallI (d + 5) mX0_trueCount [.ref 54] σ K := by
  have h21 := hE.1
  refine cgX0_trueCount ?_
  have loop : ∀ k2 i, i + k2 = E.1.length → Go mX0_trueCount (d + 5) 4 [.ref 54, .int (nI (trC E i)), .int (nI i)] [] σ (QI K) := by
    intro k2
    induction k2 with
    | zero =>
      intro i hi
      refine sgX0_trueCount_4 ?_
      rw [h.1.1]
      refine br_t (nI_le (by omega) (by omega)) ?_
      rw [show i = E.1.length by omega]
      exact k
    | succ k2 ih =>
      intro i hi
      obtain ⟨b, hb⟩ := get_of (l := E.1) (i := i) (by omega)
      have hk := ih (i + 1) (by omega)
      have hs : trC E (i + 1) = trC E i + (if told E b.1 b.2.2.1 && ((E.1.take i).countP (posB b.1 b.2.2.1) == 0) then 1 else 0) := by
        show trC E i + (match E.1[i]? with | some b => if told E b.1 b.2.2.1 && ((E.1.take i).countP (posB b.1 b.2.2.1) == 0) then 1 else 0 | none => 0) = _
        rw [hb]
      rw [hs] at hk
      have hle := List.countP_le_length (p := posB b.1 b.2.2.1) (l := E.1.take i)
      rw [List.length_take] at hle
      refine sgX0_trueCount_4 ?_
      rw [h.1.1, nI1, nI1]
      refine br_f (nI_ge (by omega) (by omega)) (ct_isToldSource hE h hb (bI_br (fun e => ?_) (fun e => ct_edist h.1 h21 hb (ct_emov h.1 h21 hb (ct_sourcesAt hE h (by omega) ?_)))))
      · rw [e, Bool.false_and, if_neg (by decide), Nat.add_zero] at hk
        exact hk
      · rw [e, Bool.true_and] at hk
        refine br_c' (fun c => ?_) (fun c => ?_)
        · have h0 : ¬ (E.1.take i).countP (posB b.1 b.2.2.1) = 0 := fun z => c (by rw [z]; rfl)
          rw [if_neg (by simpa using h0), Nat.add_zero] at hk
          exact hk
        · have h0 : (E.1.take i).countP (posB b.1 b.2.2.1) = 0 := (nI_eq (b := 0) (by omega) (by omega)).mp c
          rw [if_pos (by rw [h0]; rfl)] at hk
          exact hk
  exact loop E.1.length 0 (by omega)
theorem ct_missedCount {K : Int32 → St → Prop} (hE : okE E) (h : earOK σ E n) (k : K (nI (missE E)) σ) : CallI (d + 5) mX0_missedCount [.ref 54] σ K := by
  have h21 := hE.1
  refine cgX0_missedCount ?_
  have loop : ∀ k2 i, i + k2 = E.1.length → Go mX0_missedCount (d + 5) 4 [.ref 54, .int (nI ((E.1.take i).countP (fun b => !told E b.1 b.2.2.1))), .int (nI i)] [] σ (QI K) := by
    intro k2
    induction k2 with
    | zero =>
      intro i hi
      refine sgX0_missedCount_4 ?_
      rw [h.1.1]
      refine br_t (nI_le (by omega) (by omega)) ?_
      rw [List.take_of_length_le (by omega)]
      exact k
    | succ k2 ih =>
      intro i hi
      obtain ⟨b, hb⟩ := get_of (l := E.1) (i := i) (by omega)
      have hk := ih (i + 1) (by omega)
      rw [take_s hb, List.countP_append, List.countP_cons, List.countP_nil, Nat.zero_add] at hk
      refine sgX0_missedCount_4 ?_
      rw [h.1.1, nI1, nI1]
      refine br_f (nI_ge (by omega) (by omega)) (ct_isToldSource hE h hb (bI_br (fun e => ?_) (fun e => ?_)))
      · rw [e, Bool.not_false, if_pos rfl] at hk
        exact hk
      · rw [e, Bool.not_true, if_neg (by decide), Nat.add_zero] at hk
        rw [Int32.add_zero]
        exact hk
  exact loop E.1.length 0 (by omega)
theorem ct_ghostCount {K : Int32 → St → Prop} (hE : okE E) (h : earOK σ E n) (hn : n ≤ E.1.length) (k : K (nI (E.1.length - n)) σ) : CallI (d + 1) mX0_ghostCount [.ref 54] σ K := by
  refine cgX0_ghostCount ?_
  rw [h.1.1, h.2.1, pk_sub hn]
  exact k
def gwB (w : Int32) (b : Bd) : Bool := decide (b.2.2.2.1 = w) || decide (b.2.2.2.2 = w)
theorem ct_ghostsOf {K : Int32 → St → Prop} {w : Int32} (hE : okE E) (h : earOK σ E n) (hn : n ≤ E.1.length) (k : K (nI ((E.1.drop n).countP (gwB w))) σ) : CallI (d + 3) mX0_ghostsOf [.ref 54, .int w] σ K := by
  have h21 := hE.1
  refine cgX0_ghostsOf ?_
  rw [h.2.1]
  have loop : ∀ k2 i, i + k2 = E.1.length → n ≤ i → Go mX0_ghostsOf (d + 3) 7 [.ref 54, .int w, .int (nI (((E.1.take i).drop n).countP (gwB w))), .int (nI i)] [] σ (QI K) := by
    intro k2
    induction k2 with
    | zero =>
      intro i hi hni
      refine sgX0_ghostsOf_7 ?_
      rw [h.1.1]
      refine br_t (nI_le (by omega) (by omega)) ?_
      rw [List.take_of_length_le (by omega)]
      exact k
    | succ k2 ih =>
      intro i hi hni
      obtain ⟨b, hb⟩ := get_of (l := E.1) (i := i) (by omega)
      have hk := ih (i + 1) (by omega) (by omega)
      rw [take_s hb, List.drop_append_of_le_length (by rw [List.length_take]; omega), List.countP_append, List.countP_cons, List.countP_nil, Nat.zero_add] at hk
      refine sgX0_ghostsOf_7 ?_
      rw [h.1.1, nI1, nI1]
      refine br_f (nI_ge (by omega) (by omega)) (ct_elw h.1 h21 hb (br_c (fun c => ?_) (fun c => ct_egw h.1 h21 hb (br_c' (fun c2 => ?_) (fun c2 => ?_)))))
      · rw [show gwB w b = true by unfold gwB; rw [decide_eq_true c]; rfl, if_pos rfl] at hk; exact hk
      · rw [show gwB w b = false by unfold gwB; rw [decide_eq_false c, decide_eq_false c2]; rfl, if_neg (by decide), Nat.add_zero] at hk; exact hk
      · rw [show gwB w b = true by unfold gwB; rw [decide_eq_true c2, Bool.or_true], if_pos rfl] at hk; exact hk
  have h0 : ((E.1.take n).drop n) = [] := by rw [List.drop_eq_nil_iff, List.length_take]; omega
  have := loop (E.1.length - n) n (by omega) (Nat.le_refl _)
  rw [h0] at this
  exact this
theorem ct_lostTurns {K : Int32 → St → Prop} {i : Nat} (hE : okE E) (h : earOK σ E n) (hi : E.1[i]? = some b) (k : K (nI (lostB E b)) σ) : CallI (d + 4) mX0_lostTurns [.ref 54, .int (nI i)] σ K := by
  have hm := hE.2.2.1
  refine cgX0_lostTurns ?_
  by_cases hf : b.2.1 < E.2.2.2
  · unfold lostB at k
    rw [if_pos hf] at k
    refine sgX0_lostTurns_4 ?_
    rw [h.2.2.1]
    refine br_c (fun _ => k) (fun _ => ct_efaint h.1 hE.1 h.2.2.2.2.1 hi ?_)
    rw [decide_eq_true hf]
    exact br_c' (fun _ => k) (fun c => absurd c one_ne)
  · unfold lostB at k
    rw [if_neg hf] at k
    have loop : ∀ k2 j, j + k2 = E.2.1.length → Go mX0_lostTurns (d + 4) 4 [.ref 54, .int (nI i), .int (nI ((List.range j).countP (fun j => decide (plE E j b.1 b.2.2.1 < E.2.2.1)))), .int (nI j)] [] σ (QI K) := by
      intro k2
      induction k2 with
      | zero =>
        intro j hj
        refine sgX0_lostTurns_4 ?_
        rw [h.2.2.1]
        refine br_t (nI_le (by omega) (by omega)) ?_
        rw [show j = E.2.1.length by omega]
        exact k
      | succ k2 ih =>
        intro j hj
        have hk := ih (j + 1) (by omega)
        rw [countP_rs] at hk
        have hsp := h.sp hE (j := j) (by omega)
        refine sgX0_lostTurns_4 ?_
        rw [h.2.2.1, nI1, nI1]
        refine br_f (nI_ge (by omega) (by omega)) (ct_efaint h.1 hE.1 h.2.2.2.2.1 hi ?_)
        rw [decide_eq_false hf]
        refine br_c' (fun c => absurd rfl c) (fun _ => ct_edist h.1 hE.1 hi (ct_emov h.1 hE.1 hi (ct_placeOf (by omega) hsp.1 (by omega) ?_)))
        rw [h.2.2.2.1]
        refine br_c (fun c => ?_) (fun c => ?_)
        · rw [decide_eq_false (show ¬ plE E j b.1 b.2.2.1 < E.2.2.1 from Int32.not_lt.mpr c), if_neg (by decide), Nat.add_zero] at hk
          exact hk
        · rw [decide_eq_true (show plE E j b.1 b.2.2.1 < E.2.2.1 from Int32.not_le.mp c), if_pos rfl] at hk
          exact hk
    exact loop E.2.1.length 0 (by omega)
def lsum (E : En) : Nat → Nat
  | 0 => 0
  | i + 1 => lsum E i + (match E.1[i]? with | some b => lostB E b | none => 0)
theorem ct_lostCount {K : Int32 → St → Prop} (hE : okE E) (h : earOK σ E n) (k : K (nI (lsum E E.1.length)) σ) : CallI (d + 5) mX0_lostCount [.ref 54] σ K := by
  have h21 := hE.1
  refine cgX0_lostCount ?_
  have loop : ∀ k2 i, i + k2 = E.1.length → Go mX0_lostCount (d + 5) 4 [.ref 54, .int (nI (lsum E i)), .int (nI i)] [] σ (QI K) := by
    intro k2
    induction k2 with
    | zero =>
      intro i hi
      refine sgX0_lostCount_4 ?_
      rw [h.1.1]
      refine br_t (nI_le (by omega) (by omega)) ?_
      rw [show i = E.1.length by omega]
      exact k
    | succ k2 ih =>
      intro i hi
      obtain ⟨b, hb⟩ := get_of (l := E.1) (i := i) (by omega)
      have hk := ih (i + 1) (by omega)
      have hs : lsum E (i + 1) = lsum E i + lostB E b := by
        show lsum E i + (match E.1[i]? with | some b => lostB E b | none => 0) = _
        rw [hb]
      rw [hs] at hk
      refine sgX0_lostCount_4 ?_
      rw [h.1.1, nI1]
      refine br_f (nI_ge (by omega) (by omega)) (ct_lostTurns hE h hb ?_)
      rw [nI_add]
      exact hk
  exact loop E.1.length 0 (by omega)
theorem ct_faintCount {K : Int32 → St → Prop} (hE : okE E) (h : earOK σ E n) (k : K (nI (E.1.countP (fun b => decide (b.2.1 < E.2.2.2)))) σ) : CallI (d + 4) mX0_faintCount [.ref 54] σ K := by
  have h21 := hE.1
  refine cgX0_faintCount ?_
  have loop : ∀ k2 i, i + k2 = E.1.length → Go mX0_faintCount (d + 4) 4 [.ref 54, .int (nI ((E.1.take i).countP (fun b => decide (b.2.1 < E.2.2.2)))), .int (nI i)] [] σ (QI K) := by
    intro k2
    induction k2 with
    | zero =>
      intro i hi
      refine sgX0_faintCount_4 ?_
      rw [h.1.1]
      refine br_t (nI_le (by omega) (by omega)) ?_
      rw [List.take_of_length_le (by omega)]
      exact k
    | succ k2 ih =>
      intro i hi
      obtain ⟨b, hb⟩ := get_of (l := E.1) (i := i) (by omega)
      have hk := ih (i + 1) (by omega)
      rw [take_s hb, List.countP_append, List.countP_cons, List.countP_nil, Nat.zero_add] at hk
      refine sgX0_faintCount_4 ?_
      rw [h.1.1, nI1, nI1]
      refine br_f (nI_ge (by omega) (by omega)) (ct_efaint h.1 h21 h.2.2.2.2.1 hb (bI_br (fun e => ?_) (fun e => ?_)))
      · rw [e, if_neg (by decide), Nat.add_zero] at hk
        rw [Int32.add_zero]
        exact hk
      · rw [e, if_pos rfl] at hk
        exact hk
  exact loop E.1.length 0 (by omega)
theorem ct_isPartOf {K : Int32 → St → Prop} {i j : Nat} {v p : Int32} (hE : okE E) (h : earOK σ E n) (hj : j < E.2.1.length) (hi : E.1[i]? = some b) (k : K (bI (partB E.2.2.2 (spE E j) j v p b)) σ) : CallI (d + 4) mX0_isPartOf [.ref 54, .int (nI i), .int (nI j), .int p, .int v] σ K := by
  have hm := hE.2.2.1
  have hsp := h.sp hE hj
  unfold partB at k
  refine cgX0_isPartOf (ct_efaint h.1 hE.1 h.2.2.2.2.1 hi (bI_br' (fun e => ct_emov h.1 hE.1 hi (br_c' (fun c => ?_) (fun c => ct_edist h.1 hE.1 hi (ct_placeOf (by omega) hsp.1 (by omega) (br_c' (fun c2 => ?_) (fun c2 => ?_)))))) (fun e => ?_)))
  · rw [decide_eq_false c, Bool.and_false, Bool.false_and] at k; exact k
  · rw [c, decide_eq_false c2, Bool.and_false] at k; exact k
  · rw [c, e, decide_eq_true c2, decide_eq_true rfl] at k; exact k
  · rw [e, Bool.not_true, Bool.false_and, Bool.false_and] at k; exact k
theorem ct_strengthTogether {K : Int32 → St → Prop} {j : Nat} {v p : Int32} (hE : okE E) (h : earOK σ E n) (hj : j < E.2.1.length) (k : K (sumS (partB E.2.2.2 (spE E j) j v p) E.1) σ) : CallI (d + 5) mX0_strengthTogether [.ref 54, .int (nI j), .int p, .int v] σ K := by
  have h21 := hE.1
  refine cgX0_strengthTogether ?_
  have loop : ∀ k2 i, i + k2 = E.1.length → Go mX0_strengthTogether (d + 5) 6 [.ref 54, .int (nI j), .int p, .int v, .int (sumS (partB E.2.2.2 (spE E j) j v p) (E.1.take i)), .int (nI i)] [] σ (QI K) := by
    intro k2
    induction k2 with
    | zero =>
      intro i hi
      refine sgX0_strengthTogether_6 ?_
      rw [h.1.1]
      refine br_t (nI_le (by omega) (by omega)) ?_
      rw [List.take_of_length_le (by omega)]
      exact k
    | succ k2 ih =>
      intro i hi
      obtain ⟨b, hb⟩ := get_of (l := E.1) (i := i) (by omega)
      have hk := ih (i + 1) (by omega)
      rw [take_s hb, sumS_app] at hk
      refine sgX0_strengthTogether_6 ?_
      rw [h.1.1, nI1]
      refine br_f (nI_ge (by omega) (by omega)) (ct_isPartOf hE h hj hb (bI_br (fun e => ?_) (fun e => ct_estr h.1 h21 hb ?_)))
      · rw [e, if_neg (by decide)] at hk
        exact hk
      · rw [e, if_pos rfl] at hk
        exact hk
  exact loop E.1.length 0 (by omega)
theorem ct_sourcesTogether {K : Int32 → St → Prop} {j : Nat} {v p : Int32} (hE : okE E) (h : earOK σ E n) (hj : j < E.2.1.length) (k : K (nI (E.1.countP (partB E.2.2.2 (spE E j) j v p))) σ) : CallI (d + 5) mX0_sourcesTogether [.ref 54, .int (nI j), .int p, .int v] σ K := by
  have h21 := hE.1
  refine cgX0_sourcesTogether ?_
  have loop : ∀ k2 i, i + k2 = E.1.length → Go mX0_sourcesTogether (d + 5) 6 [.ref 54, .int (nI j), .int p, .int v, .int (nI ((E.1.take i).countP (partB E.2.2.2 (spE E j) j v p))), .int (nI i)] [] σ (QI K) := by
    intro k2
    induction k2 with
    | zero =>
      intro i hi
      refine sgX0_sourcesTogether_6 ?_
      rw [h.1.1]
      refine br_t (nI_le (by omega) (by omega)) ?_
      rw [List.take_of_length_le (by omega)]
      exact k
    | succ k2 ih =>
      intro i hi
      obtain ⟨b, hb⟩ := get_of (l := E.1) (i := i) (by omega)
      have hk := ih (i + 1) (by omega)
      rw [take_s hb, List.countP_append, List.countP_cons, List.countP_nil, Nat.zero_add] at hk
      refine sgX0_sourcesTogether_6 ?_
      rw [h.1.1, nI1, nI1]
      refine br_f (nI_ge (by omega) (by omega)) (ct_isPartOf hE h hj hb (bI_br (fun e => ?_) (fun e => ?_)))
      · rw [e, if_neg (by decide), Nat.add_zero] at hk
        exact hk
      · rw [e, if_pos rfl] at hk
        exact hk
  exact loop E.1.length 0 (by omega)
/-- the answer of a search for an echo -/
def feE (E : En) (j e : Nat) : Int32 := match (hdL E j)[e]? with
  | some k => nI k
  | none => -4
theorem ct_findEcho {K : Int32 → St → Prop} {j e : Nat} (he : e < 2 ^ 31) (hE : okE E) (h : earOK σ E n) (hj : j < E.2.1.length) (k : K (feE E j e) σ) : CallI (d + 2) mX0_findEcho [.ref 54, .int (nI j), .int (nI e)] σ K := by
  refine cgX0_findEcho ?_
  have outer : ∀ k2 p, p + k2 = 50 → (List.range (11 * p)).countP (hdP E j) ≤ e → Go mX0_findEcho (d + 2) 5 [.ref 54, .int (nI j), .int (nI e), .int (nI (e - (List.range (11 * p)).countP (hdP E j))), .int (nI p), .null] [] σ (QI K) := by
    intro k2
    induction k2 with
    | zero =>
      intro p hp hle
      refine sgX0_findEcho_5 (br_t (nI_le (a := 50) (by omega) (by omega)) ?_)
      unfold feE hdL at k
      rw [show 11 * p = 550 by omega] at hle
      rw [filter_none hle] at k
      exact k
    | succ k2 ih =>
      intro p hp hle
      refine sgX0_findEcho_5 (br_f (nI_ge (b := 50) (by omega) (by omega)) ?_)
      have inner : ∀ k3 q, q + k3 = 11 → (List.range (11 * p + q)).countP (hdP E j) ≤ e → Go mX0_findEcho (d + 2) 16 [.ref 54, .int (nI j), .int (nI e), .int (nI (e - (List.range (11 * p + q)).countP (hdP E j))), .int (nI p), .int (pv q)] [] σ (QI K) := by
        intro k3
        induction k3 with
        | zero =>
          intro q hq hle2
          refine sgX0_findEcho_16 (br_t ?_ ?_)
          · rw [Int32.lt_iff_toInt_lt, pv_toInt (by omega), k5]; omega
          · rw [nI1]
            have h2 := ih (p + 1) (by omega)
            rw [show 11 * (p + 1) = 11 * p + q by omega] at h2
            exact h2 hle2
        | succ k3 ih3 =>
          intro q hq hle2
          have hk := ih3 (q + 1) (by omega)
          rw [show 11 * p + (q + 1) = (11 * p + q) + 1 by omega, countP_rs] at hk
          have hdq : hdP E j (11 * p + q) = hbE E j (pv q) (nI p) := by
            unfold hdP
            rw [show (11 * p + q) % 11 = q by omega, show (11 * p + q) / 11 = p by omega]
          refine sgX0_findEcho_16 (br_f ?_ (ct_isHeard hE h hj (by omega) (by omega) (bI_br (fun e2 => ?_) (fun e2 => ?_))))
          · rw [Int32.lt_iff_toInt_lt, pv_toInt (by omega), k5]; omega
          · rw [pv_s]
            rw [hdq, e2, if_neg (by decide), Nat.add_zero] at hk
            exact hk hle2
          · rw [hdq, e2, if_pos rfl] at hk
            refine br_c' (fun c => ?_) (fun c => ct_codeOf (q := q) rfl ?_)
            · rw [pv_s]
              have hlt : (List.range (11 * p + q)).countP (hdP E j) < e := by
                rcases Nat.lt_or_ge ((List.range (11 * p + q)).countP (hdP E j)) e with z | z
                · exact z
                · exact absurd (by rw [show e - (List.range (11 * p + q)).countP (hdP E j) = 0 by omega]; rfl) c
              rw [show e - (List.range (11 * p + q)).countP (hdP E j) = (e - ((List.range (11 * p + q)).countP (hdP E j) + 1)) + 1 by omega, pk_m1]
              exact hk (by omega)
            · have h0 := (nI_eq (a := e - (List.range (11 * p + q)).countP (hdP E j)) (b := 0) (by omega) (by omega)).mp c
              unfold feE hdL at k
              rw [filter_get (k := 11 * p + q) (by omega) (by rw [hdq]; exact e2) (by omega)] at k
              exact k
      exact inner 11 0 (by omega) hle
  exact outer 50 0 (by omega) (Nat.zero_le _)
end EAR3
