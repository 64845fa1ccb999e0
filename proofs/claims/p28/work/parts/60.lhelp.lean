/-! the law's helpers: place, heard, fit, told, isTrue -/
/-- the law's rows of bodies and settings hold E -/
def lB (σ : St) (B : List Bd) : Prop := sA σ 66 8 = nI B.length ∧ ∀ (k : Nat) (b : Bd), B[k]? = some b → sA σ 65 (3 * k) = b.1 ∧ sA σ 65 (3 * k + 1) = b.2.1 ∧ sA σ 65 (3 * k + 2) = b.2.2.1
def lP (σ : St) (E : En) : Prop := sA σ 66 7 = nI E.2.1.length ∧ sA σ 66 4 = E.2.2.1 ∧ sA σ 66 5 = E.2.2.2 ∧ ∀ (j : Nat) (s : Int32), E.2.1[j]? = some s → sA σ 66 j = s
def lE (σ : St) (E : En) : Prop := lB σ E.1 ∧ lP σ E
theorem lE.keep {σ σ' : St} {E : En} (h : lE σ E) (f : FrM σ σ') : lE σ' E := by
  have e65 := (f 65 (by omega)).2
  have e66 := (f 66 (by omega)).2
  unfold lE lB lP at *
  rw [e65, e66]
  exact h
theorem ix3 (k w : Nat) : (3 : Int32) * nI k + nI w = nI (3 * k + w) := by
  rw [show (3 : Int32) = nI 3 from rfl, pk_mul, nI_add]
theorem ix30 (k : Nat) : (3 : Int32) * nI k = nI (3 * k) := pk_mul 3 k
theorem ix31 (k : Nat) : (3 : Int32) * nI k + 1 = nI (3 * k + 1) := ix3 k 1
theorem ix32 (k : Nat) : (3 : Int32) * nI k + 2 = nI (3 * k + 2) := ix3 k 2
/-- what the law hears: strengths together, or how many -/
def hrd (E : En) (j : Nat) (v p : Int32) (src : Bool) : Int32 := if p < E.2.2.1 then 0 else if src then nI (E.1.countP (partB E.2.2.2 (spE E j) j v p)) else sumS (partB E.2.2.2 (spE E j) j v p) E.1
/-- in how many turns it fits, as the law has it -/
def ltE (E : En) (x v : Int32) : Int32 := if nofit E x v E.2.1.length then 0 else nI (cfit E x v E.2.1.length)
section LHELP
variable {d : Nat} {σ : St} {E : En} {b : Bd}
theorem lP.sp (hE : okE E) (h : lP σ E) {j : Nat} (hj : j < E.2.1.length) : sA σ 66 j = spE E j ∧ (10 ≤ (spE E j).toInt ∧ (spE E j).toInt ≤ 50) := by
  obtain ⟨s, hs⟩ := get_of hj
  rw [spE_get hs]
  exact ⟨h.2.2.2 j s hs, hE.2.2.2.1 s (List.mem_of_getElem? hs)⟩
theorem ct_Lplace {K : Int32 → St → Prop} {x v : Int32} {j : Nat} (hE : okE E) (h : lP σ E) (hj : j < E.2.1.length) (k : K (plE E j x v) σ) : CallI (d + 1) mL_place [.ref 66, .int x, .int v, .int (nI j)] σ K := by
  have hm := hE.2.2.1
  obtain ⟨e, h1, h2⟩ := h.sp hE hj
  have hpl : plE E j x v = if 0 < x + v * nI j then irem (x + v * nI j) (spE E j) else 0 := rfl
  refine cgL_place (br_c (fun c => ?_) (fun c => ?_))
  · rw [ix_nI (by omega), e]
    refine ⟨vp_in_nI (by omega) (by omega), fun z => by rw [z, k0] at h1; omega, ?_⟩
    rw [hpl] at k
    by_cases c2 : 0 < x + v * nI j
    · rw [if_pos c2] at k
      exact k
    · rw [if_neg c2] at k
      have e0 : x + v * nI j = 0 := by
        apply Int32.toInt_inj.mp
        rw [Int32.le_iff_toInt_le, k0] at c
        rw [Int32.lt_iff_toInt_lt, k0] at c2
        rw [k0]
        omega
      rw [e0, irem_0 (by omega)]
      exact k
  · rw [hpl, if_neg (fun z => c (Int32.le_iff_toInt_le.mpr (by rw [Int32.lt_iff_toInt_lt] at z; omega)))] at k
    exact k
theorem ct_Lheard {K : Int32 → St → Prop} {p v : Int32} {j : Nat} {src : Bool} (hE : okE E) (h : lE σ E) (hj : j < E.2.1.length) (k : K (hrd E j v p src) σ) : CallI (d + 2) mL_heard [.ref 65, .ref 66, .int (nI j), .int p, .int v, .int (bI src)] σ K := by
  have h21 := hE.1
  refine cgL_heard ?_
  have e4 := h.2.2.1
  have e5 := h.2.2.2.1
  by_cases hp : p < E.2.2.1
  · unfold hrd at k
    rw [if_pos hp] at k
    exact sgL_heard_6 (br_c (fun _ => k) (fun _ => br_t (by rw [e4]; exact hp) k))
  unfold hrd at k
  rw [if_neg hp] at k
  have loop : ∀ k2 i, i + k2 = E.1.length → Go mL_heard (d + 2) 6 [.ref 65, .ref 66, .int (nI j), .int p, .int v, .int (bI src), .int (if src then nI ((E.1.take i).countP (partB E.2.2.2 (spE E j) j v p)) else sumS (partB E.2.2.2 (spE E j) j v p) (E.1.take i)), .int (nI i), .null] [] σ (QI K) := by
    intro k2
    induction k2 with
    | zero =>
      intro i hi
      refine sgL_heard_6 ?_
      rw [h.1.1]
      refine br_t (nI_le (by omega) (by omega)) ?_
      rw [List.take_of_length_le (by omega)]
      exact k
    | succ k2 ih =>
      intro i hi
      obtain ⟨b, hb⟩ := get_of (l := E.1) (i := i) (by omega)
      have hk := ih (i + 1) (by omega)
      rw [take_s hb, List.countP_append, sumS_app] at hk
      obtain ⟨r1, r2, r3⟩ := h.1.2 i b hb
      refine sgL_heard_6 ?_
      rw [h.1.1, e4, e5, ix32, ix31, ix30, ix_nI (show 3 * i + 2 < 2 ^ 31 by omega), ix_nI (show 3 * i + 1 < 2 ^ 31 by omega), ix_nI (show 3 * i < 2 ^ 31 by omega), r1, r2, r3, nI1]
      have hno : partB E.2.2.2 (spE E j) j v p b = false → Go mL_heard (d + 2) 6 [.ref 65, .ref 66, .int (nI j), .int p, .int v, .int (bI src), .int ((if src then nI ((E.1.take i).countP (partB E.2.2.2 (spE E j) j v p)) else sumS (partB E.2.2.2 (spE E j) j v p) (E.1.take i)) + 0), .int (nI (i + 1)), .null] [] σ (QI K) := by
        intro z
        rw [z] at hk
        rw [Int32.add_zero]
        simpa [z] using hk
      refine br_f (nI_ge (by omega) (by omega)) (br_f hp ⟨vp_in_nI (by omega) (by omega), br_c' (fun c => hno ?_) (fun c => ⟨vp_in_nI (by omega) (by omega), br_c (fun c2 => hno ?_) (fun c2 => ⟨vp_in_nI (by omega) (by omega), ct_Lplace hE h.2 hj (br_c' (fun c3 => hno ?_) (fun c3 => ?_))⟩)⟩)⟩)
      · unfold partB
        rw [decide_eq_false c]
        simp
      · unfold partB
        rw [decide_eq_true c2]
        simp
      · unfold partB
        have c3' : ¬ pl (spE E j) b.1 b.2.2.1 j = p := by rw [c]; exact c3
        rw [decide_eq_false c3']
        simp
      · have z : partB E.2.2.2 (spE E j) j v p b = true := by
          unfold partB
          have c3' : pl (spE E j) b.1 b.2.2.1 j = p := by rw [c]; exact c3
          rw [decide_eq_false c2, decide_eq_true c, decide_eq_true c3']
          rfl
        cases src
        · refine br_t rfl ⟨vp_in_nI (by omega) (by omega), ?_⟩
          rw [r2]
          simpa [z] using hk
        · refine br_f (by decide) ?_
          rw [if_pos rfl, nI1]
          simpa [z] using hk
  have h0 := loop E.1.length 0 (by omega)
  rw [List.take_zero] at h0
  cases src
  · exact h0
  · exact h0
theorem hrd_pos {j : Nat} {v p : Int32} (hE : okE E) (hp : ¬ p < E.2.2.1) : (hrd E j v p false ≤ 0 ↔ hbE E j v p = false) := by
  unfold hrd
  rw [if_neg hp, if_neg (by decide)]
  have h := (sumS_pos (partB E.2.2.2 (spE E j) j v p) E.1 hE.2.1 hE.1 E.1.length (Nat.le_refl _)).2
  rw [List.take_length] at h
  rw [h]
  have e : E.1.any (partB E.2.2.2 (spE E j) j v p) = hbE E j v p := by
    unfold hbE hb
    congr 1
    funext b
    unfold partB
    rw [decide_eq_false hp, Bool.not_false, Bool.and_true]
  rw [e]
theorem ct_Lfit {K : Int32 → St → Prop} {x v : Int32} {j : Nat} (hE : okE E) (h : lE σ E) (hj : j < E.2.1.length) (k : K (nI (fitE E x v j)) σ) : CallI (d + 3) mL_fit [.ref 65, .ref 66, .int x, .int v, .int (nI j)] σ K := by
  refine cgL_fit (ct_Lplace hE h.2 hj ?_)
  rw [h.2.2.1]
  unfold fitE at k
  refine br_c (fun c => ?_) (fun c => ?_)
  · have hp : ¬ plE E j x v < E.2.2.1 := fun z => by
      rw [Int32.le_iff_toInt_le] at c
      rw [Int32.lt_iff_toInt_lt] at z
      omega
    rw [if_neg hp] at k
    refine ct_Lheard (src := false) hE h hj (br_c (fun c2 => ?_) (fun c2 => ?_))
    · rw [(hrd_pos hE hp).mp c2, if_neg (by decide)] at k
      exact k
    · have : hbE E j v (plE E j x v) = true := by
        cases hh : hbE E j v (plE E j x v)
        · exact absurd ((hrd_pos hE hp).mpr hh) c2
        · rfl
      rw [this, if_pos rfl] at k
      exact k
  · have hp : plE E j x v < E.2.2.1 := by
      rw [Int32.le_iff_toInt_le] at c
      rw [Int32.lt_iff_toInt_lt]
      omega
    rw [if_pos hp] at k
    exact k
theorem ct_Ltold {K : Int32 → St → Prop} {x v : Int32} (hE : okE E) (h : lE σ E) (k : K (ltE E x v) σ) : CallI (d + 4) mL_told [.ref 65, .ref 66, .int x, .int v] σ K := by
  have hm := hE.2.2.1
  refine cgL_told ?_
  have loop : ∀ k2 i, i + k2 = E.2.1.length → nofit E x v i = false → Go mL_told (d + 4) 6 [.ref 65, .ref 66, .int x, .int v, .int (nI (cfit E x v i)), .int (nI i), .null] [] σ (QI K) := by
    intro k2
    induction k2 with
    | zero =>
      intro i hi hn
      refine sgL_told_6 ?_
      rw [h.2.1]
      refine br_t (nI_le (by omega) (by omega)) ?_
      unfold ltE at k
      rw [show E.2.1.length = i by omega, hn, if_neg (by decide)] at k
      exact k
    | succ k2 ih =>
      intro i hi hn
      have hk := ih (i + 1) (by omega)
      rw [nofit_s, hn, Bool.false_or, cfit_s] at hk
      have hle := fitE_le E x v i
      refine sgL_told_6 ?_
      rw [h.2.1, nI1]
      refine br_f (nI_ge (by omega) (by omega)) (ct_Lfit hE h (by omega) ⟨fun c => ?_, fun c => ?_⟩)
      · have c0 : ¬ fitE E x v i = 0 := fun z => c (by rw [z]; rfl)
        have hk := hk (by simp [c0])
        refine br_c' (fun c2 => ?_) (fun c2 => ?_)
        · have c1 : ¬ fitE E x v i = 1 := fun z => c2 (by rw [z]; rfl)
          rw [if_neg c1, Nat.add_zero] at hk
          rw [Int32.add_zero]
          exact hk
        · have c1 : fitE E x v i = 1 := (nI_eq (a := fitE E x v i) (b := 1) (by omega) (by omega)).mp c2
          rw [if_pos c1] at hk
          rw [nI1]
          exact hk
      · have c0 : fitE E x v i = 0 := (nI_eq (a := fitE E x v i) (b := 0) (by omega) (by omega)).mp c
        have hnf : nofit E x v E.2.1.length = true := by
          unfold nofit
          rw [List.any_eq_true]
          exact ⟨i, List.mem_range.mpr (by omega), by simp [c0]⟩
        unfold ltE at k
        rw [hnf, if_pos rfl] at k
        exact k
  exact loop E.2.1.length 0 (by omega) rfl
theorem ltE_pos {x v : Int32} (hE : okE E) : (ltE E x v ≤ 0 ↔ told E x v = false) := by
  have hm := hE.2.2.1
  have hc := cfit_le E x v E.2.1.length
  unfold ltE told
  cases hn : nofit E x v E.2.1.length
  · rw [if_neg (by decide), show (0 : Int32) = nI 0 from rfl, nI_leI (by omega) (by omega)]
    simp
  · simp
theorem ltE_told {x v : Int32} (h : told E x v = true) : ltE E x v = nI (cfit E x v E.2.1.length) := by
  unfold told at h
  rw [Bool.and_eq_true] at h
  unfold ltE
  rw [show nofit E x v E.2.1.length = false by simpa using h.1, if_neg (by decide)]
theorem lt_br {x v : Int32} {P Q : Prop} (hE : okE E) (h0 : told E x v = false → P) (h1 : told E x v = true → Q) : (ltE E x v ≤ 0 → P) ∧ (¬ ltE E x v ≤ 0 → Q) := by
  refine ⟨fun c => h0 ((ltE_pos hE).mp c), fun c => h1 ?_⟩
  cases hh : told E x v
  · exact absurd ((ltE_pos hE).mpr hh) c
  · rfl
theorem ct_LisTrue {K : Int32 → St → Prop} {x v : Int32} (hE : okE E) (h : lE σ E) (k : K (bI (isTr E (x, v))) σ) : CallI (d + 1) mL_isTrue [.ref 65, .ref 66, .int x, .int v] σ K := by
  have h21 := hE.1
  refine cgL_isTrue ?_
  have loop : ∀ k2 i, i + k2 = E.1.length → (E.1.take i).any (fun b => decide (b.1 = x) && decide (b.2.2.1 = v)) = false → Go mL_isTrue (d + 1) 3 [.ref 65, .ref 66, .int x, .int v, .int (nI i)] [] σ (QI K) := by
    intro k2
    induction k2 with
    | zero =>
      intro i hi hn
      refine sgL_isTrue_3 ?_
      rw [h.1.1]
      refine br_t (nI_le (by omega) (by omega)) ?_
      rw [List.take_of_length_le (by omega)] at hn
      have e : isTr E (x, v) = false := hn
      rw [e] at k
      exact k
    | succ k2 ih =>
      intro i hi hn
      obtain ⟨b, hb⟩ := get_of (l := E.1) (i := i) (by omega)
      have hk := ih (i + 1) (by omega)
      rw [take_s hb, List.any_append, hn, Bool.false_or] at hk
      obtain ⟨r1, r2, r3⟩ := h.1.2 i b hb
      refine sgL_isTrue_3 ?_
      rw [h.1.1, ix32, ix30, ix_nI (show 3 * i + 2 < 2 ^ 31 by omega), ix_nI (show 3 * i < 2 ^ 31 by omega), r1, r3, nI1]
      refine br_f (nI_ge (by omega) (by omega)) ⟨vp_in_nI (by omega) (by omega), br_c' (fun c => hk (by simp [c])) (fun c => ⟨vp_in_nI (by omega) (by omega), br_c' (fun c2 => hk (by simp [c2])) (fun c2 => ?_)⟩)⟩
      have e : isTr E (x, v) = true := List.any_eq_true.mpr ⟨b, List.mem_of_getElem? hb, by simp [c, c2]⟩
      rw [e] at k
      exact k
  exact loop E.1.length 0 (by omega) rfl
end LHELP
