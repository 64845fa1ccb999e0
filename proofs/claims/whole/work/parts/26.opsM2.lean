/-! the model's calls that change the scene and the pad -/
section OPM2
variable {d : Nat} {σ : St} {A : Ab}
theorem anyI_step {l : List Tg} {i : Nat} {t : Tg} {x v : Int32} (h : l[i]? = some t) : (l.take (i + 1)).any (isAt x v) = ((l.take i).any (isAt x v) || isAt x v t) := by rw [take_s h, List.any_append]; simp
theorem ct_isThere {K : Int32 → St → Prop} {S : Sn} {x v : Int32} (hS : mSc (sA σ 65) S) (hn : S.1.length ≤ 6) (h : K (bI (S.1.any (isAt x v))) σ) : CallI (d + 2) mX6_isThere [.ref 64, .int x, .int v] σ K := by
  refine cgX6_isThere ?_
  have loop : ∀ k i, i + k = S.1.length → Go mX6_isThere (d + 2) 5 [.ref 64, .int x, .int v, .int (bI ((S.1.take i).any (isAt x v))), .int (nI i)] [] σ (QI K) := by
    intro k
    induction k with
    | zero =>
      intro i hi
      refine sgX6_isThere_5 ?_
      rw [hS.1]
      refine br_t (nI_le (by omega) (by omega)) ⟨nar_b (bI_01 _), ?_⟩
      rw [List.take_of_length_le (by omega)]
      exact h
    | succ k ih =>
      intro i hi
      refine sgX6_isThere_5 ?_
      rw [hS.1, nI1]
      obtain ⟨t, ht⟩ := get_of (l := S.1) (i := i) (by omega)
      have hz := hS.2.2.2.2.1 i t ht
      have hk := ih (i + 1) (by omega)
      rw [anyI_step ht] at hk
      refine br_f (nI_ge (by omega) (by omega)) (bI_br' (fun e => ?_) (fun e => ?_))
      · rw [e, Bool.false_or] at hk
        refine ct_of (w := 0) (by omega) (by omega) ?_
        rw [Nat.add_zero, hz.1]
        refine br_c' (fun c => ?_) (fun c => ct_of (w := 2) (by omega) (by omega) ?_)
        · have : isAt x v t = false := by unfold isAt; rw [decide_eq_false c]; rfl
          rw [this] at hk; exact hk
        · rw [hz.2.2.1]
          refine br_c' (fun c2 => ?_) (fun c2 => ?_)
          · have : isAt x v t = false := by unfold isAt; rw [decide_eq_false c2, Bool.and_false]
            rw [this] at hk; exact hk
          · have : isAt x v t = true := by unfold isAt; rw [decide_eq_true c, decide_eq_true c2]; rfl
            rw [this] at hk; exact hk
      · rw [e, Bool.true_or] at hk
        exact hk
  exact loop S.1.length 0 (by omega)
theorem mSc.setD {z : Nat → Int32} {L : List Tg} {R : List Int32 × Int32 × Int32} {j : Nat} {u : Tg} {x : Int32} (h : mSc z (L, R)) (hm : R.1.length ≤ 4) (hj : L[j]? = some u) : mSc (upd z (8 + 4 * j) x) (L.set j (x, u.2), R) := by
  obtain ⟨h1, h2, h3, h4, h5, h6⟩ := h
  refine ⟨by rw [upd_eq, if_neg (by omega), h1]; simp, by rw [upd_eq, if_neg (by omega)]; exact h2, by rw [upd_eq, if_neg (by omega)]; exact h3, by rw [upd_eq, if_neg (by omega)]; exact h4, fun i t ht => ?_, fun q s hs => ?_⟩
  · have ht' : (L.set j (x, u.2))[i]? = some t := ht
    rcases Nat.decEq i j with hne | he
    · rw [List.getElem?_set_ne (fun z => hne z.symm)] at ht'
      rw [upd_eq, if_neg (by omega), upd_eq, if_neg (by omega), upd_eq, if_neg (by omega), upd_eq, if_neg (by omega)]
      exact h5 i t ht'
    · subst he
      rw [List.getElem?_set_self (lt_of hj)] at ht'
      cases ht'
      have := h5 i u hj
      rw [upd_eq, if_pos rfl, upd_eq, if_neg (by omega), upd_eq, if_neg (by omega), upd_eq, if_neg (by omega)]
      exact ⟨rfl, this.2⟩
  · have hs' : R.1[q]? = some s := hs
    have := lt_of hs'
    rw [upd_eq, if_neg (by omega)]; exact h6 q s hs
/-- the rows behind a target move up -/
def tkG (z : Nat → Int32) (t k : Nat) : Nat → Int32 := fun j => if 8 + 4 * t ≤ j ∧ j < k then z (j + 4) else z j
theorem ct_takeOut {K : St → Prop} {L : List Tg} {R : List Int32 × Int32 × Int32} {t : Nat} (hS : mSc (sA σ 65) (L, R)) (hn : L.length ≤ 6) (hm : R.1.length ≤ 4) (ht : t < L.length) (k : ∀ g, mSc g (L.eraseIdx t, R) → K (setR σ 65 g)) : CallU (d + 1) mX6_takeOut [.ref 64, .int (nI t)] σ K := by
  refine cgX6_takeOut ?_
  rw [ix80]
  have loop : ∀ k2 i, i + k2 = 28 → 8 + 4 * t ≤ i → Go mX6_takeOut (d + 1) 7 [.ref 64, .int (nI t), .int (nI i)] [] (setR σ 65 (tkG (sA σ 65) t i)) (QU K) := by
    intro k2
    induction k2 with
    | zero =>
      intro i hi hi2
      refine sgX6_takeOut_7 (br_t (nI_le (a := 28) (by omega) (by omega)) ?_)
      rintro _ rfl
      rw [setA_setR, sA_setR, if_pos rfl]
      obtain ⟨h1, h2, h3, h4, h5, h6⟩ := hS
      have hlen : (L.eraseIdx t).length + 1 = L.length := by rw [List.length_eraseIdx_of_lt ht]; omega
      have lo : ∀ j, j < 8 + 4 * t → tkG (sA σ 65) t i j = sA σ 65 j := fun j hj => by unfold tkG; rw [if_neg (by omega)]
      have hi3 : ∀ j, 8 + 4 * t ≤ j → j < 28 → tkG (sA σ 65) t i j = sA σ 65 (j + 4) := fun j hj hj2 => by unfold tkG; rw [if_pos (by omega)]
      refine k _ ⟨?_, ?_, ?_, ?_, fun q u hu => ?_, fun q s hs => ?_⟩
      · rw [upd_eq, if_pos rfl, lo 0 (by omega)]
        have h1' : sA σ 65 0 = nI L.length := h1
        rw [h1', ← hlen, nI_pred]
      · rw [upd_eq, if_neg (by omega), lo 1 (by omega)]; exact h2
      · rw [upd_eq, if_neg (by omega), lo 6 (by omega)]; exact h3
      · rw [upd_eq, if_neg (by omega), lo 7 (by omega)]; exact h4
      · have hu' : (L.eraseIdx t)[q]? = some u := hu
        have hq := lt_of hu'
        rw [List.getElem?_eraseIdx] at hu'
        rw [upd_eq, if_neg (by omega), upd_eq, if_neg (by omega), upd_eq, if_neg (by omega), upd_eq, if_neg (by omega)]
        by_cases hqt : q < t
        · rw [if_pos hqt] at hu'
          rw [lo _ (by omega), lo _ (by omega), lo _ (by omega), lo _ (by omega)]
          exact h5 q u hu'
        · rw [if_neg hqt] at hu'
          rw [hi3 _ (by omega) (by omega), hi3 _ (by omega) (by omega), hi3 _ (by omega) (by omega), hi3 _ (by omega) (by omega)]
          have := h5 (q + 1) u hu'
          rw [show 8 + 4 * q + 4 = 8 + 4 * (q + 1) by omega, show 8 + 4 * q + 1 + 4 = 8 + 4 * (q + 1) + 1 by omega, show 8 + 4 * q + 2 + 4 = 8 + 4 * (q + 1) + 2 by omega, show 8 + 4 * q + 3 + 4 = 8 + 4 * (q + 1) + 3 by omega]
          exact this
      · have hs' : R.1[q]? = some s := hs
        have := lt_of hs'
        rw [upd_eq, if_neg (by omega), lo _ (by omega)]; exact h6 q s hs
    | succ k2 ih =>
      intro i hi hi2
      refine sgX6_takeOut_7 (br_f (nI_ge (b := 28) (by omega) (by omega)) ?_)
      have e1 : nI i + 4 = nI (i + 4) := nI_add i 4
      rw [e1, ix_nI (by omega), ix_nI (by omega)]
      refine ⟨vp_in_nI (by omega) (by omega), vp_in_nI (by omega) (by omega), ?_⟩
      rintro _ rfl
      rw [nI1, setA_setR, sA_setR, if_pos rfl]
      have e2 : upd (tkG (sA σ 65) t i) i (tkG (sA σ 65) t i (i + 4)) = tkG (sA σ 65) t (i + 1) := by
        funext j
        rw [upd_eq]
        unfold tkG
        by_cases hj : j = i
        · rw [if_pos hj, if_neg (by omega), if_pos (by omega), hj]
        · rw [if_neg hj]
          by_cases h2 : 8 + 4 * t ≤ j ∧ j < i
          · rw [if_pos h2, if_pos (by omega)]
          · rw [if_neg h2, if_neg (by omega)]
      rw [e2]
      exact ih (i + 1) (by omega) (by omega)
  have e0 : tkG (sA σ 65) t (8 + 4 * t) = sA σ 65 := by
    funext j
    unfold tkG
    rw [if_neg (by omega)]
  have := loop (28 - (8 + 4 * t)) (8 + 4 * t) (by omega) (Nat.le_refl _)
  rw [e0, setR_self] at this
  exact this
theorem ct_add {K : St → Prop} {S : Sn} {t : Tg} (hS : mSc (sA σ 65) S) (hn : S.1.length < 6) (hm : S.2.1.length ≤ 4) (k : ∀ g, mSc g (S.1 ++ [t], S.2) → K (setR σ 65 g)) : CallU (d + 1) mX6_add [.ref 64, .int t.1, .int t.2.1, .int t.2.2.1, .int t.2.2.2] σ K := by
  obtain ⟨h1, h2, h3, h4, h5, h6⟩ := hS
  refine cgX6_add ?_
  have i1 : (8 : Int32) + 4 * nI S.1.length + 1 = nI (8 + 4 * S.1.length + 1) := ix8 _ 1
  have i2 : (8 : Int32) + 4 * nI S.1.length + 2 = nI (8 + 4 * S.1.length + 2) := ix8 _ 2
  have i3 : (8 : Int32) + 4 * nI S.1.length + 3 = nI (8 + 4 * S.1.length + 3) := ix8 _ 3
  rw [h1, i1, i2, i3, ix80, ix_nI (by omega), ix_nI (by omega), ix_nI (by omega), ix_nI (by omega)]
  refine ⟨vp_in_nI (by omega) (by omega), ?_⟩
  rintro _ rfl
  refine ⟨vp_in_nI (by omega) (by omega), ?_⟩
  rintro _ rfl
  refine ⟨vp_in_nI (by omega) (by omega), ?_⟩
  rintro _ rfl
  refine ⟨vp_in_nI (by omega) (by omega), ?_⟩
  rintro _ rfl _ rfl
  rw [setA_R σ, setA_setR, setA_setR, setA_setR, setA_setR, sA_setR, if_pos rfl]
  refine k _ ⟨?_, ?_, ?_, ?_, fun i u hu => ?_, fun j s hs => ?_⟩
  · simp only [upd_eq]
    rw [if_pos trivial, if_neg (by omega), if_neg (by omega), if_neg (by omega), if_neg (by omega), h1, nI1]
    simp
  · simp only [upd_eq]
    rw [if_neg (by omega), if_neg (by omega), if_neg (by omega), if_neg (by omega), if_neg (by omega)]; exact h2
  · simp only [upd_eq]
    rw [if_neg (by omega), if_neg (by omega), if_neg (by omega), if_neg (by omega), if_neg (by omega)]; exact h3
  · simp only [upd_eq]
    rw [if_neg (by omega), if_neg (by omega), if_neg (by omega), if_neg (by omega), if_neg (by omega)]; exact h4
  · have hu' : (S.1 ++ [t])[i]? = some u := hu
    rcases Nat.lt_or_ge i S.1.length with hlt | hge
    · rw [List.getElem?_append_left hlt] at hu'
      have := h5 i u hu'
      simp only [upd_eq]
      rw [if_neg (by omega), if_neg (by omega), if_neg (by omega), if_neg (by omega), if_neg (by omega), if_neg (by omega), if_neg (by omega), if_neg (by omega), if_neg (by omega), if_neg (by omega), if_neg (by omega), if_neg (by omega), if_neg (by omega), if_neg (by omega), if_neg (by omega), if_neg (by omega), if_neg (by omega), if_neg (by omega), if_neg (by omega), if_neg (by omega)]
      exact this
    · have hlt := lt_of hu'
      simp at hlt
      have e : i = S.1.length := by omega
      subst e
      simp at hu'
      subst hu'
      simp [upd_eq]
  · have hs' : S.2.1[j]? = some s := hs
    have := lt_of hs'
    simp only [upd_eq]
    rw [if_neg (by omega), if_neg (by omega), if_neg (by omega), if_neg (by omega), if_neg (by omega)]
    exact h6 j s hs
theorem ct_isBody {K : Int32 → St → Prop} {x s v : Int32} (k : K (bI (okB x s v)) σ) : CallI (d + 2) mX6_isBody [.int x, .int s, .int v] σ K := by
  unfold okB at k
  refine cgX6_isBody (ct_in (bI_br (fun e => ?_) (fun e1 => ct_in (bI_br (fun e => ?_) (fun e2 => ct_in (bI_br (fun e => ?_) (fun e3 => ?_)))))))
  · rw [k1, k300] at e
    rw [decide_eq_false (fun z => of_decide_eq_false e z.1)] at k; exact k
  · rw [k1, k99] at e
    rw [decide_eq_false (fun z => of_decide_eq_false e z.2.1)] at k; exact k
  · rw [km5, k5] at e
    rw [decide_eq_false (fun z => of_decide_eq_false e z.2.2)] at k; exact k
  · rw [k1, k300] at e1
    rw [k1, k99] at e2
    rw [km5, k5] at e3
    rw [decide_eq_true (And.intro (of_decide_eq_true e1) (And.intro (of_decide_eq_true e2) (of_decide_eq_true e3)))] at k; exact k
theorem mR.scF {σ' : St} {S : Sn} (h : mR σ A) (f : Fr mod σ σ') : True := trivial
theorem ct_X6_target {K : Int32 → St → Prop} {x s v w : Int32} (hw : w = 0 ∨ w = 1) (hA : okA A) (h : mR σ A) (k : ∀ σ', Fr mod σ σ' → mR σ' (opTarget A x s v w).2 → K (opTarget A x s v w).1 σ') : CallI (d + 3) mX6_target [.ref 64, .int x, .int s, .int v, .int w] σ K := by
  have hl := hA.1.1
  have hm := hA.1.2.2.2.1
  unfold opTarget at k
  have tail : okB x s v = true → (w = 0 ∨ v = 0) → CallI (d + 2) mX6_isThere [.ref 64, .int x, .int v] σ (fun r6 s5 => (r6 = 0 → (¬ (sA s5 65 0) = 6 → CallU (d + 2) mX6_record [.ref 64] s5 (fun s9 => (w = 0 → CallU (d + 2) mX6_add [.ref 64, .int x, .int s, .int v, .int 0] s9 (fun s11 => K ((sA s11 65 0) - 1) s11)) ∧ (¬ w = 0 → CallU (d + 2) mX6_add [.ref 64, .int x, .int s, .int v, .int 1] s9 (fun s12 => K ((sA s12 65 0) - 1) s12)))) ∧ ((sA s5 65 0) = 6 → K (-3) s5)) ∧ (¬ r6 = 0 → K (-2) s5)) := by
    intro hb hwv
    have eE : errT A.1 x s v w = if A.1.1.any (isAt x v) then -2 else if A.1.1.length < 6 then 0 else -3 := by unfold errT; rw [if_pos ⟨hb, hwv⟩]
    rw [eE] at k
    refine ct_isThere h.1 hl (bI_br (fun e => ?_) (fun e => ?_))
    · rw [e] at k
      simp only [Bool.false_eq_true, if_false] at k
      rw [h.1.1]
      by_cases h6 : A.1.1.length < 6
      · simp only [if_pos h6, if_true] at k
        refine br_c' (fun _ => ct_record (d := d + 1) hA h (fun s1 f1 m1 => ?_)) (fun c => ?_)
        · have go : CallU (d + 2) mX6_add [.ref 64, .int x, .int s, .int v, .int w] s1 (fun s11 => K ((sA s11 65 0) - 1) s11) := by
            refine ct_add (t := (x, s, v, w)) m1.1 h6 hm (fun g hg => ?_)
            rw [sA_setR, if_pos rfl, hg.1]
            have e7 : (A.1.1 ++ [(x, s, v, w)]).length = A.1.1.length + 1 := by simp
            rw [show ((A.1.1 ++ [(x, s, v, w)], A.1.2) : Sn).1.length = A.1.1.length + 1 from e7, nI_pred]
            exact k _ (f1.tr (frZ s1 g)) (m1.sc hg)
          rcases hw with rfl | rfl
          · exact br_t rfl go
          · exact br_f one_ne go
        · have := (nI_eq (a := A.1.1.length) (b := 6) (by omega) (by omega)).mp c
          omega
      · simp only [if_neg h6] at k
        rw [if_neg (by decide)] at k
        refine br_c' (fun c => ?_) (fun _ => k σ (Fr.rf σ) h)
        exact absurd (by rw [show A.1.1.length = 6 by omega]; rfl) c
    · rw [e] at k
      simp only [if_true] at k
      rw [if_neg (by decide)] at k
      exact k σ (Fr.rf σ) h
  refine cgX6_target (ct_isBody (bI_br (fun e => ?_) (fun e => br_c (fun c => tail e (Or.inl c)) (fun c => br_c (fun c2 => tail e (Or.inr c2)) (fun c2 => ?_)))))
  · have eE : errT A.1 x s v w = -1 := by unfold errT; rw [if_neg (fun z => by rw [e] at z; exact absurd z.1 (by decide))]
    rw [eE, if_neg (by decide)] at k
    exact k σ (Fr.rf σ) h
  · have eE : errT A.1 x s v w = -1 := by unfold errT; rw [if_neg (fun z => z.2.elim c c2)]
    rw [eE, if_neg (by decide)] at k
    exact k σ (Fr.rf σ) h
theorem ct_X6_drop {K : Int32 → St → Prop} {x : Int32} (hA : okA A) (h : mR σ A) (k : ∀ σ', Fr mod σ σ' → mR σ' (opDrop A x).2 → K (opDrop A x).1 σ') : CallI (d + 3) mX6_drop [.ref 64, .int x] σ K := by
  unfold opDrop at k
  have hl := hA.1.1
  have hm := hA.1.2.2.2.1
  refine cgX6_drop (ct_isTarget h.1.1 hl ?_)
  rcases ix_cases (n := A.1.1.length) x (by omega) with ⟨e, hx⟩ | ⟨j, hj, rfl, e⟩
  · rw [e, if_neg (by decide)] at k
    rw [e]
    exact br_c' (fun c => absurd rfl c) (fun _ => k σ (Fr.rf σ) h)
  · rw [e, if_pos rfl, ix_nI (by omega)] at k
    rw [e]
    refine br_c' (fun _ => ct_record (d := d + 1) hA h (fun s1 f1 m1 => ?_)) (fun c => absurd c one_ne)
    refine ct_takeOut m1.1 hl hm hj (fun g hg => ?_)
    rw [sA_setR, if_pos rfl, hg.1]
    have e7 : (A.1.1.eraseIdx j).length = A.1.1.length - 1 := List.length_eraseIdx_of_lt hj
    rw [show ((A.1.1.eraseIdx j, A.1.2) : Sn).1.length = A.1.1.length - 1 from e7]
    exact k _ (f1.tr (frZ s1 g)) (m1.sc hg)
theorem ct_X6_go {K : Int32 → St → Prop} (hA : okA A) (h : mR σ A) (k : ∀ σ', Fr mod σ σ' → mR σ' (opGo A).2 → K (opGo A).1 σ') : CallI (d + 3) mX6_go [.ref 64] σ K := by
  have hl := hA.1.1
  have hm := hA.1.2.2.2.1
  refine cgX6_go (ct_record (d := d + 1) hA h (fun s1 f1 m1 => ?_))
  have hG : ∀ (u : Tg) (r : List Tg), ((u :: r).map (mvT A.1.2.1.length)).filter inT = if inT (mvT A.1.2.1.length u) then mvT A.1.2.1.length u :: (r.map (mvT A.1.2.1.length)).filter inT else (r.map (mvT A.1.2.1.length)).filter inT := by
    intro u r
    rw [List.map_cons, List.filter_cons]
  have hGl : ∀ r : List Tg, ((r.map (mvT A.1.2.1.length)).filter inT).length ≤ r.length := fun r => Nat.le_trans (List.length_filter_le _ _) (by simp)
  have loop : ∀ j, j ≤ A.1.1.length → ∀ g, mSc g (A.1.1.take j ++ ((A.1.1.drop j).map (mvT A.1.2.1.length)).filter inT, A.1.2) → Go mX6_go (d + 3) 13 [.ref 64, .int (nI j - 1), .null] [] (setR s1 65 g) (QI K) := by
    intro j
    induction j with
    | zero =>
      intro _ g hg
      refine sgX6_go_13 (br_t (by decide) ?_)
      rw [List.take_zero, List.nil_append, List.drop_zero] at hg
      have hm2 := m1.sc hg
      rw [sA_setR, if_pos rfl, hg.1]
      exact k _ (f1.tr (frZ s1 g)) hm2
    | succ j ih =>
      intro hj g hg
      rw [nI_pred]
      obtain ⟨u, hu⟩ := get_of (l := A.1.1) (i := j) (by omega)
      have hlt : (A.1.1.take j).length = j := List.length_take_of_le (by omega)
      have hd : A.1.1.drop j = u :: A.1.1.drop (j + 1) := by
        have h1 := List.drop_eq_getElem_cons (l := A.1.1) (i := j) (by omega)
        have h2 : A.1.1[j] = u := (List.getElem?_eq_some_iff.mp hu).2
        rw [h2] at h1; exact h1
      rw [take_s hu, List.append_assoc, List.singleton_append] at hg
      have hat : (A.1.1.take j ++ u :: ((A.1.1.drop (j + 1)).map (mvT A.1.2.1.length)).filter inT)[j]? = some u := by
        rw [List.getElem?_append_right (by omega), hlt, Nat.sub_self]; rfl
      have hrow := hg.2.2.2.2.1 j u hat
      have hsd := hg.setD (x := u.1 + u.2.2.1 * nI A.1.2.1.length) hm hat
      rw [List.set_append_right _ _ (by omega), hlt, Nat.sub_self, List.set_cons_zero] at hsd
      refine sgX6_go_13 (br_f (nI_pos (by omega)) (ct_of (w := 0) (by omega) (by omega) (ct_of (w := 2) (by omega) (by omega) ?_)))
      rw [ix80, ix_nI (by omega), sA_setR, if_pos rfl, Nat.add_zero, hrow.1, hrow.2.2.1]
      have h1g : g 1 = nI A.1.2.1.length := hg.2.1
      rw [h1g]
      refine ⟨vp_in_nI (by omega) (by omega), ?_⟩
      rintro _ rfl
      rw [setA_setR]
      have hih := ih (by omega)
      rw [hd, hG] at hih
      have ev : nI j + (-1) = nI j - 1 := by rw [Int32.sub_eq_add_neg]
      rw [ev]
      refine ct_in ?_
      rw [k1, k300]
      show (¬ bI (inT (mvT A.1.2.1.length u)) = 0 → _) ∧ (bI (inT (mvT A.1.2.1.length u)) = 0 → _)
      refine bI_br' (fun e => ?_) (fun e => ?_)
      · rw [e] at hih
        simp only [Bool.false_eq_true, if_false] at hih
        have hle := hGl (A.1.1.drop (j + 1))
        rw [List.length_drop] at hle
        refine ct_takeOut (t := j) (L := A.1.1.take j ++ mvT A.1.2.1.length u :: ((A.1.1.drop (j + 1)).map (mvT A.1.2.1.length)).filter inT) (R := A.1.2) (by rw [sA_setR, if_pos rfl]; exact hsd) (by rw [List.length_append, List.length_cons, hlt]; omega) hm (by rw [List.length_append, List.length_cons, hlt]; omega) (fun g2 hg2 => ?_)
        rw [setR_setR]
        rw [List.eraseIdx_append_of_length_le (by omega), hlt, Nat.sub_self, List.eraseIdx_cons_zero] at hg2
        exact hih g2 hg2
      · rw [e] at hih
        simp only [if_true] at hih
        exact hih _ hsd
  have h0 : (A.1.1.drop A.1.1.length) = [] := List.drop_length
  have := loop A.1.1.length (Nat.le_refl _) (sA s1 65) (by rw [List.take_length, h0]; simpa using m1.1)
  rw [setR_self] at this
  rw [m1.1.1]
  exact this
theorem ct_X6_set {K : Int32 → St → Prop} {x y : Int32} (hA : okA A) (h : mR σ A) (k : ∀ σ', Fr mod σ σ' → mR σ' (opSet A x y).2 → K (opSet A x y).1 σ') : CallI (d + 2) mX6_set [.ref 64, .int x, .int y] σ K := by
  unfold opSet at k
  have hl := hA.1.1
  have hm := hA.1.2.2.2.1
  have i6 : (6 : Int32) + 0 = nI 6 := by decide
  have i7 : (6 : Int32) + 1 = nI 7 := by decide
  refine cgX6_set (ct_in ?_)
  rw [k0, k1]
  refine bI_br (fun e => ?_) (fun e => ?_)
  · have he := of_decide_eq_false e
    rw [if_neg (fun z => he (by rw [z.1, k0]; omega)), if_neg (fun z => he (by rw [z.1, k1]; omega))] at k
    exact k σ (Fr.rf σ) h
  · have he := of_decide_eq_true e
    refine br_c' (fun c => ?_) (fun c => ?_)
    · have hx : x = 1 := by
        have h0 : x.toInt ≠ 0 := fun z => c (Int32.toInt_inj.mp (by rw [z, k0]))
        exact Int32.toInt_inj.mp (by rw [k1]; omega)
      subst hx
      rw [if_neg (fun z => one_ne z.1)] at k
      refine ct_in ?_
      rw [k1, k99]
      refine bI_br' (fun e2 => ?_) (fun e2 => ?_)
      · rw [if_neg (fun z => of_decide_eq_false e2 z.2)] at k
        exact k σ (Fr.rf σ) h
      · rw [if_pos ⟨rfl, of_decide_eq_true e2⟩] at k
        refine ct_record hA h (fun s1 f1 m1 => ?_)
        rw [i7, ix_nI (by omega)]
        refine ⟨vp_in_nI (by omega) (by omega), vp_in_nI (by omega) (by omega), ?_⟩
        rintro _ rfl
        rw [m1.1.2.2.2.1, setA_R]
        obtain ⟨z1, z2, z3, z4, z5, z6⟩ := m1.1
        refine k _ (f1.tr (frZ s1 _)) (m1.sc ⟨by rw [upd_eq, if_neg (by omega)]; exact z1, by rw [upd_eq, if_neg (by omega)]; exact z2, by rw [upd_eq, if_neg (by omega)]; exact z3, by rw [upd_eq, if_pos rfl], fun i t ht => ?_, fun j s hs => ?_⟩)
        · rw [upd_eq, if_neg (by omega), upd_eq, if_neg (by omega), upd_eq, if_neg (by omega), upd_eq, if_neg (by omega)]; exact z5 i t ht
        · have hs' : A.1.2.1[j]? = some s := hs
          have := lt_of hs'
          rw [upd_eq, if_neg (by omega)]; exact z6 j s hs
    · subst c
      refine ct_in ?_
      rw [k0, k9]
      refine bI_br (fun e2 => ?_) (fun e2 => ?_)
      · rw [if_neg (fun z => of_decide_eq_false e2 z.2), if_neg (fun z => absurd z.1 (by decide))] at k
        exact k σ (Fr.rf σ) h
      · rw [if_pos ⟨rfl, of_decide_eq_true e2⟩] at k
        refine ct_record hA h (fun s1 f1 m1 => ?_)
        rw [i6, ix_nI (by omega)]
        refine ⟨vp_in_nI (by omega) (by omega), vp_in_nI (by omega) (by omega), ?_⟩
        rintro _ rfl
        rw [m1.1.2.2.1, setA_R]
        obtain ⟨z1, z2, z3, z4, z5, z6⟩ := m1.1
        refine k _ (f1.tr (frZ s1 _)) (m1.sc ⟨by rw [upd_eq, if_neg (by omega)]; exact z1, by rw [upd_eq, if_neg (by omega)]; exact z2, by rw [upd_eq, if_pos rfl], by rw [upd_eq, if_neg (by omega)]; exact z4, fun i t ht => ?_, fun j s hs => ?_⟩)
        · rw [upd_eq, if_neg (by omega), upd_eq, if_neg (by omega), upd_eq, if_neg (by omega), upd_eq, if_neg (by omega)]; exact z5 i t ht
        · have hs' : A.1.2.1[j]? = some s := hs
          have := lt_of hs'
          rw [upd_eq, if_neg (by omega)]; exact z6 j s hs
theorem ct_isSpacingM {K : Int32 → St → Prop} {x : Int32} (k : K (bI (isSp x)) σ) : CallI (d + 2) mX6_isSpacing [.int x] σ K := by
  refine cgX6_isSpacing (ct_in ?_)
  rw [k10, k50]
  exact ⟨nar_b (bI_01 _), k⟩
theorem spG_ok {g : Nat → Int32} {S : Sn} {a b c e : Int32} {n : Nat} (h : mSc g S) (hok : okSp a b c e = true) (hn : n = (lsSp a b c e).length) : mSc (upd (upd (upd (upd (upd g 2 a) 3 b) 4 c) 5 e) 1 (nI n)) (S.1, lsSp a b c e, S.2.2) := by
  obtain ⟨z1, z2, z3, z4, z5, z6⟩ := h
  subst hn
  refine ⟨?_, ?_, ?_, ?_, fun i t ht => ?_, fun j s hs => ?_⟩
  · simp only [upd_eq]; rw [if_neg (by omega), if_neg (by omega), if_neg (by omega), if_neg (by omega), if_neg (by omega)]; exact z1
  · simp only [upd_eq]; rw [if_pos trivial]
  · simp only [upd_eq]; rw [if_neg (by omega), if_neg (by omega), if_neg (by omega), if_neg (by omega), if_neg (by omega)]; exact z3
  · simp only [upd_eq]; rw [if_neg (by omega), if_neg (by omega), if_neg (by omega), if_neg (by omega), if_neg (by omega)]; exact z4
  · have := z5 i t ht
    simp only [upd_eq]
    rw [if_neg (by omega), if_neg (by omega), if_neg (by omega), if_neg (by omega), if_neg (by omega), if_neg (by omega), if_neg (by omega), if_neg (by omega), if_neg (by omega), if_neg (by omega), if_neg (by omega), if_neg (by omega), if_neg (by omega), if_neg (by omega), if_neg (by omega), if_neg (by omega), if_neg (by omega), if_neg (by omega), if_neg (by omega), if_neg (by omega)]
    exact this
  · have hs' : (lsSp a b c e)[j]? = some s := hs
    unfold okSp at hok
    simp only [Bool.and_eq_true, Bool.not_eq_true', Bool.and_eq_false_iff, decide_eq_false_iff_not, Bool.not_eq_false', decide_eq_true_eq] at hok
    unfold lsSp at hs'
    simp only [upd_eq]
    by_cases cb : b = 0
    · have cc : c = 0 := by rcases hok.1.2 with h | h; exact absurd cb h; exact h
      have ce : e = 0 := by rcases hok.2 with h | h; exact absurd cc h; exact h
      rw [if_pos cb, if_pos cc, if_pos ce] at hs'
      match j, hs' with
      | 0, hs' => simp at hs'; simp [hs']
      | j + 1, hs' => simp at hs'
    · by_cases cc : c = 0
      · have ce : e = 0 := by rcases hok.2 with h | h; exact absurd cc h; exact h
        rw [if_neg cb, if_pos cc, if_pos ce] at hs'
        match j, hs' with
        | 0, hs' => simp at hs'; simp [hs']
        | 1, hs' => simp at hs'; simp [hs']
        | j + 2, hs' => simp at hs'
      · by_cases ce : e = 0
        · rw [if_neg cb, if_neg cc, if_pos ce] at hs'
          match j, hs' with
          | 0, hs' => simp at hs'; simp [hs']
          | 1, hs' => simp at hs'; simp [hs']
          | 2, hs' => simp at hs'; simp [hs']
          | j + 3, hs' => simp at hs'
        · rw [if_neg cb, if_neg cc, if_neg ce] at hs'
          match j, hs' with
          | 0, hs' => simp at hs'; simp [hs']
          | 1, hs' => simp at hs'; simp [hs']
          | 2, hs' => simp at hs'; simp [hs']
          | 3, hs' => simp at hs'; simp [hs']
          | j + 4, hs' => simp at hs'
theorem ct_X6_spacings {K : Int32 → St → Prop} {a b c e : Int32} (hA : okA A) (h : mR σ A) (k : ∀ σ', Fr mod σ σ' → mR σ' (opSpac A a b c e).2 → K (opSpac A a b c e).1 σ') : CallI (d + 3) mX6_spacings [.ref 64, .int a, .int b, .int c, .int e] σ K := by
  unfold opSpac at k
  have bad : okSp a b c e = false → Go mX6_spacings (d + 3) 54 [.ref 64, .int a, .int b, .int c, .int e, .null] [] σ (QI K) := fun z => by
    rw [z, if_neg (by decide)] at k
    exact sgX6_spacings_54 (sgX6_spacings_55 (br_c' (fun c => absurd rfl c) (fun _ => k σ (Fr.rf σ) h)))
  have fin : ∀ (s1 : St) (n : Nat), Fr mod σ s1 → mR s1 (A.1, pushH A.2.1 A.1, A.2.2) → okSp a b c e = true → n = (lsSp a b c e).length → Go mX6_spacings (d + 3) 128 [.ref 64, .int a, .int b, .int c, .int e, .int 1] [.int (nI n), .int 1, .ref 65] (setA (setA (setA (setA s1 65 2 a) 65 3 b) 65 4 c) 65 5 e) (QI K) := by
    intro s1 n f1 m1 hok hn
    rw [hok, if_pos rfl] at k
    refine sgX6_spacings_128 ⟨vp_in_nI (n := 1) (by omega) (by omega), ?_⟩
    rintro _ rfl
    rw [ixk_1]
    rw [setA_R s1, setA_setR, setA_setR, setA_setR, setA_setR, sA_setR, if_pos rfl, upd_eq, if_pos rfl, hn]
    exact k _ (f1.tr (frZ s1 _)) (m1.sc (spG_ok m1.1 hok rfl))
  have good : okSp a b c e = true → Go mX6_spacings (d + 3) 50 [.ref 64, .int a, .int b, .int c, .int e, .null] [] σ (QI K) := fun hok => by
    refine sgX6_spacings_50 (sgX6_spacings_55 (br_c' (fun _ => ct_record (d := d + 1) hA h (fun s1 f1 m1 => ?_)) (fun c => absurd c one_ne)))
    rintro _ rfl _ rfl _ rfl _ rfl
    have f := fun n => fin s1 n f1 m1 hok
    have hok2 := hok
    unfold okSp at hok2
    simp only [Bool.and_eq_true, Bool.not_eq_true', Bool.and_eq_false_iff, decide_eq_false_iff_not, Bool.not_eq_false', decide_eq_true_eq] at hok2
    unfold lsSp at f
    refine br_c' (fun cb => br_c' (fun cc => br_c' (fun ce => ?_) (fun ce => ?_)) (fun cc => ?_)) (fun cb => ?_)
    · exact f 4 (by simp [cb, cc, ce])
    · exact f 3 (by simp [cb, cc, ce])
    · have ce : e = 0 := by rcases hok2.2 with h | h; exact absurd cc h; exact h
      exact f 2 (by simp [cb, cc, ce])
    · have cc : c = 0 := by rcases hok2.1.2 with h | h; exact absurd cb h; exact h
      have ce : e = 0 := by rcases hok2.2 with h | h; exact absurd cc h; exact h
      exact f 1 (by simp [cb, cc, ce])
  have okE : okSp a b c e = (isSp a && (decide (b = 0) || isSp b) && (decide (c = 0) || isSp c) && (decide (e = 0) || isSp e) && !(decide (b = 0) && !decide (c = 0)) && !(decide (c = 0) && !decide (e = 0))) := rfl
  have sp0 : ∀ x, isSp x = true → ¬ x ≤ 0 := fun x hx => (isSp_pos hx).1
  have le0 : ∀ x, (x = 0 ∨ isSp x = true) → (x ≤ 0 ↔ x = 0) := fun x hx => by
    constructor
    · intro z
      rcases hx with h | h
      · exact h
      · exact absurd z (sp0 x h)
    · intro z; rw [z]; exact Int32.le_refl _
  have s33 : isSp a = true → (b = 0 ∨ isSp b = true) → (c = 0 ∨ (isSp c = true ∧ ¬ b = 0)) → Go mX6_spacings (d + 3) 33 [.ref 64, .int a, .int b, .int c, .int e, .null] [] σ (QI K) := by
    intro ha hb hc
    refine sgX6_spacings_33 (br_c (fun ce => good ?_) (fun ce => ct_isSpacingM (bI_br (fun ee => bad ?_) (fun ee => br_c (fun z => bad ?_) (fun z => good ?_)))))
    · rw [okE, ha]
      rcases hb with hb | hb <;> rcases hc with hc | hc <;> first | exact absurd hb hc.2 | simp [hb, hc, ce]
    · rw [okE, ee, decide_eq_false ce]; simp
    · have hc0 : c = 0 := (le0 c (hc.imp id (fun z => z.1))).mp z
      rw [okE, decide_eq_true hc0, decide_eq_false ce]; simp
    · have hc0 : ¬ c = 0 := fun q => z (by rw [q]; exact Int32.le_refl _)
      rcases hc with hc | hc
      · exact absurd hc hc0
      · rw [okE, ha, hc.1, ee, decide_eq_false hc0, decide_eq_false hc.2]
        rcases hb with hb | hb
        · exact absurd hb hc.2
        · simp [hb]
  have s18 : isSp a = true → (b = 0 ∨ isSp b = true) → Go mX6_spacings (d + 3) 18 [.ref 64, .int a, .int b, .int c, .int e, .null] [] σ (QI K) := by
    intro ha hb
    refine sgX6_spacings_18 (br_c (fun cc => s33 ha hb (Or.inl cc)) (fun cc => ct_isSpacingM (bI_br (fun ec => bad ?_) (fun ec => br_c (fun z => bad ?_) (fun z => s33 ha hb (Or.inr ⟨ec, fun q => z (by rw [q]; exact Int32.le_refl _)⟩))))))
    · rw [okE, ec, decide_eq_false cc]; simp
    · have hb0 : b = 0 := (le0 b hb).mp z
      rw [okE, decide_eq_true hb0, decide_eq_false cc]; simp
  refine cgX6_spacings (ct_isSpacingM (bI_br (fun ea => bad (by rw [okE, ea]; simp)) (fun ea => br_c (fun cb => s18 ea (Or.inl cb)) (fun cb => ct_isSpacingM (bI_br (fun eb => bad (by rw [okE, eb, decide_eq_false cb]; simp)) (fun eb => s18 ea (Or.inr eb)))))))
theorem ct_X6_append {K : Int32 → St → Prop} {x : Int32} (hA : okA A) (h : mR σ A) (k : ∀ σ', Fr mod σ σ' → mR σ' (opAppend A x).2 → K (opAppend A x).1 σ') : CallI (d + 2) mX6_append [.ref 64, .int x] σ K := by
  obtain ⟨h1, ⟨h2, h2'⟩, ⟨h3, h3'⟩, h4, h4'⟩ := id h
  have hl := hA.2.2.2.2.1
  unfold opAppend at k
  refine cgX6_append (ct_in ?_)
  rw [k33, k126]
  refine bI_br' (fun e => ?_) (fun e => ?_)
  · rw [if_neg (of_decide_eq_false e)] at k
    exact k σ (Fr.rf σ) h
  · have he := of_decide_eq_true e
    rw [if_pos he] at k
    rw [ch_i2c (by omega) (by omega), ch_nch (by omega) (by omega), h4, ix_nI (by omega)]
    by_cases e2 : A.2.2.2.length < 60
    · rw [if_pos e2] at k
      refine br_c' (fun _ => ⟨vp_in_nI e2 (by omega), ?_⟩) (fun c => ?_)
      · rintro _ rfl _ rfl
        have e1 : sF (setF (setA σ 68 A.2.2.2.length x) 64 6 (sF (setA σ 68 A.2.2.2.length x) 64 6 + 1)) 64 6 = nI (A.2.2.2.length + 1) := by rw [sF_setF, if_pos ⟨rfl, rfl⟩, sF_setA, h4, nI1]
        rw [e1]
        refine k _ (((Fr.rf σ).toA (by unfold mod; omega)).toF (by unfold mod; omega)) ⟨?_, ⟨?_, fun q T hq => ?_⟩, ⟨?_, fun T hT => ?_⟩, ?_, fun i c hi => ?_⟩
        · rw [sA_setF, setA_R, sA_setR, if_neg (by decide)]; exact h1
        · rw [sF_setF, if_neg (by omega), sF_setA]; exact h2
        · rw [sA_setF, setA_R, sA_setR, if_neg (by decide)]; exact h2' q T hq
        · rw [sF_setF, if_neg (by omega), sF_setA]; exact h3
        · rw [sA_setF, setA_R, sA_setR, if_neg (by decide)]; exact h3' T hT
        · rw [e1]; show _ = nI (A.2.2.2 ++ [x]).length; simp
        · have hi' : (A.2.2.2 ++ [x])[i]? = some c := hi
          rw [sA_setF, sA_setA]
          rcases Nat.lt_or_ge i A.2.2.2.length with hlt | hge
          · rw [List.getElem?_append_left hlt] at hi'
            rw [if_neg (by omega)]; exact h4' i c hi'
          · have hlt := lt_of hi'
            simp at hlt
            have e : i = A.2.2.2.length := by omega
            subst e
            simp at hi'
            rw [if_pos ⟨rfl, rfl⟩, hi']
      · have := (nI_eq (a := A.2.2.2.length) (b := 60) (by omega) (by omega)).mp c
        omega
    · rw [if_neg e2] at k
      refine br_c' (fun c => absurd ?_ c) (fun _ => k σ (Fr.rf σ) h)
      rw [show A.2.2.2.length = 60 by omega]; rfl
theorem mR.pad0 (h : mR σ A) : mR (setF σ 64 6 0) (A.1, A.2.1, A.2.2.1, []) := by
  obtain ⟨h1, ⟨h2, h2'⟩, ⟨h3, h3'⟩, h4, h4'⟩ := id h
  exact ⟨h1, ⟨by rw [sF_setF, if_neg (by omega)]; exact h2, h2'⟩, ⟨by rw [sF_setF, if_neg (by omega)]; exact h3, h3'⟩, by rw [sF_setF, if_pos ⟨rfl, rfl⟩]; rfl, fun i c hi => by simp at hi⟩
theorem ct_X6_clear {K : Int32 → St → Prop} (h : mR σ A) (k : ∀ σ', Fr mod σ σ' → mR σ' (opClear A).2 → K (opClear A).1 σ') : CallI (d + 1) mX6_clear [.ref 64] σ K := by
  refine cgX6_clear ?_
  rintro _ rfl
  rw [h.2.2.2.1]
  exact k _ (Fr.F (by unfold mod; omega)) h.pad0
end OPM2
