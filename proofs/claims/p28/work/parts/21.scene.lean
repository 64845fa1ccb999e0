/-! the class Scene, method by method -/
section SCENE
variable {d : Nat} {σ : St} {a : Nat} {S : Sn} {i : Nat} {t : Tg}
theorem ct_hasN {K : Int32 → St → Prop} {n : Nat} (ha : isSc a) (hF : sF σ a 5 = nI n) (hn : n ≤ 6) (hi : i < n) (h : K 1 σ) : CallI (d + 1) mX3_has [.ref a, .int (nI i)] σ K :=
  cgX3_has ha (br_f (nI_pos (by omega)) (by rw [hF]; exact br_f (nI_ge hi (by omega)) (br_f (nI_ge (b := 6) (by omega) (by omega)) h)))
theorem ct_has {K : Int32 → St → Prop} (ha : isSc a) (hS : cSc σ a S) (hn : S.1.length ≤ 6) (hi : i < S.1.length) (h : K 1 σ) : CallI (d + 1) mX3_has [.ref a, .int (nI i)] σ K :=
  cgX3_has ha (br_f (nI_pos (by omega)) (by rw [hS.1]; exact br_f (nI_ge hi (by omega)) (br_f (nI_ge (b := 6) (by omega) (by omega)) h)))
theorem ct_has0 {K : Int32 → St → Prop} {x : Int32} (ha : isSc a) (hS : cSc σ a S) (hx : x < 0 ∨ nI S.1.length ≤ x) (h : K 0 σ) : CallI (d + 1) mX3_has [.ref a, .int x] σ K :=
  cgX3_has ha (br_c (fun _ => h) (fun c => by
    rw [hS.1]
    rcases hx with hx | hx
    · exact absurd hx c
    · exact br_t hx h))
theorem ct_hasTurn {K : Int32 → St → Prop} (ha : isSc a) (hS : cSc σ a S) (hn : S.2.1.length ≤ 4) (hi : i < S.2.1.length) (h : K 1 σ) : CallI (d + 1) mX3_hasTurn [.ref a, .int (nI i)] σ K :=
  cgX3_hasTurn ha (br_f (nI_pos (by omega)) (by rw [hS.2.1]; exact br_f (nI_ge hi (by omega)) (br_f (nI_ge (b := 4) (by omega) (by omega)) h)))
theorem ct_hasTurn0 {K : Int32 → St → Prop} {x : Int32} (ha : isSc a) (hS : cSc σ a S) (hx : x < 0 ∨ nI S.2.1.length ≤ x) (h : K 0 σ) : CallI (d + 1) mX3_hasTurn [.ref a, .int x] σ K :=
  cgX3_hasTurn ha (br_c (fun _ => h) (fun c => by
    rw [hS.2.1]
    rcases hx with hx | hx
    · exact absurd hx c
    · exact br_t hx h))
theorem ct_distanceOf {K : Int32 → St → Prop} (ha : isSc a) (hS : cSc σ a S) (hn : S.1.length ≤ 6) (hi : S.1[i]? = some t) (h : K t.1 σ) : CallI (d + 2) mX3_distanceOf [.ref a, .int (nI i)] σ K := by
  have hl := lt_of hi
  refine cgX3_distanceOf ha (ct_has ha hS hn hl (br_f one_ne ⟨vp_in_nI (by omega) (by omega), ?_⟩))
  rw [ix_nI (by omega), (hS.2.2.2.2.1 i t hi).1]
  exact h
theorem ct_strengthOf {K : Int32 → St → Prop} (ha : isSc a) (hS : cSc σ a S) (hn : S.1.length ≤ 6) (hi : S.1[i]? = some t) (h : K t.2.1 σ) : CallI (d + 2) mX3_strengthOf [.ref a, .int (nI i)] σ K := by
  have hl := lt_of hi
  refine cgX3_strengthOf ha (ct_has ha hS hn hl (br_f one_ne ⟨vp_in_nI (by omega) (by omega), ?_⟩))
  rw [ix_nI (by omega), (hS.2.2.2.2.1 i t hi).2.1]
  exact h
theorem ct_movementOf {K : Int32 → St → Prop} (ha : isSc a) (hS : cSc σ a S) (hn : S.1.length ≤ 6) (hi : S.1[i]? = some t) (h : K t.2.2.1 σ) : CallI (d + 2) mX3_movementOf [.ref a, .int (nI i)] σ K := by
  have hl := lt_of hi
  refine cgX3_movementOf ha (ct_has ha hS hn hl (br_f one_ne ⟨vp_in_nI (by omega) (by omega), ?_⟩))
  rw [ix_nI (by omega), (hS.2.2.2.2.1 i t hi).2.2.1]
  exact h
theorem ct_isWall {K : Int32 → St → Prop} (ha : isSc a) (hS : cSc σ a S) (hn : S.1.length ≤ 6) (hi : S.1[i]? = some t) (hw : t.2.2.2 = 0 ∨ t.2.2.2 = 1) (h : K t.2.2.2 σ) : CallI (d + 2) mX3_isWall [.ref a, .int (nI i)] σ K := by
  have hl := lt_of hi
  refine cgX3_isWall ha (ct_has ha hS hn hl (br_f one_ne ⟨vp_in_nI (by omega) (by omega), ?_⟩))
  rw [ix_nI (by omega), (hS.2.2.2.2.1 i t hi).2.2.2]
  rcases hw with e | e
  · rw [e] at h ⊢; exact br_t rfl h
  · rw [e] at h ⊢; exact br_f one_ne h
theorem ct_spacingOf {K : Int32 → St → Prop} {s : Int32} (ha : isSc a) (hS : cSc σ a S) (hn : S.2.1.length ≤ 4) (hi : S.2.1[i]? = some s) (h : K s σ) : CallI (d + 2) mX3_spacingOf [.ref a, .int (nI i)] σ K := by
  have hl := lt_of hi
  refine cgX3_spacingOf ha (ct_hasTurn ha hS hn hl (br_f one_ne ⟨vp_in_nI (by omega) (by omega), ?_⟩))
  rw [ix_nI (by omega), hS.2.2.2.2.2 i s hi]
  exact h
def isW (t : Tg) : Bool := decide (t.2.2.2 = 1)
theorem ct_wallCount {K : Int32 → St → Prop} (ha : isSc a) (hS : cSc σ a S) (hn : S.1.length ≤ 6) (hw : ∀ t ∈ S.1, t.2.2.2 = 0 ∨ t.2.2.2 = 1) (h : K (nI (S.1.countP isW)) σ) : CallI (d + 3) mX3_wallCount [.ref a] σ K := by
  refine cgX3_wallCount ha ?_
  have loop : ∀ k i, i + k = S.1.length → Go mX3_wallCount (d + 3) 4 [.ref a, .int (nI ((S.1.take i).countP isW)), .int (nI i)] [] σ (QI K) := by
    intro k
    induction k with
    | zero =>
      intro i hi
      refine sgX3_wallCount_4 ha ?_
      rw [hS.1]
      refine br_t (nI_le (by omega) (by omega)) ?_
      rw [List.take_of_length_le (by omega)]
      exact h
    | succ k ih =>
      intro i hi
      refine sgX3_wallCount_4 ha ?_
      rw [hS.1]
      obtain ⟨t, ht⟩ := get_of (l := S.1) (i := i) (by omega)
      refine br_f (nI_ge (by omega) (by omega)) (ct_isWall ha hS hn ht (hw t (List.mem_of_getElem? ht)) ?_)
      have hk := ih (i + 1) (by omega)
      rw [take_s ht, List.countP_append] at hk
      rw [nI1, nI1]
      rcases hw t (List.mem_of_getElem? ht) with e | e
      · rw [e]
        refine br_t rfl ?_
        rw [Int32.add_zero]
        simpa [isW, e] using hk
      · rw [e]
        refine br_f one_ne ?_
        simpa [isW, e] using hk
  exact loop S.1.length 0 (by omega)
/-- a target with this distance and movement -/
def isAt (x v : Int32) (t : Tg) : Bool := decide (t.1 = x) && decide (t.2.2.1 = v)
theorem ct_holds {K : Int32 → St → Prop} {x v : Int32} (ha : isSc a) (hS : cSc σ a S) (hn : S.1.length ≤ 6) (h : K (bI (S.1.any (isAt x v))) σ) : CallI (d + 3) mX3_holds [.ref a, .int x, .int v] σ K := by
  refine cgX3_holds ha ?_
  have loop : ∀ k i, i + k = S.1.length → (S.1.take i).any (isAt x v) = false → Go mX3_holds (d + 3) 2 [.ref a, .int x, .int v, .int (nI i)] [] σ (QI K) := by
    intro k
    induction k with
    | zero =>
      intro i hi hf
      refine sgX3_holds_2 ha ?_
      rw [hS.1]
      refine br_t (nI_le (by omega) (by omega)) ?_
      rw [List.take_of_length_le (by omega)] at hf
      rw [hf] at h
      exact h
    | succ k ih =>
      intro i hi hf
      refine sgX3_holds_2 ha ?_
      rw [hS.1, nI1]
      obtain ⟨t, ht⟩ := get_of (l := S.1) (i := i) (by omega)
      have hk := ih (i + 1) (by omega)
      rw [take_s ht, List.any_append, hf] at hk
      refine br_f (nI_ge (by omega) (by omega)) (ct_distanceOf ha hS hn ht ?_)
      refine br_c' (fun c1 => ?_) (fun c1 => ?_)
      · exact hk (by simp [isAt, c1])
      · refine ct_movementOf ha hS hn ht ?_
        refine br_c' (fun c2 => ?_) (fun c2 => ?_)
        · exact hk (by simp [isAt, c2])
        · have : S.1.any (isAt x v) = true := List.any_eq_true.mpr ⟨t, List.mem_of_getElem? ht, by simp [isAt, c1, c2]⟩
          rw [this] at h
          exact h
  exact loop S.1.length 0 (by omega) rfl
/-- a target put at a place -/
def putT (σ : St) (a i : Nat) (t : Tg) : St := setA (setA (setA (setA σ (a + 1) i t.1) (a + 2) i t.2.1) (a + 3) i t.2.2.1) (a + 4) i t.2.2.2
theorem putT_F (σ : St) (a i : Nat) (t : Tg) : sF (putT σ a i t) = sF σ := rfl
theorem putT_fr (σ : St) (a i : Nat) (t : Tg) : Fr (inSc a) σ (putT σ a i t) :=
  (Fr.A ⟨by omega, by omega⟩).tr ((Fr.A ⟨by omega, by omega⟩).tr ((Fr.A ⟨by omega, by omega⟩).tr (Fr.A ⟨by omega, by omega⟩)))
theorem putT_5 (σ : St) (a i : Nat) (t : Tg) : sA (putT σ a i t) (a + 5) = sA σ (a + 5) := by
  funext j
  simp [putT, sA_setA]
theorem putT_at (σ : St) (a i : Nat) (t : Tg) : rowT (putT σ a i t) a i t := by
  unfold rowT putT
  refine ⟨?_, ?_, ?_, ?_⟩ <;> simp [sA_setA]
theorem putT_ne {σ : St} {a i j : Nat} {t u : Tg} (h : rowT σ a j u) (hj : j ≠ i) : rowT (putT σ a i t) a j u := by
  unfold rowT at h ⊢
  unfold putT
  obtain ⟨h1, h2, h3, h4⟩ := h
  refine ⟨?_, ?_, ?_, ?_⟩ <;> simp [sA_setA, hj] <;> assumption
theorem ct_put {K : St → Prop} (ha : isSc a) {n : Nat} (hF : sF σ a 5 = nI n) (hn : n ≤ 6) (hi : i < n) (hw : t.2.2.2 = 0 ∨ t.2.2.2 = 1) (h : K (putT σ a i t)) : CallU (d + 2) mX3_put [.ref a, .int (nI i), .int t.1, .int t.2.1, .int t.2.2.1, .int t.2.2.2] σ K := by
  have hin : vp_in (nI i) 6 := vp_in_nI (by omega) (by omega)
  refine cgX3_put ha (ct_hasN ha hF hn hi (br_f one_ne ⟨hin, ?_⟩))
  rintro _ rfl
  refine ⟨hin, ?_⟩
  rintro _ rfl
  refine ⟨hin, ?_⟩
  rintro _ rfl
  refine ⟨hin, ?_⟩
  rintro _ rfl
  rw [ix_nI (by omega), nbo_id hw]
  exact h
theorem rowT_keep {σ σ' : St} {j : Nat} {u : Tg} (h : rowT σ a j u) (e : sA σ' = sA σ) : rowT σ' a j u := by unfold rowT at h ⊢; rw [e]; exact h
theorem ct_join {K : Int32 → St → Prop} (ha : isSc a) (hS : cSc σ a S) (hn : S.1.length < 6) (hw : t.2.2.2 = 0 ∨ t.2.2.2 = 1) (h : ∀ σ', Fr (inSc a) σ σ' → cSc σ' a (S.1 ++ [t], S.2) → K (nI S.1.length) σ') : CallI (d + 3) mX3_join [.ref a, .int t.1, .int t.2.1, .int t.2.2.1, .int t.2.2.2] σ K := by
  refine cgX3_join ha (br_t (by rw [hS.1]; exact nI_lt (b := 6) hn (by omega)) ?_)
  rintro _ rfl
  have e1 : sF (setF σ a 5 (sF σ a 5 + 1)) a 5 = nI (S.1.length + 1) := by rw [sF_setF, if_pos ⟨rfl, rfl⟩, hS.1, nI1]
  rw [e1, nI_pred]
  refine ct_put ha (n := S.1.length + 1) e1 (by omega) (by omega) hw ?_
  rw [putT_F, e1, nI_pred]
  refine h _ ((Fr.F ⟨by omega, by omega⟩).tr (putT_fr _ a _ t)) ⟨?_, ?_, ?_, ?_, fun i u hu => ?_, fun j s hs => ?_⟩
  · rw [putT_F, e1]; simp
  · rw [putT_F, sF_setF, if_neg (by omega)]; exact hS.2.1
  · rw [putT_F, sF_setF, if_neg (by omega)]; exact hS.2.2.1
  · rw [putT_F, sF_setF, if_neg (by omega)]; exact hS.2.2.2.1
  · rcases Nat.lt_or_ge i S.1.length with hi | hi
    · rw [List.getElem?_append_left hi] at hu
      exact putT_ne (rowT_keep (hS.2.2.2.2.1 i u hu) (sA_setF _ _ _ _)) (by omega)
    · have hlt := lt_of hu
      simp at hlt
      have : i = S.1.length := by omega
      subst this
      simp at hu
      subst hu
      exact putT_at _ _ _ _
  · rw [putT_5, sA_setF]
    exact hS.2.2.2.2.2 j s hs
/-- a target at i, put at j with a distance of its own -/
theorem ct_putAs {K : St → Prop} {n j : Nat} {x : Int32} (ha : isSc a) (hF : sF σ a 5 = nI n) (hn : n ≤ 6) (hi : i < n) (hj : j < n) (ht : rowT σ a i t) (hw : t.2.2.2 = 0 ∨ t.2.2.2 = 1) (h : K (putT σ a j (x, t.2))) : CallU (d + 3) mX3_putAs [.ref a, .int (nI i), .int (nI j), .int x] σ K := by
  have hin : vp_in (nI i) 6 := vp_in_nI (by omega) (by omega)
  refine cgX3_putAs ha (cgX3_strengthOf ha (ct_hasN ha hF hn hi (br_f one_ne ⟨hin, ?_⟩)))
  refine cgX3_movementOf ha (ct_hasN ha hF hn hi (br_f one_ne ⟨hin, ?_⟩))
  refine cgX3_isWall ha (ct_hasN ha hF hn hi (br_f one_ne ⟨hin, ?_⟩))
  rw [ix_nI (by omega), ht.2.1, ht.2.2.1, ht.2.2.2]
  have hp := ct_put (d := d) (i := j) (t := (x, t.2)) (K := K) ha hF hn hj hw h
  rcases hw with e | e
  · rw [e]; refine br_t rfl ?_
    have e' : (x, t.2).2.2.2 = 0 := e
    rw [e'] at hp; exact hp
  · rw [e]; refine br_f one_ne ?_
    have e' : (x, t.2).2.2.2 = 1 := e
    rw [e'] at hp; exact hp
theorem ct_leave {K : St → Prop} (ha : isSc a) (hS : cSc σ a S) (hn : S.1.length ≤ 6) (hw : ∀ t ∈ S.1, t.2.2.2 = 0 ∨ t.2.2.2 = 1) (hi : i < S.1.length) (h : ∀ σ', Fr (inSc a) σ σ' → cSc σ' a (S.1.eraseIdx i, S.2) → K σ') : CallU (d + 4) mX3_leave [.ref a, .int (nI i)] σ K := by
  refine cgX3_leave ha (ct_has ha hS hn hi (br_c' (fun _ => ?_) (fun c => absurd c one_ne)))
  rw [nI1]
  have loop : ∀ k j σ', j + k = S.1.length → i < j → Fr (inSc a) σ σ' → sF σ' a = sF σ a → sA σ' (a + 5) = sA σ (a + 5) → (∀ q u, q + 1 < j → (S.1.eraseIdx i)[q]? = some u → rowT σ' a q u) → (∀ q u, j ≤ q → S.1[q]? = some u → rowT σ' a q u) → Go mX3_leave (d + 4) 13 [.ref a, .int (nI i), .int (nI j)] [] σ' (QU K) := by
    intro k
    induction k with
    | zero =>
      intro j σ' hj hij hf hF h5 hlo hhi
      refine sgX3_leave_13 ha ?_
      rw [hF, hS.1]
      refine br_t (nI_le (by omega) (by omega)) ?_
      rintro _ rfl
      have hlen : (S.1.eraseIdx i).length + 1 = S.1.length := by rw [List.length_eraseIdx_of_lt hi]; omega
      refine h _ (hf.tr (Fr.F ⟨by omega, by omega⟩)) ⟨?_, ?_, ?_, ?_, fun q u hu => ?_, fun q s hs => ?_⟩
      · rw [sF_setF, if_pos ⟨rfl, rfl⟩, ← hlen, nI_pred]
      · rw [sF_setF, if_neg (by omega), hF]; exact hS.2.1
      · rw [sF_setF, if_neg (by omega), hF]; exact hS.2.2.1
      · rw [sF_setF, if_neg (by omega), hF]; exact hS.2.2.2.1
      · have hq := lt_of hu
        exact rowT_keep (hlo q u (by simp at hq; omega) hu) (sA_setF _ _ _ _)
      · rw [sA_setF, h5]; exact hS.2.2.2.2.2 q s hs
    | succ k ih =>
      intro j σ' hj hij hf hF h5 hlo hhi
      refine sgX3_leave_13 ha ?_
      obtain ⟨u, hu⟩ := get_of (l := S.1) (i := j) (by omega)
      have hrow := hhi j u (Nat.le_refl _) hu
      have hF5 : sF σ' a 5 = nI S.1.length := by rw [hF]; exact hS.1
      rw [hF5]
      refine br_f (nI_ge (by omega) (by omega)) (cgX3_distanceOf ha (ct_hasN ha hF5 hn (by omega) (br_f one_ne ⟨vp_in_nI (by omega) (by omega), ?_⟩)))
      rw [ix_nI (by omega), hrow.1, show nI j - 1 = nI (j - 1) from by rw [show j = (j - 1) + 1 by omega, nI_pred]; rfl, nI1]
      refine ct_putAs ha hF5 hn (by omega) (by omega) hrow (hw u (List.mem_of_getElem? hu)) ?_
      refine ih (j + 1) _ (by omega) (by omega) (hf.tr (putT_fr _ a _ _)) (by rw [putT_F]; exact hF) (by rw [putT_5]; exact h5) (fun q v hq hv => ?_) (fun q v hq hv => ?_)
      · rcases Nat.lt_or_ge (q + 1) j with hlt | hge
        · exact putT_ne (hlo q v hlt hv) (by omega)
        · have : q = j - 1 := by omega
          subst this
          rw [List.getElem?_eraseIdx, if_neg (by omega), show j - 1 + 1 = j by omega, hu] at hv
          cases hv
          exact putT_at _ _ _ _
      · exact putT_ne (hhi q v (by omega) hv) (by omega)
  refine loop (S.1.length - (i + 1)) (i + 1) σ (by omega) (by omega) (Fr.rf σ) rfl rfl (fun q u hq hu => ?_) (fun q u _ hu => hS.2.2.2.2.1 q u hu)
  rw [List.getElem?_eraseIdx, if_pos (by omega)] at hu
  exact hS.2.2.2.2.1 q u hu
/-- a target after m turns -/
def mvT (m : Nat) (t : Tg) : Tg := (t.1 + t.2.2.1 * nI m, t.2)
def inT (t : Tg) : Bool := decide (1 ≤ t.1.toInt ∧ t.1.toInt ≤ 300)
theorem ct_isWithin {K : Int32 → St → Prop} {x lo hi : Int32} (h : K (bI (decide (lo.toInt ≤ x.toInt ∧ x.toInt ≤ hi.toInt))) σ) : CallI (d + 1) mX5_isWithin [.int x, .int lo, .int hi] σ K := by
  refine cgX5_isWithin (br_c (fun c => ?_) (fun c => br_c (fun c2 => ?_) (fun c2 => ?_)))
  · rw [Int32.lt_iff_toInt_lt] at c
    rw [decide_eq_false (by omega)] at h; exact h
  · rw [Int32.lt_iff_toInt_lt] at c c2
    rw [decide_eq_false (by omega)] at h; exact h
  · rw [Int32.lt_iff_toInt_lt] at c c2
    rw [decide_eq_true (by omega)] at h; exact h
theorem ct_moveAll {K : St → Prop} (ha : isSc a) (hS : cSc σ a S) (hn : S.1.length ≤ 6) (hw : ∀ t ∈ S.1, t.2.2.2 = 0 ∨ t.2.2.2 = 1) (h : ∀ σ', Fr (inSc a) σ σ' → cSc σ' a ((S.1.map (mvT S.2.1.length)).filter inT, S.2) → K σ') : CallU (d + 4) mX3_moveAll [.ref a] σ K := by
  refine cgX3_moveAll ha ?_
  generalize hG : (fun l : List Tg => (l.map (mvT S.2.1.length)).filter inT) = G at *
  have hG1 : ∀ (l : List Tg) (u : Tg), G (l ++ [u]) = G l ++ (if inT (mvT S.2.1.length u) then [mvT S.2.1.length u] else []) := by
    intro l u
    subst hG
    simp only [List.map_append, List.filter_append, List.map_cons, List.map_nil, List.filter_cons, List.filter_nil]
  have hGl : ∀ l, (G l).length ≤ l.length := by
    intro l
    subst hG
    exact Nat.le_trans (List.length_filter_le _ _) (by simp)
  have loop : ∀ k j σ', j + k = S.1.length → Fr (inSc a) σ σ' → sF σ' a = sF σ a → sA σ' (a + 5) = sA σ (a + 5) → (∀ (q : Nat) (u : Tg), (G (S.1.take j))[q]? = some u → rowT σ' a q u) → (∀ q u, j ≤ q → S.1[q]? = some u → rowT σ' a q u) → Go mX3_moveAll (d + 4) 4 [.ref a, .int (nI (G (S.1.take j)).length), .int (nI j), .null] [] σ' (QU K) := by
    intro k
    induction k with
    | zero =>
      intro j σ' hj hf hF h5 hlo hhi
      refine sgX3_moveAll_4 ha ?_
      rw [hF, hS.1]
      refine br_t (nI_le (by omega) (by omega)) ?_
      rintro _ rfl
      rw [List.take_of_length_le (by omega)] at hlo ⊢
      refine h _ (hf.tr (Fr.F ⟨by omega, by omega⟩)) ?_
      have hGS : (S.1.map (mvT S.2.1.length)).filter inT = G S.1 := by rw [← hG]
      rw [hGS]
      refine ⟨?_, ?_, ?_, ?_, fun q u hu => ?_, fun q s hs => ?_⟩
      · rw [sF_setF, if_pos ⟨rfl, rfl⟩]
      · rw [sF_setF, if_neg (by omega), hF]; exact hS.2.1
      · rw [sF_setF, if_neg (by omega), hF]; exact hS.2.2.1
      · rw [sF_setF, if_neg (by omega), hF]; exact hS.2.2.2.1
      · exact rowT_keep (hlo q u hu) (sA_setF _ _ _ _)
      · rw [sA_setF, h5]; exact hS.2.2.2.2.2 q s hs
    | succ k ih =>
      intro j σ' hj hf hF h5 hlo hhi
      refine sgX3_moveAll_4 ha ?_
      obtain ⟨u, hu⟩ := get_of (l := S.1) (i := j) (by omega)
      have hrow := hhi j u (Nat.le_refl _) hu
      have hF5 : sF σ' a 5 = nI S.1.length := by rw [hF]; exact hS.1
      have hF6 : sF σ' a 6 = nI S.2.1.length := by rw [hF]; exact hS.2.1
      have hin : vp_in (nI j) 6 := vp_in_nI (by omega) (by omega)
      have hle := hGl (S.1.take j)
      rw [List.length_take_of_le (by omega)] at hle
      have hk := ih (j + 1)
      rw [take_s hu, hG1] at hk
      rw [hF5]
      refine br_f (nI_ge (by omega) (by omega)) (cgX3_distanceOf ha (ct_hasN ha hF5 hn (by omega) (br_f one_ne ⟨hin, ?_⟩)))
      refine cgX3_movementOf ha (ct_hasN ha hF5 hn (by omega) (br_f one_ne ⟨hin, ?_⟩))
      rw [ix_nI (by omega), hrow.1, hrow.2.2.1, hF6, nI1, nI1]
      refine ct_isWithin ?_
      show (bI (inT (mvT S.2.1.length u)) = 0 → _) ∧ (¬ bI (inT (mvT S.2.1.length u)) = 0 → _)
      cases hb : inT (mvT S.2.1.length u)
      · rw [hb] at hk
        refine br_t rfl ?_
        simp only [Bool.false_eq_true, if_false, List.append_nil] at hk
        exact hk σ' (by omega) hf hF h5 hlo (fun q v hq hv => hhi q v (by omega) hv)
      · rw [hb] at hk
        refine br_f one_ne ?_
        simp only [if_true] at hk
        refine ct_putAs ha hF5 hn (by omega) (by omega) hrow (hw u (List.mem_of_getElem? hu)) ?_
        rw [List.length_append] at hk
        refine hk _ (by omega) (hf.tr (putT_fr _ a _ _)) (by rw [putT_F]; exact hF) (by rw [putT_5]; exact h5) (fun q v hv => ?_) (fun q v hq hv => ?_)
        · rcases Nat.lt_or_ge q (G (S.1.take j)).length with hlt | hge
          · rw [List.getElem?_append_left hlt] at hv
            exact putT_ne (hlo q v hv) (by omega)
          · have hq := lt_of hv
            simp at hq
            have : q = (G (S.1.take j)).length := by omega
            subst this
            simp at hv
            subst hv
            exact putT_at _ _ _ _
        · exact putT_ne (hhi q v (by omega) hv) (by omega)
  have h0 : G (S.1.take 0) = [] := by rw [← hG]; rfl
  have hl := loop S.1.length 0 σ (by omega) (Fr.rf σ) rfl rfl (fun q u hu => by rw [h0] at hu; simp at hu) (fun q u _ hu => hS.2.2.2.2.1 q u hu)
  rw [h0] at hl
  exact hl
theorem ct_forgetTurns {K : St → Prop} (ha : isSc a) (hS : cSc σ a S) (h : ∀ σ', Fr (inSc a) σ σ' → cSc σ' a (S.1, [], S.2.2) → K σ') : CallU (d + 1) mX3_forgetTurns [.ref a] σ K := by
  refine cgX3_forgetTurns ha ?_
  rintro _ rfl
  refine h _ (Fr.F ⟨by omega, by omega⟩) ⟨?_, ?_, ?_, ?_, hS.2.2.2.2.1, fun j s hs => by simp at hs⟩
  · rw [sF_setF, if_neg (by omega)]; exact hS.1
  · rw [sF_setF, if_pos ⟨rfl, rfl⟩]; rfl
  · rw [sF_setF, if_neg (by omega)]; exact hS.2.2.1
  · rw [sF_setF, if_neg (by omega)]; exact hS.2.2.2.1
theorem ct_addTurn0 {K : St → Prop} {x : Int32} (ha : isSc a) (hx : x ≤ 0) (h : K σ) : CallU (d + 1) mX3_addTurn [.ref a, .int x] σ K := cgX3_addTurn ha (br_t hx h)
theorem ct_addTurn {K : St → Prop} {x : Int32} (ha : isSc a) (hS : cSc σ a S) (hn : S.2.1.length < 4) (hx : ¬ x ≤ 0) (h : ∀ σ', Fr (inSc a) σ σ' → cSc σ' a (S.1, S.2.1 ++ [x], S.2.2) → K σ') : CallU (d + 1) mX3_addTurn [.ref a, .int x] σ K := by
  refine cgX3_addTurn ha (br_f hx ?_)
  rw [hS.2.1]
  refine br_f (nI_pos (by omega)) (br_f (nI_ge (b := 4) hn (by omega)) ⟨vp_in_nI (by omega) (by omega), ?_⟩)
  rintro _ rfl _ rfl
  rw [ix_nI (by omega)]
  refine h _ ((Fr.A ⟨by omega, by omega⟩).tr (Fr.F ⟨by omega, by omega⟩)) ⟨?_, ?_, ?_, ?_, fun i u hu => ?_, fun j s hs => ?_⟩
  · rw [sF_setF, if_neg (by omega), sF_setA]; exact hS.1
  · rw [sF_setF, if_pos ⟨rfl, rfl⟩, sF_setA, hS.2.1, nI1]; simp
  · rw [sF_setF, if_neg (by omega), sF_setA]; exact hS.2.2.1
  · rw [sF_setF, if_neg (by omega), sF_setA]; exact hS.2.2.2.1
  · have := hS.2.2.2.2.1 i u hu
    unfold rowT at this ⊢
    rw [sA_setF]
    simp only [sA_setA]
    rw [if_neg (by omega), if_neg (by omega), if_neg (by omega), if_neg (by omega)]
    exact this
  · rw [sA_setF, sA_setA]
    rcases Nat.lt_or_ge j S.2.1.length with hj | hj
    · rw [List.getElem?_append_left hj] at hs
      rw [if_neg (by omega)]
      exact hS.2.2.2.2.2 j s hs
    · have hlt := lt_of hs
      simp at hlt
      have : j = S.2.1.length := by omega
      subst this
      simp at hs
      rw [if_pos ⟨rfl, rfl⟩, hs]
theorem ct_changeBlind {K : Int32 → St → Prop} {x : Int32} (ha : isSc a) (hS : cSc σ a S) (h : ∀ σ', Fr (inSc a) σ σ' → cSc σ' a (S.1, S.2.1, x, S.2.2.2) → K S.2.2.1 σ') : CallI (d + 1) mX3_changeBlind [.ref a, .int x] σ K := by
  refine cgX3_changeBlind ha ?_
  rintro _ rfl
  rw [hS.2.2.1]
  refine h _ (Fr.F ⟨by omega, by omega⟩) ⟨?_, ?_, ?_, ?_, hS.2.2.2.2.1, hS.2.2.2.2.2⟩
  · rw [sF_setF, if_neg (by omega)]; exact hS.1
  · rw [sF_setF, if_neg (by omega)]; exact hS.2.1
  · rw [sF_setF, if_pos ⟨rfl, rfl⟩]
  · rw [sF_setF, if_neg (by omega)]; exact hS.2.2.2.1
theorem ct_changeLoud {K : Int32 → St → Prop} {x : Int32} (ha : isSc a) (hS : cSc σ a S) (h : ∀ σ', Fr (inSc a) σ σ' → cSc σ' a (S.1, S.2.1, S.2.2.1, x) → K S.2.2.2 σ') : CallI (d + 1) mX3_changeLoud [.ref a, .int x] σ K := by
  refine cgX3_changeLoud ha ?_
  rintro _ rfl
  rw [hS.2.2.2.1]
  refine h _ (Fr.F ⟨by omega, by omega⟩) ⟨?_, ?_, ?_, ?_, hS.2.2.2.2.1, hS.2.2.2.2.2⟩
  · rw [sF_setF, if_neg (by omega)]; exact hS.1
  · rw [sF_setF, if_neg (by omega)]; exact hS.2.1
  · rw [sF_setF, if_neg (by omega)]; exact hS.2.2.1
  · rw [sF_setF, if_pos ⟨rfl, rfl⟩]
theorem cpy0 {f g : Nat → Int32} {n j : Nat} (h : j < n) : va_cpy f g 0 0 n j = f j := by
  unfold va_cpy
  rw [if_pos ⟨Nat.zero_le _, by omega⟩]
  congr 1
  omega
theorem ct_become {K : St → Prop} {b : Nat} (ha : isSc a) (hb : isSc b) (hS : cSc σ b S) (hok : okS S) (h : ∀ σ', Fr (inSc a) σ σ' → cSc σ' a S → K σ') : CallU (d + 1) mX3_become [.ref a, .ref b] σ K := by
  have hn := hok.1
  have hm := hok.2.2.2.1
  refine cgX3_become ha hb ?_
  rw [show ix 0 = 0 from by decide +kernel, show ix 6 = 6 from by decide +kernel, show ix 4 = 4 from by decide +kernel]
  intro s1 e1 s2 e2 s3 e3 s4 e4
  have hab := sc_apart ha hb
  have f4 : Fr (inSc a) σ s4 := by
    subst e1 e2 e3 e4
    exact ((((Fr.rf σ).toR ⟨by omega, by omega⟩).toR ⟨by omega, by omega⟩).toR ⟨by omega, by omega⟩).toR ⟨by omega, by omega⟩
  have g4 : sF s4 = sF σ := by subst e1 e2 e3 e4; rfl
  have hr : ∀ (q : Nat) (u : Tg), S.1[q]? = some u → sA s4 (a + 1) q = u.1 ∧ sA s4 (a + 2) q = u.2.1 ∧ sA s4 (a + 3) q = u.2.2.1 ∧ sA s4 (b + 4) q = u.2.2.2 := by
    intro q u hu
    have hi := lt_of hu
    have hr := hS.2.2.2.2.1 q u hu
    unfold rowT at hr
    subst e1 e2 e3 e4
    simp only [sA_setR]
    rcases hab with rfl | hab | hab
    · simp [cpy0 (show q < 6 by omega)]
      exact hr
    · simp [cpy0 (show q < 6 by omega), show ¬ b + 2 = a + 1 by omega, show ¬ b + 3 = a + 1 by omega, show ¬ b + 3 = a + 2 by omega, show ¬ b + 4 = a + 1 by omega, show ¬ b + 4 = a + 2 by omega, show ¬ b + 4 = a + 3 by omega, show ¬ b = a + 1 by omega]
      exact hr
    · simp [cpy0 (show q < 6 by omega), show ¬ b + 2 = a + 1 by omega, show ¬ b + 3 = a + 1 by omega, show ¬ b + 3 = a + 2 by omega, show ¬ b + 4 = a + 1 by omega, show ¬ b + 4 = a + 2 by omega, show ¬ b + 4 = a + 3 by omega, show ¬ b = a + 1 by omega]
      exact hr
  have hs : ∀ (j : Nat) (s : Int32), S.2.1[j]? = some s → sA s4 (a + 5) j = s := by
    intro j s hs
    have hj := lt_of hs
    have hr0 := hS.2.2.2.2.2 j s hs
    clear hr
    subst e1 e2 e3 e4
    simp only [sA_setR]
    rcases hab with rfl | hab | hab
    · simp [cpy0 (show j < 4 by omega)]
      exact hr0
    · simp [cpy0 (show j < 4 by omega), show ¬ b + 5 = a + 1 by omega, show ¬ b + 5 = a + 2 by omega, show ¬ b + 5 = a + 3 by omega]
      exact hr0
    · simp [cpy0 (show j < 4 by omega), show ¬ b + 5 = a + 1 by omega, show ¬ b + 5 = a + 2 by omega, show ¬ b + 5 = a + 3 by omega]
      exact hr0
  clear e1 e2 e3 e4 s1 s2 s3
  have loop : ∀ k i σ', i + k = 6 → Fr (inSc a) σ σ' → sF σ' = sF σ → (∀ c, c ≠ a + 4 → sA σ' c = sA s4 c) → (∀ (q : Nat) (u : Tg), q < i → S.1[q]? = some u → sA σ' (a + 4) q = u.2.2.2) → (∀ (q : Nat) (u : Tg), S.1[q]? = some u → sA σ' (b + 4) q = u.2.2.2) → Go mX3_become (d + 1) 61 [.ref a, .ref b, .int (nI i)] [] σ' (QU K) := by
    intro k
    induction k with
    | zero =>
      intro i σ' hi f g hA hd _
      refine sgX3_become_61 ha hb (br_t (nI_le (a := 6) (by omega) (by omega)) ?_)
      rintro _ rfl _ rfl _ rfl _ rfl
      refine h _ ((((f.toF ⟨by omega, by omega⟩).toF ⟨by omega, by omega⟩).toF ⟨by omega, by omega⟩).toF ⟨by omega, by omega⟩) ⟨?_, ?_, ?_, ?_, fun q u hu => ?_, fun j s hj => ?_⟩
      · simp only [sF_setF, g]
        rcases hab with rfl | hab | hab
        · simp; exact hS.1
        · simp [show ¬ b = a by omega]; exact hS.1
        · simp [show ¬ b = a by omega]; exact hS.1
      · simp only [sF_setF, g]
        rcases hab with rfl | hab | hab
        · simp; exact hS.2.1
        · simp [show ¬ b = a by omega]; exact hS.2.1
        · simp [show ¬ b = a by omega]; exact hS.2.1
      · simp only [sF_setF, g]
        rcases hab with rfl | hab | hab
        · simp; exact hS.2.2.1
        · simp [show ¬ b = a by omega]; exact hS.2.2.1
        · simp [show ¬ b = a by omega]; exact hS.2.2.1
      · simp only [sF_setF, g]
        rcases hab with rfl | hab | hab
        · simp; exact hS.2.2.2.1
        · simp [show ¬ b = a by omega]; exact hS.2.2.2.1
        · simp [show ¬ b = a by omega]; exact hS.2.2.2.1
      · have hl := lt_of hu
        have r := hr q u hu
        unfold rowT
        simp only [sA_setF]
        rw [hA (a + 1) (by omega), hA (a + 2) (by omega), hA (a + 3) (by omega)]
        exact ⟨r.1, r.2.1, r.2.2.1, hd q u (by omega) hu⟩
      · simp only [sA_setF]
        rw [hA (a + 5) (by omega)]
        exact hs j s hj
    | succ k ih =>
      intro i σ' hi f g hA hd hw
      refine sgX3_become_61 ha hb (br_f (nI_ge (b := 6) (by omega) (by omega)) ⟨vp_in_nI (by omega) (by omega), vp_in_nI (by omega) (by omega), ?_⟩)
      rintro _ rfl
      rw [ix_nI (by omega), nI1]
      have hz : ∀ u, S.1[i]? = some u → nbo (sA σ' (b + 4) i) = u.2.2.2 := fun u hu => by
        rw [hw i u hu]
        exact nbo_id (hok.2.1 u (List.mem_of_getElem? hu)).2.2.2.1
      refine ih (i + 1) _ (by omega) (f.toA ⟨by omega, by omega⟩) g (fun c hc => ?_) (fun q u hq hu => ?_) (fun q u hu => ?_)
      · rw [← hA c hc]
        funext j
        rw [sA_setA, if_neg (fun z => hc z.1)]
      · rw [sA_setA]
        split
        · next e => obtain ⟨_, rfl⟩ := e; exact hz u hu
        · next e => exact hd q u (Nat.lt_of_le_of_ne (by omega) (fun z => e ⟨rfl, z⟩)) hu
      · rw [sA_setA]
        split
        · next e => obtain ⟨_, rfl⟩ := e; exact hz u hu
        · exact hw q u hu
  exact loop 6 0 s4 rfl f4 g4 (fun _ _ => rfl) (fun q u hq _ => absurd hq (by omega)) (fun q u hu => (hr q u hu).2.2.2)
theorem ct_targetCount {K : Int32 → St → Prop} (ha : isSc a) (hS : cSc σ a S) (h : K (nI S.1.length) σ) : CallI (d + 1) mX3_targetCount [.ref a] σ K := cgX3_targetCount ha (by rw [hS.1]; exact h)
theorem ct_turnCount {K : Int32 → St → Prop} (ha : isSc a) (hS : cSc σ a S) (h : K (nI S.2.1.length) σ) : CallI (d + 1) mX3_turnCount [.ref a] σ K := cgX3_turnCount ha (by rw [hS.2.1]; exact h)
theorem ct_blindBelow {K : Int32 → St → Prop} (ha : isSc a) (hS : cSc σ a S) (h : K S.2.2.1 σ) : CallI (d + 1) mX3_blindBelow [.ref a] σ K := cgX3_blindBelow ha (by rw [hS.2.2.1]; exact h)
theorem ct_loudFrom {K : Int32 → St → Prop} (ha : isSc a) (hS : cSc σ a S) (h : K S.2.2.2 σ) : CallI (d + 1) mX3_loudFrom [.ref a] σ K := cgX3_loudFrom ha (by rw [hS.2.2.2.1]; exact h)
end SCENE
