/-! what the calls do, in lists; the component's picture of it -/
/-- scene, history, snapshot, pad -/
abbrev Ab : Type := Sn × List Sn × Option Sn × List Int32
def pushH (H : List Sn) (S : Sn) : List Sn := (if H.length = 4 then H.drop 1 else H) ++ [S]
def okA (A : Ab) : Prop := okS A.1 ∧ A.2.1.length ≤ 4 ∧ (∀ T ∈ A.2.1, okS T) ∧ (∀ T, A.2.2.1 = some T → okS T) ∧ A.2.2.2.length ≤ 60 ∧ (∀ c ∈ A.2.2.2, 33 ≤ c.toInt ∧ c.toInt ≤ 126)
def pOK (σ : St) : Prop := (∀ i, i < 4 → sP σ i = 20 ∨ sP σ i = 26 ∨ sP σ i = 32 ∨ sP σ i = 38) ∧ ∀ i j, i < 4 → j < 4 → sP σ i = sP σ j → i = j
def cR (σ : St) (A : Ab) : Prop := cSc σ 1 A.1 ∧ (sF σ 0 9 = nI A.2.1.length ∧ ∀ (q : Nat) (T : Sn), A.2.1[q]? = some T → cSc σ (sP σ q) T) ∧ pOK σ ∧ (sF σ 0 8 = bI A.2.2.1.isSome ∧ ∀ T, A.2.2.1 = some T → cSc σ 13 T) ∧ (sF σ 44 1 = nI A.2.2.2.length ∧ ∀ (i : Nat) (c : Int32), A.2.2.2[i]? = some c → sA σ 45 i = c)
/-- the model's cells are as they were -/
def FrM (σ σ' : St) : Prop := ∀ c, 64 ≤ c → sF σ' c = sF σ c ∧ sA σ' c = sA σ c
theorem FrM.rf (σ : St) : FrM σ σ := fun _ _ => ⟨rfl, rfl⟩
theorem FrM.tr {a b c : St} (h : FrM a b) (k : FrM b c) : FrM a c := fun x hx => ⟨(k x hx).1.trans (h x hx).1, (k x hx).2.trans (h x hx).2⟩
theorem Fr.M {C : Nat → Prop} {a b : St} (h : Fr C a b) (hC : ∀ c, C c → c < 64) : FrM a b := fun c hc => h.1 c (fun z => by have := hC c z; omega)
def scr (c : Nat) : Prop := (7 ≤ c ∧ c ≤ 12) ∨ 46 ≤ c
theorem one_sc : isSc 1 := Or.inl rfl
theorem sc7 : isSc 7 := Or.inr (Or.inl rfl)
theorem sc13 : isSc 13 := Or.inr (Or.inr (Or.inl rfl))
theorem pOK.sc {σ : St} (h : pOK σ) {i : Nat} (hi : i < 4) : isSc (sP σ i) ∧ 20 ≤ sP σ i ∧ sP σ i ≤ 38 := by
  rcases h.1 i hi with e | e | e | e <;> rw [e] <;> exact ⟨by unfold isSc; omega, by omega, by omega⟩
theorem cR.hlen {σ : St} {A : Ab} (h : cR σ A) (hA : okA A) {q : Nat} {T : Sn} (hq : A.2.1[q]? = some T) : q < 4 := Nat.lt_of_lt_of_le (lt_of hq) hA.2.1
theorem cR.keep {σ σ' : St} {A : Ab} (hA : okA A) (h : cR σ A) (f : Fr scr σ σ') : cR σ' A := by
  have hP : sP σ' = sP σ := f.2.1
  have n0 : ∀ c, c < 7 ∨ (13 ≤ c ∧ c < 46) → ¬ scr c := fun c hc z => by unfold scr at z; omega
  have e0 := (f.1 0 (n0 0 (by omega))).1
  have e44 := (f.1 44 (n0 44 (by omega))).1
  have e45 := (f.1 45 (n0 45 (by omega))).2
  obtain ⟨h1, ⟨h2, h2'⟩, h3, ⟨h4, h4'⟩, h5, h5'⟩ := id h
  refine ⟨h1.keep f (fun c hc => n0 c (by unfold inSc at hc; omega)), ⟨by rw [e0]; exact h2, fun q T hq => ?_⟩, ?_, ⟨by rw [e0]; exact h4, fun T hT => (h4' T hT).keep f (fun c hc => n0 c (by unfold inSc at hc; omega))⟩, by rw [e44]; exact h5, fun i c hi => by rw [e45]; exact h5' i c hi⟩
  · rw [hP]
    have := (h3.sc (h.hlen hA hq)).2
    exact (h2' q T hq).keep f (fun c hc => n0 c (by unfold inSc at hc; omega))
  · unfold pOK; rw [hP]; exact h3
/-- another scene -/
theorem cR.sc {σ σ' : St} {A : Ab} {S : Sn} (hA : okA A) (h : cR σ A) (f : Fr (inSc 1) σ σ') (hS : cSc σ' 1 S) : cR σ' (S, A.2) := by
  have hP : sP σ' = sP σ := f.2.1
  have n0 : ∀ c, c = 0 ∨ 7 ≤ c → ¬ inSc 1 c := fun c hc z => by unfold inSc at z; omega
  have e0 := (f.1 0 (n0 0 (by omega))).1
  have e44 := (f.1 44 (n0 44 (by omega))).1
  have e45 := (f.1 45 (n0 45 (by omega))).2
  obtain ⟨h1, ⟨h2, h2'⟩, h3, ⟨h4, h4'⟩, h5, h5'⟩ := id h
  refine ⟨hS, ⟨by rw [e0]; exact h2, fun q T hq => ?_⟩, ?_, ⟨by rw [e0]; exact h4, fun T hT => (h4' T hT).keep f (fun c hc => n0 c (by unfold inSc at hc; omega))⟩, by rw [e44]; exact h5, fun i c hi => by rw [e45]; exact h5' i c hi⟩
  · rw [hP]
    have := (h3.sc (h.hlen hA hq)).2
    exact (h2' q T hq).keep f (fun c hc => n0 c (by unfold inSc at hc; omega))
  · unfold pOK; rw [hP]; exact h3
theorem okPush {A : Ab} (hA : okA A) : okA (A.1, pushH A.2.1 A.1, A.2.2) := by
  refine ⟨hA.1, ?_, ?_, hA.2.2.2⟩
  · show (pushH A.2.1 A.1).length ≤ 4
    have := hA.2.1
    unfold pushH
    split
    · rw [List.length_append, List.length_drop]; simp; omega
    · rw [List.length_append]; simp; omega
  · intro T hT
    have hT' : T ∈ pushH A.2.1 A.1 := hT
    unfold pushH at hT'
    rcases List.mem_append.mp hT' with h | h
    · split at h
      · exact hA.2.2.1 T (List.mem_of_mem_drop h)
      · exact hA.2.2.1 T h
    · simp at h; rw [h]; exact hA.1
theorem sP_setP (σ : St) (i v j : Nat) : sP (setP σ i v) j = if j = i then v else sP σ j := rfl
section OPS
variable {d : Nat} {σ : St} {A : Ab}
theorem ct_forgetOldest {K : St → Prop} (hP : pOK σ) (h : ∀ σ', sF σ' = sF (setF σ 0 9 3) → sA σ' = sA σ → sL σ' = sL σ → (∀ j, j < 3 → sP σ' j = sP σ (j + 1)) → sP σ' 3 = sP σ 0 → K σ') : CallU (d + 1) mX5_forgetOldest [.ref 0] σ K := by
  refine cgX5_forgetOldest ?_
  have loop : ∀ k v σ', v + k = 4 → 1 ≤ v → sF σ' = sF σ → sA σ' = sA σ → sL σ' = sL σ → sP σ' (v - 1) = sP σ 0 → (∀ j, j < v - 1 → sP σ' j = sP σ (j + 1)) → (∀ j, v ≤ j → sP σ' j = sP σ j) → Go mX5_forgetOldest (d + 1) 2 [.ref 0, .int (nI v), .null] [] σ' (QU K) := by
    intro k
    induction k with
    | zero =>
      intro v σ' hv h1 hF hA hL ha hb hc
      refine sgX5_forgetOldest_2 (br_t (nI_le (a := 4) (by omega) (by omega)) ?_)
      rintro _ rfl
      have : v = 4 := by omega
      subst this
      refine h _ ?_ hA hL hb ha
      unfold setF
      rw [hF]
      rfl
    | succ k ih =>
      intro v σ' hv h1 hF hA hL ha hb hc
      have ev : nI v - 1 = nI (v - 1) := by rw [show v = (v - 1) + 1 by omega, nI_pred]; rfl
      refine sgX5_forgetOldest_2 (br_f (nI_ge (b := 4) (by omega) (by omega)) ?_)
      rw [ev, ix_nI (by omega), ix_nI (by omega), nI1]
      have i1 : vp_in (nI (v - 1)) 4 := vp_in_nI (by omega) (by omega)
      have i2 : vp_in (nI v) 4 := vp_in_nI (by omega) (by omega)
      have hcv := hc v (Nat.le_refl _)
      refine ⟨i1, ?_⟩
      rintro _ rfl
      rw [ha]
      refine ⟨(hP.sc (by omega)).1, i2, ?_⟩
      rintro _ rfl
      rw [hcv]
      refine ⟨(hP.sc (by omega)).1, i1, ?_⟩
      rintro _ rfl
      refine ⟨i2, ?_⟩
      rintro _ rfl
      refine ih (v + 1) _ (by omega) (by omega) hF hA hL ?_ (fun j hj => ?_) (fun j hj => ?_)
      · rw [sP_setP, if_pos (by omega)]
      · rw [sP_setP, if_neg (by omega), sP_setP]
        rcases Nat.decEq j (v - 1) with hne | he
        · rw [if_neg hne]; exact hb j (by omega)
        · rw [if_pos he, he, show v - 1 + 1 = v by omega]
      · rw [sP_setP, if_neg (by omega), sP_setP, if_neg (by omega)]; exact hc j (by omega)
  exact loop 3 1 σ rfl (Nat.le_refl _) rfl rfl rfl rfl (fun j hj => by omega) (fun _ _ => rfl)
/-- the state is recorded where there is a place for it -/
theorem ct_push {K : St → Prop} (hA : okA A) (h : cR σ A) (hn : A.2.1.length < 4) (k : ∀ σ', FrM σ σ' → cR σ' (A.1, A.2.1 ++ [A.1], A.2.2) → K σ') :
    ((sF σ 0 9) < 0 → K σ) ∧ (¬ (sF σ 0 9) < 0 → (4 ≤ (sF σ 0 9) → K σ) ∧ (¬ 4 ≤ (sF σ 0 9) → vp_in (sF σ 0 9) 4 ∧ ∀ q4, q4 = sP σ (ix (sF σ 0 9)) → isSc q4 ∧ CallU (d + 1) mX3_become [.ref q4, .ref 1] σ (fun s5 => ∀ s6, s6 = setF s5 0 9 ((sF s5 0 9) + 1) → K s6))) := by
  obtain ⟨h1, ⟨h2, h2'⟩, h3, ⟨h4, h4'⟩, h5, h5'⟩ := id h
  rw [h2, ix_nI (by omega)]
  refine br_f (nI_pos (by omega)) (br_f (nI_ge (b := 4) hn (by omega)) ⟨vp_in_nI hn (by omega), ?_⟩)
  rintro _ rfl
  have hq := h3.sc hn
  refine ⟨hq.1, ct_become hq.1 one_sc h1 hA.1 (fun σ' f hS => ?_)⟩
  rintro _ rfl
  have hP : sP σ' = sP σ := f.2.1
  have n0 : ∀ c, c < 20 ∨ 44 ≤ c → ¬ inSc (sP σ A.2.1.length) c := fun c hc z => by
    have := hq.2
    unfold inSc at z
    omega
  have e0 := (f.1 0 (n0 0 (by omega))).1
  have e44 := (f.1 44 (n0 44 (by omega))).1
  have e45 := (f.1 45 (n0 45 (by omega))).2
  have f2 : Fr (fun c => inSc (sP σ A.2.1.length) c ∨ c = 0) σ (setF σ' 0 9 (sF σ' 0 9 + 1)) := (f.mono (fun _ z => Or.inl z)).toF (Or.inr rfl)
  have f0 : Fr (fun c => c = 0) σ' (setF σ' 0 9 (sF σ' 0 9 + 1)) := Fr.F rfl
  refine k _ (f2.M (fun c hc => ?_)) ⟨?_, ⟨?_, fun q T hqT => ?_⟩, ?_, ⟨?_, fun T hT => ?_⟩, ?_, fun i c hi => ?_⟩
  · have := hq.2
    rcases hc with hc | hc
    · unfold inSc at hc; omega
    · omega
  · exact h1.keep f2 (fun c hc z => by
      rcases z with z | z
      · exact n0 c (by unfold inSc at hc; omega) z
      · unfold inSc at hc; omega)
  · rw [sF_setF, if_pos ⟨rfl, rfl⟩, e0, h2, nI1]; simp
  · rw [sP_setF, hP]
    rcases Nat.lt_or_ge q A.2.1.length with hlt | hge
    · rw [List.getElem?_append_left hlt] at hqT
      have hq2 := h3.sc (i := q) (by omega)
      refine (h2' q T hqT).keep f2 (fun c hc z => ?_)
      rcases z with z | z
      · rcases sc_apart hq.1 hq2.1 with e | e | e
        · exact absurd (h3.2 _ _ hn (by omega) e) (by omega)
        · unfold inSc at hc z; omega
        · unfold inSc at hc z; omega
      · have := hq2.2
        unfold inSc at hc; omega
    · have hlt := lt_of hqT
      simp at hlt
      have e : q = A.2.1.length := by omega
      subst e
      simp at hqT
      subst hqT
      refine hS.keep f0 (fun c hc z => ?_)
      have := hq.2
      unfold inSc at hc; omega
  · unfold pOK; rw [sP_setF, hP]; exact h3
  · rw [sF_setF, if_neg (by omega), e0]; exact h4
  · refine (h4' T hT).keep f2 (fun c hc z => ?_)
    rcases z with z | z
    · exact n0 c (by unfold inSc at hc; omega) z
    · unfold inSc at hc; omega
  · rw [sF_setF, if_neg (by omega), e44]; exact h5
  · rw [sA_setF, e45]; exact h5' i c hi
theorem ct_remember {K : St → Prop} (hA : okA A) (h : cR σ A) (k : ∀ σ', FrM σ σ' → cR σ' (A.1, pushH A.2.1 A.1, A.2.2) → K σ') : CallU (d + 2) mX5_remember [.ref 0] σ K := by
  obtain ⟨h1, ⟨h2, h2'⟩, h3, ⟨h4, h4'⟩, h5, h5'⟩ := id h
  have hl := hA.2.1
  refine cgX5_remember ?_
  rcases Nat.lt_or_ge A.2.1.length 4 with hn | hn
  · have hp : pushH A.2.1 A.1 = A.2.1 ++ [A.1] := by unfold pushH; rw [if_neg (by omega)]
    rw [hp] at k
    exact br_t (by rw [h2]; exact nI_lt (b := 4) hn (by omega)) (ct_push hA h hn k)
  · have hp : pushH A.2.1 A.1 = A.2.1.drop 1 ++ [A.1] := by unfold pushH; rw [if_pos (by omega)]
    rw [hp] at k
    refine br_f (by rw [h2]; exact nI_nlt (b := 4) hn (by omega)) (ct_forgetOldest h3 (fun σ' eF eA eL eP eP3 => ?_))
    have hA' : okA (A.1, A.2.1.drop 1, A.2.2) := ⟨hA.1, by show (A.2.1.drop 1).length ≤ 4; rw [List.length_drop]; omega, fun T hT => hA.2.2.1 T (List.mem_of_mem_drop hT), hA.2.2.2⟩
    have eF' : ∀ c k, ¬ (c = 0 ∧ k = 9) → sF σ' c k = sF σ c k := fun c k hc => by rw [eF, sF_setF, if_neg hc]
    have kp : ∀ (a : Nat) (T : Sn), a ≠ 0 → cSc σ a T → cSc σ' a T := by
      intro a T ha hc
      obtain ⟨c1, c2, c3, c4, c5, c6⟩ := hc
      refine ⟨by rw [eF' _ _ (by omega)]; exact c1, by rw [eF' _ _ (by omega)]; exact c2, by rw [eF' _ _ (by omega)]; exact c3, by rw [eF' _ _ (by omega)]; exact c4, fun i t ht => ?_, fun j s hs => by rw [eA]; exact c6 j s hs⟩
      have := c5 i t ht
      unfold rowT at this ⊢
      rw [eA]; exact this
    have hc' : cR σ' (A.1, A.2.1.drop 1, A.2.2) := by
      refine ⟨kp 1 _ (by omega) h1, ⟨?_, fun q T hq => ?_⟩, ⟨fun i hi => ?_, fun i j hi hj hij => ?_⟩, ⟨?_, fun T hT => kp 13 _ (by omega) (h4' T hT)⟩, ?_, fun i c hi => ?_⟩
      · rw [eF, sF_setF, if_pos ⟨rfl, rfl⟩]
        show 3 = nI (A.2.1.drop 1).length
        rw [List.length_drop, show A.2.1.length = 4 by omega]
        rfl
      · have hq' : (A.2.1.drop 1)[q]? = some T := hq
        have hql := lt_of hq'
        rw [List.length_drop] at hql
        rw [List.getElem?_drop] at hq'
        rw [eP q (by omega)]
        have := h3.sc (i := q + 1) (by omega)
        exact kp _ T (by omega) (h2' (q + 1) T (by rw [Nat.add_comm]; exact hq'))
      · rcases Nat.lt_or_ge i 3 with h6 | h6
        · rw [eP i h6]; exact h3.1 _ (by omega)
        · rw [show i = 3 by omega, eP3]; exact h3.1 _ (by omega)
      · rcases Nat.lt_or_ge i 3 with h6 | h6 <;> rcases Nat.lt_or_ge j 3 with h7 | h7
        · rw [eP i h6, eP j h7] at hij
          have := h3.2 _ _ (by omega) (by omega) hij
          omega
        · rw [eP i h6, show j = 3 by omega, eP3] at hij
          have := h3.2 _ _ (by omega) (by omega) hij
          omega
        · rw [eP j h7, show i = 3 by omega, eP3] at hij
          have := h3.2 _ _ (by omega) (by omega) hij
          omega
        · omega
      · rw [eF' _ _ (by omega)]; exact h4
      · rw [eF' _ _ (by omega)]; exact h5
      · rw [eA]; exact h5' i c hi
    refine ct_push (A := (A.1, A.2.1.drop 1, A.2.2)) hA' hc' (by show (A.2.1.drop 1).length < 4; rw [List.length_drop]; omega) (fun s2 f2 hc2 => k s2 (FrM.tr (fun c hc => ⟨?_, by rw [eA]⟩) f2) hc2)
    funext k
    exact eF' c k (by omega)
end OPS
