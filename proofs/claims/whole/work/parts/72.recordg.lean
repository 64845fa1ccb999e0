/-! remember and record, with what they leave as it was -/
def FrG (σ σ' : St) : Prop := ∀ c, 46 ≤ c → sF σ' c = sF σ c ∧ sA σ' c = sA σ c
theorem FrG.tr {a b c : St} (h : FrG a b) (k : FrG b c) : FrG a c := fun x hx => ⟨(k x hx).1.trans (h x hx).1, (k x hx).2.trans (h x hx).2⟩
theorem Fr.G {C : Nat → Prop} {a b : St} (h : Fr C a b) (hC : ∀ c, C c → c < 46) : FrG a b := fun c hc => h.1 c (fun z => by have := hC c z; omega)
theorem FrG.M {a b : St} (h : FrG a b) : FrM a b := fun c hc => h c (by omega)
theorem FrX.toR {P : Nat → Nat → Prop} {C : Nat → Prop} {l : Prop} {σ s : St} {a : Nat} {g : Nat → Int32} (f : FrX P C l σ s) (h : C a) : FrX P C l σ (setR s a g) := f.tr ⟨fun _ _ _ => rfl, fun c hc => by rw [sA_setR, if_neg (fun q => hc (by rw [q]; exact h))], rfl, fun _ => rfl⟩
abbrev FrH (σ σ' : St) : Prop := FrX (fun c k => c = 64 ∧ k = 2) (fun c => c = 66) False σ σ'
section OPSG
variable {d : Nat} {σ : St} {A : Ab}
theorem ct_pushG {K : St → Prop} (hA : okA A) (h : cR σ A) (hn : A.2.1.length < 4) (k : ∀ σ', FrG σ σ' → cR σ' (A.1, A.2.1 ++ [A.1], A.2.2) → K σ') :
    ((sF σ 0 9) < 0 → K σ) ∧ (¬ (sF σ 0 9) < 0 → (4 ≤ (sF σ 0 9) → K σ) ∧ (¬ 4 ≤ (sF σ 0 9) → vp_in (sF σ 0 9) 4 ∧ ∀ q4, q4 = sP σ (ix (sF σ 0 9)) → isSc q4 ∧ CallU (d + 1) mX3_become [.ref q4, .ref 1] σ (fun s5 => ∀ s6, s6 = setF s5 0 9 ((sF s5 0 9) + 1) → K s6))) := by
  obtain ⟨h1, ⟨h2, h2'⟩, h3, ⟨h4, h4'⟩, h5, h5'⟩ := id h
  rw [h2, ix_nI (by omega)]
  refine br_f (nI_pos (by omega)) (br_f (nI_ge (b := 4) hn (by omega)) ⟨vp_in_nI hn (by omega), ?_⟩)
  rintro _ rfl
  have hq := h3.sc hn
  refine ⟨hq.1, ct_become hq.1 one_sc h1 hA.1 (fun σ' f hS => ?_)⟩
  rintro _ rfl
  have hP : sP σ' = sP σ := f.2.1
  have n0 : ∀ c, c < 20 ∨ 44 ≤ c → ¬ inSc (sP σ A.2.1.length) c := fun c hc z => by
    have := hq.2
    unfold inSc at z
    omega
  have e0 := (f.1 0 (n0 0 (by omega))).1
  have e44 := (f.1 44 (n0 44 (by omega))).1
  have e45 := (f.1 45 (n0 45 (by omega))).2
  have f2 : Fr (fun c => inSc (sP σ A.2.1.length) c ∨ c = 0) σ (setF σ' 0 9 (sF σ' 0 9 + 1)) := (f.mono (fun _ z => Or.inl z)).toF (Or.inr rfl)
  have f0 : Fr (fun c => c = 0) σ' (setF σ' 0 9 (sF σ' 0 9 + 1)) := Fr.F rfl
  refine k _ (f2.G (fun c hc => ?_)) ⟨?_, ⟨?_, fun q T hqT => ?_⟩, ?_, ⟨?_, fun T hT => ?_⟩, ?_, fun i c hi => ?_⟩
  · have := hq.2
    rcases hc with hc | hc
    · unfold inSc at hc; omega
    · omega
  · exact h1.keep f2 (fun c hc z => by
      rcases z with z | z
      · exact n0 c (by unfold inSc at hc; omega) z
      · unfold inSc at hc; omega)
  · rw [sF_setF, if_pos ⟨rfl, rfl⟩, e0, h2, nI1]; simp
  · rw [sP_setF, hP]
    rcases Nat.lt_or_ge q A.2.1.length with hlt | hge
    · rw [List.getElem?_append_left hlt] at hqT
      have hq2 := h3.sc (i := q) (by omega)
      refine (h2' q T hqT).keep f2 (fun c hc z => ?_)
      rcases z with z | z
      · rcases sc_apart hq.1 hq2.1 with e | e | e
        · exact absurd (h3.2 _ _ hn (by omega) e) (by omega)
        · unfold inSc at hc z; omega
        · unfold inSc at hc z; omega
      · have := hq2.2
        unfold inSc at hc; omega
    · have hlt := lt_of hqT
      simp at hlt
      have e : q = A.2.1.length := by omega
      subst e
      simp at hqT
      subst hqT
      refine hS.keep f0 (fun c hc z => ?_)
      have := hq.2
      unfold inSc at hc; omega
  · unfold pOK; rw [sP_setF, hP]; exact h3
  · rw [sF_setF, if_neg (by omega), e0]; exact h4
  · refine (h4' T hT).keep f2 (fun c hc z => ?_)
    rcases z with z | z
    · exact n0 c (by unfold inSc at hc; omega) z
    · unfold inSc at hc; omega
  · rw [sF_setF, if_neg (by omega), e44]; exact h5
  · rw [sA_setF, e45]; exact h5' i c hi
theorem ct_rememberG {K : St → Prop} (hA : okA A) (h : cR σ A) (k : ∀ σ', FrG σ σ' → cR σ' (A.1, pushH A.2.1 A.1, A.2.2) → K σ') : CallU (d + 2) mX5_remember [.ref 0] σ K := by
  obtain ⟨h1, ⟨h2, h2'⟩, h3, ⟨h4, h4'⟩, h5, h5'⟩ := id h
  have hl := hA.2.1
  refine cgX5_remember ?_
  rcases Nat.lt_or_ge A.2.1.length 4 with hn | hn
  · have hp : pushH A.2.1 A.1 = A.2.1 ++ [A.1] := by unfold pushH; rw [if_neg (by omega)]
    rw [hp] at k
    exact br_t (by rw [h2]; exact nI_lt (b := 4) hn (by omega)) (ct_pushG hA h hn k)
  · have hp : pushH A.2.1 A.1 = A.2.1.drop 1 ++ [A.1] := by unfold pushH; rw [if_pos (by omega)]
    rw [hp] at k
    refine br_f (by rw [h2]; exact nI_nlt (b := 4) hn (by omega)) (ct_forgetOldest h3 (fun σ' eF eA eL eP eP3 => ?_))
    have hA' : okA (A.1, A.2.1.drop 1, A.2.2) := ⟨hA.1, by show (A.2.1.drop 1).length ≤ 4; rw [List.length_drop]; omega, fun T hT => hA.2.2.1 T (List.mem_of_mem_drop hT), hA.2.2.2⟩
    have eF' : ∀ c k, ¬ (c = 0 ∧ k = 9) → sF σ' c k = sF σ c k := fun c k hc => by rw [eF, sF_setF, if_neg hc]
    have kp : ∀ (a : Nat) (T : Sn), a ≠ 0 → cSc σ a T → cSc σ' a T := by
      intro a T ha hc
      obtain ⟨c1, c2, c3, c4, c5, c6⟩ := hc
      refine ⟨by rw [eF' _ _ (by omega)]; exact c1, by rw [eF' _ _ (by omega)]; exact c2, by rw [eF' _ _ (by omega)]; exact c3, by rw [eF' _ _ (by omega)]; exact c4, fun i t ht => ?_, fun j s hs => by rw [eA]; exact c6 j s hs⟩
      have := c5 i t ht
      unfold rowT at this ⊢
      rw [eA]; exact this
    have hc' : cR σ' (A.1, A.2.1.drop 1, A.2.2) := by
      refine ⟨kp 1 _ (by omega) h1, ⟨?_, fun q T hq => ?_⟩, ⟨fun i hi => ?_, fun i j hi hj hij => ?_⟩, ⟨?_, fun T hT => kp 13 _ (by omega) (h4' T hT)⟩, ?_, fun i c hi => ?_⟩
      · rw [eF, sF_setF, if_pos ⟨rfl, rfl⟩]
        show 3 = nI (A.2.1.drop 1).length
        rw [List.length_drop, show A.2.1.length = 4 by omega]
        rfl
      · have hq' : (A.2.1.drop 1)[q]? = some T := hq
        have hql := lt_of hq'
        rw [List.length_drop] at hql
        rw [List.getElem?_drop] at hq'
        rw [eP q (by omega)]
        have := h3.sc (i := q + 1) (by omega)
        exact kp _ T (by omega) (h2' (q + 1) T (by rw [Nat.add_comm]; exact hq'))
      · rcases Nat.lt_or_ge i 3 with h6 | h6
        · rw [eP i h6]; exact h3.1 _ (by omega)
        · rw [show i = 3 by omega, eP3]; exact h3.1 _ (by omega)
      · rcases Nat.lt_or_ge i 3 with h6 | h6 <;> rcases Nat.lt_or_ge j 3 with h7 | h7
        · rw [eP i h6, eP j h7] at hij
          have := h3.2 _ _ (by omega) (by omega) hij
          omega
        · rw [eP i h6, show j = 3 by omega, eP3] at hij
          have := h3.2 _ _ (by omega) (by omega) hij
          omega
        · rw [eP j h7, show i = 3 by omega, eP3] at hij
          have := h3.2 _ _ (by omega) (by omega) hij
          omega
        · omega
      · rw [eF' _ _ (by omega)]; exact h4
      · rw [eF' _ _ (by omega)]; exact h5
      · rw [eA]; exact h5' i c hi
    refine ct_pushG (A := (A.1, A.2.1.drop 1, A.2.2)) hA' hc' (by show (A.2.1.drop 1).length < 4; rw [List.length_drop]; omega) (fun s2 f2 hc2 => k s2 (FrG.tr (fun c hc => ⟨?_, by rw [eA]⟩) f2) hc2)
    funext k
    exact eF' c k (by omega)
end OPSG
section OPMG
variable {d : Nat} {σ : St} {A : Ab}
theorem mR.pushG {K : St → Prop} {A : Ab} {σ : St} (hA : okA A) (h : mR σ A) (hn : A.2.1.length < 4) (k : ∀ σ', FrH σ σ' → mR σ' (A.1, A.2.1 ++ [A.1], A.2.2) → K σ') : K (setF (setR σ 66 (recG (sA σ 66) (sA σ 65) A.2.1.length 32)) 64 2 (nI (A.2.1.length + 1))) := by
  obtain ⟨h1, ⟨h2, h2'⟩, ⟨h3, h3'⟩, h4, h4'⟩ := h
  refine k _ (((FrX.rf (P := fun c k => c = 64 ∧ k = 2) (C := fun c => c = 66) (l := False) σ).toR rfl).toF ⟨rfl, rfl⟩) ⟨?_, ⟨?_, fun q T hq => ?_⟩, ⟨?_, fun T hT => ?_⟩, ?_, fun i c hi => ?_⟩
  · rw [sA_setF, sA_setR, if_neg (by decide)]; exact h1
  · rw [sF_setF, if_pos ⟨rfl, rfl⟩]; show _ = nI (A.2.1 ++ [A.1]).length; simp
  · have hq' : (A.2.1 ++ [A.1])[q]? = some T := hq
    rw [sA_setF, sA_setR, if_pos rfl]
    rcases Nat.lt_or_ge q A.2.1.length with hlt | hge
    · rw [List.getElem?_append_left hlt] at hq'
      have hok := hA.2.2.1 T (List.mem_of_getElem? hq')
      refine (h2' q T hq').ext hok.1 hok.2.2.2.1 (fun k hk => ?_)
      unfold recG
      rw [if_neg (by omega)]
    · have hlt := lt_of hq'
      simp at hlt
      have e : q = A.2.1.length := by omega
      subst e
      simp at hq'
      subst hq'
      refine h1.ext hA.1.1 hA.1.2.2.2.1 (fun k hk => ?_)
      unfold recG
      rw [if_pos (by omega), Nat.add_sub_cancel_left]
  · rw [sF_setF, if_neg (by omega), sF_setR]; exact h3
  · rw [sA_setF, sA_setR, if_neg (by decide)]; exact h3' T hT
  · rw [sF_setF, if_neg (by omega), sF_setR]; exact h4
  · rw [sA_setF, sA_setR, if_neg (by decide)]; exact h4' i c hi
theorem ct_recordG {K : St → Prop} (hA : okA A) (h : mR σ A) (k : ∀ σ', FrH σ σ' → mR σ' (A.1, pushH A.2.1 A.1, A.2.2) → K σ') : CallU (d + 1) mX6_record [.ref 64] σ K := by
  obtain ⟨h1, ⟨h2, h2'⟩, ⟨h3, h3'⟩, h4, h4'⟩ := id h
  have hl := hA.2.1
  refine cgX6_record ?_
  rcases Nat.lt_or_ge A.2.1.length 4 with hn | hn
  · have hp : pushH A.2.1 A.1 = A.2.1 ++ [A.1] := by unfold pushH; rw [if_neg (by omega)]
    rw [hp] at k
    refine br_c' (fun _ => ct_record1 hn h2 (mR.pushG hA h hn k)) (fun c => ?_)
    rw [h2] at c
    have := (nI_eq (a := A.2.1.length) (b := 4) (by omega) (by omega)).mp c
    omega
  · have hp : pushH A.2.1 A.1 = A.2.1.drop 1 ++ [A.1] := by unfold pushH; rw [if_pos (by omega)]
    rw [hp] at k
    have h24 : sF σ 64 2 = 4 := by rw [h2, show A.2.1.length = 4 by omega]; rfl
    refine br_c' (fun c => absurd h24 c) (fun _ => ?_)
    have hA' : okA (A.1, A.2.1.drop 1, A.2.2) := ⟨hA.1, by show (A.2.1.drop 1).length ≤ 4; rw [List.length_drop]; omega, fun T hT => hA.2.2.1 T (List.mem_of_mem_drop hT), hA.2.2.2⟩
    have hl3 : (A.2.1.drop 1).length = 3 := by rw [List.length_drop]; omega
    have loop : ∀ k2 i, i + k2 = 96 → Go mX6_record (d + 1) 10 [.ref 64, .int (nI i)] [] (setR σ 66 (shG (sA σ 66) i)) (QU K) := by
      intro k2
      induction k2 with
      | zero =>
        intro i hi
        refine sgX6_record_10 (br_t (nI_le (a := 96) (by omega) (by omega)) ?_)
        rintro _ rfl
        have e3 : sF (setR σ 66 (shG (sA σ 66) i)) 64 2 - 1 = nI 3 := by rw [sF_setR, h24]; decide
        rw [e3]
        have hm : mR (setF (setR σ 66 (shG (sA σ 66) i)) 64 2 (nI 3)) (A.1, A.2.1.drop 1, A.2.2) := by
          refine ⟨?_, ⟨?_, fun q T hq => ?_⟩, ⟨?_, fun T hT => ?_⟩, ?_, fun i c hi => ?_⟩
          · rw [sA_setF, sA_setR, if_neg (by decide)]; exact h1
          · rw [sF_setF, if_pos ⟨rfl, rfl⟩]; show _ = nI (A.2.1.drop 1).length; rw [hl3]
          · have hq' : (A.2.1.drop 1)[q]? = some T := hq
            have hql := lt_of hq'
            rw [List.getElem?_drop] at hq'
            rw [sA_setF, sA_setR, if_pos rfl]
            have hok := hA.2.2.1 T (List.mem_of_getElem? hq')
            refine (h2' (1 + q) T hq').ext hok.1 hok.2.2.2.1 (fun k hk => ?_)
            unfold shG
            rw [if_pos (by omega), show 32 * q + k + 32 = 32 * (1 + q) + k by omega]
          · rw [sF_setF, if_neg (by omega), sF_setR]; exact h3
          · rw [sA_setF, sA_setR, if_neg (by decide)]; exact h3' T hT
          · rw [sF_setF, if_neg (by omega), sF_setR]; exact h4
          · rw [sA_setF, sA_setR, if_neg (by decide)]; exact h4' i c hi
        have f1 : FrH σ (setF (setR σ 66 (shG (sA σ 66) i)) 64 2 (nI 3)) := ((FrX.rf (P := fun c k => c = 64 ∧ k = 2) (C := fun c => c = 66) (l := False) σ).toR rfl).toF ⟨rfl, rfl⟩
        have hpu := mR.pushG (K := K) (A := (A.1, A.2.1.drop 1, A.2.2)) hA' hm (by show (A.2.1.drop 1).length < 4; omega) (fun s2 f2 m2 => k s2 (f1.tr f2) m2)
        refine ct_record1 (p := 3) (by omega) (by rw [sF_setF, if_pos ⟨rfl, rfl⟩]) ?_
        have hpu' := hpu
        rw [show ((A.1, A.2.1.drop 1, A.2.2) : Ab).2.1.length = 3 from hl3] at hpu'
        exact hpu'
      | succ k2 ih =>
        intro i hi
        refine sgX6_record_10 (br_f (nI_ge (b := 96) (by omega) (by omega)) ?_)
        have e1 : nI i + 32 = nI (i + 32) := nI_add i 32
        rw [e1, ix_nI (by omega), ix_nI (by omega)]
        refine ⟨vp_in_nI (by omega) (by omega), vp_in_nI (by omega) (by omega), ?_⟩
        rintro _ rfl
        rw [nI1, setA_setR, sA_setR, if_pos rfl]
        have e2 : upd (shG (sA σ 66) i) i (shG (sA σ 66) i (i + 32)) = shG (sA σ 66) (i + 1) := by
          funext j
          rw [upd_eq]
          unfold shG
          by_cases hj : j = i
          · rw [if_pos hj, if_neg (by omega), if_pos (by omega), hj]
          · rw [if_neg hj]
            by_cases h2 : j < i
            · rw [if_pos h2, if_pos (by omega)]
            · rw [if_neg h2, if_neg (by omega)]
        rw [e2]
        exact ih (i + 1) (by omega)
    have e0 : shG (sA σ 66) 0 = sA σ 66 := by
      funext j
      unfold shG
      rw [if_neg (by omega)]
    have := loop 96 0 rfl
    rw [e0, setR_self] at this
    exact this
end OPMG
