/-! the class Ear: listen; looks at what is heard -/
def earP (σ : St) (P : List Int32) : Prop := sF σ 54 14 = nI P.length ∧ ∀ (i : Nat) (v : Int32), P[i]? = some v → sA σ 62 i = v
/-- the ear has listened: n targets -/
def earOK (σ : St) (E : En) (n : Nat) : Prop := earB σ E.1 ∧ sF σ 54 10 = nI n ∧ sF σ 54 11 = nI E.2.1.length ∧ sF σ 54 12 = E.2.2.1 ∧ sF σ 54 13 = E.2.2.2 ∧ (∀ (j : Nat) (s : Int32), E.2.1[j]? = some s → sA σ 60 j = s ∧ earT σ E.1 E.2.2.1 E.2.2.2 s j) ∧ earP σ (pits E.1 E.2.2.2)
def okE (E : En) : Prop := E.1.length ≤ 21 ∧ (∀ b ∈ E.1, okBd b) ∧ E.2.1.length ≤ 4 ∧ (∀ s ∈ E.2.1, 10 ≤ s.toInt ∧ s.toInt ≤ 50) ∧ (0 ≤ E.2.2.1.toInt ∧ E.2.2.1.toInt ≤ 9) ∧ (1 ≤ E.2.2.2.toInt ∧ E.2.2.2.toInt ≤ 99)
theorem okE_S {S : Sn} (h : okS S) : okE (enS S) := ⟨(bods_len h.1).1, ok_bods h.2.1, h.2.2.2.1, h.2.2.2.2.1, h.2.2.2.2.2.1, h.2.2.2.2.2.2⟩
theorem spE_get {E : En} {j : Nat} {s : Int32} (h : E.2.1[j]? = some s) : spE E j = s := by unfold spE; simp [List.getD, h]
section EAR2
variable {d : Nat} {σ : St} {B : List Bd} {b : Bd} {a : Nat} {S : Sn}
theorem ct_sounds {K : Int32 → St → Prop} {v lo : Int32} (hB : earB σ B) (hn : B.length ≤ 21) (hlo : sF σ 54 13 = lo) (h : K (bI (snd B lo v)) σ) : CallI (d + 4) mX0_sounds [.ref 54, .int v] σ K := by
  refine cgX0_sounds ?_
  have loop : ∀ k i, i + k = B.length → snd (B.take i) lo v = false → Go mX0_sounds (d + 4) 2 [.ref 54, .int v, .int (nI i)] [] σ (QI K) := by
    intro k
    induction k with
    | zero =>
      intro i hi hf
      refine sgX0_sounds_2 ?_
      rw [hB.1]
      refine br_t (nI_le (by omega) (by omega)) ?_
      rw [List.take_of_length_le (by omega)] at hf
      rw [hf] at h
      exact h
    | succ k ih =>
      intro i hi hf
      refine sgX0_sounds_2 ?_
      rw [hB.1, nI1]
      obtain ⟨b, hb⟩ := get_of (l := B) (i := i) (by omega)
      have hk := ih (i + 1) (by omega)
      have hs : snd (B.take (i + 1)) lo v = (snd (B.take i) lo v || (decide (b.2.2.1 = v) && !decide (b.2.1 < lo))) := by
        unfold snd
        rw [take_s hb, List.any_append]; simp
      rw [hs, hf, Bool.false_or] at hk
      refine br_f (nI_ge (by omega) (by omega)) (ct_emov hB hn hb (br_c' (fun c => hk (by rw [decide_eq_false c]; rfl)) (fun c => ct_efaint hB hn hlo hb (bI_br' (fun e => ?_) (fun e => hk (by rw [e, Bool.not_true, Bool.and_false]))))))
      have : snd B lo v = true := List.any_eq_true.mpr ⟨b, List.mem_of_getElem? hb, by rw [decide_eq_true c, e]; rfl⟩
      rw [this] at h
      exact h
  exact loop B.length 0 (by omega) rfl
abbrev FrP (σ σ' : St) : Prop := FrX (fun c k => c = 54 ∧ k = 14) (fun c => c = 62) False σ σ'
theorem pv_s (q : Nat) : pv q + 1 = pv (q + 1) := by
  unfold pv
  rw [Int32.sub_eq_add_neg, Int32.sub_eq_add_neg, Int32.add_assoc, Int32.add_comm (-5) 1, ← Int32.add_assoc, nI1]
theorem pv_toInt {q : Nat} (h : q < 1000) : (pv q).toInt = (q : Int) - 5 := by
  unfold pv
  rw [tI_sub (by rw [nI_toInt (by omega), k5]; omega) (by rw [nI_toInt (by omega), k5]; omega), nI_toInt (by omega), k5]
theorem ct_takePitches {K : St → Prop} {lo : Int32} (hB : earB σ B) (hn : B.length ≤ 21) (hlo : sF σ 54 13 = lo) (h : ∀ σ', FrP σ σ' → earP σ' (pits B lo) → K σ') : CallU (d + 5) mX0_takePitches [.ref 54] σ K := by
  refine cgX0_takePitches ?_
  have loop : ∀ k q σ', q + k = 11 → FrP σ σ' → earP σ' (((List.range q).map pv).filter (snd B lo)) → Go mX0_takePitches (d + 5) 8 [.ref 54, .int (pv q)] [] σ' (QU K) := by
    intro k
    induction k with
    | zero =>
      intro q σ' hq f hP
      refine sgX0_takePitches_8 (br_t ?_ ?_)
      · rw [Int32.lt_iff_toInt_lt, pv_toInt (by omega), k5]; omega
      · rw [show q = 11 by omega] at hP
        exact h σ' f hP
    | succ k ih =>
      intro q σ' hq f hP
      have hB' := hB.keep f (fun z => by omega) (fun c h1 h2 z => by omega)
      have hlo' : sF σ' 54 13 = lo := by rw [f.1 54 13 (fun z => by omega)]; exact hlo
      have hlen : (((List.range q).map pv).filter (snd B lo)).length ≤ q := Nat.le_trans (List.length_filter_le _ _) (by simp)
      have hk := ih (q + 1)
      rw [List.range_succ, List.map_append, List.filter_append] at hk
      refine sgX0_takePitches_8 (br_f ?_ (ct_sounds hB' hn hlo' (bI_br (fun e => ?_) (fun e => ?_))))
      · rw [Int32.lt_iff_toInt_lt, pv_toInt (by omega), k5]; omega
      · rw [pv_s]
        have : ([pv q].filter (snd B lo)) = [] := by rw [List.filter_cons_of_neg (by rw [e]; decide)]; rfl
        rw [List.map_cons, List.map_nil, this, List.append_nil] at hk
        exact hk σ' (by omega) f hP
      · rw [pv_s, hP.1]
        refine br_f (nI_pos (by omega)) (br_f (nI_ge (b := 11) (by omega) (by omega)) ⟨vp_in_nI (by omega) (by omega), ?_⟩)
        rw [ix_nI (by omega)]
        rintro _ rfl _ rfl
        have : ([pv q].filter (snd B lo)) = [pv q] := by rw [List.filter_cons_of_pos (by rw [e])]; rfl
        rw [List.map_cons, List.map_nil, this] at hk
        refine hk _ (by omega) ((f.toA rfl).toF ⟨rfl, rfl⟩) ⟨?_, fun i v hv => ?_⟩
        · rw [sF_setF, if_pos ⟨rfl, rfl⟩, sF_setA, hP.1, nI1]; simp
        · rw [sA_setF, sA_setA]
          rcases Nat.lt_or_ge i (((List.range q).map pv).filter (snd B lo)).length with hlt | hge
          · rw [List.getElem?_append_left hlt] at hv
            rw [if_neg (by omega)]; exact hP.2 i v hv
          · have hlt := lt_of hv
            simp only [List.length_append, List.length_cons, List.length_nil] at hlt
            have e2 : i = (((List.range q).map pv).filter (snd B lo)).length := by omega
            subst e2
            rw [List.getElem?_append_right (Nat.le_refl _), Nat.sub_self] at hv
            simp at hv
            rw [if_pos ⟨rfl, rfl⟩, hv]
  rintro _ rfl
  exact loop 11 0 _ (by omega) ((FrX.rf σ).toF ⟨rfl, rfl⟩) ⟨by rw [sF_setF, if_pos ⟨rfl, rfl⟩]; rfl, fun i v hv => by simp at hv⟩
abbrev FrL (σ σ' : St) : Prop := FrX (fun c _ => c = 54) (fun c => 55 ≤ c ∧ c ≤ 62) True σ σ'
theorem frL_le : (∀ c k : Nat, (fun (c _ : Nat) => c = 54) c k → 44 ≤ c) ∧ (∀ c : Nat, (55 ≤ c ∧ c ≤ 62) → 44 ≤ c) := ⟨fun c k h => by have h' : c = 54 := h; omega, fun c h => by omega⟩
theorem earT.keep {σ' : St} {bl lo s : Int32} {j : Nat} (h : earT σ B bl lo s j) (e : ∀ q, 11 * j ≤ q → q < 11 * j + 11 → sL σ' q = sL σ q) : earT σ' B bl lo s j := fun q hq p hp => by rw [e _ (by omega) (by omega)]; exact h q hq p hp
theorem earP.keep {P : Nat → Nat → Prop} {C : Nat → Prop} {l : Prop} {σ' : St} {V : List Int32} (h : earP σ V) (f : FrX P C l σ σ') (hp : ¬ P 54 14) (hc : ¬ C 62) : earP σ' V := ⟨by rw [f.1 54 14 hp]; exact h.1, fun i v hv => by rw [f.2.1 62 hc]; exact h.2 i v hv⟩
theorem ct_listen {K : St → Prop} (ha : isSc a) (hS : cSc σ a S) (hok : okS S) (k : ∀ σ', FrL σ σ' → earOK σ' (enS S) S.1.length → K σ') : CallU (d + 6) mX0_listen [.ref 54, .ref a] σ K := by
  have hn := hok.1
  have hb21 := (bods_len hn).1
  have hokb := ok_bods hok.2.1
  refine cgX0_listen ha ?_
  intro s1 e1 s2 e2
  have f2 : FrL σ s2 := by rw [e2, e1]; exact ((FrX.rf (P := fun c _ => c = 54) (C := fun c => 55 ≤ c ∧ c ≤ 62) (l := True) σ).toF rfl).toF rfl
  refine ct_blindBelow ha (cSc.keepX ha hS f2 frL_le.1 frL_le.2) ?_
  intro s5 e5
  have f5 : FrL σ s5 := by rw [e5]; exact f2.toF rfl
  refine ct_loudFrom ha (cSc.keepX ha hS f5 frL_le.1 frL_le.2) ?_
  intro s8 e8
  have f8 : FrL σ s8 := by rw [e8]; exact f5.toF rfl
  have h9 : sF s8 54 9 = 0 := by rw [e8, sF_setF, if_neg (by omega), e5, sF_setF, if_neg (by omega), e2, sF_setF, if_neg (by omega), e1, sF_setF, if_pos ⟨rfl, rfl⟩]
  have h12 : sF s8 54 12 = S.2.2.1 := by rw [e8, sF_setF, if_neg (by omega), e5, sF_setF, if_pos ⟨rfl, rfl⟩]
  have h13 : sF s8 54 13 = S.2.2.2 := by rw [e8, sF_setF, if_pos ⟨rfl, rfl⟩]
  refine ct_takeTargets ha (cSc.keepX ha hS f8 frL_le.1 frL_le.2) hn h9 (fun s9 f9 hT => ?_)
  intro s10 e10
  have hTl := tgs_len S.1 S.1.length (Nat.le_refl _)
  have g10 : FrX (fun c k => c = 54 ∧ (k = 9 ∨ k = 10)) (fun c => 55 ≤ c ∧ c ≤ 59) False s8 s10 := by rw [e10]; exact (f9.mono (fun x y z => ⟨z.1, Or.inl z.2⟩) (fun x z => z) id).toF ⟨rfl, Or.inr rfl⟩
  have f10 : FrL σ s10 := f8.tr (g10.mono (fun x y z => z.1) (fun x z => ⟨z.1, by omega⟩) (fun z => z.elim))
  have hT10 : earB s10 (tgs S.1 S.1.length) := by
    rw [e10]
    exact hT.keep (P := fun c k => c = 54 ∧ k = 10) (C := fun _ => False) (l := False) ((FrX.rf s9).toF ⟨rfl, rfl⟩) (fun z => by omega) (fun _ _ _ z => z)
  have h10 : sF s10 54 10 = nI S.1.length := by rw [e10, sF_setF, if_pos ⟨rfl, rfl⟩, hT.1, hTl]
  refine ct_takeGhosts ha (cSc.keepX ha hS f10 frL_le.1 frL_le.2) hn (wOK hok) hT10 (fun s11 f11 hB => ?_)
  have a13 : sF s11 54 13 = S.2.2.2 := by rw [f11.1 _ _ (fun z => by omega), g10.1 _ _ (fun z => by omega)]; exact h13
  have a12 : sF s11 54 12 = S.2.2.1 := by rw [f11.1 _ _ (fun z => by omega), g10.1 _ _ (fun z => by omega)]; exact h12
  have a10 : sF s11 54 10 = nI S.1.length := by rw [f11.1 _ _ (fun z => by omega)]; exact h10
  have f11' : FrL σ s11 := f10.tr (f11.mono (fun x y z => z.1) (fun x z => ⟨z.1, by omega⟩) (fun z => z.elim))
  refine ct_takePitches hB hb21 a13 (fun s12 f12 hP => ?_)
  have b13 : sF s12 54 13 = S.2.2.2 := by rw [f12.1 _ _ (fun z => by omega)]; exact a13
  have b12 : sF s12 54 12 = S.2.2.1 := by rw [f12.1 _ _ (fun z => by omega)]; exact a12
  have b10 : sF s12 54 10 = nI S.1.length := by rw [f12.1 _ _ (fun z => by omega)]; exact a10
  have hB12 : earB s12 (bods S.1) := hB.keep f12 (fun z => by omega) (fun c h1 h2 z => by omega)
  have f12' : FrL σ s12 := f11'.tr (f12.mono (fun x y z => z.1) (fun x z => by omega) (fun z => z.elim))
  have loop : ∀ k2 i σ', i + k2 = S.2.1.length → FrT s12 σ' → (∀ j s, j < i → S.2.1[j]? = some s → sA σ' 60 j = s ∧ earT σ' (bods S.1) S.2.2.1 S.2.2.2 s j) → Go mX0_listen (d + 6) 50 [.ref 54, .ref a, .int (nI i)] [] σ' (QU K) := by
    intro k2
    induction k2 with
    | zero =>
      intro i σ' hi f hE
      have f' : FrL σ σ' := f12'.tr (f.mono (fun x y z => z.elim) (fun x z => by omega) id)
      have hS' := cSc.keepX ha hS f' frL_le.1 frL_le.2
      refine sgX0_listen_50 ha (ct_turnCount ha hS' (br_t (nI_le (by omega) (by have := hok.2.2.2.1; omega)) (ct_turnCount ha hS' ?_)))
      rintro _ rfl
      have g : FrX (fun c k => c = 54 ∧ k = 11) (fun _ => False) False σ' (setF σ' 54 11 (nI S.2.1.length)) := (FrX.rf σ').toF ⟨rfl, rfl⟩
      refine k _ (f'.toF rfl) ⟨?_, ?_, ?_, ?_, ?_, fun j s hs => ?_, ?_⟩
      · exact (hB12.keep f id (fun c h1 h2 z => by omega)).keep g (fun z => by omega) (fun _ _ _ z => z)
      · rw [sF_setF, if_neg (by omega), f.1 _ _ id]; exact b10
      · rw [sF_setF, if_pos ⟨rfl, rfl⟩]; rfl
      · rw [sF_setF, if_neg (by omega), f.1 _ _ id]; exact b12
      · rw [sF_setF, if_neg (by omega), f.1 _ _ id]; exact b13
      · have hs' : S.2.1[j]? = some s := hs
        have := hE j s (by have := lt_of hs'; omega) hs'
        exact ⟨this.1, this.2⟩
      · exact (hP.keep f id (by decide)).keep g (fun z => by omega) id
    | succ k2 ih =>
      intro i σ' hi f hE
      have f' : FrL σ σ' := f12'.tr (f.mono (fun x y z => z.elim) (fun x z => by omega) id)
      have hS' := cSc.keepX ha hS f' frL_le.1 frL_le.2
      obtain ⟨s, hs⟩ := get_of (l := S.2.1) (i := i) (by omega)
      have hm := hok.2.2.2.1
      have hsr := hok.2.2.2.2.1 s (List.mem_of_getElem? hs)
      refine sgX0_listen_50 ha (ct_turnCount ha hS' (br_f (nI_ge (by omega) (by omega)) (ct_spacingOf ha hS' hm hs ?_)))
      rw [nI1]
      refine ct_hearTurn (bl := S.2.2.1) (lo := S.2.2.2) (hB12.keep f id (fun c h1 h2 z => by omega)) hb21 hokb (by rw [f.1 _ _ id]; exact b12) (by rw [f.1 _ _ id]; exact b13) (by omega) (by omega) (fun s3 f3 hL h60 hE3 => ?_)
      refine ih (i + 1) s3 (by omega) (f.tr f3) (fun j t hj ht => ?_)
      rcases Nat.lt_or_ge j i with hlt | hge
      · have := hE j t hlt ht
        exact ⟨by rw [h60, upd_eq, if_neg (by omega)]; exact this.1, this.2.keep (fun q h1 h2 => hL q (Or.inl (by omega)))⟩
      · have e : j = i := by omega
        subst e
        rw [hs] at ht
        cases ht
        exact ⟨by rw [h60, upd_eq, if_pos rfl], hE3⟩
  exact loop S.2.1.length 0 s12 (by omega) (FrX.rf s12) (fun j s hj => by omega)
end EAR2
