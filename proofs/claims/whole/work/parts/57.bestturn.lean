/-! bestTurn, both -/
section BT
variable {d : Nat} {σ : St} {A : Ab} {S : Sn}
theorem isSp_nI {k : Nat} (h1 : 10 ≤ k) (h2 : k ≤ 50) : isSp (nI k) = true := by
  unfold isSp
  rw [nI_toInt (by omega)]
  exact decide_eq_true (by omega)
/-- two looks of the model at one turn more -/
theorem ct_two {K : Int32 → Int32 → St → Prop} {k : Nat} (hz : mSc (sA σ 65) S) (hok : okS S) (hm : S.2.1.length < 4) (h1 : 10 ≤ k) (h2 : k ≤ 50) (hk : ∀ σ', FrV σ σ' → mSc (sA σ' 65) S → ∀ a b : Nat, a + b = wrong (enS S) k → K (nI a) (nI b) σ') : CallI (d + 6) mX6_withTurn [.ref 64, .int (nI k), .int 1] σ (fun r3 s2 => CallI (d + 6) mX6_withTurn [.ref 64, .int (nI k), .int 2] s2 (fun r5 s4 => K r3 r5 s4)) := by
  refine ct_withTurn (w := 1) hz hok hm (isSp_nI h1 h2) (by decide) (fun σ1 f1 z1 => ct_withTurn (w := 2) z1 hok hm (isSp_nI h1 h2) (by decide) (fun σ2 f2 z2 => ?_))
  rw [wtR1, wtR2]
  exact hk σ2 (FrX.tr f1 f2) z2 _ _ rfl
theorem ct_X6_best {K : Int32 → St → Prop} (hz : mSc (sA σ 65) S) (hok : okS S) (hm : S.2.1.length < 4) (k : ∀ σ', FrV σ σ' → mSc (sA σ' 65) S → K (nI (bst (wrong (enS S)) 40).1) σ') : CallI (d + 7) mX6_bestTurn [.ref 64] σ K := by
  have hE : okE (enS S) := okE_S hok
  have hwb : ∀ i, 10 ≤ i → i ≤ 50 → wrong (enS S) i ≤ 6621 := by
    intro i h1 h2
    have hE' := okE_ad (s := nI i) hE hm (by rw [nI_toInt (by omega)]; omega)
    have := phant_le (adE (enS S) (nI i))
    have := miss_le hE'
    unfold wrong
    omega
  have hbl : ∀ k, k ≤ 40 → (bst (wrong (enS S)) k).2 ≤ 6621 := by
    intro k
    induction k with
    | zero => intro _; exact hwb 10 (by decide) (by decide)
    | succ k ih =>
      intro hk
      unfold bst
      split
      · exact ih (by omega)
      · exact hwb (11 + k) (by omega) (by omega)
  have loop : ∀ k2 i, i + k2 = 40 → ∀ σ1, FrV σ σ1 → mSc (sA σ1 65) S → Go mX6_bestTurn (d + 7) 35 [.ref 64, .int (nI (bst (wrong (enS S)) i).1), .int (nI (bst (wrong (enS S)) i).2), .int (nI (11 + i)), .null] [] σ1 (QI K) := by
    intro k2
    induction k2 with
    | zero =>
      intro i hi σ1 f1 z1
      refine sgX6_bestTurn_35 (br_t (nI_lt (a := 50) (by omega) (by omega)) ?_)
      rw [show i = 40 by omega]
      exact k σ1 f1 z1
    | succ k2 ih =>
      intro i hi σ1 f1 z1
      have hb1 := hbl i (by omega)
      have hb2 := hwb (11 + i) (by omega) (by omega)
      have hst : bst (wrong (enS S)) (i + 1) = if (bst (wrong (enS S)) i).2 ≤ wrong (enS S) (11 + i) then bst (wrong (enS S)) i else (11 + i, wrong (enS S) (11 + i)) := rfl
      refine sgX6_bestTurn_35 (br_f (nI_nlt (a := 50) (by omega) (by omega)) ?_)
      rw [nI1]
      refine ct_two (K := fun r3 r5 s4 => (nI (bst (wrong (enS S)) i).2 ≤ (r3 + r5) → (nI (bst (wrong (enS S)) i).2 ≤ (r3 + r5) → Go mX6_bestTurn (d + 7) 35 [.ref 64, .int (nI (bst (wrong (enS S)) i).1), .int (nI (bst (wrong (enS S)) i).2), .int (nI (11 + i + 1)), .null] [] s4 (QI K)) ∧ (¬ nI (bst (wrong (enS S)) i).2 ≤ (r3 + r5) → Go mX6_bestTurn (d + 7) 35 [.ref 64, .int (nI (bst (wrong (enS S)) i).1), .int (r3 + r5), .int (nI (11 + i + 1)), .null] [] s4 (QI K))) ∧ (¬ nI (bst (wrong (enS S)) i).2 ≤ (r3 + r5) → (nI (bst (wrong (enS S)) i).2 ≤ (r3 + r5) → Go mX6_bestTurn (d + 7) 35 [.ref 64, .int (nI (11 + i)), .int (nI (bst (wrong (enS S)) i).2), .int (nI (11 + i + 1)), .null] [] s4 (QI K)) ∧ (¬ nI (bst (wrong (enS S)) i).2 ≤ (r3 + r5) → Go mX6_bestTurn (d + 7) 35 [.ref 64, .int (nI (11 + i)), .int (r3 + r5), .int (nI (11 + i + 1)), .null] [] s4 (QI K)))) z1 hok hm (by omega) (by omega) (fun σ2 f2 z2 a b hab => ?_)
      have hk := ih (i + 1) (by omega) σ2 (FrX.tr f1 f2) z2
      show (nI (bst (wrong (enS S)) i).2 ≤ (nI a + nI b) → _) ∧ _
      rw [nI_add, hab]
      by_cases c : (bst (wrong (enS S)) i).2 ≤ wrong (enS S) (11 + i)
      · rw [hst, if_pos c] at hk
        have c' : nI (bst (wrong (enS S)) i).2 ≤ nI (wrong (enS S) (11 + i)) := (nI_leI (by omega) (by omega)).mpr c
        exact br_t c' (br_t c' hk)
      · rw [hst, if_neg c] at hk
        have c' : ¬ nI (bst (wrong (enS S)) i).2 ≤ nI (wrong (enS S) (11 + i)) := fun z => c ((nI_leI (by omega) (by omega)).mp z)
        exact br_f c' (br_f c' hk)
  refine cgX6_bestTurn ?_
  rw [hz.2.1]
  refine brt' (fun c => by have := (nI_eq (a := S.2.1.length) (b := 4) (by omega) (by omega)).mp c; omega) ?_
  refine ct_two (k := 10) (K := fun r3 r5 s4 => Go mX6_bestTurn (d + 7) 35 [.ref 64, .int 10, .int (r3 + r5), .int 11, .null] [] s4 (QI K)) hz hok hm (by decide) (by decide) (fun σ2 f2 z2 a b hab => ?_)
  show Go mX6_bestTurn (d + 7) 35 [.ref 64, .int 10, .int (nI a + nI b), .int 11, .null] [] σ2 (QI K)
  rw [nI_add, hab]
  exact loop 40 0 rfl σ2 f2 z2
theorem bo_bestTurn (hA : okA A) : Both A mX5_bestTurn [.ref 0] mX6_bestTurn [.ref 64] := by
  have hok := hA.1
  have hm4 := hok.2.2.2.1
  rcases Nat.lt_or_ge A.1.2.1.length 4 with h3 | h3
  · refine ⟨nI (bst (wrong (enS A.1)) 40).1, A, hA, fun σ K h k => cgX5_bestTurn (ct_turnCount one_sc h.1 (br_t (nI_lt (b := 4) (by omega) (by omega)) (ct_listen one_sc h.1 hok (fun σ1 f1 e1 => ct_bestNext (okE_S hok) e1 h3 (pits_6 hok) (fun σ2 f2 => ?_))))), fun σ K h k => ct_X6_best h.1 hok h3 (fun σ' f hz => k σ' f.fm (h.keepV f hz))⟩
    have fs : Fr scr σ1 σ2 := FrX.fr f2 (fun x y z => by unfold scr; omega) (fun x z => by unfold scr; omega) (fun _ => by unfold scr; omega)
    have fm : FrM σ1 σ2 := fun c hc => ⟨by funext k; exact f2.1 c k (by omega), f2.2.1 c (by omega)⟩
    exact k σ2 (f1.M.tr fm) (h.keep hA (f1.S.tr fs))
  · refine ⟨-3, A, hA, fun σ K h k => cgX5_bestTurn (ct_turnCount one_sc h.1 (br_f (nI_nlt (b := 4) (by omega) (by omega)) (k σ (FrM.rf σ) h))), fun σ K h k => cgX6_bestTurn ?_⟩
    rw [h.1.2.1]
    refine brf' ?_ (k σ (Fr.rf σ) h)
    rw [show A.1.2.1.length = 4 by omega]; rfl
end BT
