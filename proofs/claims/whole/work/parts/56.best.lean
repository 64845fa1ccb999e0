/-! bestTurn -/
/-- the least sum among the first spacings, and where: the first of its kind -/
def bst (f : Nat → Nat) : Nat → Nat × Nat
  | 0 => (10, f 10)
  | k + 1 => if (bst f k).2 ≤ f (11 + k) then bst f k else (11 + k, f (11 + k))
theorem bst_le (f : Nat → Nat) {c : Nat} (h : ∀ k, k ≤ 50 → f k ≤ c) : ∀ k, k ≤ 39 → (bst f k).2 ≤ c := by
  intro k
  induction k with
  | zero => intro _; exact h 10 (by decide)
  | succ k ih =>
    intro hk
    unfold bst
    split
    · exact ih (by omega)
    · exact h (11 + k) (by omega)
theorem bst_10 (f : Nat → Nat) {c : Nat} : ∀ k, (bst f k).1 ≤ 10 + k := by
  intro k
  induction k with
  | zero => exact Nat.le_refl _
  | succ k ih =>
    unfold bst
    split
    · omega
    · show 11 + k ≤ _; omega
def wrong (E : En) (k : Nat) : Nat := phant (adE E (nI k)) + missE (adE E (nI k))
theorem phant_le (E : En) : phant E ≤ 6600 := by
  unfold phant
  refine Nat.le_trans List.countP_le_length ?_
  have h := TL_len_le E allP 600
  rw [allP_len] at h
  unfold tolds
  omega
theorem miss_le {E : En} (hE : okE E) : missE E ≤ 21 := by
  unfold missE
  exact Nat.le_trans List.countP_le_length hE.1
theorem okE_ad {E : En} {s : Int32} (hE : okE E) (hm : E.2.1.length < 4) (hs : 10 ≤ s.toInt ∧ s.toInt ≤ 50) : okE (adE E s) := by
  obtain ⟨h1, h2, h3, h4, h5, h6⟩ := hE
  refine ⟨h1, h2, ?_, fun u hu => ?_, h5, h6⟩
  · show (E.2.1 ++ [s]).length ≤ 4
    rw [List.length_append]
    show E.2.1.length + 1 ≤ 4
    omega
  · rcases List.mem_append.mp hu with z | z
    · exact h4 u z
    · rw [List.mem_singleton.mp z]; exact hs
section BEST
variable {d : Nat} {σ : St} {E : En} {n : Nat} {A : Ab} {S : Sn}
/-- the ear between two spacings that are tried -/
def preOK (σ : St) (E : En) (n : Nat) : Prop := earB σ E.1 ∧ sF σ 54 10 = nI n ∧ sF σ 54 11 = nI (E.2.1.length + 1) ∧ sF σ 54 12 = E.2.2.1 ∧ sF σ 54 13 = E.2.2.2 ∧ (∀ (j : Nat) (s : Int32), E.2.1[j]? = some s → sA σ 60 j = s ∧ earT σ E.1 E.2.2.1 E.2.2.2 s j) ∧ earP σ (pits E.1 E.2.2.2)
theorem hear_pre {σ' : St} {s : Int32} (hE : okE E) (h : preOK σ E n) (f : FrT σ σ') (hL : ∀ q, (q < 11 * E.2.1.length ∨ 11 * E.2.1.length + 11 ≤ q) → sL σ' q = sL σ q) (hA : sA σ' 60 = upd (sA σ 60) E.2.1.length s) (hT : earT σ' E.1 E.2.2.1 E.2.2.2 s E.2.1.length) : preOK σ' E n ∧ earOK σ' (adE E s) n := by
  obtain ⟨h1, h2, h3, h4, h5, h6, h7⟩ := h
  have g1 := h1.keep f id (fun c a b z => by omega)
  have g2 : sF σ' 54 10 = nI n := by rw [f.1 _ _ id]; exact h2
  have g3 : sF σ' 54 11 = nI (E.2.1.length + 1) := by rw [f.1 _ _ id]; exact h3
  have g4 : sF σ' 54 12 = E.2.2.1 := by rw [f.1 _ _ id]; exact h4
  have g5 : sF σ' 54 13 = E.2.2.2 := by rw [f.1 _ _ id]; exact h5
  have g7 := h7.keep f id (by decide)
  have g6 : ∀ (j : Nat) (u : Int32), E.2.1[j]? = some u → sA σ' 60 j = u ∧ earT σ' E.1 E.2.2.1 E.2.2.2 u j := by
    intro j u hu
    have hj := lt_of hu
    refine ⟨?_, (h6 j u hu).2.keep (fun q a b => hL q (by omega))⟩
    rw [hA]
    unfold upd
    rw [if_neg (by omega)]
    exact (h6 j u hu).1
  have hm' : (adE E s).2.1.length = E.2.1.length + 1 := by unfold adE; rw [List.length_append]; rfl
  refine ⟨⟨g1, g2, g3, g4, g5, g6, g7⟩, ⟨g1, g2, by rw [hm']; exact g3, g4, g5, fun j u hu => ?_, g7⟩⟩
  have hu' : (E.2.1 ++ [s])[j]? = some u := hu
  rcases Nat.lt_or_ge j E.2.1.length with z | z
  · rw [List.getElem?_append_left z] at hu'
    exact g6 j u hu'
  · have hl := lt_of hu'
    rw [List.length_append, List.length_singleton] at hl
    have hj : j = E.2.1.length := by omega
    subst hj
    rw [List.getElem?_append_right (Nat.le_refl _), Nat.sub_self] at hu'
    injection hu' with hu'
    subst hu'
    refine ⟨?_, hT⟩
    rw [hA]
    unfold upd
    rw [if_pos rfl]
theorem sum_wrong {k : Nat} (hE' : okE (adE E (nI k))) : nI ((OL E (pits E.1 E.2.2.2) 600).countP (fun p => opP E (nI k) p.1 p.2)) - nI (trC (adE E (nI k)) (adE E (nI k)).1.length) + nI (missE (adE E (nI k))) = nI (wrong E k) := by
  have e : (OL E (pits E.1 E.2.2.2) 600).countP (fun p => opP E (nI k) p.1 p.2) = (tolds (adE E (nI k))).length := by
    rw [OL_told]
    unfold tolds
    rw [← TL_pits]
    rfl
  rw [e, sub_phant hE', nI_add]
  rfl
theorem ct_bestNext {K : Int32 → St → Prop} (hE : okE E) (h : earOK σ E n) (hm : E.2.1.length < 4) (h6 : (pits E.1 E.2.2.2).length ≤ 6) (k : ∀ σ', FrX (fun c _ => c = 54) (fun c => 55 ≤ c ∧ c ≤ 63) True σ σ' → K (nI (bst (wrong E) 40).1) σ') : CallI (d + 6) mX0_bestNextSpacing [.ref 54] σ K := by
  have hwb : ∀ i, 10 ≤ i → i ≤ 50 → wrong E i ≤ 6621 := by
    intro i h1 h2
    have hE' := okE_ad (s := nI i) hE hm (by rw [nI_toInt (by omega)]; omega)
    have := phant_le (adE E (nI i))
    have := miss_le hE'
    unfold wrong
    omega
  refine cgX0_bestNextSpacing (ct_gather hE h h6 (fun σ1 f1 h1 => ?_))
  have he1 := h.keepO f1
  rintro _ rfl
  rw [he1.2.2.1, nI1]
  have F0 : FrX (fun c _ => c = 54) (fun c => 55 ≤ c ∧ c ≤ 63) True σ (setF σ1 54 11 (nI (E.2.1.length + 1))) := (FrX.mono f1 (fun x y z => z.1) (fun x z => by omega) (fun z => z.elim)).toF rfl
  have g : FrX (fun c k => c = 54 ∧ k = 11) (fun _ => False) False σ1 (setF σ1 54 11 (nI (E.2.1.length + 1))) := (FrX.rf σ1).toF ⟨rfl, rfl⟩
  have P0 : preOK (setF σ1 54 11 (nI (E.2.1.length + 1))) E n := by
    obtain ⟨a1, a2, a3, a4, a5, a6, a7⟩ := he1
    refine ⟨a1.keep g (by omega) (fun _ _ _ z => z), ?_, ?_, ?_, ?_, fun j s hs => ?_, a7.keep g (by omega) id⟩
    · rw [sF_setF, if_neg (by omega)]; exact a2
    · rw [sF_setF, if_pos ⟨rfl, rfl⟩]
    · rw [sF_setF, if_neg (by omega)]; exact a4
    · rw [sF_setF, if_neg (by omega)]; exact a5
    · exact a6 j s hs
  have O0 : txt (setF σ1 54 11 (nI (E.2.1.length + 1))) 54 15 63 ((OL E (pits E.1 E.2.2.2) 600).map (ocode E)) := ⟨by rw [sF_setF, if_neg (by omega)]; exact h1.1, h1.2⟩
  have loop : ∀ k2 i, i + k2 = 41 → ∀ σ2, FrX (fun c _ => c = 54) (fun c => 55 ≤ c ∧ c ≤ 63) True σ σ2 → preOK σ2 E n → txt σ2 54 15 63 ((OL E (pits E.1 E.2.2.2) 600).map (ocode E)) → ∀ b w, (i = 0 ∧ w = -1) ∨ (0 < i ∧ b = nI (bst (wrong E) (i - 1)).1 ∧ w = nI (bst (wrong E) (i - 1)).2) → Go mX0_bestNextSpacing (d + 6) 25 [.ref 54, .int (nI E.2.1.length), .int b, .int w, .int (nI (10 + i)), .null] [] σ2 (QI K) := by
    intro k2
    induction k2 with
    | zero =>
      intro i hi σ2 f2 p2 o2 b w hbw
      refine sgX0_bestNextSpacing_25 (br_t (nI_lt (a := 50) (by omega) (by omega)) ?_)
      rcases hbw with z | z
      · omega
      · rw [z.2.1, show i - 1 = 40 by omega]
        exact k σ2 f2
    | succ k2 ih =>
      intro i hi σ2 f2 p2 o2 b w hbw
      have hE' := okE_ad (s := nI (10 + i)) hE hm (by rw [nI_toInt (by omega)]; omega)
      refine sgX0_bestNextSpacing_25 (br_f (nI_nlt (a := 50) (by omega) (by omega)) ?_)
      refine ct_hearTurn p2.1 hE.1 hE.2.1 p2.2.2.2.1 p2.2.2.2.2.1 hm (by rw [nI_toInt (by omega)]; omega) (fun σ3 f3 l3 a3 t3 => ?_)
      obtain ⟨p3, e3⟩ := hear_pre hE p2 f3 l3 a3 t3
      have o3 : txt σ3 54 15 63 ((OL E (pits E.1 E.2.2.2) 600).map (ocode E)) := ⟨by rw [f3.1 _ _ id]; exact o2.1, fun j c hc => by rw [f3.2.1 63 (by omega)]; exact o2.2 j c hc⟩
      have F3 : FrX (fun c _ => c = 54) (fun c => 55 ≤ c ∧ c ≤ 63) True σ σ3 := f2.tr (FrX.mono f3 (fun x y z => z.elim) (fun x z => by omega) id)
      refine ct_openTold hE' e3 h6 o3 (ct_trueCount hE' e3 (ct_missedCount hE' e3 ?_))
      rw [sum_wrong hE', nI1]
      have hw1 := hwb (10 + i) (by omega) (by omega)
      rcases hbw with ⟨z, hw⟩ | ⟨z, hb, hw⟩
      · rw [hw]
        refine br_t (by decide) (ih (i + 1) (by omega) σ3 F3 p3 o3 _ _ (Or.inr ⟨by omega, ?_, ?_⟩))
        · subst z; rfl
        · subst z; rfl
      · have hbl : (bst (wrong E) (i - 1)).2 ≤ 6621 := by
          have : ∀ k, k ≤ 40 → (bst (wrong E) k).2 ≤ 6621 := by
            intro k
            induction k with
            | zero => intro _; exact hwb 10 (by decide) (by decide)
            | succ k ih =>
              intro hk
              unfold bst
              split
              · exact ih (by omega)
              · exact hwb (11 + k) (by omega) (by omega)
          exact this _ (by omega)
        have hst : bst (wrong E) i = if (bst (wrong E) (i - 1)).2 ≤ wrong E (10 + i) then bst (wrong E) (i - 1) else (10 + i, wrong E (10 + i)) := by
          rw [show 10 + i = 11 + (i - 1) by omega]
          conv => lhs; rw [show i = (i - 1) + 1 by omega]
          rfl
        rw [hw]
        refine br_f (nI_pos (by omega)) ⟨fun c => ih (i + 1) (by omega) σ3 F3 p3 o3 _ _ (Or.inr ⟨by omega, ?_⟩), fun c => ih (i + 1) (by omega) σ3 F3 p3 o3 _ _ (Or.inr ⟨by omega, ?_⟩)⟩
        · rw [nI_leI (by omega) (by omega)] at c
          rw [Nat.add_sub_cancel, hst, if_pos c]
          exact ⟨hb, rfl⟩
        · rw [nI_leI (by omega) (by omega)] at c
          rw [Nat.add_sub_cancel, hst, if_neg c]
          exact ⟨rfl, rfl⟩
  exact loop 41 0 rfl _ F0 P0 O0 10 (-1) (Or.inl ⟨rfl, rfl⟩)
end BEST
