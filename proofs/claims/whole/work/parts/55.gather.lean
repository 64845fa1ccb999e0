/-! gatherOpen, openTold -/
abbrev FrO (σ σ' : St) : Prop := FrX (fun c k => c = 54 ∧ k = 15) (fun c => c = 63) False σ σ'
def ocode (E : En) (p : Int32 × Int32) : Int32 := (p.1 * 11 + p.2 + 5) * 2 + (if 0 < cfit E p.1 p.2 E.2.1.length then 1 else 0)
section OPEN
variable {d : Nat} {σ : St} {E : En} {n : Nat}
theorem earOK.keepO {σ' : St} (h : earOK σ E n) (f : FrO σ σ') : earOK σ' E n := by
  obtain ⟨h1, h2, h3, h4, h5, h6, h7⟩ := h
  refine ⟨h1.keep f (by omega) (fun c a b z => by omega), ?_, ?_, ?_, ?_, fun j s hs => ⟨?_, ?_⟩, h7.keep f (by omega) (by omega)⟩
  · rw [f.1 _ _ (by omega)]; exact h2
  · rw [f.1 _ _ (by omega)]; exact h3
  · rw [f.1 _ _ (by omega)]; exact h4
  · rw [f.1 _ _ (by omega)]; exact h5
  · rw [f.2.1 60 (by omega)]; exact (h6 j s hs).1
  · exact (h6 j s hs).2.keep (fun q _ _ => by rw [f.2.2.2 id])
theorem ct_gather {K : St → Prop} (hE : okE E) (h : earOK σ E n) (h6 : (pits E.1 E.2.2.2).length ≤ 6) (k : ∀ σ', FrO σ σ' → txt σ' 54 15 63 ((OL E (pits E.1 E.2.2.2) 600).map (ocode E)) → K σ') : CallU (d + 4) mX0_gatherOpen [.ref 54] σ K := by
  refine cgX0_gatherOpen ?_
  rintro _ rfl
  have f0 : FrO σ (setF σ 54 15 0) := (FrX.rf (P := fun c k => c = 54 ∧ k = 15) (C := fun c => c = 63) (l := False) σ).toF ⟨rfl, rfl⟩
  have h0 : txt (setF σ 54 15 0) 54 15 63 [] := ⟨by rw [sF_setF, if_pos ⟨rfl, rfl⟩]; rfl, fun i c hc => by cases hc⟩
  have outer : ∀ k2 x, x + k2 = 600 → ∀ σ1, FrO σ σ1 → txt σ1 54 15 63 ((OL E (pits E.1 E.2.2.2) x).map (ocode E)) → Go mX0_gatherOpen (d + 4) 7 [.ref 54, .int (nI (x + 1)), .null, .null] [] σ1 (QU K) := by
    intro k2
    induction k2 with
    | zero =>
      intro x hx σ1 f1 h1
      refine sgX0_gatherOpen_7 (br_t (nI_lt (a := 600) (by omega) (by omega)) (k σ1 f1 ?_))
      rw [show x = 600 by omega] at h1
      exact h1
    | succ k2 ih =>
      intro x hx σ1 f1 h1
      refine sgX0_gatherOpen_7 (br_f (nI_nlt (a := 600) (by omega) (by omega)) ?_)
      have inner : ∀ k3 i, i + k3 = (pits E.1 E.2.2.2).length → ∀ σ2, FrO σ σ2 → txt σ2 54 15 63 ((OL E (pits E.1 E.2.2.2) x ++ (((pits E.1 E.2.2.2).take i).filter (fun v => !nofit E (nI (x + 1)) v E.2.1.length)).map (fun v => (nI (x + 1), v))).map (ocode E)) → Go mX0_gatherOpen (d + 4) 16 [.ref 54, .int (nI (x + 1)), .int (nI i), .null] [] σ2 (QU K) := by
        intro k3
        induction k3 with
        | zero =>
          intro i hi σ2 f2 h2
          have hP := (h.keepO f2).2.2.2.2.2.2
          refine sgX0_gatherOpen_16 ?_
          rw [hP.1, nI1]
          refine br_t (nI_le (by omega) (by omega)) (ih (x + 1) (by omega) σ2 f2 ?_)
          rw [List.take_of_length_le (by omega)] at h2
          exact h2
        | succ k3 ih3 =>
          intro i hi σ2 f2 h2
          have he2 := h.keepO f2
          have hP := he2.2.2.2.2.2.2
          obtain ⟨v, hv⟩ := get_of (l := pits E.1 E.2.2.2) (i := i) (by omega)
          obtain ⟨q, hq, ev⟩ := pits_get hv
          have hk := ih3 (i + 1) (by omega)
          have hlist : (OL E (pits E.1 E.2.2.2) x ++ (((pits E.1 E.2.2.2).take (i + 1)).filter (fun v => !nofit E (nI (x + 1)) v E.2.1.length)).map (fun v => (nI (x + 1), v))) = (OL E (pits E.1 E.2.2.2) x ++ (((pits E.1 E.2.2.2).take i).filter (fun v => !nofit E (nI (x + 1)) v E.2.1.length)).map (fun v => (nI (x + 1), v))) ++ ([v].filter (fun v => !nofit E (nI (x + 1)) v E.2.1.length)).map (fun v => (nI (x + 1), v)) := by
            rw [take_s hv, List.filter_append, List.map_append, List.append_assoc]
          rw [hlist, List.map_append (l₁ := OL E (pits E.1 E.2.2.2) x ++ (((pits E.1 E.2.2.2).take i).filter (fun v => !nofit E (nI (x + 1)) v E.2.1.length)).map (fun v => (nI (x + 1), v)))] at hk
          have hlen : ((OL E (pits E.1 E.2.2.2) x ++ (((pits E.1 E.2.2.2).take i).filter (fun v => !nofit E (nI (x + 1)) v E.2.1.length)).map (fun v => (nI (x + 1), v))).map (ocode E)).length < 3600 := by
            have a1 := OL_le E (pits E.1 E.2.2.2) x
            have a2 := List.length_filter_le (fun v => !nofit E (nI (x + 1)) v E.2.1.length) ((pits E.1 E.2.2.2).take i)
            have a3 : ((pits E.1 E.2.2.2).take i).length ≤ i := by rw [List.length_take]; omega
            have a4 : x * (pits E.1 E.2.2.2).length ≤ x * 6 := Nat.mul_le_mul (Nat.le_refl _) h6
            rw [List.length_map, List.length_append, List.length_map]
            omega
          generalize hL : (OL E (pits E.1 E.2.2.2) x ++ (((pits E.1 E.2.2.2).take i).filter (fun v => !nofit E (nI (x + 1)) v E.2.1.length)).map (fun v => (nI (x + 1), v))).map (ocode E) = L at h2 hk hlen
          refine sgX0_gatherOpen_16 ?_
          rw [hP.1, nI1, nI1, ix_nI (by omega), hP.2 i v hv]
          refine br_f (nI_ge (by omega) (by omega)) (br_f (nI_ge (b := 11) (by omega) (by omega)) ⟨vp_in_nI (by omega) (by omega), ?_⟩)
          have hvq : ∀ K' : Int32 → St → Prop, K' (tfE E (nI (x + 1)) v) σ2 → CallI (d + 3) mX0_turnsThatFit [.ref 54, .int (nI (x + 1)), .int v] σ2 K' := fun K' k' => by rw [ev] at k' ⊢; exact ct_turnsThatFit hE he2 hq k'
          refine hvq _ ?_
          have hm := hE.2.2.1
          have hcl := cfit_le E (nI (x + 1)) v E.2.1.length
          cases hno : nofit E (nI (x + 1)) v E.2.1.length
          · have et : tfE E (nI (x + 1)) v = nI (cfit E (nI (x + 1)) v E.2.1.length) := by unfold tfE; rw [hno, if_neg (by decide)]
            rw [et, h2.1, ix_nI (by omega), hP.2 i v hv]
            have push : ∀ c, c = ocode E (nI (x + 1), v) → vp_in (nI L.length) 3600 ∧ ∀ s10, s10 = setA σ2 63 L.length c → ∀ s11, s11 = setF s10 54 15 ((sF s10 54 15) + 1) → Go mX0_gatherOpen (d + 4) 16 [.ref 54, .int (nI (x + 1)), .int (nI (i + 1)), .null] [] s11 (QU K) := by
              intro c hc
              refine ⟨vp_in_nI hlen (by omega), ?_⟩
              rintro _ rfl
              have e : sF (setA σ2 63 L.length c) 54 15 + 1 = nI (L.length + 1) := by rw [sF_setA, h2.1, nI1]
              rw [e]
              rintro _ rfl
              refine hk _ ((f2.toA rfl).toF ⟨rfl, rfl⟩) ?_
              rw [List.filter_cons_of_pos (by rw [hno]; rfl)]
              have := txt_app (c := c) h2
              rw [hc] at this ⊢
              exact this
            refine br_f (nI_pos (by omega)) (br_f (nI_ge (b := 3600) hlen (by omega)) ⟨vp_in_nI (by omega) (by omega), cgX0_codeOf ⟨fun c => push _ ?_, fun c => push _ ?_⟩⟩)
            · rw [show (0 : Int32) = nI 0 from rfl, nI_leI (by omega) (by omega)] at c
              unfold ocode
              rw [if_neg (show ¬ 0 < cfit E (nI (x + 1), v).1 (nI (x + 1), v).2 E.2.1.length from Nat.not_lt.mpr c)]
            · rw [show (0 : Int32) = nI 0 from rfl, nI_leI (by omega) (by omega)] at c
              unfold ocode
              rw [if_pos (show 0 < cfit E (nI (x + 1), v).1 (nI (x + 1), v).2 E.2.1.length from Nat.lt_of_not_le c)]
          · have et : tfE E (nI (x + 1)) v = -1 := by unfold tfE; rw [hno, if_pos rfl]
            rw [et]
            refine br_t (by decide) (hk σ2 f2 ?_)
            rw [List.filter_cons_of_neg (by rw [hno]; decide)]
            show txt σ2 54 15 63 (L ++ [])
            rw [List.append_nil]
            exact h2
      refine inner (pits E.1 E.2.2.2).length 0 (by omega) σ1 f1 ?_
      rw [List.take_zero, List.filter_nil, List.map_nil, List.append_nil]
      exact h1
  exact outer 600 0 rfl _ f0 h0
theorem oc_eq {x q : Nat} (hx : x < 600) (hq : q < 11) : ∃ f, f ≤ 1 ∧ ocode E (nI (x + 1), pv q) = nI ((11 * (x + 1) + q) * 2 + f) ∧ (f = 1 ↔ 0 < cfit E (nI (x + 1)) (pv q) E.2.1.length) := by
  have e : ocode E (nI (x + 1), pv q) = nI (11 * (x + 1) + q) * nI 2 + (if 0 < cfit E (nI (x + 1)) (pv q) E.2.1.length then 1 else 0) := by
    unfold ocode
    show (nI (x + 1) * 11 + pv q + 5) * 2 + _ = _
    rw [fd_eq hx hq]
    rfl
  rw [pk_mul] at e
  by_cases c : 0 < cfit E (nI (x + 1)) (pv q) E.2.1.length
  · rw [if_pos c] at e
    exact ⟨1, Nat.le_refl _, e.trans (nI_add _ 1), ⟨fun _ => c, fun _ => rfl⟩⟩
  · rw [if_neg c] at e
    exact ⟨0, by decide, e.trans (nI_add _ 0), ⟨fun z => absurd z (by decide), fun z => absurd z c⟩⟩
theorem ct_openTold {K : Int32 → St → Prop} {s : Int32} (hE' : okE (adE E s)) (h' : earOK σ (adE E s) n) (h6 : (pits E.1 E.2.2.2).length ≤ 6) (hO : txt σ 54 15 63 ((OL E (pits E.1 E.2.2.2) 600).map (ocode E))) (k : K (nI ((OL E (pits E.1 E.2.2.2) 600).countP (fun p => opP E s p.1 p.2))) σ) : CallI (d + 4) mX0_openTold [.ref 54, .int (nI E.2.1.length)] σ K := by
  have hmem : ∀ p ∈ OL E (pits E.1 E.2.2.2) 600, ∃ x q, x < 600 ∧ q < 11 ∧ p = (nI (x + 1), pv q) := by
    intro p hp
    obtain ⟨x, hx, e1, e2⟩ := OL_mem hp
    obtain ⟨i, hi⟩ := List.mem_iff_getElem?.mp e2
    obtain ⟨q, hq, e⟩ := pits_get hi
    exact ⟨x, q, hx, hq, Prod.ext e1 e⟩
  have hl : (OL E (pits E.1 E.2.2.2) 600).length ≤ 3600 := by
    have a1 := OL_le E (pits E.1 E.2.2.2) 600
    have a4 : 600 * (pits E.1 E.2.2.2).length ≤ 600 * 6 := Nat.mul_le_mul (Nat.le_refl _) h6
    omega
  have hm' : (adE E s).2.1.length = E.2.1.length + 1 := by unfold adE; rw [List.length_append]; rfl
  generalize OL E (pits E.1 E.2.2.2) 600 = L at hO k hmem hl
  have hlen : sF σ 54 15 = nI L.length := by rw [hO.1, List.length_map]
  refine cgX0_openTold ?_
  have loop : ∀ k2 i, i + k2 = L.length → Go mX0_openTold (d + 4) 4 [.ref 54, .int (nI E.2.1.length), .int (nI ((L.take i).countP (fun p => opP E s p.1 p.2))), .int (nI i), .null, .null] [] σ (QI K) := by
    intro k2
    induction k2 with
    | zero =>
      intro i hi
      refine sgX0_openTold_4 ?_
      rw [hlen]
      refine br_t (nI_le (by omega) (by omega)) ?_
      rw [List.take_of_length_le (by omega)]
      exact k
    | succ k2 ih =>
      intro i hi
      obtain ⟨p, hp⟩ := get_of (l := L) (i := i) (by omega)
      obtain ⟨x, q, hx, hq, e⟩ := hmem p (List.mem_of_getElem? hp)
      obtain ⟨f, hf, ef, ff⟩ := oc_eq (E := E) hx hq
      have hk := ih (i + 1) (by omega)
      rw [take_s hp, List.countP_append, List.countP_cons, List.countP_nil, Nat.zero_add, e] at hk
      have hrow : sA σ 63 i = nI ((11 * (x + 1) + q) * 2 + f) := by
        rw [← ef, ← e]
        exact hO.2 i _ (by rw [List.getElem?_map, hp]; rfl)
      have d2 : nI ((11 * (x + 1) + q) * 2 + f) / 2 = nI (11 * (x + 1) + q) := by
        rw [show (2 : Int32) = nI 2 from rfl, pk_div (by omega) (by decide) (by decide)]
        congr 1; omega
      have m2 : irem (nI ((11 * (x + 1) + q) * 2 + f)) 2 = nI f := by
        rw [show (2 : Int32) = nI 2 from rfl, irem_nI (by omega) (by decide) (by decide)]
        congr 1; omega
      refine sgX0_openTold_4 ?_
      rw [hlen, ix_nI (by omega), hrow, d2, dv11 (by omega), rm11 (by omega), show (11 * (x + 1) + q) / 11 = x + 1 by omega, show (11 * (x + 1) + q) % 11 = q by omega, nI1, nI1]
      have hopP : opP E s (nI (x + 1)) (pv q) = (decide (fitE (adE E s) (nI (x + 1)) (pv q) E.2.1.length = 1) || (decide (fitE (adE E s) (nI (x + 1)) (pv q) E.2.1.length = 2) && decide (0 < cfit E (nI (x + 1)) (pv q) E.2.1.length))) := rfl
      have hyes : opP E s (nI (x + 1)) (pv q) = true → Go mX0_openTold (d + 4) 4 [.ref 54, .int (nI E.2.1.length), .int (nI ((L.take i).countP (fun p => opP E s p.1 p.2) + 1)), .int (nI (i + 1)), .null, .null] [] σ (QI K) := by
        intro z
        rw [if_pos z] at hk
        exact hk
      have hno : opP E s (nI (x + 1)) (pv q) = false → Go mX0_openTold (d + 4) 4 [.ref 54, .int (nI E.2.1.length), .int (nI ((L.take i).countP (fun p => opP E s p.1 p.2))), .int (nI (i + 1)), .null, .null] [] σ (QI K) := by
        intro z
        rw [if_neg (show ¬ opP E s (nI (x + 1), pv q).1 (nI (x + 1), pv q).2 = true by rw [show opP E s (nI (x + 1), pv q).1 (nI (x + 1), pv q).2 = false from z]; decide), Nat.add_zero] at hk
        exact hk
      have hle := fitE_le (adE E s) (nI (x + 1)) (pv q) E.2.1.length
      refine br_f (nI_ge (by omega) (by omega)) (br_f (nI_ge (b := 3600) (by omega) (by omega)) ⟨vp_in_nI (by omega) (by omega), ct_fitOf hE' h' (by omega) hq ?_⟩)
      generalize fitE (adE E s) (nI (x + 1)) (pv q) E.2.1.length = g at hle hopP
      rcases (show g = 0 ∨ g = 1 ∨ g = 2 by omega) with rfl | rfl | rfl
      · exact br_f (by decide) (brt' (by decide) (hno (by rw [hopP]; rfl)))
      · exact br_t rfl (hyes (by rw [hopP]; rfl))
      · refine br_f (by decide) (brf' rfl ⟨vp_in_nI (by omega) (by omega), ?_⟩)
        rw [hrow, m2]
        refine br_c' (fun c => hno ?_) (fun c => hyes ?_)
        · rw [hopP, decide_eq_false (show ¬ 0 < cfit E (nI (x + 1)) (pv q) E.2.1.length from fun z => c (by rw [ff.mpr z]; rfl))]
          rfl
        · have f1 := (nI_eq (a := f) (b := 1) (by omega) (by omega)).mp c
          rw [hopP, decide_eq_true (ff.mp f1)]
          rfl
  exact loop L.length 0 (by omega)
end OPEN
