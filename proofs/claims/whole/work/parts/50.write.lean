/-! write, sign -/
def mvS (v : Int32) : List Int32 := if v = 0 then [] else if 0 ≤ v then [43] ++ numS (ix v) else [45] ++ numS (ix (-v))
theorem tgS_eq (t : Tg) : tgS t = [if t.2.2.2 = 1 then 119 else 116] ++ numS (ix t.1) ++ [42] ++ numS (ix t.2.1) ++ mvS t.2.2.1 := rfl
theorem FrW.S {a b : St} (h : FrW a b) : Fr scr a b := FrX.fr h (fun x y z => by unfold scr; omega) (fun x z => by unfold scr; omega) (fun z => z.elim)
theorem FrW.M {a b : St} (h : FrW a b) : FrM a b := fun c hc => ⟨by funext k; exact h.1 c k (by omega), h.2.1 c (by omega)⟩
theorem FrU.N {a b : St} (h : FrU a b) : FrN a b := FrX.N h (fun x y z => ⟨z.1, by omega, by omega, by omega⟩) (fun x z => by omega)
section WRITE
variable {d : Nat} {σ : St} {b : Nat} {S : Sn} {L : List Int32} {A : Ab}
/-- the component's tail of a target: from the distance on -/
theorem wt_tail {K : St → Prop} {t : Tg} {i : Nat} (hb : isSc b) (hS : cSc σ b S) (hn : S.1.length ≤ 6) (hi : S.1[i]? = some t) (hok : okT t) (h : txt σ 52 1 53 L) (hl : L.length + 8 ≤ 72) (k : ∀ σ', FrW σ σ' → txt σ' 52 1 53 (L ++ numS (ix t.1) ++ [42] ++ numS (ix t.2.1) ++ mvS t.2.2.1) → K σ') :
    CallI (d + 3) mX3_distanceOf [.ref b, .int (nI i)] σ (fun r8 s7 => CallU (d + 3) mX4_writeNumber [.ref 52, .int r8] s7 (fun s9 => CallU (d + 3) mX4_put [.ref 52, .int 42] s9 (fun s10 => CallI (d + 3) mX3_strengthOf [.ref b, .int (nI i)] s10 (fun r12 s11 => CallU (d + 3) mX4_writeNumber [.ref 52, .int r12] s11 (fun s13 => (t.2.2.1 = 0 → K s13) ∧ (¬ t.2.2.1 = 0 → (0 ≤ t.2.2.1 → CallU (d + 3) mX4_put [.ref 52, .int 43] s13 (fun s16 => (0 ≤ t.2.2.1 → CallU (d + 3) mX4_writeNumber [.ref 52, .int t.2.2.1] s16 (fun s18 => K s18)) ∧ (¬ 0 ≤ t.2.2.1 → CallU (d + 3) mX4_writeNumber [.ref 52, .int (-t.2.2.1)] s16 (fun s19 => K s19)))) ∧ (¬ 0 ≤ t.2.2.1 → CallU (d + 3) mX4_put [.ref 52, .int 45] s13 (fun s20 => (0 ≤ t.2.2.1 → CallU (d + 3) mX4_writeNumber [.ref 52, .int t.2.2.1] s20 (fun s22 => K s22)) ∧ (¬ 0 ≤ t.2.2.1 → CallU (d + 3) mX4_writeNumber [.ref 52, .int (-t.2.2.1)] s20 (fun s23 => K s23)))))))))) := by
  obtain ⟨⟨a, ea, a1, a2⟩, ⟨s, es, s1, s2⟩, hv⟩ := okT_nat hok
  have n1 := numS_3 a
  have n2 : (numS s).length ≤ 2 := numS_2 (by omega)
  have c42 : chr 42 := chr_nI 42 (by decide)
  have c43 : chr 43 := chr_nI 43 (by decide)
  have c45 : chr 45 := chr_nI 45 (by decide)
  rw [ea, es, ix_nI (by omega), ix_nI (by omega)] at k
  refine ct_distanceOf hb hS hn hi ?_
  rw [ea]
  refine ct_wnum h (by omega) (by omega) (fun σ1 f1 h1 => ct_wput h1 (by rw [List.length_append]; omega) c42 (fun σ2 f2 h2 => ct_strengthOf hb (FrW.sc (FrX.tr f1 f2) hb hS) hn hi ?_))
  rw [es]
  have l2 : (L ++ numS a ++ [42]).length + (numS s).length ≤ L.length + 6 := by simp only [List.length_append, List.length_singleton]; omega
  refine ct_wnum h2 (by omega) (by omega) (fun σ3 f3 h3 => ?_)
  have l3 : (L ++ numS a ++ [42] ++ numS s).length ≤ L.length + 6 := by rw [List.length_append]; exact l2
  have f := (FrX.tr f1 f2).tr f3
  unfold mvS at k
  rcases hv with z | ⟨v, e, v1, v2⟩ | ⟨v, e, v1, v2, v3, v4⟩
  · rw [if_pos z, List.append_nil] at k
    exact br_t z (k σ3 f h3)
  · have hz : ¬ t.2.2.1 = 0 := by rw [e]; exact ine (by omega) (by omega)
    have hp : 0 ≤ t.2.2.1 := by rw [e]; exact nI_le (a := 0) (by omega) (by omega)
    have l1 : (numS v).length ≤ 1 := by rw [numS_1 (by omega)]; exact Nat.le_refl _
    rw [if_neg hz, if_pos hp] at k
    refine br_f hz (br_t hp (ct_wput h3 (by omega) c43 (fun σ4 f4 h4 => br_t hp ?_)))
    rw [e, ix_nI (by omega)] at k
    rw [e]
    refine ct_wnum h4 (by omega) (by rw [List.length_append, List.length_singleton]; omega) (fun σ5 f5 h5 => k σ5 ((f.tr f4).tr f5) ?_)
    rw [List.append_assoc] at h5
    exact h5
  · have l1 : (numS v).length ≤ 1 := by rw [numS_1 (by omega)]; exact Nat.le_refl _
    rw [if_neg v4, if_neg v3] at k
    refine br_f v4 (br_f v3 (ct_wput h3 (by omega) c45 (fun σ4 f4 h4 => br_f v3 ?_)))
    rw [e, ix_nI (by omega)] at k
    rw [e]
    refine ct_wnum h4 (by omega) (by rw [List.length_append, List.length_singleton]; omega) (fun σ5 f5 h5 => k σ5 ((f.tr f4).tr f5) ?_)
    rw [List.append_assoc] at h5
    exact h5
theorem ct_wtarget {K : St → Prop} {t : Tg} {i : Nat} (hb : isSc b) (hS : cSc σ b S) (hn : S.1.length ≤ 6) (hi : S.1[i]? = some t) (hok : okT t) (h : txt σ 52 1 53 L) (hl : L.length + 9 ≤ 72) (k : ∀ σ', FrW σ σ' → txt σ' 52 1 53 (L ++ tgS t) → K σ') : CallU (d + 4) mX4_writeTarget [.ref 52, .ref b, .int (nI i)] σ K := by
  have c116 : chr 116 := chr_nI 116 (by decide)
  have c119 : chr 119 := chr_nI 119 (by decide)
  rw [tgS_eq] at k
  refine cgX4_writeTarget hb (ct_movementOf hb hS hn hi (ct_isWall hb hS hn hi hok.2.2.2.1 ⟨fun c => ?_, fun c => ?_⟩))
  · rw [c, if_neg (by decide)] at k
    refine ct_wput h (by omega) c116 (fun σ1 f1 h1 => wt_tail hb (f1.sc hb hS) hn hi hok h1 (by rw [List.length_append, List.length_singleton]; omega) (fun σ2 f2 h2 => k σ2 (FrX.tr f1 f2) ?_))
    simpa only [List.append_assoc] using h2
  · have c1 : t.2.2.2 = 1 := by
      rcases hok.2.2.2.1 with z | z
      · exact absurd z c
      · exact z
    rw [if_pos c1] at k
    refine ct_wput h (by omega) c119 (fun σ1 f1 h1 => wt_tail hb (f1.sc hb hS) hn hi hok h1 (by rw [List.length_append, List.length_singleton]; omega) (fun σ2 f2 h2 => k σ2 (FrX.tr f1 f2) ?_))
    simpa only [List.append_assoc] using h2
theorem jn_s {Lt : List Tg} {i : Nat} {t : Tg} (h : Lt[i]? = some t) : jn Lt (i + 1) = (jn Lt i ++ (if i = 0 then ([] : List Int32) else [44])) ++ tgS t := by
  show (jn Lt i ++ (if i = 0 then ([] : List Int32) else [44])) ++ (match Lt[i]? with | some t => tgS t | none => []) = _
  rw [h]
theorem js_s {Ls : List Int32} {j n : Nat} (h : Ls[j]? = some (nI n)) (hn : n ≤ 50) : js Ls (j + 1) = (js Ls j ++ [if j = 0 then (59 : Int32) else 47]) ++ numS n := by
  show (js Ls j ++ [if j = 0 then (59 : Int32) else 47]) ++ (match Ls[j]? with | some s => numS (ix s) | none => []) = _
  rw [h]
  show _ ++ numS (ix (nI n)) = _
  rw [ix_nI (by omega)]
theorem ct_write {K : St → Prop} (hb : isSc b) (hS : cSc σ b S) (hok : okS S) (k : ∀ σ', FrW σ σ' → txt σ' 52 1 53 (txS S) → K σ') : CallU (d + 5) mX4_write [.ref 52, .ref b] σ K := by
  have hn := hok.1
  have hm := hok.2.2.2.1
  have c44 : chr 44 := chr_nI 44 (by decide)
  have c47 : chr 47 := chr_nI 47 (by decide)
  have c59 : chr 59 := chr_nI 59 (by decide)
  refine cgX4_write hb ?_
  rintro _ rfl
  have f0 : FrW σ (setF σ 52 1 0) := (FrX.rf (P := fun c k => c = 52 ∧ k = 1) (C := fun c => c = 53) (l := False) σ).toF ⟨rfl, rfl⟩
  have h0 : txt (setF σ 52 1 0) 52 1 53 [] := ⟨by rw [sF_setF, if_pos ⟨rfl, rfl⟩]; rfl, fun i c hc => by cases hc⟩
  refine ct_targetCount hb (f0.sc hb hS) (br_c' (fun c => ?_) (fun c => ?_))
  · have hn0 : ¬ S.1.length = 0 := fun z => c (by rw [z]; rfl)
    unfold txS at k
    rw [if_neg hn0] at k
    have jb := jn_len hok.2.1 S.1.length (Nat.le_refl _)
    have turns : ∀ k2 j, j + k2 = S.2.1.length → ∀ σ1, FrW σ σ1 → txt σ1 52 1 53 (jn S.1 S.1.length ++ js S.2.1 j) → Go mX4_write (d + 5) 47 [.ref 52, .ref b, .int (nI j)] [] σ1 (QU K) := by
      intro k2
      induction k2 with
      | zero =>
        intro j hj σ1 f1 h1
        refine sgX4_write_47 hb (ct_turnCount hb (f1.sc hb hS) (br_t (nI_le (by omega) (by omega)) (k σ1 f1 ?_)))
        rw [show S.2.1.length = j by omega]
        exact h1
      | succ k2 ih =>
        intro j hj σ1 f1 h1
        obtain ⟨n, hs, n1, n2⟩ := spN hok (j := j) (by omega)
        have jl := js_len S.2.1 hok.2.2.2.2.1 j (by omega)
        have nl : (numS n).length ≤ 2 := numS_2 (by omega)
        have ll : (jn S.1 S.1.length ++ js S.2.1 j).length ≤ 60 + 3 * j := by rw [List.length_append]; omega
        have hk := ih (j + 1) (by omega)
        rw [js_s hs n2] at hk
        refine sgX4_write_47 hb (ct_turnCount hb (f1.sc hb hS) (br_f (nI_ge (by omega) (by omega)) (br_c' (fun c2 => ?_) (fun c2 => ?_))))
        · have hj0 : ¬ j = 0 := fun z => c2 (by rw [z]; rfl)
          rw [if_neg hj0] at hk
          refine ct_wput h1 (by omega) c47 (fun σ2 f2 h2 => ct_spacingOf hb (FrW.sc (FrX.tr f1 f2) hb hS) hm hs (ct_wnum h2 (by omega) (by rw [List.length_append, List.length_singleton]; omega) (fun σ3 f3 h3 => ?_)))
          rw [nI1]
          refine hk σ3 ((FrX.tr f1 f2).tr f3) ?_
          simpa only [List.append_assoc] using h3
        · have hj0 : j = 0 := (nI_eq (a := j) (b := 0) (by omega) (by omega)).mp c2
          rw [if_pos hj0] at hk
          refine ct_wput h1 (by omega) c59 (fun σ2 f2 h2 => ct_spacingOf hb (FrW.sc (FrX.tr f1 f2) hb hS) hm hs (ct_wnum h2 (by omega) (by rw [List.length_append, List.length_singleton]; omega) (fun σ3 f3 h3 => ?_)))
          rw [nI1]
          refine hk σ3 ((FrX.tr f1 f2).tr f3) ?_
          simpa only [List.append_assoc] using h3
    have tgts : ∀ k2 i, i + k2 = S.1.length → ∀ σ1, FrW σ σ1 → txt σ1 52 1 53 (jn S.1 i) → Go mX4_write (d + 5) 15 [.ref 52, .ref b, .int (nI i)] [] σ1 (QU K) := by
      intro k2
      induction k2 with
      | zero =>
        intro i hi σ1 f1 h1
        refine sgX4_write_15 hb (ct_targetCount hb (f1.sc hb hS) (br_t (nI_le (by omega) (by omega)) (turns S.2.1.length 0 (by omega) σ1 f1 ?_)))
        rw [show S.1.length = i by omega]
        show txt σ1 52 1 53 (jn S.1 i ++ [])
        rw [List.append_nil]
        exact h1
      | succ k2 ih =>
        intro i hi σ1 f1 h1
        obtain ⟨t, ht⟩ := get_of (l := S.1) (i := i) (by omega)
        have hokt := hok.2.1 t (List.mem_of_getElem? ht)
        have il := jn_len hok.2.1 i (by omega)
        have hk := ih (i + 1) (by omega)
        rw [jn_s ht] at hk
        refine sgX4_write_15 hb (ct_targetCount hb (f1.sc hb hS) (br_f (nI_ge (by omega) (by omega)) (br_c (fun c2 => ?_) (fun c2 => ?_))))
        · have hi0 : i = 0 := by
            rw [show (0 : Int32) = nI 0 from rfl, nI_leI (by omega) (by omega)] at c2
            omega
          rw [if_pos hi0, List.append_nil] at hk
          refine ct_wtarget hb (f1.sc hb hS) hn ht hokt h1 (by omega) (fun σ2 f2 h2 => ?_)
          rw [nI1]
          exact hk σ2 (FrX.tr f1 f2) h2
        · have hi0 : ¬ i = 0 := fun z => c2 (by rw [z]; decide)
          rw [if_neg hi0] at hk
          refine ct_wput h1 (by omega) c44 (fun σ2 f2 h2 => ct_wtarget hb (FrW.sc (FrX.tr f1 f2) hb hS) hn ht hokt h2 (by rw [List.length_append, List.length_singleton]; omega) (fun σ3 f3 h3 => ?_))
          rw [nI1]
          exact hk σ3 ((FrX.tr f1 f2).tr f3) h3
    exact tgts S.1.length 0 (by omega) _ f0 h0
  · have hn0 : S.1.length = 0 := (nI_eq (a := S.1.length) (b := 0) (by omega) (by omega)).mp c
    unfold txS at k
    rw [if_pos hn0] at k
    exact k _ f0 h0
end WRITE
