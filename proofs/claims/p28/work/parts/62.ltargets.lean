/-! the law's targets -/
/-- the class holds A and the law's rows hold its scene -/
def lS (σ : St) (A : Ab) : Prop := cR σ A ∧ lT σ A.1.1 ∧ lE σ (enS A.1)
theorem lS.step {σ : St} {A : Ab} {r : Int32} {m : MI} {as : List Value} {K : Int32 → St → Prop} (h : LkD A r m as) (hs : lS σ A) (k : ∀ σ', lS σ' A → FrM σ σ' → K r σ') : CallI 9 m as σ K := h σ K hs.1 (fun s f c => k s ⟨c, hs.2.1.keep f, hs.2.2.keep f⟩ f)
section LTA
variable {σ : St} {A : Ab} {t : Tg} {i : Nat} {b : Bd}
theorem lt0 (hA : okA A) (hs : lS σ A) (ht : A.1.1[i]? = some t) : sA σ 64 (ix (4 * nI i)) = t.1 := by
  have := lt_of ht; have := hA.1.1
  rw [ix40, ix_nI (by omega)]; exact (hs.2.1.2 i t ht).1
theorem lt1 (hA : okA A) (hs : lS σ A) (ht : A.1.1[i]? = some t) : sA σ 64 (ix (4 * nI i + 1)) = t.2.1 := by
  have := lt_of ht; have := hA.1.1
  rw [ix41, ix_nI (by omega)]; exact (hs.2.1.2 i t ht).2.1
theorem lt2 (hA : okA A) (hs : lS σ A) (ht : A.1.1[i]? = some t) : sA σ 64 (ix (4 * nI i + 2)) = t.2.2.1 := by
  have := lt_of ht; have := hA.1.1
  rw [ix42, ix_nI (by omega)]; exact (hs.2.1.2 i t ht).2.2.1
theorem lt3 (hA : okA A) (hs : lS σ A) (ht : A.1.1[i]? = some t) : sA σ 64 (ix (4 * nI i + 3)) = t.2.2.2 := by
  have := lt_of ht; have := hA.1.1
  rw [ix43, ix_nI (by omega)]; exact (hs.2.1.2 i t ht).2.2.2
theorem lb0 (hA : okA A) (hs : lS σ A) (hb : (enS A.1).1[i]? = some b) : sA σ 65 (ix (3 * nI i)) = b.1 := by
  have := lt_of hb; have := (okE_S hA.1).1
  rw [ix30, ix_nI (by omega)]; exact (hs.2.2.1.2 i b hb).1
theorem lb1 (hA : okA A) (hs : lS σ A) (hb : (enS A.1).1[i]? = some b) : sA σ 65 (ix (3 * nI i + 1)) = b.2.1 := by
  have := lt_of hb; have := (okE_S hA.1).1
  rw [ix31, ix_nI (by omega)]; exact (hs.2.2.1.2 i b hb).2.1
theorem lb2 (hA : okA A) (hs : lS σ A) (hb : (enS A.1).1[i]? = some b) : sA σ 65 (ix (3 * nI i + 2)) = b.2.2.1 := by
  have := lt_of hb; have := (okE_S hA.1).1
  rw [ix32, ix_nI (by omega)]; exact (hs.2.2.1.2 i b hb).2.2
theorem v4i (k w : Nat) (h : 4 * k + w < 24) : vp_in (4 * nI k + nI w) 24 := by rw [ix4]; exact vp_in_nI (by omega) (by omega)
theorem v40 (k : Nat) (h : 4 * k < 24) : vp_in (4 * nI k) 24 := by rw [ix40]; exact vp_in_nI (by omega) (by omega)
theorem v3i (k w : Nat) (h : 3 * k + w < 63) : vp_in (3 * nI k + nI w) 63 := by rw [ix3]; exact vp_in_nI (by omega) (by omega)
theorem v30 (k : Nat) (h : 3 * k < 63) : vp_in (3 * nI k) 63 := by rw [ix30]; exact vp_in_nI (by omega) (by omega)
/-- where a ghost comes from -/
theorem g36_at {L : List Tg} : ∀ (m g : Nat) (b : Bd), (g36 L m)[g]? = some b → ∃ q, q < m ∧ (g36 L q).length = g ∧ q / 6 < q % 6 ∧ b ∈ ghP L (q / 6) (q % 6) := by
  intro m
  induction m with
  | zero => intro g b h; cases h
  | succ m ih =>
    intro g b h
    have h' : (g36 L m ++ (if m / 6 < m % 6 then ghP L (m / 6) (m % 6) else []))[g]? = some b := h
    rcases Nat.lt_or_ge g (g36 L m).length with z | z
    · rw [List.getElem?_append_left z] at h'
      obtain ⟨q, hq, e⟩ := ih g b h'
      exact ⟨q, by omega, e⟩
    · rw [List.getElem?_append_right z] at h'
      by_cases c : m / 6 < m % 6
      · rw [if_pos c] at h'
        have hl := lt_of h'
        have h1 := ghP_len L (m / 6) (m % 6)
        exact ⟨m, by omega, by omega, c, List.mem_of_getElem? h'⟩
      · rw [if_neg c] at h'
        cases h'
theorem ghP_mem {L : List Tg} {i j : Nat} (h : b ∈ ghP L i j) : ∃ t u, L[i]? = some t ∧ L[j]? = some u ∧ t.2.2.2 = 1 ∧ u.2.2.2 = 1 ∧ b.2.2.1 = 0 ∧ b.2.2.2.1 = nI i ∧ b.2.2.2.2 = nI j := by
  unfold ghP at h
  split at h
  next t u ht hu =>
    unfold ghB at h
    split at h
    next c =>
      rw [List.mem_singleton] at h
      subst h
      exact ⟨t, u, ht, hu, c.1, c.2.1, rfl, rfl, rfl⟩
    · cases h
  · cases h
/-- the g-th ghost -/
theorem gh_at (hA : okA A) {g : Nat} (hb : (enS A.1).1[A.1.1.length + g]? = some b) : ∃ q t u, q < 36 ∧ (g36 A.1.1 q).length = g ∧ q / 6 < q % 6 ∧ A.1.1[q / 6]? = some t ∧ A.1.1[q % 6]? = some u ∧ t.2.2.2 = 1 ∧ u.2.2.2 = 1 ∧ b.2.2.1 = 0 ∧ b.2.2.2.1 = nI (q / 6) ∧ b.2.2.2.2 = nI (q % 6) := by
  have hb' : (tgs A.1.1 A.1.1.length ++ ghs A.1.1 A.1.1.length)[A.1.1.length + g]? = some b := hb
  have hl := tgs_len A.1.1 _ (Nat.le_refl _)
  rw [List.getElem?_append_right (by omega), hl, ← g36_all hA.1.1, show A.1.1.length + g - A.1.1.length = g by omega] at hb'
  obtain ⟨q, h1, h2, h3, h4⟩ := g36_at 36 g b hb'
  obtain ⟨t, u, h5⟩ := ghP_mem h4
  exact ⟨q, t, u, h1, h2, h3, h5⟩
theorem ct_Ltargets {K : Int32 → St → Prop} (hA : okA A) (hs : lS σ A) (k : ∀ σ', lS σ' A → FrM σ σ' → K 1 σ') : CallI 10 mL_targets [.ref 0, .ref 64, .ref 65, .ref 66] σ K := by
  have hn := hA.1.1
  have hE := okE_S hA.1
  have h21 := hE.1
  have hm := hE.2.2.1
  have hbl := bods_len hn
  have hlen : (enS A.1).1.length = (bods A.1.1).length := rfl
  have hE2 : (enS A.1).2.1.length = A.1.2.1.length := rfl
  have hw : ∀ t ∈ A.1.1, t.2.2.2 = 0 ∨ t.2.2.2 = 1 := fun t ht => (hA.1.2.1 t ht).2.2.2.1
  refine cgL_targets ?_
  have hsub : nI (enS A.1).1.length - nI A.1.1.length = nI ((enS A.1).1.length - A.1.1.length) := pk_sub hbl.2
  rw [hs.2.2.1.1, hs.2.1.1, hsub]
  generalize hgN : (enS A.1).1.length - A.1.1.length = gN
  -- the second loop
  have second : ∀ k2 g, g + k2 = gN → ∀ s v6, lS s A → FrM σ s → (v6 = -1 ∨ ∃ q0, q0 < 36 ∧ v6 = nI q0 ∧ (g36 A.1.1 q0).length < g) → Go mL_targets 10 311 [.ref 0, .ref 64, .ref 65, .ref 66, .int (nI gN), .int (nI (A.1.1.countP isW)), .int v6, .int (nI g), .null, .null, .null] [] s (QI K) := by
    intro k2
    induction k2 with
    | zero =>
      intro g hg s v6 hs f hv
      refine sgL_targets_311 (br_t (nI_le (by omega) (by omega)) ?_)
      refine hs.step (lc_ghx hA (by omega)) (fun s1 hs1 f1 => brf' rfl ?_)
      refine hs1.step (lc_ct0 hA) (fun s2 hs2 f2 => brf' hs2.2.1.1.symm ?_)
      refine hs2.step (lc_ct1 hA) (fun s3 hs3 f3 => brf' rfl ?_)
      refine hs3.step (lc_ct2 hA) (fun s4 hs4 f4 => brf' (by rw [hgN]) ?_)
      refine hs4.step (lc_ct3 hA) (fun s5 hs5 f5 => brf' hs5.2.2.2.1.symm ?_)
      refine hs5.step (lc_ct14 hA) (fun s6 hs6 f6 => brf' hs6.2.2.2.2.1.symm ?_)
      refine hs6.step (lc_ct15 hA) (fun s7 hs7 f7 => brf' hs7.2.2.2.2.2.1.symm ?_)
      rw [hs7.2.1.1]
      refine hs7.step (lc_tOx hA rfl) (fun s8 hs8 f8 => brf' rfl ?_)
      exact k s8 hs8 (((((((((f.tr f1).tr f2).tr f3).tr f4).tr f5).tr f6).tr f7).tr f8))
    | succ k2 ih =>
      intro g hg s v6 hs f hv
      obtain ⟨b, hb⟩ := get_of (l := (enS A.1).1) (i := A.1.1.length + g) (by omega)
      obtain ⟨q, t, u, q1, q2, q3, ht, hu, w1, w2, b3, b4, b5⟩ := gh_at hA hb
      have hq6 := lt_of hu
      refine sgL_targets_311 (br_f (nI_ge (by omega) (by omega)) ?_)
      rw [hs.2.1.1]
      refine hs.step (lc_gh2 hA hb) (fun s1 hs1 f1 => ?_)
      refine hs1.step (lc_gh3 hA hb) (fun s2 hs2 f2 => ?_)
      rw [b4, b5, hs2.2.1.1, lt3 hA hs2 ht, lt3 hA hs2 hu, w1, w2, nI_add, nI1]
      have e6 : (6 : Int32) * nI (q / 6) + nI (q % 6) = nI q := by
        rw [show (6 : Int32) = nI 6 from rfl, pk_mul, nI_add, Nat.div_add_mod]
      rw [e6]
      refine br_f (nI_pos (by omega)) (br_f (nI_ge (by omega) (by omega)) (br_f (nI_ge (by omega) (by omega)) (br_f ?_ ⟨v4i _ 3 (by omega), v4i _ 3 (by omega), brf' (by decide) ?_⟩)))
      · rcases hv with rfl | ⟨q0, h1, rfl, h2⟩
        · rw [Int32.le_iff_toInt_le, nI_toInt (by omega), show (-1 : Int32).toInt = -1 from rfl]
          omega
        · rw [nI_leI (by omega) (by omega)]
          intro z
          have := g36_mono A.1.1 z
          omega
      refine hs2.step (lc_gh0 hA hb) (fun s3 hs3 f3 => ⟨v30 _ (by omega), brf' (lb0 hA hs3 hb).symm ?_⟩)
      refine hs3.step (lc_gh1 hA hb) (fun s4 hs4 f4 => ⟨v3i _ 1 (by omega), brf' (lb1 hA hs4 hb).symm ?_⟩)
      refine hs4.step (lc_gh4 hA hb) (fun s5 hs5 f5 => ⟨v30 _ (by omega), ?_⟩)
      rw [lb0 hA hs5 hb]
      refine ct_Ltold hE hs5.2.2 ?_
      rw [b3]
      have hgo := ih (g + 1) (by omega) s5 (nI q) hs5 (((((f.tr f1).tr f2).tr f3).tr f4).tr f5) (Or.inr ⟨q, q1, rfl, by omega⟩)
      exact lt_br hE (fun e => br_t (by rw [e]; rfl) hgo) (fun e => br_t (by rw [e]; rfl) hgo)
  -- the loop over the ghosts of one target
  have first : ∀ k2 i, i + k2 = A.1.1.length → ∀ s, lS s A → FrM σ s → Go mL_targets 10 17 [.ref 0, .ref 64, .ref 65, .ref 66, .int (nI gN), .int (nI ((A.1.1.take i).countP isW)), .int (nI i), .null, .null, .null, .null] [] s (QI K) := by
    intro k2
    induction k2 with
    | zero =>
      intro i hi s hs f
      refine sgL_targets_17 ?_
      rw [hs.2.1.1]
      refine br_t (nI_le (by omega) (by omega)) ?_
      rw [List.take_of_length_le (by omega)]
      exact second gN 0 (by omega) s (-1) hs f (Or.inl rfl)
    | succ k2 ih =>
      intro i hi s hs f
      obtain ⟨t, ht⟩ := get_of (l := A.1.1) (i := i) (by omega)
      have hb : (enS A.1).1[i]? = some (tgB i t) := bods_get ht
      have hk := ih (i + 1) (by omega)
      rw [take_s ht, List.countP_append] at hk
      have hwt := hw t (List.mem_of_getElem? ht)
      have ew : nI ((A.1.1.take i).countP isW) + t.2.2.2 = nI ((A.1.1.take i).countP isW + [t].countP isW) := by
        rcases hwt with e | e
        · rw [e, Int32.add_zero]
          simp [isW, e]
        · rw [e, nI1]
          simp [isW, e]
      refine sgL_targets_17 ?_
      rw [hs.2.1.1, lt3 hA hs ht, ew]
      refine br_f (nI_ge (by omega) (by omega)) ⟨v4i _ 3 (by omega), ?_⟩
      generalize (A.1.1.take i).countP isW + [t].countP isW = W at hk
      have ghosts : ∀ k3 g, g + k3 = gN → ∀ (c : Nat), c + ((enS A.1).1.drop (A.1.1.length + g)).countP (gwB (nI i)) = ((enS A.1).1.drop A.1.1.length).countP (gwB (nI i)) → ∀ s, lS s A → FrM σ s → Go mL_targets 10 116 [.ref 0, .ref 64, .ref 65, .ref 66, .int (nI gN), .int (nI W), .int (nI i), .int (nI (lostB (enS A.1) (tgB i t))), .int (nI c), .int (nI g), .null] [] s (QI K) := by
        intro k3
        induction k3 with
        | zero =>
          intro g hg c hc s hs f
          rw [show A.1.1.length + g = (enS A.1).1.length by omega, List.drop_length, List.countP_nil, Nat.add_zero] at hc
          refine sgL_targets_116 (br_t (nI_le (by omega) (by omega)) ?_)
          refine hs.step (lc_tO0 hA ht) (fun s1 hs1 f1 => ⟨v40 _ (by omega), brf' (lt0 hA hs1 ht).symm ?_⟩)
          refine hs1.step (lc_tO1 hA ht) (fun s2 hs2 f2 => ⟨v4i _ 1 (by omega), brf' (lt1 hA hs2 ht).symm ?_⟩)
          refine hs2.step (lc_tO2 hA ht) (fun s3 hs3 f3 => ⟨v4i _ 2 (by omega), brf' (by rw [lt2 hA hs3 ht]) ?_⟩)
          refine hs3.step (lc_tO3 hA ht) (fun s4 hs4 f4 => ⟨v4i _ 3 (by omega), brf' (lt3 hA hs4 ht).symm ?_⟩)
          refine hs4.step (lc_tO4 hA ht) (fun s5 hs5 f5 => ⟨v40 _ (by omega), v4i _ 2 (by omega), ?_⟩)
          rw [lt0 hA hs5 ht, lt2 hA hs5 ht]
          refine ct_Ltold hE hs5.2.2 (lt_br hE (fun e => brf' (by rw [e]; rfl) ?_) (fun e => brf' (by rw [e]; rfl) ?_))
          · refine hs5.step (lc_tO5 hA ht) (fun s6 hs6 f6 => brf' rfl ?_)
            refine hs6.step (lc_tO6 hA ht) (fun s7 hs7 f7 => br_t (by rw [hc]) ?_)
            rw [nI1]
            exact hk s7 hs7 (((((((f.tr f1).tr f2).tr f3).tr f4).tr f5).tr f6).tr f7)
          · refine hs5.step (lc_tO5 hA ht) (fun s6 hs6 f6 => brf' rfl ?_)
            refine hs6.step (lc_tO6 hA ht) (fun s7 hs7 f7 => br_t (by rw [hc]) ?_)
            rw [nI1]
            exact hk s7 hs7 (((((((f.tr f1).tr f2).tr f3).tr f4).tr f5).tr f6).tr f7)
        | succ k3 ih3 =>
          intro g hg c hc s hs f
          obtain ⟨b, hbg⟩ := get_of (l := (enS A.1).1) (i := A.1.1.length + g) (by omega)
          rw [drop_s hbg, List.countP_cons] at hc
          have hyes : gwB (nI i) b = true → ∀ s, lS s A → FrM σ s → Go mL_targets 10 116 [.ref 0, .ref 64, .ref 65, .ref 66, .int (nI gN), .int (nI W), .int (nI i), .int (nI (lostB (enS A.1) (tgB i t))), .int (nI (c + 1)), .int (nI (g + 1)), .null] [] s (QI K) := by
            intro e
            rw [e, if_pos rfl] at hc
            exact ih3 (g + 1) (by omega) (c + 1) (by rw [← Nat.add_assoc]; omega)
          have hno : gwB (nI i) b = false → ∀ s, lS s A → FrM σ s → Go mL_targets 10 116 [.ref 0, .ref 64, .ref 65, .ref 66, .int (nI gN), .int (nI W), .int (nI i), .int (nI (lostB (enS A.1) (tgB i t))), .int (nI c), .int (nI (g + 1)), .null] [] s (QI K) := by
            intro e
            rw [e, if_neg (by decide)] at hc
            exact ih3 (g + 1) (by omega) c (by rw [← Nat.add_assoc]; omega)
          refine sgL_targets_116 (br_f (nI_ge (by omega) (by omega)) ?_)
          refine hs.step (lc_gh2 hA hbg) (fun s1 hs1 f1 => ⟨fun e => ?_, fun e => ?_⟩)
          · rw [nI1, nI1]
            exact hyes (by unfold gwB; rw [decide_eq_true e]; rfl) s1 hs1 (f.tr f1)
          · refine hs1.step (lc_gh3 hA hbg) (fun s2 hs2 f2 => br_c' (fun e2 => ?_) (fun e2 => ?_))
            · rw [Int32.add_zero, nI1]
              exact hno (by unfold gwB; rw [decide_eq_false e, decide_eq_false e2]; rfl) s2 hs2 ((f.tr f1).tr f2)
            · rw [nI1, nI1]
              exact hyes (by unfold gwB; rw [decide_eq_true e2, Bool.or_true]) s2 hs2 ((f.tr f1).tr f2)
      have losts : ∀ k3 j, j + k3 = (enS A.1).2.1.length → Go mL_targets 10 48 [.ref 0, .ref 64, .ref 65, .ref 66, .int (nI gN), .int (nI W), .int (nI i), .int (nI ((List.range j).countP (fun j => ltJ (enS A.1) j (tgB i t)))), .int 0, .int (nI j), .null] [] s (QI K) := by
        intro k3
        induction k3 with
        | zero =>
          intro j hj
          refine sgL_targets_48 ?_
          rw [hs.2.2.2.1]
          refine br_t (nI_le (by omega) (by omega)) ?_
          rw [show j = (enS A.1).2.1.length by omega, lostB_eq]
          exact ghosts gN 0 (by omega) 0 (by rw [Nat.zero_add, Nat.add_zero]) s hs f
        | succ k3 ih3 =>
          intro j hj
          have hk3 := ih3 (j + 1) (by omega)
          rw [countP_rs] at hk3
          have hz : ltJ (enS A.1) j (tgB i t) = (!decide (t.2.1 < (enS A.1).2.2.2) && decide (plE (enS A.1) j t.1 t.2.2.1 < (enS A.1).2.2.1)) := rfl
          refine sgL_targets_48 ?_
          rw [hs.2.2.2.1, lt1 hA hs ht, lt0 hA hs ht, lt2 hA hs ht, hs.2.2.2.2.2.1, nI1]
          refine br_f (nI_ge (by omega) (by omega)) ⟨v4i _ 1 (by omega), br_c (fun c => ?_) (fun c => ⟨v40 _ (by omega), v4i _ 2 (by omega), ct_Lplace hE hs.2.2.2 (by omega) ?_⟩)⟩
          · rw [hz, decide_eq_true c, Bool.not_true, Bool.false_and, if_neg (by decide), Nat.add_zero] at hk3
            rw [Int32.add_zero]
            exact hk3
          · rw [hs.2.2.2.2.1]
            refine br_c (fun c2 => ?_) (fun c2 => ?_)
            · have c2' : ¬ plE (enS A.1) j t.1 t.2.2.1 < (enS A.1).2.2.1 := fun z => by
                rw [Int32.le_iff_toInt_le] at c2
                rw [Int32.lt_iff_toInt_lt] at z
                omega
              rw [hz, decide_eq_false c2', Bool.and_false, if_neg (by decide), Nat.add_zero] at hk3
              rw [Int32.add_zero]
              exact hk3
            · have c2' : plE (enS A.1) j t.1 t.2.2.1 < (enS A.1).2.2.1 := by
                rw [Int32.le_iff_toInt_le] at c2
                rw [Int32.lt_iff_toInt_lt]
                omega
              rw [hz, decide_eq_false c, decide_eq_true c2', Bool.not_false, Bool.and_self, if_pos rfl] at hk3
              rw [nI1]
              exact hk3
      exact losts (enS A.1).2.1.length 0 (by omega)
  exact first A.1.1.length 0 (by omega) σ hs (FrM.rf σ)
end LTA
