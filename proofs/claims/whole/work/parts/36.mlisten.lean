/-! the model: bodies, echoes, looks -/
def modB (σ : St) (B : List Bd) : Prop := sF σ 64 8 = nI B.length ∧ ∀ (k : Nat) (b : Bd), B[k]? = some b → sA σ 69 (5 * k) = b.1 ∧ sA σ 69 (5 * k + 1) = b.2.1 ∧ sA σ 69 (5 * k + 2) = b.2.2.1 ∧ sA σ 69 (5 * k + 3) = b.2.2.2.1 ∧ sA σ 69 (5 * k + 4) = b.2.2.2.2
def zE (σ : St) (E : En) : Prop := sA σ 65 1 = nI E.2.1.length ∧ sA σ 65 6 = E.2.2.1 ∧ sA σ 65 7 = E.2.2.2 ∧ ∀ (j : Nat) (s : Int32), E.2.1[j]? = some s → sA σ 65 (2 + j) = s
theorem zE_of {σ : St} {S : Sn} (h : mSc (sA σ 65) S) : zE σ (enS S) := ⟨h.2.1, h.2.2.1, h.2.2.2.1, h.2.2.2.2.2⟩
def htE (E : En) (i : Nat) (b : Bd) : Bool := partB E.2.2.2 (spE E (i / 550)) (i / 550) (pv (i % 11)) (nI (i / 11 % 50)) b && !decide (nI (i / 11 % 50) < E.2.2.1)
/-- strengths and sources: turns below j whole, the turn j up to the body k -/
def pS (E : En) (j k i : Nat) : Int32 := if i / 550 < j then sumS (htE E i) E.1 else if i / 550 = j then sumS (htE E i) (E.1.take k) else 0
def pC (E : En) (j k i : Nat) : Int32 := if i / 550 < j then nI (E.1.countP (htE E i)) else if i / 550 = j then nI ((E.1.take k).countP (htE E i)) else 0
def modOK (σ : St) (E : En) : Prop := modB σ E.1 ∧ zE σ E ∧ ∀ i, i < 2200 → sA σ 70 i = pS E E.2.1.length 0 i ∧ sA σ 71 i = pC E E.2.1.length 0 i
abbrev FrY (σ σ' : St) : Prop := FrX (fun c k => c = 64 ∧ k = 8) (fun c => 69 ≤ c ∧ c ≤ 71) False σ σ'
section MOD
variable {d : Nat} {σ : St} {E : En} {B : List Bd} {b : Bd} {S : Sn}
theorem ix5 (k w : Nat) : (5 : Int32) * nI k + nI w = nI (5 * k + w) := by
  show nI 5 * nI k + nI w = _
  rw [pk_mul, nI_add]
theorem ix50 (k : Nat) : (5 : Int32) * nI k = nI (5 * k) := by
  show nI 5 * nI k = _
  rw [pk_mul]
theorem ct_body {K : Int32 → St → Prop} {k w : Nat} (hk : k < 21) (hw : w < 5) (h : K (sA σ 69 (5 * k + w)) σ) : CallI (d + 1) mX6_body [.ref 64, .int (nI k), .int (nI w)] σ K := by
  refine cgX6_body ?_
  rw [ix5, ix_nI (by omega)]
  exact ⟨vp_in_nI (by omega) (by omega), h⟩
theorem ct_body0 {K : Int32 → St → Prop} {k : Nat} {x : Int32} (hk : k < 21) (e : sA σ 69 (5 * k) = x) (h : K x σ) : CallI (d + 1) mX6_body [.ref 64, .int (nI k), .int 0] σ K := ct_body (w := 0) hk (by omega) (by rw [show sA σ 69 (5 * k + 0) = x from e]; exact h)
theorem ct_of0 {K : Int32 → St → Prop} {i : Nat} {x : Int32} (hi : i < 6) (e : sA σ 65 (8 + 4 * i) = x) (h : K x σ) : CallI (d + 1) mX6_of [.ref 64, .int (nI i), .int 0] σ K := ct_of (w := 0) hi (by omega) (by rw [show sA σ 65 (8 + 4 * i + 0) = x from e]; exact h)
theorem modB.keep {P : Nat → Nat → Prop} {C : Nat → Prop} {l : Prop} {σ' : St} (h : modB σ B) (f : FrX P C l σ σ') (hp : ¬ P 64 8) (hc : ¬ C 69) : modB σ' B := ⟨by rw [f.1 64 8 hp]; exact h.1, fun k b hb => by rw [f.2.1 69 hc]; exact h.2 k b hb⟩
theorem zE.keep {P : Nat → Nat → Prop} {C : Nat → Prop} {l : Prop} {σ' : St} (h : zE σ E) (f : FrX P C l σ σ') (hc : ¬ C 65) : zE σ' E := by unfold zE; rw [f.2.1 65 hc]; exact h
theorem ct_layBody {K : St → Prop} (hB : modB σ B) (hn : B.length < 21) (k : ∀ σ', FrX (fun c k => c = 64 ∧ k = 8) (fun c => c = 69) False σ σ' → modB σ' (B ++ [b]) → K σ') : CallU (d + 1) mX6_layBody [.ref 64, .int b.1, .int b.2.1, .int b.2.2.1, .int b.2.2.2.1, .int b.2.2.2.2] σ K := by
  have i1 : (5 : Int32) * nI B.length + 1 = nI (5 * B.length + 1) := ix5 _ 1
  have i2 : (5 : Int32) * nI B.length + 2 = nI (5 * B.length + 2) := ix5 _ 2
  have i3 : (5 : Int32) * nI B.length + 3 = nI (5 * B.length + 3) := ix5 _ 3
  have i4 : (5 : Int32) * nI B.length + 4 = nI (5 * B.length + 4) := ix5 _ 4
  refine cgX6_layBody ?_
  rw [hB.1, i1, i2, i3, i4, ix50, ix_nI (by omega), ix_nI (by omega), ix_nI (by omega), ix_nI (by omega), ix_nI (by omega)]
  refine ⟨vp_in_nI (by omega) (by omega), ?_⟩
  rintro _ rfl
  refine ⟨vp_in_nI (by omega) (by omega), ?_⟩
  rintro _ rfl
  refine ⟨vp_in_nI (by omega) (by omega), ?_⟩
  rintro _ rfl
  refine ⟨vp_in_nI (by omega) (by omega), ?_⟩
  rintro _ rfl
  refine ⟨vp_in_nI (by omega) (by omega), ?_⟩
  rintro _ rfl _ rfl
  refine k _ ((((((FrX.rf (P := fun c k => c = 64 ∧ k = 8) (C := fun c => c = 69) (l := False) σ).toA rfl).toA rfl).toA rfl).toA rfl).toA rfl |>.toF ⟨rfl, rfl⟩) ⟨?_, fun q u hu => ?_⟩
  · rw [sF_setF, if_pos ⟨rfl, rfl⟩]
    simp only [sF_setA]
    rw [hB.1, nI1]; simp
  · rw [sA_setF]
    simp only [sA_setA]
    rcases Nat.lt_or_ge q B.length with hlt | hge
    · rw [List.getElem?_append_left hlt] at hu
      have := hB.2 q u hu
      have hne : ∀ w v, w < 5 → v < 5 → ¬ 5 * q + w = 5 * B.length + v := fun w v h1 h2 => by omega
      simp only [true_and]
      rw [if_neg (by omega), if_neg (by omega), if_neg (by omega), if_neg (by omega), if_neg (by omega), if_neg (by omega), if_neg (by omega), if_neg (by omega), if_neg (by omega), if_neg (by omega), if_neg (by omega), if_neg (by omega), if_neg (by omega), if_neg (by omega), if_neg (by omega), if_neg (by omega), if_neg (by omega), if_neg (by omega), if_neg (by omega), if_neg (by omega), if_neg (by omega), if_neg (by omega), if_neg (by omega), if_neg (by omega), if_neg (by omega)]
      exact this
    · have hlt := lt_of hu
      simp at hlt
      have e : q = B.length := by omega
      subst e
      simp at hu
      subst hu
      simp
theorem ct_mfaint {K : Int32 → St → Prop} {i : Nat} (hB : modB σ B) (hn : B.length ≤ 21) (hz : zE σ E) (hi : B[i]? = some b) (h : K (bI (decide (b.2.1 < E.2.2.2))) σ) : CallI (d + 2) mX6_isFaint [.ref 64, .int (nI i)] σ K := by
  have hl := lt_of hi
  refine cgX6_isFaint (ct_body (w := 1) (by omega) (by omega) ?_)
  rw [(hB.2 i b hi).2.1, hz.2.2.1]
  refine br_c (fun c => ?_) (fun c => ?_)
  · rw [decide_eq_false (Int32.not_lt.mpr c)] at h; exact h
  · rw [decide_eq_true (Int32.not_le.mp c)] at h; exact h
theorem ct_placeIn {K : Int32 → St → Prop} {x v : Int32} {j : Nat} (hE : okE E) (hz : zE σ E) (hj : j < E.2.1.length) (h : K (plE E j x v) σ) : CallI (d + 1) mX6_placeIn [.ref 64, .int x, .int v, .int (nI j)] σ K := by
  have hm := hE.2.2.1
  obtain ⟨s, hs⟩ := get_of hj
  have hsr := hE.2.2.2.1 s (List.mem_of_getElem? hs)
  have e2 : (2 : Int32) + nI j = nI (2 + j) := nI_add 2 j
  have hs0 : ¬ s = 0 := fun z => by rw [z, k0] at hsr; omega
  refine cgX6_placeIn ?_
  rw [e2, ix_nI (by omega), hz.2.2.2 j s hs]
  unfold plE pl at h
  rw [spE_get hs] at h
  have hin : vp_in (nI (2 + j)) 32 := vp_in_nI (by omega) (by omega)
  refine br_c (fun c => ⟨hin, hs0, ?_⟩) (fun c => ⟨hin, hs0, ?_⟩)
  · by_cases c2 : 0 < x + v * nI j
    · rw [if_pos c2] at h; exact h
    · rw [if_neg c2] at h
      have : x + v * nI j = 0 := by
        apply Int32.toInt_inj.mp
        rw [Int32.le_iff_toInt_le, k0] at c
        rw [Int32.lt_iff_toInt_lt, k0] at c2
        rw [k0]; omega
      rw [this, irem_0 (by omega)]
      exact h
  · rw [if_neg (fun z => c (Int32.le_of_lt z))] at h
    rw [irem_0 (by omega)]
    exact h
theorem ct_isLost {K : Int32 → St → Prop} {i j : Nat} (hE : okE E) (hB : modB σ E.1) (hz : zE σ E) (hj : j < E.2.1.length) (hi : E.1[i]? = some b) (h : K (bI (!decide (b.2.1 < E.2.2.2) && decide (plE E j b.1 b.2.2.1 < E.2.2.1))) σ) : CallI (d + 3) mX6_isLost [.ref 64, .int (nI i), .int (nI j)] σ K := by
  have h21 := hE.1
  have hl := lt_of hi
  refine cgX6_isLost (ct_mfaint hB h21 hz hi (bI_br' (fun e => ct_body0 (by omega) (hB.2 i b hi).1 (ct_body (w := 2) (by omega) (by omega) ?_)) (fun e => ?_)))
  · rw [(hB.2 i b hi).2.2.1]
    refine ct_placeIn hE hz hj ?_
    rw [hz.2.1]
    rw [e, Bool.not_false, Bool.true_and] at h
    refine br_c (fun c => ?_) (fun c => ?_)
    · rw [decide_eq_false (Int32.not_lt.mpr c)] at h; exact h
    · rw [decide_eq_true (Int32.not_le.mp c)] at h; exact h
  · rw [e, Bool.not_true, Bool.false_and] at h; exact h
theorem ct_mark {K : Int32 → St → Prop} {j p q : Nat} {v : Int32} (hq : v = nI q - 5) (h : K (nI ((j * 50 + p) * 11 + q)) σ) : CallI (d + 1) mX6_mark [.int (nI j), .int (nI p), .int v] σ K := by
  refine cgX6_mark ?_
  subst hq
  have : (((nI j * 50 + nI p) * 11) + (nI q - 5)) + 5 = nI ((j * 50 + p) * 11 + q) := by
    show (((nI j * nI 50 + nI p) * nI 11) + (nI q - 5)) + 5 = _
    rw [pk_mul, nI_add, pk_mul, Int32.add_assoc, Int32.sub_add_cancel, nI_add]
  rw [this]
  exact h
theorem ht_at {j p q k i : Nat} {x v : Int32} (hp : p < 50) (hq : q < 11) (hx : i = (j * 50 + p) * 11 + q) : i / 550 = j ∧ i % 11 = q ∧ i / 11 % 50 = p := by omega
theorem pS_full (E : En) (j i : Nat) : pS E j E.1.length i = pS E (j + 1) 0 i := by
  unfold pS
  rw [List.take_length, List.take_zero]
  by_cases c1 : i / 550 < j
  · rw [if_pos c1, if_pos (show i / 550 < j + 1 by omega)]
  · by_cases c2 : i / 550 = j
    · rw [if_neg c1, if_pos c2, if_pos (show i / 550 < j + 1 by omega)]
    · rw [if_neg c1, if_neg c2, if_neg (show ¬ i / 550 < j + 1 by omega)]
      split <;> rfl
theorem pC_full (E : En) (j i : Nat) : pC E j E.1.length i = pC E (j + 1) 0 i := by
  unfold pC
  rw [List.take_length, List.take_zero]
  by_cases c1 : i / 550 < j
  · rw [if_pos c1, if_pos (show i / 550 < j + 1 by omega)]
  · by_cases c2 : i / 550 = j
    · rw [if_neg c1, if_pos c2, if_pos (show i / 550 < j + 1 by omega)]
    · rw [if_neg c1, if_neg c2, if_neg (show ¬ i / 550 < j + 1 by omega)]
      split <;> rfl
/-- the model's bodies are the scene's -/
theorem ct_mlisten {K : St → Prop} (hS : mSc (sA σ 65) S) (hok : okS S) (k : ∀ σ', FrY σ σ' → modOK σ' (enS S) → K σ') : CallU (d + 4) mX6_listen [.ref 64] σ K := by
  have hn := hok.1
  have hE := okE_S hok
  have hlen := bods_len hn
  have hT := tgs_len S.1 S.1.length (Nat.le_refl _)
  have hm := hok.2.2.2.1
  refine cgX6_listen ?_
  intro s0 e0
  have f0 : FrY σ s0 := by rw [e0]; exact (FrX.rf σ).toF ⟨rfl, rfl⟩
  have hb : ∀ i k, i < S.1.length → k ≤ S.1.length → (tgs S.1 S.1.length ++ ghs S.1 i ++ ghRow S.1 i k).length ≤ 21 := by
    intro i k hi hk
    have h1 := ghRow_mono S.1 i hk
    have h2 := ghs_mono S.1 (k := i + 1) (n := S.1.length) (by omega)
    have h3 : (ghs S.1 (i + 1)).length = (ghs S.1 i).length + (ghRow S.1 i S.1.length).length := by
      show (ghs S.1 i ++ ghRow S.1 i S.1.length).length = _
      rw [List.length_append]
    have h4 := hlen.1
    unfold bods at h4
    rw [List.length_append] at h4
    rw [List.length_append, List.length_append]
    omega
  have zS : ∀ σ', FrY σ σ' → mSc (sA σ' 65) S := fun σ' f => by rw [f.2.1 65 (fun z => by omega)]; exact hS
  have toY : ∀ s1 s2, FrX (fun c k => c = 64 ∧ k = 8) (fun c => c = 69) False s1 s2 → FrY s1 s2 := fun s1 s2 f => f.mono (fun x y z => z) (fun x z => by omega) id
  -- the marks
  have marks : ∀ k2 j σ', j + k2 = S.2.1.length → FrY σ σ' → modB σ' (bods S.1) → (∀ i, i < 2200 → sA σ' 70 i = pS (enS S) j 0 i ∧ sA σ' 71 i = pC (enS S) j 0 i) → Go mX6_listen (d + 4) 219 [.ref 64, .int (nI j), .null, .null, .null] [] σ' (QU K) := by
    intro k2
    induction k2 with
    | zero =>
      intro j σ' hj f hB hM
      refine sgX6_listen_219 ?_
      rw [(zS σ' f).2.1]
      refine br_t (nI_le (by omega) (by omega)) (k σ' f ⟨hB, zE_of (zS σ' f), ?_⟩)
      rw [show j = (enS S).2.1.length from by show j = S.2.1.length; omega] at hM
      exact hM
    | succ k2 ih =>
      intro j σ' hj f hB hM
      refine sgX6_listen_219 ?_
      rw [(zS σ' f).2.1]
      refine br_f (nI_ge (by omega) (by omega)) ?_
      have inner : ∀ k3 i σ'', i + k3 = (bods S.1).length → FrY σ σ'' → modB σ'' (bods S.1) → (∀ x, x < 2200 → sA σ'' 70 x = pS (enS S) j i x ∧ sA σ'' 71 x = pC (enS S) j i x) → Go mX6_listen (d + 4) 231 [.ref 64, .int (nI j), .int (nI i), .null, .null] [] σ'' (QU K) := by
        intro k3
        induction k3 with
        | zero =>
          intro i σ'' hi f2 hB2 hM2
          refine sgX6_listen_231 ?_
          rw [hB2.1, nI1]
          refine br_t (nI_le (by omega) (by omega)) (ih (j + 1) σ'' (by omega) f2 hB2 (fun x hx => ?_))
          have := hM2 x hx
          rw [show i = (enS S).1.length from by show i = (bods S.1).length; omega, pS_full, pC_full] at this
          exact this
        | succ k3 ih3 =>
          intro i σ'' hi f2 hB2 hM2
          obtain ⟨b, hb'⟩ := get_of (l := bods S.1) (i := i) (by omega)
          have hokb := hE.2.1 b (List.mem_of_getElem? hb')
          have hz := zE_of (zS σ'' f2)
          have hjE : j < (enS S).2.1.length := by show j < S.2.1.length; omega
          obtain ⟨q, hq, eq⟩ := pitch_of hokb.2.2
          have hspj : 10 ≤ (spE (enS S) j).toInt ∧ (spE (enS S) j).toInt ≤ 50 := by
            obtain ⟨s, hs⟩ := get_of hjE
            rw [spE_get hs]
            exact hE.2.2.2.1 s (List.mem_of_getElem? hs)
          obtain ⟨p, hp, ep⟩ := pl_lt (s := spE (enS S) j) (x := b.1) (v := b.2.2.1) (j := j) (by omega)
          have hk := ih3 (i + 1)
          have hbE : (enS S).1[i]? = some b := hb'
          have skip : (b.2.1 < (enS S).2.2.2 ∨ plE (enS S) j b.1 b.2.2.1 < (enS S).2.2.1) → Go mX6_listen (d + 4) 231 [.ref 64, .int (nI j), .int (nI (i + 1)), .null, .null] [] σ'' (QU K) := by
            intro hsk
            refine hk σ'' (by omega) f2 hB2 (fun x hx => ?_)
            have := hM2 x hx
            have hno : x / 550 = j → htE (enS S) x b = false := by
              intro hxj
              unfold htE partB
              rw [hxj]
              rcases hsk with h | h
              · rw [decide_eq_true h]; simp
              · by_cases c : pl (spE (enS S) j) b.1 b.2.2.1 j = nI (x / 11 % 50)
                · have h' : nI (x / 11 % 50) < (enS S).2.2.1 := by rw [← c]; exact h
                  rw [decide_eq_true h']; simp
                · rw [decide_eq_false c]; simp
            unfold pS pC at this ⊢
            rw [take_s hbE, sumS_app, List.countP_append]
            by_cases c2 : x / 550 = j
            · rw [hno c2]
              simp only [List.countP_cons, List.countP_nil, hno c2]
              simpa using this
            · rw [if_neg c2, if_neg c2] at this ⊢
              exact this
          refine sgX6_listen_231 ?_
          rw [hB2.1, nI1, nI1]
          refine br_f (nI_ge (by omega) (by omega)) (ct_mfaint hB2 hlen.1 hz hb' (bI_br' (fun e => ct_isLost hE hB2 hz hjE hbE (bI_br' (fun e2 => ?_) (fun e2 => ?_))) (fun e => skip (Or.inl (of_decide_eq_true e)))))
          · rw [e, Bool.not_false, Bool.true_and] at e2
            have hnl := of_decide_eq_false e2
            have hnf := of_decide_eq_false e
            have hrow := hB2.2 i b hb'
            refine ct_body0 (by omega) hrow.1 (ct_body (w := 2) (by omega) (by omega) ?_)
            rw [hrow.2.2.1]
            refine ct_placeIn hE hz hjE (ct_body (w := 2) (by omega) (by omega) ?_)
            have epE : plE (enS S) j b.1 b.2.2.1 = nI p := ep
            rw [hrow.2.2.1, epE]
            have hx0 : (j * 50 + p) * 11 + q < 2200 := by omega
            refine ct_mark eq ⟨vp_in_nI hx0 (by omega), ct_body (w := 1) (by omega) (by omega) ?_⟩
            rw [hrow.2.1, ix_nI (by omega)]
            refine ⟨vp_in_nI hx0 (by omega), ?_⟩
            rintro _ rfl
            refine ⟨vp_in_nI hx0 (by omega), vp_in_nI hx0 (by omega), ?_⟩
            rintro _ rfl
            have g : FrX (fun _ _ => False) (fun c => 70 ≤ c ∧ c ≤ 71) False σ'' (setA (setA σ'' 70 ((j * 50 + p) * 11 + q) (sA σ'' 70 ((j * 50 + p) * 11 + q) + b.2.1)) 71 ((j * 50 + p) * 11 + q) (sA (setA σ'' 70 ((j * 50 + p) * 11 + q) (sA σ'' 70 ((j * 50 + p) * 11 + q) + b.2.1)) 71 ((j * 50 + p) * 11 + q) + 1)) := ((FrX.rf σ'').toA ⟨by omega, by omega⟩).toA ⟨by omega, by omega⟩
            refine hk _ (by omega) (f2.tr (g.mono (fun x y z => z.elim) (fun x z => by omega) id)) (hB2.keep g id (fun z => by omega)) (fun x hx => ?_)
            have hM0 := hM2 x hx
            have h0 := ht_at (j := j) (p := p) (q := q) (k := 0) (i := (j * 50 + p) * 11 + q) (x := 0) (v := 0) hp hq rfl
            have hit : x / 550 = j → htE (enS S) x b = decide (x = (j * 50 + p) * 11 + q) := by
              intro hxj
              unfold htE partB
              rw [hxj, decide_eq_false hnf]
              have e1 : decide (b.2.2.1 = pv (x % 11)) = decide (x % 11 = q) := decide_eq_decide.mpr ⟨fun z => (pitch_inj (by omega) (by omega) (eq.symm.trans z)).symm, fun z => by rw [z]; exact eq⟩
              have e3 : decide (pl (spE (enS S) j) b.1 b.2.2.1 j = nI (x / 11 % 50)) = decide (x / 11 % 50 = p) := by
                rw [ep]
                exact decide_eq_decide.mpr ⟨fun z => ((nI_eq (by omega) (by omega)).mp z).symm, fun z => by rw [z]⟩
              rw [e1, e3]
              by_cases c1 : x % 11 = q
              · by_cases c2 : x / 11 % 50 = p
                · have h3 : ¬ nI (x / 11 % 50) < (enS S).2.2.1 := by rw [c2, ← epE]; exact hnl
                  rw [decide_eq_true c1, decide_eq_true c2, decide_eq_false h3, decide_eq_true (by omega)]; rfl
                · rw [decide_eq_false c2, decide_eq_false (show ¬ x = (j * 50 + p) * 11 + q from fun z => c2 (by rw [z]; exact h0.2.2))]; simp
              · rw [decide_eq_false c1, decide_eq_false (show ¬ x = (j * 50 + p) * 11 + q from fun z => c1 (by rw [z]; exact h0.2.1))]; simp
            have hx70 : sA (setA (setA σ'' 70 ((j * 50 + p) * 11 + q) (sA σ'' 70 ((j * 50 + p) * 11 + q) + b.2.1)) 71 ((j * 50 + p) * 11 + q) (sA (setA σ'' 70 ((j * 50 + p) * 11 + q) (sA σ'' 70 ((j * 50 + p) * 11 + q) + b.2.1)) 71 ((j * 50 + p) * 11 + q) + 1)) 70 x = if x = (j * 50 + p) * 11 + q then sA σ'' 70 x + b.2.1 else sA σ'' 70 x := by
              rw [sA_setA, if_neg (by omega), sA_setA]
              by_cases c : x = (j * 50 + p) * 11 + q
              · rw [if_pos ⟨rfl, c⟩, if_pos c, c]
              · rw [if_neg (fun z => c z.2), if_neg c]
            have hx71 : sA (setA (setA σ'' 70 ((j * 50 + p) * 11 + q) (sA σ'' 70 ((j * 50 + p) * 11 + q) + b.2.1)) 71 ((j * 50 + p) * 11 + q) (sA (setA σ'' 70 ((j * 50 + p) * 11 + q) (sA σ'' 70 ((j * 50 + p) * 11 + q) + b.2.1)) 71 ((j * 50 + p) * 11 + q) + 1)) 71 x = if x = (j * 50 + p) * 11 + q then sA σ'' 71 x + 1 else sA σ'' 71 x := by
              rw [sA_setA]
              by_cases c : x = (j * 50 + p) * 11 + q
              · rw [if_pos ⟨rfl, c⟩, if_pos c, sA_setA, if_neg (by omega), c]
              · rw [if_neg (fun z => c z.2), if_neg c, sA_setA, if_neg (by omega)]
            rw [hx70, hx71]
            unfold pS pC at hM0 ⊢
            rw [take_s hbE, sumS_app, List.countP_append]
            by_cases c2 : x / 550 = j
            · have c1 : ¬ x / 550 < j := by omega
              rw [if_neg c1, if_neg c1, if_pos c2, if_pos c2] at hM0 ⊢
              simp only [List.countP_cons, List.countP_nil, hit c2]
              by_cases c : x = (j * 50 + p) * 11 + q
              · rw [if_pos c, if_pos c, if_pos (decide_eq_true c), if_pos (decide_eq_true c), hM0.1, hM0.2, nI1]
                exact ⟨rfl, rfl⟩
              · have cd : ¬ decide (x = (j * 50 + p) * 11 + q) = true := fun z => c (of_decide_eq_true z)
                rw [if_neg c, if_neg c, if_neg cd, if_neg cd]
                exact hM0
            · have c : ¬ x = (j * 50 + p) * 11 + q := fun z => c2 (by rw [z]; exact h0.1)
              rw [if_neg c, if_neg c]
              rw [if_neg c2, if_neg c2] at hM0 ⊢
              exact hM0
          · rw [e, Bool.not_false, Bool.true_and] at e2
            exact skip (Or.inr (of_decide_eq_true e2))
      exact inner (bods S.1).length 0 σ' (by omega) f hB hM
  -- the rows are emptied
  have zero : ∀ k2 i σ', i + k2 = 2200 → FrY σ σ' → modB σ' (bods S.1) → (∀ x, x < i → sA σ' 70 x = 0 ∧ sA σ' 71 x = 0) → Go mX6_listen (d + 4) 190 [.ref 64, .int (nI i), .null, .null, .null] [] σ' (QU K) := by
    intro k2
    induction k2 with
    | zero =>
      intro i σ' hi f hB hZ
      refine sgX6_listen_190 (br_t (nI_le (a := 2200) (by omega) (by omega)) ?_)
      refine marks S.2.1.length 0 σ' (by omega) f hB (fun x hx => ?_)
      have := hZ x (by omega)
      unfold pS pC
      rw [if_neg (show ¬ x / 550 < 0 by omega), if_neg (show ¬ x / 550 < 0 by omega), List.take_zero, this.1, this.2]
      refine ⟨?_, ?_⟩ <;> split <;> rfl
    | succ k2 ih =>
      intro i σ' hi f hB hZ
      refine sgX6_listen_190 (br_f (nI_ge (b := 2200) (by omega) (by omega)) ?_)
      rw [ix_nI (by omega), nI1]
      refine ⟨vp_in_nI (by omega) (by omega), ?_⟩
      rintro _ rfl
      refine ⟨vp_in_nI (by omega) (by omega), ?_⟩
      rintro _ rfl
      have g : FrX (fun _ _ => False) (fun c => 70 ≤ c ∧ c ≤ 71) False σ' (setA (setA σ' 70 i 0) 71 i 0) := ((FrX.rf σ').toA ⟨by omega, by omega⟩).toA ⟨by omega, by omega⟩
      refine ih (i + 1) _ (by omega) (f.tr (g.mono (fun x y z => z.elim) (fun x z => by omega) id)) (hB.keep g id (fun z => by omega)) (fun x hx => ?_)
      rw [sA_setA, if_neg (by omega), sA_setA, sA_setA]
      by_cases c : x = i
      · rw [if_pos ⟨rfl, c⟩, if_pos ⟨rfl, c⟩]; exact ⟨rfl, rfl⟩
      · have := hZ x (by omega)
        rw [if_neg (fun z => c z.2), if_neg (fun z => c z.2), sA_setA, if_neg (by omega)]; exact this
  -- the ghosts
  have outer : ∀ k2 i σ', i + k2 = S.1.length → FrY σ σ' → modB σ' (tgs S.1 S.1.length ++ ghs S.1 i) → Go mX6_listen (d + 4) 49 [.ref 64, .int (nI i), .null, .null, .null] [] σ' (QU K) := by
    intro k2
    induction k2 with
    | zero =>
      intro i σ' hi f hB
      refine sgX6_listen_49 ?_
      rw [(zS σ' f).1]
      refine br_t (nI_le (by omega) (by omega)) ?_
      rw [show i = S.1.length by omega] at hB
      exact zero 2200 0 σ' (by omega) f hB (fun x hx => by omega)
    | succ k2 ih =>
      intro i σ' hi f hB
      refine sgX6_listen_49 ?_
      rw [(zS σ' f).1, nI1]
      refine br_f (nI_ge (by omega) (by omega)) ?_
      obtain ⟨t, ht⟩ := get_of (l := S.1) (i := i) (by omega)
      have inner : ∀ k3 j σ'', j + k3 = S.1.length → i < j → FrY σ σ'' → modB σ'' (tgs S.1 S.1.length ++ ghs S.1 i ++ ghRow S.1 i j) → Go mX6_listen (d + 4) 63 [.ref 64, .int (nI i), .int (nI j), .null, .null] [] σ'' (QU K) := by
        intro k3
        induction k3 with
        | zero =>
          intro j σ'' hj hij f2 hB2
          refine sgX6_listen_63 ?_
          rw [(zS σ'' f2).1, nI1]
          refine br_t (nI_le (by omega) (by omega)) (ih (i + 1) σ'' (by omega) f2 ?_)
          show modB σ'' (tgs S.1 S.1.length ++ (ghs S.1 i ++ ghRow S.1 i S.1.length))
          rw [← List.append_assoc]
          rw [show j = S.1.length by omega] at hB2
          exact hB2
        | succ k3 ih3 =>
          intro j σ'' hj hij f2 hB2
          obtain ⟨u, hu⟩ := get_of (l := S.1) (i := j) (by omega)
          have hzi := (zS σ'' f2).2.2.2.2.1 i t ht
          have hzj := (zS σ'' f2).2.2.2.2.1 j u hu
          have hrow : ghRow S.1 i (j + 1) = ghRow S.1 i j ++ ghB i j t u := by
            show ghRow S.1 i j ++ (if i < j then ghP S.1 i j else []) = _
            rw [if_pos hij, ghP_w ht hu]
          have hk := ih3 (j + 1)
          rw [hrow, ← List.append_assoc] at hk
          have skip : ghB i j t u = [] → Go mX6_listen (d + 4) 63 [.ref 64, .int (nI i), .int (nI (j + 1)), .null, .null] [] σ'' (QU K) := by
            intro hno
            rw [hno, List.append_nil] at hk
            exact hk σ'' (by omega) (by omega) f2 hB2
          refine sgX6_listen_63 ?_
          rw [(zS σ'' f2).1, nI1, nI1]
          refine br_f (nI_ge (by omega) (by omega)) (ct_of (w := 1) (by omega) (by omega) (ct_of (w := 1) (by omega) (by omega) (ct_of (w := 3) (by omega) (by omega) ?_)))
          rw [hzi.2.1, hzj.2.1, hzi.2.2.2]
          refine br_c' (fun c => skip (by unfold ghB; rw [if_neg (fun z => c z.1)])) (fun c => ct_of (w := 3) (by omega) (by omega) ?_)
          rw [hzj.2.2.2]
          refine br_c' (fun c2 => skip (by unfold ghB; rw [if_neg (fun z => c2 z.2.1)])) (fun c2 => br_c (fun c3 => skip (by unfold ghB; rw [if_neg (fun z => z.2.2 c3)])) (fun c3 => ct_of0 (by omega) hzi.1 (ct_of0 (by omega) hzj.1 ?_)))
          have eg : ghB i j t u = [(2 * (if t.1 < u.1 then u.1 else t.1) - (if u.1 < t.1 then u.1 else t.1), t.2.1 * u.2.1 / 200, 0, nI i, nI j)] := by unfold ghB; rw [if_pos ⟨c, c2, c3⟩]
          have h21 := hb i (j + 1) (by omega) (by omega)
          rw [hrow, ← List.append_assoc, List.length_append, eg] at h21
          have h21' : (tgs S.1 S.1.length ++ ghs S.1 i ++ ghRow S.1 i j).length < 21 := by simp at h21 ⊢; omega
          rw [eg] at hk
          refine br_c (fun c4 => ?_) (fun c4 => ?_)
          · refine ct_of0 (by omega) hzj.1 (ct_of0 (by omega) hzi.1 (ct_of0 (by omega) hzj.1 ?_))
            have ed : (2 * (t.1 + u.1 - u.1)) - u.1 = 2 * (if t.1 < u.1 then u.1 else t.1) - (if u.1 < t.1 then u.1 else t.1) := by
              rw [Int32.add_sub_cancel, if_neg (Int32.not_lt.mpr c4)]
              by_cases c5 : u.1 < t.1
              · rw [if_pos c5]
              · rw [if_neg c5, Int32.le_antisymm c4 (Int32.not_lt.mp c5)]
            rw [ed]
            exact ct_layBody (b := (2 * (if t.1 < u.1 then u.1 else t.1) - (if u.1 < t.1 then u.1 else t.1), t.2.1 * u.2.1 / 200, 0, nI i, nI j)) hB2 h21' (fun s2 f3 h3 => hk s2 (by omega) (by omega) (f2.tr (toY _ _ f3)) h3)
          · refine ct_of0 (by omega) hzi.1 (ct_of0 (by omega) hzi.1 (ct_of0 (by omega) hzj.1 ?_))
            have hlt : t.1 < u.1 := Int32.not_le.mp c4
            have ed : (2 * (t.1 + u.1 - t.1)) - t.1 = 2 * (if t.1 < u.1 then u.1 else t.1) - (if u.1 < t.1 then u.1 else t.1) := by
              rw [Int32.add_comm t.1 u.1, Int32.add_sub_cancel, if_pos hlt, if_neg (Int32.not_lt.mpr (Int32.le_of_lt hlt))]
            rw [ed]
            exact ct_layBody (b := (2 * (if t.1 < u.1 then u.1 else t.1) - (if u.1 < t.1 then u.1 else t.1), t.2.1 * u.2.1 / 200, 0, nI i, nI j)) hB2 h21' (fun s2 f3 h3 => hk s2 (by omega) (by omega) (f2.tr (toY _ _ f3)) h3)
      refine inner (S.1.length - (i + 1)) (i + 1) σ' (by omega) (by omega) f ?_
      rw [ghRow_0 S.1 i (i + 1) (Nat.le_refl _), List.append_nil]
      exact hB
  -- the targets
  have first : ∀ k2 i σ', i + k2 = S.1.length → FrY σ σ' → modB σ' (tgs S.1 i) → Go mX6_listen (d + 4) 7 [.ref 64, .int (nI i), .null, .null, .null] [] σ' (QU K) := by
    intro k2
    induction k2 with
    | zero =>
      intro i σ' hi f hB
      refine sgX6_listen_7 ?_
      rw [(zS σ' f).1]
      refine br_t (nI_le (by omega) (by omega)) (outer S.1.length 0 σ' (by omega) f ?_)
      show modB σ' (tgs S.1 S.1.length ++ [])
      rw [List.append_nil]
      rw [show i = S.1.length by omega] at hB
      exact hB
    | succ k2 ih =>
      intro i σ' hi f hB
      obtain ⟨t, ht⟩ := get_of (l := S.1) (i := i) (by omega)
      have hzi := (zS σ' f).2.2.2.2.1 i t ht
      have hl := tgs_len S.1 i (by omega)
      refine sgX6_listen_7 ?_
      rw [(zS σ' f).1, nI1]
      refine br_f (nI_ge (by omega) (by omega)) (ct_of0 (by omega) hzi.1 (ct_of (w := 1) (by omega) (by omega) (ct_of (w := 2) (by omega) (by omega) ?_)))
      rw [hzi.2.1, hzi.2.2.1]
      refine ct_layBody (b := tgB i t) hB (by omega) (fun s2 f2 h2 => ih (i + 1) s2 (by omega) (f.tr (toY _ _ f2)) ?_)
      have : tgs S.1 (i + 1) = tgs S.1 i ++ [tgB i t] := by
        show tgs S.1 i ++ (match S.1[i]? with | some t => [tgB i t] | none => []) = _
        rw [ht]
      rw [this]
      exact h2
  refine first S.1.length 0 s0 (by omega) f0 ⟨?_, fun q u hu => by simp [tgs] at hu⟩
  rw [e0, sF_setF, if_pos ⟨rfl, rfl⟩]
  rfl
end MOD
