/-! the class Ear: what it takes from a scene -/
/-- only the fields of P, the rows of C, the long row under l change -/
def FrX (P : Nat → Nat → Prop) (C : Nat → Prop) (l : Prop) (σ σ' : St) : Prop := (∀ c k, ¬ P c k → sF σ' c k = sF σ c k) ∧ (∀ c, ¬ C c → sA σ' c = sA σ c) ∧ sP σ' = sP σ ∧ (¬ l → sL σ' = sL σ)
theorem FrX.rf {P : Nat → Nat → Prop} {C : Nat → Prop} {l : Prop} (σ : St) : FrX P C l σ σ := ⟨fun _ _ _ => rfl, fun _ _ => rfl, rfl, fun _ => rfl⟩
theorem FrX.tr {P : Nat → Nat → Prop} {C : Nat → Prop} {l : Prop} {a b c : St} (h : FrX P C l a b) (k : FrX P C l b c) : FrX P C l a c := ⟨fun x y hx => (k.1 x y hx).trans (h.1 x y hx), fun x hx => (k.2.1 x hx).trans (h.2.1 x hx), k.2.2.1.trans h.2.2.1, fun z => (k.2.2.2 z).trans (h.2.2.2 z)⟩
theorem FrX.mono {P P' : Nat → Nat → Prop} {C C' : Nat → Prop} {l l' : Prop} {a b : St} (h : FrX P C l a b) (hp : ∀ x y, P x y → P' x y) (hc : ∀ x, C x → C' x) (hl : l → l') : FrX P' C' l' a b := ⟨fun x y z => h.1 x y (fun w => z (hp x y w)), fun x z => h.2.1 x (fun w => z (hc x w)), h.2.2.1, fun z => h.2.2.2 (fun w => z (hl w))⟩
theorem FrX.toF {P : Nat → Nat → Prop} {C : Nat → Prop} {l : Prop} {σ s : St} {a k : Nat} {v : Int32} (f : FrX P C l σ s) (h : P a k) : FrX P C l σ (setF s a k v) := by
  refine f.tr ⟨fun c j hc => ?_, fun _ _ => rfl, rfl, fun _ => rfl⟩
  rw [sF_setF, if_neg (fun q => hc (by rw [q.1, q.2]; exact h))]
theorem FrX.toA {P : Nat → Nat → Prop} {C : Nat → Prop} {l : Prop} {σ s : St} {a i : Nat} {v : Int32} (f : FrX P C l σ s) (h : C a) : FrX P C l σ (setA s a i v) := by
  refine f.tr ⟨fun _ _ _ => rfl, fun c hc => ?_, rfl, fun _ => rfl⟩
  funext j
  rw [sA_setA, if_neg (fun q => hc (by rw [q.1]; exact h))]
theorem FrX.toL {P : Nat → Nat → Prop} {C : Nat → Prop} {l : Prop} {σ s : St} {i : Nat} {v : Int64} (f : FrX P C l σ s) (h : l) : FrX P C l σ (setL s i v) := f.tr ⟨fun _ _ _ => rfl, fun _ _ => rfl, rfl, fun z => absurd h z⟩
theorem FrX.fr {P : Nat → Nat → Prop} {C D : Nat → Prop} {l : Prop} {a b : St} (h : FrX P C l a b) (hp : ∀ x y, P x y → D x) (hc : ∀ x, C x → D x) (hl : l → D 61) : Fr D a b := ⟨fun c hcD => ⟨by funext k; exact h.1 c k (fun w => hcD (hp c k w)), h.2.1 c (fun w => hcD (hc c w))⟩, h.2.2.1, fun z => h.2.2.2 (fun w => z (hl w))⟩
def earB (σ : St) (B : List Bd) : Prop := sF σ 54 9 = nI B.length ∧ ∀ (k : Nat) (b : Bd), B[k]? = some b → sA σ 55 k = b.1 ∧ sA σ 56 k = b.2.1 ∧ sA σ 57 k = b.2.2.1 ∧ sA σ 58 k = b.2.2.2.1 ∧ sA σ 59 k = b.2.2.2.2
abbrev FrB (σ σ' : St) : Prop := FrX (fun c k => c = 54 ∧ k = 9) (fun c => 55 ≤ c ∧ c ≤ 59) False σ σ'
theorem earB.keep {P : Nat → Nat → Prop} {C : Nat → Prop} {l : Prop} {σ σ' : St} {B : List Bd} (h : earB σ B) (f : FrX P C l σ σ') (hp : ¬ P 54 9) (hc : ∀ c, 55 ≤ c → c ≤ 59 → ¬ C c) : earB σ' B := by
  refine ⟨by rw [f.1 54 9 hp]; exact h.1, fun k b hk => ?_⟩
  rw [f.2.1 55 (hc 55 (by omega) (by omega)), f.2.1 56 (hc 56 (by omega) (by omega)), f.2.1 57 (hc 57 (by omega) (by omega)), f.2.1 58 (hc 58 (by omega) (by omega)), f.2.1 59 (hc 59 (by omega) (by omega))]
  exact h.2 k b hk
section EAR
variable {d : Nat} {σ : St} {B : List Bd} {b : Bd} {a : Nat} {S : Sn}
theorem ct_take {K : St → Prop} (hB : earB σ B) (hn : B.length < 21) (k : ∀ σ', FrB σ σ' → earB σ' (B ++ [b]) → K σ') : CallU (d + 1) mX0_take [.ref 54, .int b.1, .int b.2.1, .int b.2.2.1, .int b.2.2.2.1, .int b.2.2.2.2] σ K := by
  refine cgX0_take ?_
  have hin : vp_in (nI B.length) 21 := vp_in_nI hn (by omega)
  simp only [sF_setA, hB.1]
  rw [ix_nI (by omega)]
  refine br_f (nI_pos (by omega)) (br_f (nI_ge (b := 21) hn (by omega)) ⟨hin, ?_⟩)
  rintro _ rfl
  rw [sF_setA, hB.1, ix_nI (by omega)]
  refine ⟨hin, ?_⟩
  rintro _ rfl
  rw [sF_setA, sF_setA, hB.1, ix_nI (by omega)]
  refine ⟨hin, ?_⟩
  rintro _ rfl
  rw [sF_setA, sF_setA, sF_setA, hB.1, ix_nI (by omega)]
  refine ⟨hin, ?_⟩
  rintro _ rfl
  rw [sF_setA, sF_setA, sF_setA, sF_setA, hB.1, ix_nI (by omega)]
  refine ⟨hin, ?_⟩
  rintro _ rfl _ rfl
  refine k _ ((((((FrX.rf σ).toA ⟨by omega, by omega⟩).toA ⟨by omega, by omega⟩).toA ⟨by omega, by omega⟩).toA ⟨by omega, by omega⟩).toA ⟨by omega, by omega⟩ |>.toF ⟨rfl, rfl⟩) ⟨?_, fun q u hu => ?_⟩
  · rw [sF_setF, if_pos ⟨rfl, rfl⟩]
    simp only [sF_setA]
    rw [hB.1, nI1]; simp
  · rw [sA_setF]
    simp only [sA_setA]
    rcases Nat.lt_or_ge q B.length with hlt | hge
    · rw [List.getElem?_append_left hlt] at hu
      have := hB.2 q u hu
      have hne : ¬ q = B.length := by omega
      simp [hne]
      exact this
    · have hlt := lt_of hu
      simp at hlt
      have e : q = B.length := by omega
      subst e
      simp at hu
      subst hu
      simp
theorem cSc.keepX {P : Nat → Nat → Prop} {C : Nat → Prop} {l : Prop} {σ σ' : St} (ha : isSc a) (h : cSc σ a S) (f : FrX P C l σ σ') (hp : ∀ c k, P c k → 44 ≤ c) (hc : ∀ c, C c → 44 ≤ c) : cSc σ' a S :=
  h.keep (C := fun c => 44 ≤ c) (f.fr hp hc (fun _ => by omega)) (fun c hc z => by have := sc_le ha; unfold inSc at hc; omega)
theorem frB_le : (∀ c k : Nat, (c = 54 ∧ k = 9) → 44 ≤ c) ∧ (∀ c : Nat, (55 ≤ c ∧ c ≤ 59) → 44 ≤ c) := ⟨fun c k h => by omega, fun c h => by omega⟩
theorem ct_takeTargets {K : St → Prop} (ha : isSc a) (hS : cSc σ a S) (hn : S.1.length ≤ 6) (h0 : sF σ 54 9 = 0) (k : ∀ σ', FrB σ σ' → earB σ' (tgs S.1 S.1.length) → K σ') : CallU (d + 3) mX0_takeTargets [.ref 54, .ref a] σ K := by
  refine cgX0_takeTargets ha ?_
  have loop : ∀ k2 i σ', i + k2 = S.1.length → FrB σ σ' → earB σ' (tgs S.1 i) → Go mX0_takeTargets (d + 3) 2 [.ref 54, .ref a, .int (nI i)] [] σ' (QU K) := by
    intro k2
    induction k2 with
    | zero =>
      intro i σ' hi f hE
      have hS' := cSc.keepX ha hS f frB_le.1 frB_le.2
      refine sgX0_takeTargets_2 ha (ct_targetCount ha hS' (br_t (nI_le (by omega) (by omega)) ?_))
      rw [show i = S.1.length by omega] at hE
      exact k σ' f hE
    | succ k2 ih =>
      intro i σ' hi f hE
      have hS' := cSc.keepX ha hS f frB_le.1 frB_le.2
      obtain ⟨t, ht⟩ := get_of (l := S.1) (i := i) (by omega)
      refine sgX0_takeTargets_2 ha (ct_targetCount ha hS' (br_f (nI_ge (by omega) (by omega)) ?_))
      refine ct_distanceOf ha hS' hn ht (ct_strengthOf ha hS' hn ht (ct_movementOf ha hS' hn ht ?_))
      have hl := tgs_len S.1 i (by omega)
      refine ct_take (b := tgB i t) hE (by omega) (fun s2 f2 h2 => ?_)
      rw [nI1]
      refine ih (i + 1) s2 (by omega) (f.tr f2) ?_
      have : tgs S.1 (i + 1) = tgs S.1 i ++ [tgB i t] := by
        show tgs S.1 i ++ (match S.1[i]? with | some t => [tgB i t] | none => []) = _
        rw [ht]
      rw [this]
      exact h2
  exact loop S.1.length 0 σ (by omega) (FrX.rf σ) ⟨h0, fun q u hu => by simp [tgs] at hu⟩
theorem ct_takeGhost {K : St → Prop} {i j : Nat} {t u : Tg} (ha : isSc a) (hS : cSc σ a S) (hn : S.1.length ≤ 6) (hi : S.1[i]? = some t) (hj : S.1[j]? = some u) (hw : t.2.2.2 = 1 ∧ u.2.2.2 = 1) (hB : earB σ B) (hl : B.length < 21) (k : ∀ σ', FrB σ σ' → earB σ' (B ++ ghB i j t u) → K σ') : CallU (d + 3) mX0_takeGhost [.ref 54, .ref a, .int (nI i), .int (nI j)] σ K := by
  refine cgX0_takeGhost ha (ct_distanceOf ha hS hn hi (ct_distanceOf ha hS hn hj (ct_distanceOf ha hS hn hi (ct_distanceOf ha hS hn hj (ct_strengthOf ha hS hn hi (ct_strengthOf ha hS hn hj ?_))))))
  unfold ghB at k
  refine br_c (fun c => ?_) (fun c => ?_)
  · rw [if_neg (fun z => z.2.2 c), List.append_nil] at k
    exact k σ (FrX.rf σ) hB
  · rw [if_pos ⟨hw.1, hw.2, c⟩] at k
    exact ct_take (b := (2 * (if t.1 < u.1 then u.1 else t.1) - (if u.1 < t.1 then u.1 else t.1), t.2.1 * u.2.1 / 200, 0, nI i, nI j)) hB hl k
theorem ghP_w {i k : Nat} {t u : Tg} (hi : S.1[i]? = some t) (hk : S.1[k]? = some u) : ghP S.1 i k = ghB i k t u := by unfold ghP; rw [hi, hk]
theorem ghB_0 {i k : Nat} {t u : Tg} (h : ¬ (t.2.2.2 = 1 ∧ u.2.2.2 = 1)) : ghB i k t u = [] := by unfold ghB; rw [if_neg (fun z => h ⟨z.1, z.2.1⟩)]
theorem ct_takeGhosts {K : St → Prop} (ha : isSc a) (hS : cSc σ a S) (hn : S.1.length ≤ 6) (hw : ∀ t ∈ S.1, t.2.2.2 = 0 ∨ t.2.2.2 = 1) (h0 : earB σ (tgs S.1 S.1.length)) (k : ∀ σ', FrB σ σ' → earB σ' (bods S.1) → K σ') : CallU (d + 4) mX0_takeGhosts [.ref 54, .ref a] σ K := by
  refine cgX0_takeGhosts ha ?_
  have hlen := bods_len hn
  have hT := tgs_len S.1 S.1.length (Nat.le_refl _)
  have hb : ∀ i k, i < S.1.length → k ≤ S.1.length → (tgs S.1 S.1.length ++ ghs S.1 i ++ ghRow S.1 i k).length ≤ 21 := by
    intro i k hi hk
    have h1 := ghRow_mono S.1 i hk
    have h2 := ghs_mono S.1 (k := i + 1) (n := S.1.length) (by omega)
    have h3 : (ghs S.1 (i + 1)).length = (ghs S.1 i).length + (ghRow S.1 i S.1.length).length := by
      show (ghs S.1 i ++ ghRow S.1 i S.1.length).length = _
      rw [List.length_append]
    have h4 := hlen.1
    unfold bods at h4
    rw [List.length_append] at h4
    rw [List.length_append, List.length_append]
    omega
  have outer : ∀ k2 i σ', i + k2 = S.1.length → FrB σ σ' → earB σ' (tgs S.1 S.1.length ++ ghs S.1 i) → Go mX0_takeGhosts (d + 4) 2 [.ref 54, .ref a, .int (nI i), .null] [] σ' (QU K) := by
    intro k2
    induction k2 with
    | zero =>
      intro i σ' hi f hE
      have hS' := cSc.keepX ha hS f frB_le.1 frB_le.2
      refine sgX0_takeGhosts_2 ha (ct_targetCount ha hS' (br_t (nI_le (by omega) (by omega)) ?_))
      rw [show i = S.1.length by omega] at hE
      exact k σ' f hE
    | succ k2 ih =>
      intro i σ' hi f hE
      have hS' := cSc.keepX ha hS f frB_le.1 frB_le.2
      refine sgX0_takeGhosts_2 ha (ct_targetCount ha hS' (br_f (nI_ge (by omega) (by omega)) ?_))
      rw [nI1]
      obtain ⟨t, ht⟩ := get_of (l := S.1) (i := i) (by omega)
      have inner : ∀ k3 j σ'', j + k3 = S.1.length → i < j → FrB σ σ'' → earB σ'' (tgs S.1 S.1.length ++ ghs S.1 i ++ ghRow S.1 i j) → Go mX0_takeGhosts (d + 4) 14 [.ref 54, .ref a, .int (nI i), .int (nI j)] [] σ'' (QU K) := by
        intro k3
        induction k3 with
        | zero =>
          intro j σ'' hj hij f2 hE2
          have hS2 := cSc.keepX ha hS f2 frB_le.1 frB_le.2
          refine sgX0_takeGhosts_14 ha (ct_targetCount ha hS2 (br_t (nI_le (by omega) (by omega)) ?_))
          rw [nI1]
          refine ih (i + 1) σ'' (by omega) f2 ?_
          show earB σ'' (tgs S.1 S.1.length ++ (ghs S.1 i ++ ghRow S.1 i S.1.length))
          rw [← List.append_assoc]
          rw [show j = S.1.length by omega] at hE2
          exact hE2
        | succ k3 ih3 =>
          intro j σ'' hj hij f2 hE2
          have hS2 := cSc.keepX ha hS f2 frB_le.1 frB_le.2
          obtain ⟨u, hu⟩ := get_of (l := S.1) (i := j) (by omega)
          have hrow : ghRow S.1 i (j + 1) = ghRow S.1 i j ++ ghB i j t u := by
            show ghRow S.1 i j ++ (if i < j then ghP S.1 i j else []) = _
            rw [if_pos hij, ghP_w ht hu]
          have hk := ih3 (j + 1)
          rw [hrow, ← List.append_assoc] at hk
          refine sgX0_takeGhosts_14 ha (ct_targetCount ha hS2 (br_f (nI_ge (by omega) (by omega)) ?_))
          rw [nI1]
          have skip : ¬ (t.2.2.2 = 1 ∧ u.2.2.2 = 1) → Go mX0_takeGhosts (d + 4) 14 [.ref 54, .ref a, .int (nI i), .int (nI (j + 1))] [] σ'' (QU K) := by
            intro hno
            rw [ghB_0 hno, List.append_nil] at hk
            exact hk σ'' (by omega) (by omega) f2 hE2
          refine ct_isWall ha hS2 hn ht (hw t (List.mem_of_getElem? ht)) (br_c (fun c => skip (fun z => by rw [c] at z; exact absurd z.1 (by decide))) (fun c => ct_isWall ha hS2 hn hu (hw u (List.mem_of_getElem? hu)) (br_c (fun c2 => skip (fun z => by rw [c2] at z; exact absurd z.2 (by decide))) (fun c2 => ?_))))
          have hw1 : t.2.2.2 = 1 := (hw t (List.mem_of_getElem? ht)).resolve_left c
          have hw2 : u.2.2.2 = 1 := (hw u (List.mem_of_getElem? hu)).resolve_left c2
          by_cases hz : t.2.1 * u.2.1 / 200 ≤ 0
          · have e0 : ghB i j t u = [] := by unfold ghB; rw [if_neg (fun z => z.2.2 hz)]
            rw [e0, List.append_nil] at hk
            refine cgX0_takeGhost ha (ct_distanceOf ha hS2 hn ht (ct_distanceOf ha hS2 hn hu (ct_distanceOf ha hS2 hn ht (ct_distanceOf ha hS2 hn hu (ct_strengthOf ha hS2 hn ht (ct_strengthOf ha hS2 hn hu (br_t hz ?_)))))))
            exact hk σ'' (by omega) (by omega) f2 hE2
          · have e1 : (ghB i j t u).length = 1 := by unfold ghB; rw [if_pos ⟨hw1, hw2, hz⟩]; rfl
            have h21 := hb i (j + 1) (by omega) (by omega)
            rw [hrow, ← List.append_assoc, List.length_append, e1] at h21
            exact ct_takeGhost ha hS2 hn ht hu ⟨hw1, hw2⟩ hE2 (by omega) (fun s2 f3 h3 => hk s2 (by omega) (by omega) (f2.tr f3) h3)
      refine inner (S.1.length - (i + 1)) (i + 1) σ' (by omega) (by omega) f ?_
      rw [ghRow_0 S.1 i (i + 1) (Nat.le_refl _), List.append_nil]
      exact hE
  refine outer S.1.length 0 σ (by omega) (FrX.rf σ) ?_
  show earB σ (tgs S.1 S.1.length ++ [])
  rw [List.append_nil]
  exact h0
theorem ct_ehas {K : Int32 → St → Prop} {i : Nat} (hB : earB σ B) (hn : B.length ≤ 21) (hi : i < B.length) (h : K 1 σ) : CallI (d + 1) mX0_has [.ref 54, .int (nI i)] σ K :=
  cgX0_has (br_f (nI_pos (by omega)) (by rw [hB.1]; exact br_f (nI_ge hi (by omega)) (br_f (nI_ge (b := 21) (by omega) (by omega)) h)))
theorem ct_edist {K : Int32 → St → Prop} {i : Nat} (hB : earB σ B) (hn : B.length ≤ 21) (hi : B[i]? = some b) (h : K b.1 σ) : CallI (d + 2) mX0_distanceOf [.ref 54, .int (nI i)] σ K := by
  have hl := lt_of hi
  refine cgX0_distanceOf (ct_ehas hB hn hl (br_f one_ne ⟨vp_in_nI (by omega) (by omega), ?_⟩))
  rw [ix_nI (by omega), (hB.2 i b hi).1]
  exact h
theorem ct_estr {K : Int32 → St → Prop} {i : Nat} (hB : earB σ B) (hn : B.length ≤ 21) (hi : B[i]? = some b) (h : K b.2.1 σ) : CallI (d + 2) mX0_strengthOf [.ref 54, .int (nI i)] σ K := by
  have hl := lt_of hi
  refine cgX0_strengthOf (ct_ehas hB hn hl (br_f one_ne ⟨vp_in_nI (by omega) (by omega), ?_⟩))
  rw [ix_nI (by omega), (hB.2 i b hi).2.1]
  exact h
theorem ct_emov {K : Int32 → St → Prop} {i : Nat} (hB : earB σ B) (hn : B.length ≤ 21) (hi : B[i]? = some b) (h : K b.2.2.1 σ) : CallI (d + 2) mX0_movementOf [.ref 54, .int (nI i)] σ K := by
  have hl := lt_of hi
  refine cgX0_movementOf (ct_ehas hB hn hl (br_f one_ne ⟨vp_in_nI (by omega) (by omega), ?_⟩))
  rw [ix_nI (by omega), (hB.2 i b hi).2.2.1]
  exact h
theorem ct_elw {K : Int32 → St → Prop} {i : Nat} (hB : earB σ B) (hn : B.length ≤ 21) (hi : B[i]? = some b) (h : K b.2.2.2.1 σ) : CallI (d + 2) mX0_lesserWall [.ref 54, .int (nI i)] σ K := by
  have hl := lt_of hi
  refine cgX0_lesserWall (ct_ehas hB hn hl (br_f one_ne ⟨vp_in_nI (by omega) (by omega), ?_⟩))
  rw [ix_nI (by omega), (hB.2 i b hi).2.2.2.1]
  exact h
theorem ct_egw {K : Int32 → St → Prop} {i : Nat} (hB : earB σ B) (hn : B.length ≤ 21) (hi : B[i]? = some b) (h : K b.2.2.2.2 σ) : CallI (d + 2) mX0_greaterWall [.ref 54, .int (nI i)] σ K := by
  have hl := lt_of hi
  refine cgX0_greaterWall (ct_ehas hB hn hl (br_f one_ne ⟨vp_in_nI (by omega) (by omega), ?_⟩))
  rw [ix_nI (by omega), (hB.2 i b hi).2.2.2.2]
  exact h
theorem ct_efaint {K : Int32 → St → Prop} {i : Nat} {lo : Int32} (hB : earB σ B) (hn : B.length ≤ 21) (hlo : sF σ 54 13 = lo) (hi : B[i]? = some b) (h : K (bI (decide (b.2.1 < lo))) σ) : CallI (d + 3) mX0_isFaint [.ref 54, .int (nI i)] σ K := by
  refine cgX0_isFaint (ct_estr hB hn hi ?_)
  rw [hlo]
  refine br_c (fun c => ?_) (fun c => ?_)
  · rw [decide_eq_false (Int32.not_lt.mpr c)] at h; exact h
  · rw [decide_eq_true (Int32.not_le.mp c)] at h; exact h
theorem ct_placeOf {K : Int32 → St → Prop} {x v s : Int32} {j : Nat} (hj : j < 4) (hs : sA σ 60 j = s) (h1 : 1 ≤ s.toInt) (h : K (pl s x v j) σ) : CallI (d + 1) mX0_placeOf [.ref 54, .int x, .int v, .int (nI j)] σ K := by
  have hs0 : ¬ s ≤ 0 := fun z => by rw [Int32.le_iff_toInt_le, k0] at z; omega
  refine cgX0_placeOf (br_f (nI_pos (by omega)) (br_f (nI_ge (b := 4) hj (by omega)) ⟨vp_in_nI hj (by omega), ?_⟩))
  rw [ix_nI (by omega), hs]
  unfold pl at h
  refine br_c (fun c => ?_) (fun c => ?_)
  · rw [if_neg (Int32.not_lt.mpr c)] at h; exact h
  · rw [if_pos (Int32.not_le.mp c)] at h
    exact br_f hs0 ⟨fun z => hs0 (by rw [z]; exact Int32.le_refl _), h⟩
/-- the number of a row of heard places -/
theorem rowI {v : Int32} (j : Nat) {q : Nat} (hq : v = nI q - 5) : nI j * 11 + v + 5 = nI (11 * j + q) := by
  subst hq
  show nI j * nI 11 + (nI q - 5) + 5 = _
  rw [pk_mul, Int32.add_assoc, Int32.sub_add_cancel, nI_add, Nat.mul_comm]
theorem pitch_of {v : Int32} (h : -5 ≤ v.toInt ∧ v.toInt ≤ 5) : ∃ q, q < 11 ∧ v = nI q - 5 := by
  have h1 : (v + 5).toInt = v.toInt + 5 := by rw [tI_add (by rw [k5]; omega) (by rw [k5]; omega), k5]
  obtain ⟨q, hq, e⟩ := pos_nI (x := v + 5) (by omega)
  have : (nI q).toInt = v.toInt + 5 := by rw [← e]; exact h1
  rw [nI_toInt hq] at this
  exact ⟨q, by omega, by rw [← e, Int32.add_sub_cancel]⟩
theorem pitch_inj {p q : Nat} (hp : p < 2 ^ 31) (hq : q < 2 ^ 31) (h : nI p - 5 = nI q - 5) : p = q := by
  have : nI p = nI q := by rw [← Int32.sub_add_cancel (nI p) 5, h, Int32.sub_add_cancel]
  exact (nI_eq hp hq).mp this
theorem ct_codeOf {K : Int32 → St → Prop} {v : Int32} {j q : Nat} (hq : v = nI q - 5) (h : K (nI (11 * j + q)) σ) : CallI (d + 1) mX0_codeOf [.int (nI j), .int v] σ K := by
  refine cgX0_codeOf ?_
  rw [rowI j hq]
  exact h
/-- the heard rows of the turn j -/
def earT (σ : St) (B : List Bd) (bl lo s : Int32) (j : Nat) : Prop := ∀ q, q < 11 → ∀ p, p < 64 → (sL σ (11 * j + q)).toBitVec.getLsbD p = hb B bl lo s j (nI q - 5) (nI p)
abbrev FrT (σ σ' : St) : Prop := FrX (fun _ _ => False) (fun c => c = 60) True σ σ'
theorem ct_hearTurn {K : St → Prop} {bl lo s : Int32} {j : Nat} (hB : earB σ B) (hn : B.length ≤ 21) (hok : ∀ b ∈ B, okBd b) (hbl : sF σ 54 12 = bl) (hlo : sF σ 54 13 = lo) (hj : j < 4) (hs : 1 ≤ s.toInt ∧ s.toInt ≤ 50) (k : ∀ σ', FrT σ σ' → (∀ q, (q < 11 * j ∨ 11 * j + 11 ≤ q) → sL σ' q = sL σ q) → sA σ' 60 = upd (sA σ 60) j s → earT σ' B bl lo s j → K σ') : CallU (d + 4) mX0_hearTurn [.ref 54, .int (nI j), .int s] σ K := by
  refine cgX0_hearTurn (br_f (nI_pos (by omega)) (br_t (nI_lt (b := 4) hj (by omega)) ⟨vp_in_nI hj (by omega), ?_⟩))
  rw [ix_nI (by omega)]
  intro s0 hs0
  have f0 : FrT σ s0 := by rw [hs0]; exact (FrX.rf σ).toA rfl
  have h60 : sA s0 60 = upd (sA σ 60) j s := by rw [hs0, setA_R, sA_setR, if_pos rfl]
  have hL0 : sL s0 = sL σ := by rw [hs0]; rfl
  have second : ∀ k2 i σ', i + k2 = B.length → FrT σ σ' → sA σ' 60 = upd (sA σ 60) j s → (∀ q, (q < 11 * j ∨ 11 * j + 11 ≤ q) → sL σ' q = sL σ q) → earT σ' (B.take i) bl lo s j → Go mX0_hearTurn (d + 4) 45 [.ref 54, .int (nI j), .int s, .int (nI i), .null, .null] [] σ' (QU K) := by
    intro k2
    induction k2 with
    | zero =>
      intro i σ' hi f h6 hL hE
      have hB' := hB.keep f id (fun c h1 h2 z => by omega)
      refine sgX0_hearTurn_45 ?_
      rw [hB'.1]
      refine br_t (nI_le (by omega) (by omega)) ?_
      rw [List.take_of_length_le (by omega)] at hE
      exact k σ' f hL h6 hE
    | succ k2 ih =>
      intro i σ' hi f h6 hL hE
      have hB' := hB.keep f id (fun c h1 h2 z => by omega)
      have hbl' : sF σ' 54 12 = bl := by rw [f.1 54 12 id]; exact hbl
      have hlo' : sF σ' 54 13 = lo := by rw [f.1 54 13 id]; exact hlo
      have h60' : sA σ' 60 j = s := by rw [h6, upd_eq, if_pos rfl]
      obtain ⟨b, hb'⟩ := get_of (l := B) (i := i) (by omega)
      have hokb := hok b (List.mem_of_getElem? hb')
      obtain ⟨q, hq, eq⟩ := pitch_of hokb.2.2
      obtain ⟨p, hp, ep⟩ := pl_lt (s := s) (x := b.1) (v := b.2.2.1) (j := j) hs
      have hk := ih (i + 1)
      rw [take_s hb'] at hk
      refine sgX0_hearTurn_45 ?_
      rw [hB'.1, nI1]
      refine br_f (nI_ge (by omega) (by omega)) (ct_edist hB' hn hb' (ct_emov hB' hn hb' (ct_placeOf hj h60' hs.1 (ct_emov hB' hn hb' (ct_codeOf eq (ct_efaint hB' hn hlo' hb' ?_))))))
      have skip : (b.2.1 < lo ∨ pl s b.1 b.2.2.1 j < bl) → Go mX0_hearTurn (d + 4) 45 [.ref 54, .int (nI j), .int s, .int (nI (i + 1)), .null, .null] [] σ' (QU K) := by
        intro hsk
        refine hk σ' (by omega) f h6 hL (fun q2 hq2 p2 hp2 => ?_)
        rw [hE q2 hq2 p2 hp2]
        unfold hb
        rw [List.any_append]
        have : (List.any [b] fun b => !decide (b.2.1 < lo) && decide (b.2.2.1 = nI q2 - 5) && decide (pl s b.1 b.2.2.1 j = nI p2) && !decide (nI p2 < bl)) = false := by
          simp only [List.any_cons, List.any_nil, Bool.or_false]
          rcases hsk with h | h
          · rw [decide_eq_true h]; rfl
          · by_cases c : pl s b.1 b.2.2.1 j = nI p2
            · rw [← c, decide_eq_true h]; simp
            · rw [decide_eq_false c]; simp
        rw [this, Bool.or_false]
      refine bI_br' (fun e => ?_) (fun e => skip (Or.inl (of_decide_eq_true e)))
      rw [hbl', ep]
      refine br_c (fun c => skip (Or.inr (by rw [ep]; exact c))) (fun c => ?_)
      refine br_f (nI_pos (by omega)) (br_f (nI_ge (b := 44) (by omega) (by omega)) ⟨vp_in_nI (by omega) (by omega), vp_in_nI (by omega) (by omega), ?_⟩)
      rw [ix_nI (by omega)]
      rintro _ rfl
      refine hk _ (by omega) (f.toL trivial) h6 (fun q2 hq2 => ?_) (fun q2 hq2 p2 hp2 => ?_)
      · show vp_updL (sL σ') (11 * j + q) _ q2 = sL σ q2
        unfold vp_updL
        rw [if_neg (by omega)]
        exact hL q2 hq2
      · show (vp_updL (sL σ') (11 * j + q) _ (11 * j + q2)).toBitVec.getLsbD p2 = _
        unfold hb
        rw [List.any_append]
        have hE2 := hE q2 hq2 p2 hp2
        unfold hb at hE2
        rw [← hE2]
        unfold vp_updL
        have elast : (List.any [b] fun b => !decide (b.2.1 < lo) && decide (b.2.2.1 = nI q2 - 5) && decide (pl s b.1 b.2.2.1 j = nI p2) && !decide (nI p2 < bl)) = (decide (q2 = q) && decide (p2 = p)) := by
          simp only [List.any_cons, List.any_nil, Bool.or_false]
          rw [e, ep]
          have e1 : decide (b.2.2.1 = nI q2 - 5) = decide (q2 = q) := decide_eq_decide.mpr ⟨fun z => (pitch_inj (by omega) (by omega) (eq.symm.trans z)).symm, fun z => by rw [z]; exact eq⟩
          have e2 : decide (nI p = nI p2) = decide (p2 = p) := decide_eq_decide.mpr ⟨fun z => ((nI_eq (by omega) (by omega)).mp z).symm, fun z => by rw [z]⟩
          rw [e1, e2]
          by_cases c2 : p2 = p
          · rw [c2, decide_eq_false c]; simp
          · rw [decide_eq_false c2]; simp
        rw [elast]
        by_cases c2 : q2 = q
        · rw [if_pos (by omega), c2, bit_or, bit_one p hp p2 hp2]
          simp
        · rw [if_neg (by omega), decide_eq_false c2]
          simp
  have first : ∀ k2 i σ', i + k2 = 11 → FrT σ σ' → sA σ' 60 = upd (sA σ 60) j s → (∀ q, (q < 11 * j ∨ 11 * j + 11 ≤ q) → sL σ' q = sL σ q) → (∀ q, q < i → sL σ' (11 * j + q) = 0) → Go mX0_hearTurn (d + 4) 19 [.ref 54, .int (nI j), .int s, .int (nI i), .null, .null] [] σ' (QU K) := by
    intro k2
    induction k2 with
    | zero =>
      intro i σ' hi f h6 hL hZ
      refine sgX0_hearTurn_19 (br_t (nI_le (a := 11) (by omega) (by omega)) ?_)
      refine second B.length 0 σ' (by omega) f h6 hL (fun q hq p hp => ?_)
      rw [hZ q (by omega), bit_zero]
      rfl
    | succ k2 ih =>
      intro i σ' hi f h6 hL hZ
      refine sgX0_hearTurn_19 (br_f (nI_ge (b := 11) (by omega) (by omega)) ?_)
      have e1 : nI j * 11 + nI i = nI (11 * j + i) := by
        show nI j * nI 11 + nI i = _
        rw [pk_mul, nI_add, Nat.mul_comm]
      rw [e1, ix_nI (by omega), nI1]
      refine ⟨vp_in_nI (by omega) (by omega), ?_⟩
      rintro _ rfl
      refine ih (i + 1) _ (by omega) (f.toL trivial) h6 (fun q hq => ?_) (fun q hq => ?_)
      · show vp_updL (sL σ') (11 * j + i) _ q = sL σ q
        unfold vp_updL
        rw [if_neg (by omega)]
        exact hL q hq
      · show vp_updL (sL σ') (11 * j + i) _ (11 * j + q) = 0
        unfold vp_updL
        by_cases c : q = i
        · rw [if_pos (by omega)]
        · rw [if_neg (by omega)]; exact hZ q (by omega)
  exact first 11 0 s0 (by omega) f0 h60 (fun q _ => by rw [hL0]) (fun q hq => by omega)
end EAR
