/-! load: twins, putInto, the model's loops -/
def twQ (T : List Tg) (i j : Nat) : Prop := ∃ (a b : Nat) (x y : Tg), b < a ∧ (a < i ∨ (a = i ∧ b < j)) ∧ T[a]? = some x ∧ T[b]? = some y ∧ x.1 = y.1 ∧ x.2.2.1 = y.2.2.1
def twP (T : List Tg) : Prop := twQ T T.length 0
section TWINS
variable {d : Nat} {σ : St} {T : List Tg} {U : List Int32} {i j : Nat} {x y : Tg}
theorem twQ0 : ¬ twQ T 0 0 := by rintro ⟨a, b, x, y, h1, h2, -⟩; omega
theorem twQ_row (h : ¬ twQ T i i) : ¬ twQ T (i + 1) 0 := by
  rintro ⟨a, b, x, y, h1, h2, h3⟩
  exact h ⟨a, b, x, y, h1, by omega, h3⟩
theorem twQ_next (h : ¬ twQ T i j) (hx : T[i]? = some x) (hy : T[j]? = some y) (hne : ¬ (x.1 = y.1 ∧ x.2.2.1 = y.2.2.1)) : ¬ twQ T i (j + 1) := by
  rintro ⟨a, b, x', y', h1, h2, h3, h4, h5⟩
  by_cases e : a = i ∧ b = j
  · obtain ⟨rfl, rfl⟩ := e
    rw [hx] at h3
    rw [hy] at h4
    injection h3 with h3
    injection h4 with h4
    subst h3
    subst h4
    exact hne h5
  · exact h ⟨a, b, x', y', h1, by omega, h3, h4, h5⟩
theorem twQ_yes (hji : j < i) (hx : T[i]? = some x) (hy : T[j]? = some y) (h1 : x.1 = y.1) (h2 : x.2.2.1 = y.2.2.1) : twP T := ⟨i, j, x, y, hji, Or.inl (lt_of hx), hx, hy, h1, h2⟩
theorem ct_hasTwins {K : Int32 → St → Prop} (h : rdT σ T U) (hT : T.length ≤ 12) (k1 : twP T → K 1 σ) (k0 : ¬ twP T → K 0 σ) : CallI (d + 1) mX2_hasTwins [.ref 46] σ K := by
  obtain ⟨h1, -, h3, -⟩ := h
  have outer : ∀ k2 i, i + k2 = T.length → ¬ twQ T i 0 → Go mX2_hasTwins (d + 1) 2 [.ref 46, .int (nI i), .null] [] σ (QI K) := by
    intro k2
    induction k2 with
    | zero =>
      intro i hi hq
      refine sgX2_hasTwins_2 ?_
      rw [h1]
      refine br_t (nI_le (by omega) (by omega)) (k0 ?_)
      have e : i = T.length := by omega
      rw [e] at hq
      exact hq
    | succ k2 ih =>
      intro i hi hq
      have inner : ∀ k3 j, j + k3 = i → ¬ twQ T i j → Go mX2_hasTwins (d + 1) 18 [.ref 46, .int (nI i), .int (nI j)] [] σ (QI K) := by
        intro k3
        induction k3 with
        | zero =>
          intro j hj hq2
          refine sgX2_hasTwins_18 (br_t (nI_le (by omega) (by omega)) ?_)
          rw [nI1]
          have e : j = i := by omega
          rw [e] at hq2
          exact ih (i + 1) (by omega) (twQ_row hq2)
        | succ k3 ih3 =>
          intro j hj hq2
          obtain ⟨x, hx⟩ := get_of (l := T) (i := i) (by omega)
          obtain ⟨y, hy⟩ := get_of (l := T) (i := j) (by omega)
          have ex := h3 i x hx
          have ey := h3 j y hy
          have vi : vp_in (nI i) 12 := vp_in_nI (by omega) (by omega)
          have vj : vp_in (nI j) 12 := vp_in_nI (by omega) (by omega)
          refine sgX2_hasTwins_18 (br_f (nI_ge (by omega) (by omega)) ?_)
          rw [ix_nI (by omega), ix_nI (by omega), nI1, ex.1, ey.1, ex.2.2.1, ey.2.2.1]
          exact ⟨vi, vj, fun c => ih3 (j + 1) (by omega) (twQ_next hq2 hx hy (fun z => c z.1)), fun c => ⟨vi, vj, fun c2 => ih3 (j + 1) (by omega) (twQ_next hq2 hx hy (fun z => c2 z.2)), fun c2 => k1 (twQ_yes (by omega) hx hy c c2)⟩⟩
      refine sgX2_hasTwins_2 ?_
      rw [h1]
      exact br_f (nI_ge (by omega) (by omega)) (br_f (nI_ge (b := 12) (by omega) (by omega)) (inner i 0 (by omega) hq))
  exact cgX2_hasTwins (outer T.length 0 (by omega) twQ0)
theorem rdT.keep {C : Nat → Prop} {σ' : St} (h : rdT σ T U) (f : ∀ c, 46 ≤ c → c ≤ 51 → sF σ' c = sF σ c ∧ sA σ' c = sA σ c) : rdT σ' T U := by
  obtain ⟨h1, h2, h3, h4⟩ := h
  refine ⟨by rw [(f 46 (by omega) (by omega)).1]; exact h1, by rw [(f 46 (by omega) (by omega)).1]; exact h2, fun i t ht => ?_, fun j u hu => by rw [(f 51 (by omega) (by omega)).2]; exact h4 j u hu⟩
  rw [(f 47 (by omega) (by omega)).2, (f 48 (by omega) (by omega)).2, (f 49 (by omega) (by omega)).2, (f 50 (by omega) (by omega)).2]
  exact h3 i t ht
theorem rdT.sc {σ' : St} (h : rdT σ T U) (f : Fr (inSc 1) σ σ') : rdT σ' T U := h.keep (C := fun _ => False) (fun c h1 h2 => f.1 c (fun z => by unfold inSc at z; omega))
theorem ct_putInto {K : St → Prop} {S : Sn} (h : rdT σ T U) (hS : cSc σ 1 S) (hT : T.length ≤ 6) (hw : ∀ t ∈ T, t.2.2.2 = 0 ∨ t.2.2.2 = 1) (hU : U.length ≤ 4) (hu : ∀ u ∈ U, spOK u) (k : ∀ σ', Fr (inSc 1) σ σ' → cSc σ' 1 (T, (if U = [] then S.2.1 else U), S.2.2) → K σ') : CallU (d + 4) mX2_putInto [.ref 46, .ref 1] σ K := by
  have turns : U ≠ [] → ∀ k2 j, j + k2 = U.length → ∀ σ1, Fr (inSc 1) σ σ1 → cSc σ1 1 (T, U.take j, S.2.2) → Go mX2_putInto (d + 4) 68 [.ref 46, .ref 1, .int (nI j)] [] σ1 (QU K) := by
    intro hne k2
    induction k2 with
    | zero =>
      intro j hj σ1 f s
      refine sgX2_putInto_68 one_sc ?_
      rw [(h.sc f).2.1]
      refine br_t (nI_le (by omega) (by omega)) (k σ1 f ?_)
      rw [if_neg hne]
      rw [List.take_of_length_le (by omega)] at s
      exact s
    | succ k2 ih =>
      intro j hj σ1 f s
      obtain ⟨u, hju⟩ := get_of (l := U) (i := j) (by omega)
      have hpos := hu u (List.mem_of_getElem? hju)
      refine sgX2_putInto_68 one_sc ?_
      rw [(h.sc f).2.1, ix_nI (by omega), (h.sc f).2.2.2 j u hju, nI1]
      refine br_f (nI_ge (by omega) (by omega)) (br_f (nI_ge (b := 4) (by omega) (by omega)) ⟨vp_in_nI (by omega) (by omega), ct_addTurn one_sc s (by show (U.take j).length < 4; rw [List.length_take]; omega) (fun z => ?_) (fun σ2 f2 s2 => ih (j + 1) (by omega) σ2 (f.tr f2) ?_)⟩)
      · rw [Int32.le_iff_toInt_le, k0] at z
        have := hpos.1
        omega
      · rw [take_s hju]
        exact s2
  have fin : ∀ σ1, Fr (inSc 1) σ σ1 → cSc σ1 1 (T, S.2) → (nI U.length ≤ 0 → Go mX2_putInto (d + 4) 68 [.ref 46, .ref 1, .int 0] [] σ1 (QU K)) ∧ (¬ nI U.length ≤ 0 → CallU (d + 3) mX3_forgetTurns [.ref 1] σ1 (fun s3 => Go mX2_putInto (d + 4) 68 [.ref 46, .ref 1, .int 0] [] s3 (QU K))) := by
    intro σ1 f s
    refine ⟨fun z => ?_, fun z => ?_⟩
    · have h0 : U = [] := by
        rcases Nat.eq_zero_or_pos U.length with e | e
        · exact List.length_eq_zero_iff.mp e
        · exact absurd z (nI_nle e (by omega))
      refine sgX2_putInto_68 one_sc ?_
      rw [(h.sc f).2.1]
      refine br_t z (k σ1 f ?_)
      rw [if_pos h0]
      exact s
    · have h0 : U ≠ [] := by
        rintro rfl
        exact z (by decide)
      exact ct_forgetTurns one_sc s (fun σ2 f2 s2 => turns h0 U.length 0 (by omega) σ2 (f.tr f2) s2)
  have tars : ∀ k2 i, i + k2 = T.length → ∀ σ1, Fr (inSc 1) σ σ1 → cSc σ1 1 (T.take i, S.2) → Go mX2_putInto (d + 4) 6 [.ref 46, .ref 1, .int (nI i)] [] σ1 (QU K) := by
    intro k2
    induction k2 with
    | zero =>
      intro i hi σ1 f s
      rw [List.take_of_length_le (by omega)] at s
      refine sgX2_putInto_6 one_sc ?_
      rw [(h.sc f).1, (h.sc f).2.1]
      exact br_t (nI_le (by omega) (by omega)) (fin σ1 f s)
    | succ k2 ih =>
      intro i hi σ1 f s
      obtain ⟨t, ht⟩ := get_of (l := T) (i := i) (by omega)
      have e := (h.sc f).2.2.1 i t ht
      have vi : vp_in (nI i) 12 := vp_in_nI (by omega) (by omega)
      refine sgX2_putInto_6 one_sc ?_
      rw [(h.sc f).1, ix_nI (by omega), e.1, e.2.1, e.2.2.1, e.2.2.2, nI1]
      refine br_f (nI_ge (by omega) (by omega)) (br_f (nI_ge (b := 12) (by omega) (by omega)) ⟨vi, vi, vi, vi, ct_join (t := t) one_sc s (by show (T.take i).length < 6; rw [List.length_take]; omega) (hw t (List.mem_of_getElem? ht)) (fun σ2 f2 s2 => ih (i + 1) (by omega) σ2 (f.tr f2) ?_)⟩)
      rw [take_s ht]
      exact s2
  exact cgX2_putInto one_sc (ct_leaveAll one_sc hS (fun σ1 f1 s1 => tars T.length 0 (by omega) σ1 f1 s1))
end TWINS
section MLOAD
variable {d : Nat} {σ : St} {T : List Tg} {U : List Int32} {K : Int32 → St → Prop}
theorem mTU.k {P : Nat → Nat → Prop} {C : Nat → Prop} {l : Prop} {σ' : St} (h : mTU σ T U) (f : FrX P C l σ σ') (h14 : ¬ P 64 14) (h16 : ¬ P 64 16) (h73 : ¬ C 73) (h74 : ¬ C 74) : mTU σ' T U := by
  obtain ⟨h1, h2, h3, h4⟩ := h
  exact ⟨by rw [f.1 _ _ h14]; exact h1, by rw [f.1 _ _ h16]; exact h2, fun i t ht => by rw [f.2.1 73 h73]; exact h3 i t ht, fun j u hu => by rw [f.2.1 74 h74]; exact h4 j u hu⟩
theorem ml_16 (h : mTU σ T U) (hT : T.length ≤ 12) (k1 : twP T → K (-2) σ) (k0 : ¬ twP T → (nI T.length ≤ 6 → CallU d mX6_record [.ref 64] σ (fun s4 => ∀ s5, s5 = setA s4 65 0 0 → Go mX6_load (d + 1) 127 [.ref 64, .int 0, .int 0, .null] [] s5 (QI K))) ∧ (¬ nI T.length ≤ 6 → K (-3) σ)) : Go mX6_load (d + 1) 16 [.ref 64, .int 0, .int 0, .null] [] σ (QI K) := by
  obtain ⟨h1, -, h3, -⟩ := h
  have outer : ∀ k2 i, i + k2 = T.length → ∀ v : Int32, ((v = 0 ∧ ¬ twQ T i 0) ∨ (v = 1 ∧ twP T)) → Go mX6_load (d + 1) 16 [.ref 64, .int v, .int (nI i), .null] [] σ (QI K) := by
    intro k2
    induction k2 with
    | zero =>
      intro i hi v hv
      have e : i = T.length := by omega
      refine sgX6_load_16 ?_
      rw [h1]
      refine br_t (nI_le (by omega) (by omega)) ?_
      rcases hv with ⟨rfl, hq⟩ | ⟨rfl, hq⟩
      · rw [e] at hq
        exact br_t rfl (k0 hq)
      · exact br_f one_ne (k1 hq)
    | succ k2 ih =>
      intro i hi v hv
      have inner : ∀ k3 j, j + k3 = i → ∀ v : Int32, ((v = 0 ∧ ¬ twQ T i j) ∨ (v = 1 ∧ twP T)) → Go mX6_load (d + 1) 26 [.ref 64, .int v, .int (nI i), .int (nI j)] [] σ (QI K) := by
        intro k3
        induction k3 with
        | zero =>
          intro j hj v hv
          have e : j = i := by omega
          refine sgX6_load_26 (br_t (nI_le (by omega) (by omega)) ?_)
          rw [nI1]
          refine ih (i + 1) (by omega) v ?_
          rcases hv with ⟨hv, hq⟩ | hv
          · rw [e] at hq
            exact Or.inl ⟨hv, twQ_row hq⟩
          · exact Or.inr hv
        | succ k3 ih3 =>
          intro j hj v hv
          obtain ⟨x, hx⟩ := get_of (l := T) (i := i) (by omega)
          obtain ⟨y, hy⟩ := get_of (l := T) (i := j) (by omega)
          have ex := h3 i x hx
          have ey := h3 j y hy
          have i2 : (4 : Int32) * nI i + 2 = nI (4 * i + 2) := ix4 _ 2
          have j2 : (4 : Int32) * nI j + 2 = nI (4 * j + 2) := ix4 _ 2
          refine sgX6_load_26 (br_f (nI_ge (by omega) (by omega)) ?_)
          rw [i2, j2, ix40, ix40, ix_nI (by omega), ix_nI (by omega), ix_nI (by omega), ix_nI (by omega), nI1, ex.1, ey.1, ex.2.2.1, ey.2.2.1]
          rcases hv with ⟨rfl, hq⟩ | ⟨rfl, hq⟩
          · exact brf' rfl ⟨vp_in_nI (by omega) (by omega), vp_in_nI (by omega) (by omega), fun c => ih3 (j + 1) (by omega) 0 (Or.inl ⟨rfl, twQ_next hq hx hy (fun z => c z.1)⟩), fun c => ⟨vp_in_nI (by omega) (by omega), vp_in_nI (by omega) (by omega), fun c2 => ih3 (j + 1) (by omega) 0 (Or.inl ⟨rfl, twQ_next hq hx hy (fun z => c2 z.2)⟩), fun c2 => ih3 (j + 1) (by omega) 1 (Or.inr ⟨rfl, twQ_yes (by omega) hx hy c c2⟩)⟩⟩
          · exact brt' one_ne (ih3 (j + 1) (by omega) 1 (Or.inr ⟨rfl, hq⟩))
      refine sgX6_load_16 ?_
      rw [h1]
      exact br_f (nI_ge (by omega) (by omega)) (inner i 0 (by omega) v hv)
  exact outer T.length 0 (by omega) 0 (Or.inl ⟨rfl, twQ0⟩)
abbrev FrJ (σ σ' : St) : Prop := FrX (fun c k => c = 64 ∧ k = 6) (fun c => c = 65) False σ σ'
theorem ml_185 {S : Sn} (h : mTU σ T U) (hS : mSc (sA σ 65) (T, S.2)) (hU : U.length ≤ 4) (k : ∀ σ', FrJ σ σ' → sF σ' 64 6 = 0 → mSc (sA σ' 65) (T, (if U = [] then S.2.1 else U), S.2.2) → K (nI T.length) σ') : Go mX6_load (d + 1) 185 [.ref 64, .int 0, .int 0, .null] [] σ (QI K) := by
  obtain ⟨h1, h2, h3, h4⟩ := h
  obtain ⟨z0, z1, z6, z7, zt, zs⟩ := hS
  by_cases hne : U = []
  · subst hne
    rw [if_pos rfl] at k
    refine sgX6_load_185 (br_f (by decide) ?_)
    rw [h2]
    refine br_t (by decide) (br_t (by decide) ?_)
    rintro _ rfl _ rfl
    have e65 : sA (setF (setA σ 65 1 (sA σ 65 1)) 64 6 0) 65 = sA σ 65 := by
      funext j
      rw [sA_setF, sA_setA]
      by_cases hj : (65 : Nat) = 65 ∧ j = 1
      · rw [if_pos hj, hj.2]
      · rw [if_neg hj]
    have r := k (setF (setA σ 65 1 (sA σ 65 1)) 64 6 0) (((FrX.rf (P := fun c k => c = 64 ∧ k = 6) (C := fun c => c = 65) (l := False) σ).toA rfl).toF ⟨rfl, rfl⟩) (by rw [sF_setF, if_pos ⟨rfl, rfl⟩]) (by rw [e65]; exact ⟨z0, z1, z6, z7, zt, zs⟩)
    rw [e65, z0]
    exact r
  · rw [if_neg hne] at k
    have hpos : ¬ nI U.length ≤ 0 := nI_nle (List.length_pos_iff.mpr hne) (by omega)
    have loop : ∀ k2 j, j + k2 = 4 → ∀ σ1, FrJ σ σ1 → (∀ q, (q < 2 ∨ 6 ≤ q) → sA σ1 65 q = sA σ 65 q) → (∀ i u, i < j → U[i]? = some u → sA σ1 65 (2 + i) = u) → Go mX6_load (d + 1) 185 [.ref 64, .int 0, .int (nI j), .null] [] σ1 (QI K) := by
      intro k2
      induction k2 with
      | zero =>
        intro j hj σ1 f a b
        have h2' : sF σ1 64 16 = nI U.length := by rw [f.1 _ _ (by omega)]; exact h2
        refine sgX6_load_185 (br_t (nI_le (a := 4) (by omega) (by omega)) ?_)
        rw [h2']
        refine br_f hpos ?_
        rintro _ rfl _ rfl
        have e65 : ∀ q, sA (setF (setA σ1 65 1 (nI U.length)) 64 6 0) 65 q = if q = 1 then nI U.length else sA σ1 65 q := by
          intro q
          rw [sA_setF, sA_setA]
          by_cases hj : q = 1
          · rw [if_pos ⟨rfl, hj⟩, if_pos hj]
          · rw [if_neg (fun z => hj z.2), if_neg hj]
        have r := k (setF (setA σ1 65 1 (nI U.length)) 64 6 0) ((f.toA rfl).toF ⟨rfl, rfl⟩) (by rw [sF_setF, if_pos ⟨rfl, rfl⟩]) ⟨by rw [e65, if_neg (by omega), a _ (by omega)]; exact z0, by rw [e65, if_pos rfl], by rw [e65, if_neg (by omega), a _ (by omega)]; exact z6, by rw [e65, if_neg (by omega), a _ (by omega)]; exact z7, fun i t ht => by rw [e65, e65, e65, e65, if_neg (by omega), if_neg (by omega), if_neg (by omega), if_neg (by omega), a _ (by omega), a _ (by omega), a _ (by omega), a _ (by omega)]; exact zt i t ht, fun i u hu => by rw [e65, if_neg (by omega)]; exact b i u (by have := lt_of hu; have : i < U.length := this; omega) hu⟩
        rw [e65, if_neg (by omega), a _ (by omega), z0]
        exact r
      | succ k2 ih =>
        intro j hj σ1 f a b
        have h2' : sF σ1 64 16 = nI U.length := by rw [f.1 _ _ (by omega)]; exact h2
        have e2 : (2 : Int32) + nI j = nI (2 + j) := nI_add 2 j
        refine sgX6_load_185 (br_f (nI_ge (b := 4) (by omega) (by omega)) ?_)
        rw [h2', e2, ix_nI (by omega), ix_nI (by omega), nI1]
        have step : ∀ w, (∀ u, U[j]? = some u → w = u) → Go mX6_load (d + 1) 185 [.ref 64, .int 0, .int (nI (j + 1)), .null] [] (setA σ1 65 (2 + j) w) (QI K) := by
          intro w hw
          refine ih (j + 1) (by omega) _ (f.toA rfl) (fun q hq => ?_) (fun i u hi hu => ?_)
          · rw [sA_setA, if_neg (by omega)]
            exact a q hq
          · rw [sA_setA]
            by_cases e : i = j
            · subst e
              rw [if_pos ⟨rfl, rfl⟩]
              exact hw u hu
            · rw [if_neg (by omega)]
              exact b i u (by omega) hu
        refine br_f hpos ⟨fun c => ⟨vp_in_nI (by omega) (by omega), ?_⟩, fun c => ⟨vp_in_nI (by omega) (by omega), vp_in_nI (by omega) (by omega), ?_⟩⟩
        · rintro _ rfl
          refine step 0 (fun u hu => ?_)
          have := lt_of hu
          exact absurd c (nI_ge this (by omega))
        · rintro _ rfl
          refine step _ (fun u hu => ?_)
          rw [f.2.1 74 (by omega)]
          exact h4 j u hu
    exact loop 4 0 (by omega) σ (FrX.rf σ) (fun _ _ => rfl) (fun i u hi => by omega)
theorem ml_127 {S : Sn} (h : mTU σ T U) (hS : mSc (sA σ 65) ([], S.2)) (hT : T.length ≤ 6) (hU : U.length ≤ 4) (hm : S.2.1.length ≤ 4) (k : ∀ σ', FrJ σ σ' → sF σ' 64 6 = 0 → mSc (sA σ' 65) (T, (if U = [] then S.2.1 else U), S.2.2) → K (nI T.length) σ') : Go mX6_load (d + 2) 127 [.ref 64, .int 0, .int 0, .null] [] σ (QI K) := by
  have loop : ∀ k2 i, i + k2 = T.length → ∀ σ1, FrX (fun _ _ => False) (fun c => c = 65) False σ σ1 → mSc (sA σ1 65) (T.take i, S.2) → Go mX6_load (d + 2) 127 [.ref 64, .int 0, .int (nI i), .null] [] σ1 (QI K) := by
    intro k2
    induction k2 with
    | zero =>
      intro i hi σ1 f s
      have h' : mTU σ1 T U := h.k f (fun z => z) (fun z => z) (by omega) (by omega)
      rw [List.take_of_length_le (by omega)] at s
      refine sgX6_load_127 ?_
      rw [h'.1]
      exact br_t (nI_le (by omega) (by omega)) (ml_185 h' s hU (fun σ2 f2 e6 s2 => k σ2 ((f.mono (fun _ _ z => z.elim) (fun _ z => z) (fun z => z)).tr f2) e6 s2))
    | succ k2 ih =>
      intro i hi σ1 f s
      have h' : mTU σ1 T U := h.k f (fun z => z) (fun z => z) (by omega) (by omega)
      obtain ⟨t, ht⟩ := get_of (l := T) (i := i) (by omega)
      have e := h'.2.2.1 i t ht
      have i1 : (4 : Int32) * nI i + 1 = nI (4 * i + 1) := ix4 _ 1
      have i2 : (4 : Int32) * nI i + 2 = nI (4 * i + 2) := ix4 _ 2
      have i3 : (4 : Int32) * nI i + 3 = nI (4 * i + 3) := ix4 _ 3
      refine sgX6_load_127 ?_
      rw [h'.1, i1, i2, i3, ix40, ix_nI (by omega), ix_nI (by omega), ix_nI (by omega), ix_nI (by omega), e.1, e.2.1, e.2.2.1, e.2.2.2, nI1]
      refine br_f (nI_ge (by omega) (by omega)) ⟨vp_in_nI (by omega) (by omega), vp_in_nI (by omega) (by omega), vp_in_nI (by omega) (by omega), vp_in_nI (by omega) (by omega), ct_add (S := (T.take i, S.2)) (t := t) s (by show (T.take i).length < 6; rw [List.length_take]; omega) hm (fun g hg => ih (i + 1) (by omega) _ (f.toR rfl) ?_)⟩
      rw [sA_setR, if_pos rfl, take_s ht]
      exact hg
  exact loop T.length 0 (by omega) σ (FrX.rf σ) hS
end MLOAD
