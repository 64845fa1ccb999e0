/-! the model's picture of the states; its calls that change them -/
def mSc (z : Nat → Int32) (S : Sn) : Prop := z 0 = nI S.1.length ∧ z 1 = nI S.2.1.length ∧ z 6 = S.2.2.1 ∧ z 7 = S.2.2.2 ∧ (∀ (i : Nat) (t : Tg), S.1[i]? = some t → z (8 + 4 * i) = t.1 ∧ z (8 + 4 * i + 1) = t.2.1 ∧ z (8 + 4 * i + 2) = t.2.2.1 ∧ z (8 + 4 * i + 3) = t.2.2.2) ∧ (∀ (j : Nat) (s : Int32), S.2.1[j]? = some s → z (2 + j) = s)
def mR (σ : St) (A : Ab) : Prop := mSc (sA σ 65) A.1 ∧ (sF σ 64 2 = nI A.2.1.length ∧ ∀ (q : Nat) (T : Sn), A.2.1[q]? = some T → mSc (fun k => sA σ 66 (32 * q + k)) T) ∧ (sF σ 64 4 = bI A.2.2.1.isSome ∧ ∀ T, A.2.2.1 = some T → mSc (sA σ 67) T) ∧ (sF σ 64 6 = nI A.2.2.2.length ∧ ∀ (i : Nat) (c : Int32), A.2.2.2[i]? = some c → sA σ 68 i = c)
def mod (c : Nat) : Prop := 64 ≤ c
theorem mSc.ext {z z' : Nat → Int32} {S : Sn} (h : mSc z S) (hn : S.1.length ≤ 6) (hm : S.2.1.length ≤ 4) (e : ∀ k, k < 32 → z' k = z k) : mSc z' S := by
  obtain ⟨h1, h2, h3, h4, h5, h6⟩ := h
  refine ⟨by rw [e 0 (by omega)]; exact h1, by rw [e 1 (by omega)]; exact h2, by rw [e 6 (by omega)]; exact h3, by rw [e 7 (by omega)]; exact h4, fun i t ht => ?_, fun j s hs => ?_⟩
  · have := lt_of ht
    rw [e _ (by omega), e _ (by omega), e _ (by omega), e _ (by omega)]
    exact h5 i t ht
  · have := lt_of hs
    rw [e _ (by omega)]; exact h6 j s hs
/-- the model's picture stays where only other cells change -/
theorem mR.keep {σ σ' : St} {A : Ab} (h : mR σ A) (f : FrM σ σ') : mR σ' A := by
  obtain ⟨h1, ⟨h2, h2'⟩, ⟨h3, h3'⟩, h4, h4'⟩ := h
  have e64 := (f 64 (by omega)).1
  have e65 := (f 65 (by omega)).2
  have e66 := (f 66 (by omega)).2
  have e67 := (f 67 (by omega)).2
  have e68 := (f 68 (by omega)).2
  unfold mR
  rw [e64, e65, e66, e67, e68]
  exact ⟨h1, ⟨h2, h2'⟩, ⟨h3, h3'⟩, h4, h4'⟩
theorem cR.keepM {σ σ' : St} {A : Ab} (hA : okA A) (h : cR σ A) (f : Fr mod σ σ') : cR σ' A := h.keep hA (f.mono (fun c hc => by unfold mod at hc; unfold scr; omega))
theorem setR_self (σ : St) (a : Nat) : setR σ a (sA σ a) = σ := by
  unfold setR
  have : (fun x => if x = a then sA σ a else sA σ x) = sA σ := by
    funext x
    split
    · next h => rw [h]
    · rfl
  rw [this]
  rfl
theorem setR_setR (σ : St) (a : Nat) (g h : Nat → Int32) : setR (setR σ a g) a h = setR σ a h := by
  unfold setR
  have : (fun x => if x = a then h else sA (sF σ, fun x => if x = a then g else sA σ x, sL σ, sP σ) x) = (fun x => if x = a then h else sA σ x) := by
    funext x
    split
    · rfl
    · next hn => show (if x = a then g else sA σ x) = _; rw [if_neg hn]
  rw [this]
  rfl
theorem setA_setR (σ : St) (a i : Nat) (g : Nat → Int32) (v : Int32) : setA (setR σ a g) a i v = setR σ a (upd g i v) := by
  unfold setA
  rw [setR_setR, sA_setR, if_pos rfl]
theorem upd_eq (f : Nat → Int32) (i : Nat) (v : Int32) (j : Nat) : upd f i v j = if j = i then v else f j := rfl
section OPM
variable {d : Nat} {σ : St} {A : Ab}
theorem ct_in {K : Int32 → St → Prop} {x lo hi : Int32} (h : K (bI (decide (lo.toInt ≤ x.toInt ∧ x.toInt ≤ hi.toInt))) σ) : CallI (d + 1) mX6_in [.int x, .int lo, .int hi] σ K := by
  refine cgX6_in (br_c (fun c => ?_) (fun c => br_c (fun c2 => ?_) (fun c2 => ?_)))
  · rw [Int32.lt_iff_toInt_lt] at c
    rw [decide_eq_false (by omega)] at h; exact h
  · rw [Int32.lt_iff_toInt_lt] at c c2
    rw [decide_eq_false (by omega)] at h; exact h
  · rw [Int32.lt_iff_toInt_lt] at c c2
    rw [decide_eq_true (by omega)] at h; exact h
theorem ix8 (i w : Nat) : ((8 : Int32) + 4 * nI i) + nI w = nI (8 + 4 * i + w) := by
  show (nI 8 + nI 4 * nI i) + nI w = _
  rw [pk_mul, nI_add, nI_add]
theorem ix80 (i : Nat) : ((8 : Int32) + 4 * nI i) = nI (8 + 4 * i) := by
  show nI 8 + nI 4 * nI i = _
  rw [pk_mul, nI_add]
theorem ct_of {K : Int32 → St → Prop} {i w : Nat} (hi : i < 6) (hw : w < 4) (h : K (sA σ 65 (8 + 4 * i + w)) σ) : CallI (d + 1) mX6_of [.ref 64, .int (nI i), .int (nI w)] σ K := by
  refine cgX6_of ?_
  rw [ix8, ix_nI (by omega)]
  exact ⟨vp_in_nI (by omega) (by omega), h⟩
theorem ct_isTarget {K : Int32 → St → Prop} {x : Int32} {n : Nat} (e0 : sA σ 65 0 = nI n) (hn : n ≤ 6) (h : K (bI (inR n x)) σ) : CallI (d + 2) mX6_isTarget [.ref 64, .int x] σ K := by
  refine cgX6_isTarget (ct_in ?_)
  have e : bI (decide ((0 : Int32).toInt ≤ x.toInt ∧ x.toInt ≤ (sA σ 65 0 - 1).toInt)) = bI (inR n x) := by
    rw [e0, k0]
    unfold inR
    have h1 : (nI n - 1).toInt = (n : Int) - 1 := by
      have := tI_sub (a := nI n) (b := 1) (by rw [nI_toInt (by omega), k1]; omega) (by rw [nI_toInt (by omega), k1]; omega)
      rw [this, nI_toInt (by omega), k1]
    rw [h1]
    congr 1
    exact decide_eq_decide.mpr (by omega)
  rw [e]
  exact ⟨nar_b (bI_01 _), h⟩
theorem ct_isTurn {K : Int32 → St → Prop} {x : Int32} {n : Nat} (e0 : sA σ 65 1 = nI n) (hn : n ≤ 6) (h : K (bI (inR n x)) σ) : CallI (d + 2) mX6_isTurn [.ref 64, .int x] σ K := by
  refine cgX6_isTurn (ct_in ?_)
  have e : bI (decide ((0 : Int32).toInt ≤ x.toInt ∧ x.toInt ≤ (sA σ 65 1 - 1).toInt)) = bI (inR n x) := by
    rw [e0, k0]
    unfold inR
    have h1 : (nI n - 1).toInt = (n : Int) - 1 := by
      have := tI_sub (a := nI n) (b := 1) (by rw [nI_toInt (by omega), k1]; omega) (by rw [nI_toInt (by omega), k1]; omega)
      rw [this, nI_toInt (by omega), k1]
    rw [h1]
    congr 1
    exact decide_eq_decide.mpr (by omega)
  rw [e]
  exact ⟨nar_b (bI_01 _), h⟩
/-- the copy of the state at the history's place p -/
def recG (g z : Nat → Int32) (p k : Nat) : Nat → Int32 := fun j => if 32 * p ≤ j ∧ j < 32 * p + k then z (j - 32 * p) else g j
theorem ct_record1 {K : St → Prop} {p : Nat} (hp : p < 4) (e : sF σ 64 2 = nI p) (h : K (setF (setR σ 66 (recG (sA σ 66) (sA σ 65) p 32)) 64 2 (nI (p + 1)))) : Go mX6_record (d + 1) 49 [.ref 64, .int 0] [] σ (QU K) := by
  have loop : ∀ k i, i + k = 32 → Go mX6_record (d + 1) 49 [.ref 64, .int (nI i)] [] (setR σ 66 (recG (sA σ 66) (sA σ 65) p i)) (QU K) := by
    intro k
    induction k with
    | zero =>
      intro i hi
      refine sgX6_record_49 (br_t (nI_le (a := 32) (by omega) (by omega)) ?_)
      rintro _ rfl
      rw [sF_setR, e, nI1, show i = 32 by omega]
      exact h
    | succ k ih =>
      intro i hi
      refine sgX6_record_49 (br_f (nI_ge (b := 32) (by omega) (by omega)) ?_)
      have e1 : sF (setR σ 66 (recG (sA σ 66) (sA σ 65) p i)) 64 2 * 32 + nI i = nI (32 * p + i) := by
        rw [sF_setR, e]
        show nI p * nI 32 + nI i = _
        rw [pk_mul, nI_add, Nat.mul_comm]
      rw [e1, ix_nI (by omega), ix_nI (by omega)]
      refine ⟨vp_in_nI (by omega) (by omega), vp_in_nI (by omega) (by omega), ?_⟩
      rintro _ rfl
      rw [nI1, setA_setR, sA_setR, if_neg (by decide)]
      have e2 : upd (recG (sA σ 66) (sA σ 65) p i) (32 * p + i) (sA σ 65 i) = recG (sA σ 66) (sA σ 65) p (i + 1) := by
        funext j
        rw [upd_eq]
        unfold recG
        by_cases hj : j = 32 * p + i
        · rw [if_pos hj, if_pos (by omega), hj, Nat.add_sub_cancel_left]
        · rw [if_neg hj]
          by_cases h2 : 32 * p ≤ j ∧ j < 32 * p + i
          · rw [if_pos h2, if_pos (by omega)]
          · rw [if_neg h2, if_neg (by omega)]
      rw [e2]
      exact ih (i + 1) (by omega)
  have e0 : recG (sA σ 66) (sA σ 65) p 0 = sA σ 66 := by
    funext j
    unfold recG
    rw [if_neg (by omega)]
  have := loop 32 0 rfl
  rw [e0, setR_self] at this
  exact this
theorem mR.push {K : St → Prop} {A : Ab} {σ : St} (hA : okA A) (h : mR σ A) (hn : A.2.1.length < 4) (k : ∀ σ', Fr mod σ σ' → mR σ' (A.1, A.2.1 ++ [A.1], A.2.2) → K σ') : K (setF (setR σ 66 (recG (sA σ 66) (sA σ 65) A.2.1.length 32)) 64 2 (nI (A.2.1.length + 1))) := by
  obtain ⟨h1, ⟨h2, h2'⟩, ⟨h3, h3'⟩, h4, h4'⟩ := h
  refine k _ (((Fr.rf σ).toR (by unfold mod; omega)).toF (by unfold mod; omega)) ⟨?_, ⟨?_, fun q T hq => ?_⟩, ⟨?_, fun T hT => ?_⟩, ?_, fun i c hi => ?_⟩
  · rw [sA_setF, sA_setR, if_neg (by decide)]; exact h1
  · rw [sF_setF, if_pos ⟨rfl, rfl⟩]; show _ = nI (A.2.1 ++ [A.1]).length; simp
  · have hq' : (A.2.1 ++ [A.1])[q]? = some T := hq
    rw [sA_setF, sA_setR, if_pos rfl]
    rcases Nat.lt_or_ge q A.2.1.length with hlt | hge
    · rw [List.getElem?_append_left hlt] at hq'
      have hok := hA.2.2.1 T (List.mem_of_getElem? hq')
      refine (h2' q T hq').ext hok.1 hok.2.2.2.1 (fun k hk => ?_)
      unfold recG
      rw [if_neg (by omega)]
    · have hlt := lt_of hq'
      simp at hlt
      have e : q = A.2.1.length := by omega
      subst e
      simp at hq'
      subst hq'
      refine h1.ext hA.1.1 hA.1.2.2.2.1 (fun k hk => ?_)
      unfold recG
      rw [if_pos (by omega), Nat.add_sub_cancel_left]
  · rw [sF_setF, if_neg (by omega), sF_setR]; exact h3
  · rw [sA_setF, sA_setR, if_neg (by decide)]; exact h3' T hT
  · rw [sF_setF, if_neg (by omega), sF_setR]; exact h4
  · rw [sA_setF, sA_setR, if_neg (by decide)]; exact h4' i c hi
def shG (g : Nat → Int32) (k : Nat) : Nat → Int32 := fun j => if j < k then g (j + 32) else g j
theorem ct_record {K : St → Prop} (hA : okA A) (h : mR σ A) (k : ∀ σ', Fr mod σ σ' → mR σ' (A.1, pushH A.2.1 A.1, A.2.2) → K σ') : CallU (d + 1) mX6_record [.ref 64] σ K := by
  obtain ⟨h1, ⟨h2, h2'⟩, ⟨h3, h3'⟩, h4, h4'⟩ := id h
  have hl := hA.2.1
  refine cgX6_record ?_
  rcases Nat.lt_or_ge A.2.1.length 4 with hn | hn
  · have hp : pushH A.2.1 A.1 = A.2.1 ++ [A.1] := by unfold pushH; rw [if_neg (by omega)]
    rw [hp] at k
    refine br_c' (fun _ => ct_record1 hn h2 (mR.push hA h hn k)) (fun c => ?_)
    rw [h2] at c
    have := (nI_eq (a := A.2.1.length) (b := 4) (by omega) (by omega)).mp c
    omega
  · have hp : pushH A.2.1 A.1 = A.2.1.drop 1 ++ [A.1] := by unfold pushH; rw [if_pos (by omega)]
    rw [hp] at k
    have h24 : sF σ 64 2 = 4 := by rw [h2, show A.2.1.length = 4 by omega]; rfl
    refine br_c' (fun c => absurd h24 c) (fun _ => ?_)
    have hA' : okA (A.1, A.2.1.drop 1, A.2.2) := ⟨hA.1, by show (A.2.1.drop 1).length ≤ 4; rw [List.length_drop]; omega, fun T hT => hA.2.2.1 T (List.mem_of_mem_drop hT), hA.2.2.2⟩
    have hl3 : (A.2.1.drop 1).length = 3 := by rw [List.length_drop]; omega
    have loop : ∀ k2 i, i + k2 = 96 → Go mX6_record (d + 1) 10 [.ref 64, .int (nI i)] [] (setR σ 66 (shG (sA σ 66) i)) (QU K) := by
      intro k2
      induction k2 with
      | zero =>
        intro i hi
        refine sgX6_record_10 (br_t (nI_le (a := 96) (by omega) (by omega)) ?_)
        rintro _ rfl
        have e3 : sF (setR σ 66 (shG (sA σ 66) i)) 64 2 - 1 = nI 3 := by rw [sF_setR, h24]; decide
        rw [e3]
        have hm : mR (setF (setR σ 66 (shG (sA σ 66) i)) 64 2 (nI 3)) (A.1, A.2.1.drop 1, A.2.2) := by
          refine ⟨?_, ⟨?_, fun q T hq => ?_⟩, ⟨?_, fun T hT => ?_⟩, ?_, fun i c hi => ?_⟩
          · rw [sA_setF, sA_setR, if_neg (by decide)]; exact h1
          · rw [sF_setF, if_pos ⟨rfl, rfl⟩]; show _ = nI (A.2.1.drop 1).length; rw [hl3]
          · have hq' : (A.2.1.drop 1)[q]? = some T := hq
            have hql := lt_of hq'
            rw [List.getElem?_drop] at hq'
            rw [sA_setF, sA_setR, if_pos rfl]
            have hok := hA.2.2.1 T (List.mem_of_getElem? hq')
            refine (h2' (1 + q) T hq').ext hok.1 hok.2.2.2.1 (fun k hk => ?_)
            unfold shG
            rw [if_pos (by omega), show 32 * q + k + 32 = 32 * (1 + q) + k by omega]
          · rw [sF_setF, if_neg (by omega), sF_setR]; exact h3
          · rw [sA_setF, sA_setR, if_neg (by decide)]; exact h3' T hT
          · rw [sF_setF, if_neg (by omega), sF_setR]; exact h4
          · rw [sA_setF, sA_setR, if_neg (by decide)]; exact h4' i c hi
        have f1 : Fr mod σ (setF (setR σ 66 (shG (sA σ 66) i)) 64 2 (nI 3)) := ((Fr.rf σ).toR (by unfold mod; omega)).toF (by unfold mod; omega)
        have hpu := mR.push (K := K) (A := (A.1, A.2.1.drop 1, A.2.2)) hA' hm (by show (A.2.1.drop 1).length < 4; omega) (fun s2 f2 m2 => k s2 (f1.tr f2) m2)
        refine ct_record1 (p := 3) (by omega) (by rw [sF_setF, if_pos ⟨rfl, rfl⟩]) ?_
        have hpu' := hpu
        rw [show ((A.1, A.2.1.drop 1, A.2.2) : Ab).2.1.length = 3 from hl3] at hpu'
        exact hpu'
      | succ k2 ih =>
        intro i hi
        refine sgX6_record_10 (br_f (nI_ge (b := 96) (by omega) (by omega)) ?_)
        have e1 : nI i + 32 = nI (i + 32) := nI_add i 32
        rw [e1, ix_nI (by omega), ix_nI (by omega)]
        refine ⟨vp_in_nI (by omega) (by omega), vp_in_nI (by omega) (by omega), ?_⟩
        rintro _ rfl
        rw [nI1, setA_setR, sA_setR, if_pos rfl]
        have e2 : upd (shG (sA σ 66) i) i (shG (sA σ 66) i (i + 32)) = shG (sA σ 66) (i + 1) := by
          funext j
          rw [upd_eq]
          unfold shG
          by_cases hj : j = i
          · rw [if_pos hj, if_neg (by omega), if_pos (by omega), hj]
          · rw [if_neg hj]
            by_cases h2 : j < i
            · rw [if_pos h2, if_pos (by omega)]
            · rw [if_neg h2, if_neg (by omega)]
        rw [e2]
        exact ih (i + 1) (by omega)
    have e0 : shG (sA σ 66) 0 = sA σ 66 := by
      funext j
      unfold shG
      rw [if_neg (by omega)]
    have := loop 96 0 rfl
    rw [e0, setR_self] at this
    exact this
/-- another scene -/
theorem mR.sc {g : Nat → Int32} {S : Sn} (h : mR σ A) (hS : mSc g S) : mR (setR σ 65 g) (S, A.2) := by
  obtain ⟨h1, ⟨h2, h2'⟩, ⟨h3, h3'⟩, h4, h4'⟩ := h
  refine ⟨?_, ⟨h2, fun q T hq => ?_⟩, ⟨h3, fun T hT => ?_⟩, h4, fun i c hi => ?_⟩
  · rw [sA_setR, if_pos rfl]; exact hS
  · rw [sA_setR, if_neg (by decide)]; exact h2' q T hq
  · rw [sA_setR, if_neg (by decide)]; exact h3' T hT
  · rw [sA_setR, if_neg (by decide)]; exact h4' i c hi
theorem frZ (σ : St) (g : Nat → Int32) : Fr mod σ (setR σ 65 g) := Fr.R (by unfold mod; omega)
theorem setA_R (σ : St) (a i : Nat) (v : Int32) : setA σ a i v = setR σ a (upd (sA σ a) i v) := rfl
def cpG (g h : Nat → Int32) (k : Nat) : Nat → Int32 := fun j => if j < k then h j else g j
theorem cpG_step (g h : Nat → Int32) (i : Nat) : upd (cpG g h i) i (h i) = cpG g h (i + 1) := by
  funext j
  rw [upd_eq]
  unfold cpG
  by_cases hj : j = i
  · rw [if_pos hj, if_pos (by omega), hj]
  · rw [if_neg hj]
    by_cases h2 : j < i
    · rw [if_pos h2, if_pos (by omega)]
    · rw [if_neg h2, if_neg (by omega)]
theorem cpG_0 (g h : Nat → Int32) : cpG g h 0 = g := by
  funext j
  unfold cpG
  rw [if_neg (by omega)]
theorem mSc.cp {g h : Nat → Int32} {S : Sn} (hS : mSc h S) (hn : S.1.length ≤ 6) (hm : S.2.1.length ≤ 4) : mSc (cpG g h 32) S := hS.ext hn hm (fun k hk => by unfold cpG; rw [if_pos hk])
theorem ct_X6_undo {K : Int32 → St → Prop} (hA : okA A) (h : mR σ A) (k : ∀ σ', Fr mod σ σ' → mR σ' (opUndo A).2 → K (opUndo A).1 σ') : CallI (d + 1) mX6_undo [.ref 64] σ K := by
  obtain ⟨h1, ⟨h2, h2'⟩, ⟨h3, h3'⟩, h4, h4'⟩ := id h
  have hl := hA.2.1
  unfold opUndo at k
  refine cgX6_undo ?_
  rcases hg : A.2.1.getLast? with _ | T
  · rw [hg] at k
    have e : A.2.1 = [] := List.getLast?_eq_none_iff.mp hg
    refine br_c' (fun c => absurd (by rw [h2, e]; rfl) c) (fun _ => k σ (Fr.rf σ) h)
  · rw [hg] at k
    have hT : A.2.1[A.2.1.length - 1]? = some T := by rw [← List.getLast?_eq_getElem?]; exact hg
    have hpos : 0 < A.2.1.length := by have := lt_of hT; omega
    have hokT := hA.2.2.1 T (List.mem_of_getElem? hT)
    refine br_c' (fun _ => ?_) (fun c => absurd (h2.symm.trans c) (nI_ne0 hpos (by omega)))
    rintro _ rfl
    generalize hs : setF σ 64 2 (sF σ 64 2 - 1) = s1
    have e9 : sF s1 64 2 = nI (A.2.1.length - 1) := by
      rw [← hs, sF_setF, if_pos ⟨rfl, rfl⟩, h2, show A.2.1.length = (A.2.1.length - 1) + 1 by omega, nI_pred]; rfl
    have loop : ∀ k2 i, i + k2 = 32 → Go mX6_undo (d + 1) 22 [.ref 64, .int (nI i)] [] (setR s1 65 (cpG (sA σ 65) (fun k => sA σ 66 (32 * (A.2.1.length - 1) + k)) i)) (QI K) := by
      intro k2
      induction k2 with
      | zero =>
        intro i hi
        refine sgX6_undo_22 (br_t (nI_le (a := 32) (by omega) (by omega)) ?_)
        rw [sF_setR, e9, show i = 32 by omega]
        refine k _ (Fr.toR (by rw [← hs]; exact Fr.F (by unfold mod; omega)) (by unfold mod; omega)) ⟨?_, ⟨?_, fun q U hq => ?_⟩, ⟨?_, fun U hU => ?_⟩, ?_, fun i c hi => ?_⟩
        · rw [sA_setR, if_pos rfl]; exact (h2' _ T hT).cp hokT.1 hokT.2.2.2.1
        · rw [sF_setR, e9]; show _ = nI A.2.1.dropLast.length; rw [List.length_dropLast]
        · have hq' : A.2.1.dropLast[q]? = some U := hq
          rw [List.getElem?_dropLast] at hq'
          split at hq'
          · rw [sA_setR, if_neg (by decide), ← hs, sA_setF]; exact h2' q U hq'
          · cases hq'
        · rw [sF_setR, ← hs, sF_setF, if_neg (by omega)]; exact h3
        · rw [sA_setR, if_neg (by decide), ← hs, sA_setF]; exact h3' U hU
        · rw [sF_setR, ← hs, sF_setF, if_neg (by omega)]; exact h4
        · rw [sA_setR, if_neg (by decide), ← hs, sA_setF]; exact h4' i c hi
      | succ k2 ih =>
        intro i hi
        refine sgX6_undo_22 (br_f (nI_ge (b := 32) (by omega) (by omega)) ?_)
        rw [sF_setR, e9]
        have e1 : nI (A.2.1.length - 1) * 32 + nI i = nI (32 * (A.2.1.length - 1) + i) := by
          show nI (A.2.1.length - 1) * nI 32 + nI i = _
          rw [pk_mul, nI_add, Nat.mul_comm]
        rw [e1, ix_nI (by omega), ix_nI (by omega)]
        refine ⟨vp_in_nI (by omega) (by omega), vp_in_nI (by omega) (by omega), ?_⟩
        rintro _ rfl
        rw [nI1, setA_setR, sA_setR, if_neg (by decide)]
        have e5 : sA s1 66 (32 * (A.2.1.length - 1) + i) = (fun k => sA σ 66 (32 * (A.2.1.length - 1) + k)) i := by rw [← hs, sA_setF]
        rw [e5, cpG_step]
        exact ih (i + 1) (by omega)
    have := loop 32 0 rfl
    have e6 : sA s1 65 = sA σ 65 := by rw [← hs, sA_setF]
    rw [cpG_0, ← e6, setR_self] at this
    exact this
theorem ct_X6_save {K : Int32 → St → Prop} (hA : okA A) (h : mR σ A) (k : ∀ σ', Fr mod σ σ' → mR σ' (opSave A).2 → K (opSave A).1 σ') : CallI (d + 1) mX6_save [.ref 64] σ K := by
  obtain ⟨h1, ⟨h2, h2'⟩, ⟨h3, h3'⟩, h4, h4'⟩ := id h
  refine cgX6_save ?_
  intro s1 hs
  have e65 : sA s1 65 = sA σ 65 := by rw [hs, sA_setF]
  have loop : ∀ k2 i, i + k2 = 32 → Go mX6_save (d + 1) 7 [.ref 64, .int (nI i)] [] (setR s1 67 (cpG (sA s1 67) (sA σ 65) i)) (QI K) := by
    intro k2
    induction k2 with
    | zero =>
      intro i hi
      refine sgX6_save_7 (br_t (nI_le (a := 32) (by omega) (by omega)) ?_)
      rw [sA_setR, if_neg (by decide), e65, h1.1, show i = 32 by omega]
      refine k _ (Fr.toR (by rw [hs]; exact Fr.F (by unfold mod; omega)) (by unfold mod; omega)) ⟨?_, ⟨?_, fun q U hq => ?_⟩, ⟨?_, fun U hU => ?_⟩, ?_, fun i c hi => ?_⟩
      · rw [sA_setR, if_neg (by decide), e65]; exact h1
      · rw [sF_setR, hs, sF_setF, if_neg (by omega)]; exact h2
      · rw [sA_setR, if_neg (by decide), hs, sA_setF]; exact h2' q U hq
      · rw [sF_setR, hs, sF_setF, if_pos ⟨rfl, rfl⟩]; rfl
      · cases hU
        rw [sA_setR, if_pos rfl]; exact h1.cp hA.1.1 hA.1.2.2.2.1
      · rw [sF_setR, hs, sF_setF, if_neg (by omega)]; exact h4
      · rw [sA_setR, if_neg (by decide), hs, sA_setF]; exact h4' i c hi
    | succ k2 ih =>
      intro i hi
      refine sgX6_save_7 (br_f (nI_ge (b := 32) (by omega) (by omega)) ?_)
      rw [ix_nI (by omega)]
      refine ⟨vp_in_nI (by omega) (by omega), vp_in_nI (by omega) (by omega), ?_⟩
      rintro _ rfl
      rw [nI1, setA_setR, sA_setR, if_neg (by decide), e65, cpG_step]
      exact ih (i + 1) (by omega)
  have := loop 32 0 rfl
  rw [cpG_0, setR_self] at this
  exact this
theorem ct_X6_restore {K : Int32 → St → Prop} (hA : okA A) (h : mR σ A) (k : ∀ σ', Fr mod σ σ' → mR σ' (opRestore A).2 → K (opRestore A).1 σ') : CallI (d + 2) mX6_restore [.ref 64] σ K := by
  unfold opRestore at k
  refine cgX6_restore ?_
  rw [h.2.2.1.1]
  refine bI_br' (fun e => ?_) (fun e => ?_)
  · have e' : A.2.2.1 = none := by simpa using e
    rw [e'] at k
    exact k σ (Fr.rf σ) h
  · obtain ⟨T, hT⟩ := Option.isSome_iff_exists.mp e
    rw [hT] at k
    have hokT := hA.2.2.2.1 T hT
    refine ct_record hA h (fun s1 f1 hm => ?_)
    have loop : ∀ k2 i, i + k2 = 32 → Go mX6_restore (d + 2) 16 [.ref 64, .int (nI i)] [] (setR s1 65 (cpG (sA s1 65) (sA s1 67) i)) (QI K) := by
      intro k2
      induction k2 with
      | zero =>
        intro i hi
        refine sgX6_restore_16 (br_t (nI_le (a := 32) (by omega) (by omega)) ?_)
        have hm2 : mR (setR s1 65 (cpG (sA s1 65) (sA s1 67) i)) (T, pushH A.2.1 A.1, A.2.2) := by
          rw [show i = 32 by omega]
          exact hm.sc ((hm.2.2.1.2 T hT).cp hokT.1 hokT.2.2.2.1)
        rw [hm2.1.1]
        exact k _ (f1.toR (by unfold mod; omega)) hm2
      | succ k2 ih =>
        intro i hi
        refine sgX6_restore_16 (br_f (nI_ge (b := 32) (by omega) (by omega)) ?_)
        rw [ix_nI (by omega)]
        refine ⟨vp_in_nI (by omega) (by omega), vp_in_nI (by omega) (by omega), ?_⟩
        rintro _ rfl
        rw [nI1, setA_setR, sA_setR, if_neg (by decide), cpG_step]
        exact ih (i + 1) (by omega)
    have := loop 32 0 rfl
    rw [cpG_0, setR_self] at this
    exact this
end OPM
