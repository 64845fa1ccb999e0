/-! reading a pad: the machine of signs -/
/-- state, wall, distance, number (in state 5: the strength), minus, targets, spacings -/
abbrev Ps : Type := Nat × Int32 × Int32 × Int32 × Int32 × List Tg × List Int32
def inI (a b : Int) (x : Int32) : Bool := decide (a ≤ x.toInt ∧ x.toInt ≤ b)
def stepP (P : Ps) (c : Int32) : Option Ps :=
  let w := P.2.1
  let d := P.2.2.1
  let n := P.2.2.2.1
  let mi := P.2.2.2.2.1
  let T := P.2.2.2.2.2.1
  let U := P.2.2.2.2.2.2
  match P.1 with
  | 0 => if c = 116 then some (1, 0, 0, 0, 0, T, U) else if c = 119 then some (1, 1, 0, 0, 0, T, U) else none
  | 1 => if inI 1 9 (c - 48) then some (2, w, 0, c - 48, 0, T, U) else none
  | 2 => if c = 42 then some (3, w, n, 0, 0, T, U) else if inI 0 9 (c - 48) && decide (n * 10 + (c - 48) ≤ 300) then some (2, w, 0, n * 10 + (c - 48), 0, T, U) else none
  | 3 => if inI 1 9 (c - 48) then some (4, w, d, c - 48, 0, T, U) else none
  | 4 => if inI 0 9 (c - 48) && decide (n * 10 + (c - 48) ≤ 99) then some (4, w, d, n * 10 + (c - 48), 0, T, U) else if w = 0 ∧ (c = 43 ∨ c = 45) then some (5, w, d, n, (if c = 45 then 1 else 0), T, U) else if c = 44 then some (0, 0, 0, 0, 0, T ++ [(d, n, 0, w)], U) else if c = 59 then some (7, 0, 0, 0, 0, T ++ [(d, n, 0, w)], U) else none
  | 5 => if inI 1 5 (c - 48) then some (6, 0, 0, 0, 0, T ++ [(d, n, (if mi = 0 then c - 48 else -(c - 48)), w)], U) else none
  | 6 => if c = 44 then some (0, 0, 0, 0, 0, T, U) else if c = 59 then some (7, 0, 0, 0, 0, T, U) else none
  | 7 => if inI 1 5 (c - 48) then some (8, 0, 0, c - 48, 0, T, U) else none
  | 8 => if inI 0 9 (c - 48) && decide (n * 10 + (c - 48) ≤ 50) then some (9, 0, 0, 0, 0, T, U ++ [n * 10 + (c - 48)]) else none
  | _ => if c = 47 ∧ U.length < 4 then some (7, 0, 0, 0, 0, T, U) else none
/-- from a place on: the fault, or what was read (−1 where the text ends too soon) -/
def endP (P : Ps) : Option (List Tg × List Int32) := match P.1 with
  | 4 => some (P.2.2.2.2.2.1 ++ [(P.2.2.1, P.2.2.2.1, 0, P.2.1)], P.2.2.2.2.2.2)
  | 6 => some (P.2.2.2.2.2.1, P.2.2.2.2.2.2)
  | 9 => some (P.2.2.2.2.2.1, P.2.2.2.2.2.2)
  | _ => none
def runP (P : Ps) : List Int32 → Nat → Nat ⊕ (List Tg × List Int32)
  | [], s => match endP P with
    | some r => .inr r
    | none => .inl s
  | c :: l, s => match stepP P c with
    | some P' => runP P' l (s + 1)
    | none => .inl s
/-- the machine's state as the component keeps it -/
def rdT (σ : St) (T : List Tg) (U : List Int32) : Prop := sF σ 46 5 = nI T.length ∧ sF σ 46 6 = nI U.length ∧ (∀ (i : Nat) (t : Tg), T[i]? = some t → sA σ 47 i = t.1 ∧ sA σ 48 i = t.2.1 ∧ sA σ 49 i = t.2.2.1 ∧ sA σ 50 i = t.2.2.2) ∧ (∀ (j : Nat) (u : Int32), U[j]? = some u → sA σ 51 j = u)
def rdG (σ : St) (q : Nat) (w d n mi : Int32) : Prop := sF σ 46 7 = nI q ∧ ((1 ≤ q ∧ q ≤ 5) → sF σ 46 11 = w) ∧ ((q = 2 ∨ q = 4 ∨ q = 8) → sF σ 46 8 = n) ∧ ((3 ≤ q ∧ q ≤ 5) → sF σ 46 9 = d) ∧ (q = 5 → sF σ 46 10 = n ∧ sF σ 46 12 = mi)
abbrev FrR (σ σ' : St) : Prop := FrX (fun c _ => c = 46) (fun c => 47 ≤ c ∧ c ≤ 51) False σ σ'
section PARSE
variable {d : Nat} {σ : St} {T : List Tg} {U : List Int32}
theorem rdT.f {k : Nat} {v : Int32} (h : rdT σ T U) (hk : k ≠ 5) (hk2 : k ≠ 6) : rdT (setF σ 46 k v) T U := by
  obtain ⟨h1, h2, h3, h4⟩ := h
  refine ⟨?_, ?_, h3, h4⟩
  · rw [sF_setF, if_neg (by omega)]; exact h1
  · rw [sF_setF, if_neg (by omega)]; exact h2
theorem ct_keepTarget {K : St → Prop} {s v : Int32} (h : rdT σ T U) (hT : T.length < 12) (hw : sF σ 46 11 = 0 ∨ sF σ 46 11 = 1) (k : ∀ σ', FrR σ σ' → rdT σ' (T ++ [(sF σ 46 9, s, v, sF σ 46 11)]) U → (∀ j, j ≠ 5 → sF σ' 46 j = sF σ 46 j) → K σ') : CallU (d + 1) mX2_keepTarget [.ref 46, .int s, .int v] σ K := by
  obtain ⟨h1, h2, h3, h4⟩ := h
  refine cgX2_keepTarget ?_
  rw [h1, ix_nI (by omega)]
  refine br_f (nI_pos (by omega)) (br_f (nI_ge (b := 12) hT (by omega)) ⟨vp_in_nI hT (by omega), ?_⟩)
  rintro _ rfl
  rw [sF_setA, h1, ix_nI (by omega)]
  refine ⟨vp_in_nI hT (by omega), ?_⟩
  rintro _ rfl
  rw [sF_setA, sF_setA, h1, ix_nI (by omega)]
  refine ⟨vp_in_nI hT (by omega), ?_⟩
  rintro _ rfl
  rw [sF_setA, sF_setA, sF_setA, h1, ix_nI (by omega), nbo_id hw]
  refine ⟨vp_in_nI hT (by omega), ?_⟩
  rintro _ rfl
  rw [sF_setA, sF_setA, sF_setA, sF_setA, h1, nI1]
  rintro _ rfl
  refine k _ (((((FrX.rf (P := fun c _ => c = 46) (C := fun c => 47 ≤ c ∧ c ≤ 51) (l := False) σ).toA (by omega)).toA (by omega)).toA (by omega)).toA (by omega) |>.toF rfl) ⟨?_, ?_, fun i t ht => ?_, fun j u hu => ?_⟩ (fun j hj => ?_)
  · rw [sF_setF, if_pos ⟨rfl, rfl⟩, List.length_append]; rfl
  · rw [sF_setF, if_neg (by omega), sF_setA, sF_setA, sF_setA, sF_setA]; exact h2
  · rw [sA_setF]
    simp only [sA_setA]
    rcases Nat.lt_or_ge i T.length with z | z
    · rw [List.getElem?_append_left z] at ht
      have h0 := h3 i t ht
      simp only [show ¬ i = T.length by omega, and_false, if_false]
      exact h0
    · have hl := lt_of ht
      rw [List.length_append, List.length_singleton] at hl
      have hi : i = T.length := by omega
      subst hi
      rw [List.getElem?_append_right (Nat.le_refl _), Nat.sub_self] at ht
      injection ht with ht
      subst ht
      simp
  · rw [sA_setF]
    simp only [sA_setA]
    simpa using h4 j u hu
  · rw [sF_setF, if_neg (by omega), sF_setA, sF_setA, sF_setA, sF_setA]
end PARSE
