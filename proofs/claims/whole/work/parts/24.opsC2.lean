/-! append, clear, spacings of the class; the legal states -/
def opAppend (A : Ab) (x : Int32) : Int32 × Ab := if 33 ≤ x.toInt ∧ x.toInt ≤ 126 then (if A.2.2.2.length < 60 then (nI (A.2.2.2.length + 1), (A.1, A.2.1, A.2.2.1, A.2.2.2 ++ [x])) else (-3, A)) else (-1, A)
def opClear (A : Ab) : Int32 × Ab := (nI A.2.2.2.length, (A.1, A.2.1, A.2.2.1, []))
theorem k33 : (33 : Int32).toInt = 33 := by decide +kernel
theorem k126 : (126 : Int32).toInt = 126 := by decide +kernel
theorem pos_nI {x : Int32} (h : 0 ≤ x.toInt) : ∃ n, n < 2 ^ 31 ∧ x = nI n := nI_of (fun c => by rw [Int32.lt_iff_toInt_lt, k0] at c; omega)
theorem ch_i2c {x : Int32} (h : 0 ≤ x.toInt) (h2 : x.toInt ≤ 65535) : (x.toUInt32 % 65536).toInt32 = x := by
  obtain ⟨n, hn, rfl⟩ := pos_nI h
  rw [nI_toInt hn] at h2
  rw [pk_char, pk_tn (by omega), Nat.mod_eq_of_lt (by omega)]
theorem ch_nch {x : Int32} (h : 0 ≤ x.toInt) (h2 : x.toInt ≤ 65535) : nch x = x := by
  obtain ⟨n, hn, rfl⟩ := pos_nI h
  rw [nI_toInt hn] at h2
  have := (pk_charN (q := n) (by omega)).1
  show vp_nar .char (nI n) = nI n
  unfold vp_nar
  rw [this]
theorem ch_nar {x : Int32} (h : 0 ≤ x.toInt) (h2 : x.toInt ≤ 65535) : narrow .char (.int x) = .int x := by
  obtain ⟨n, hn, rfl⟩ := pos_nI h
  rw [nI_toInt hn] at h2
  exact (pk_charN (q := n) (by omega)).1
section OPC2
variable {d : Nat} {σ : St} {A : Ab}
theorem ct_X5_append {K : Int32 → St → Prop} {x : Int32} (hA : okA A) (h : cR σ A) (k : ∀ σ', FrM σ σ' → cR σ' (opAppend A x).2 → K (opAppend A x).1 σ') : CallI (d + 2) mX5_append [.ref 0, .int x] σ K := by
  obtain ⟨h1, ⟨h2, h2'⟩, h3, ⟨h4, h4'⟩, h5, h5'⟩ := id h
  have hl := hA.2.2.2.2.1
  unfold opAppend at k
  refine cgX5_append (ct_isWithin ?_)
  rw [k33, k126]
  refine bI_br' (fun e => ?_) (fun e => ?_)
  · rw [if_neg (of_decide_eq_false e)] at k
    exact k σ (FrM.rf σ) h
  · have he := of_decide_eq_true e
    rw [if_pos he] at k
    rw [ch_i2c (by omega) (by omega)]
    refine cgX1_take ?_
    rw [h5, ix_nI (by omega), ch_nch (by omega) (by omega)]
    refine br_f (nI_pos (by omega)) (pk_lt A.2.2.2.length 60 (fun e2 => ?_) (fun e2 => ?_) rfl rfl (by omega))
    · rw [if_pos e2] at k
      refine ⟨vp_in_nI e2 (by omega), ?_⟩
      rintro _ rfl _ rfl
      refine br_f one_ne (cgX1_length ?_)
      have e1 : sF (setF (setA σ 45 A.2.2.2.length x) 44 1 (sF (setA σ 45 A.2.2.2.length x) 44 1 + 1)) 44 1 = nI (A.2.2.2.length + 1) := by rw [sF_setF, if_pos ⟨rfl, rfl⟩, sF_setA, h5, nI1]
      rw [e1]
      have f1 : Fr (fun c => c = 44 ∨ c = 45) σ (setF (setA σ 45 A.2.2.2.length x) 44 1 (sF (setA σ 45 A.2.2.2.length x) 44 1 + 1)) := ((Fr.rf σ).toA (Or.inr rfl)).toF (Or.inl rfl)
      have n0 : ∀ c, c < 44 → ¬ (c = 44 ∨ c = 45) := fun c hc z => by omega
      refine k _ (f1.M (fun c hc => by omega)) ⟨h1.keep f1 (fun c hc => n0 c (by unfold inSc at hc; omega)), ⟨?_, fun q T hq => ?_⟩, ?_, ⟨?_, fun T hT => (h4' T hT).keep f1 (fun c hc => n0 c (by unfold inSc at hc; omega))⟩, ?_, fun i c hi => ?_⟩
      · rw [(f1.1 0 (n0 0 (by omega))).1]; exact h2
      · rw [f1.2.1]
        have := (h3.sc (h.hlen hA hq)).2
        exact (h2' q T hq).keep f1 (fun c hc => n0 c (by unfold inSc at hc; omega))
      · unfold pOK; rw [f1.2.1]; exact h3
      · rw [(f1.1 0 (n0 0 (by omega))).1]; exact h4
      · rw [e1]; show _ = nI (A.2.2.2 ++ [x]).length; simp
      · have hi' : (A.2.2.2 ++ [x])[i]? = some c := hi
        rw [sA_setF, sA_setA]
        rcases Nat.lt_or_ge i A.2.2.2.length with hlt | hge
        · rw [List.getElem?_append_left hlt] at hi'
          rw [if_neg (by omega)]; exact h5' i c hi'
        · have hlt := lt_of hi'
          simp at hlt
          have e : i = A.2.2.2.length := by omega
          subst e
          simp at hi'
          rw [if_pos ⟨rfl, rfl⟩, hi']
    · rw [if_neg (by omega)] at k
      exact br_t rfl (k σ (FrM.rf σ) h)
theorem cR.pad0 {σ' : St} (hA : okA A) (h : cR σ A) (f : Fr (fun c => c = 44) σ σ') (e : sF σ' 44 1 = 0) : cR σ' (A.1, A.2.1, A.2.2.1, []) := by
  obtain ⟨h1, ⟨h2, h2'⟩, h3, ⟨h4, h4'⟩, h5, h5'⟩ := id h
  refine ⟨h1.keep f (fun c hc z => by unfold inSc at hc; omega), ⟨?_, fun q T hq => ?_⟩, ?_, ⟨?_, fun T hT => (h4' T hT).keep f (fun c hc z => by unfold inSc at hc; omega)⟩, e, fun i c hi => by simp at hi⟩
  · rw [(f.1 0 (by decide)).1]; exact h2
  · rw [f.2.1]
    have := (h3.sc (h.hlen hA hq)).2
    exact (h2' q T hq).keep f (fun c hc z => by unfold inSc at hc; omega)
  · unfold pOK; rw [f.2.1]; exact h3
  · rw [(f.1 0 (by decide)).1]; exact h4
theorem ct_empty {K : Int32 → St → Prop} (hA : okA A) (h : cR σ A) (k : ∀ σ', FrM σ σ' → cR σ' (A.1, A.2.1, A.2.2.1, []) → K (nI A.2.2.2.length) σ') : CallI (d + 1) mX1_empty [.ref 44] σ K := by
  refine cgX1_empty ?_
  rintro _ rfl
  rw [h.2.2.2.2.1]
  have f : Fr (fun c => c = 44) σ (setF σ 44 1 0) := Fr.F rfl
  exact k _ (f.M (fun c hc => by omega)) (cR.pad0 hA h f (by rw [sF_setF, if_pos ⟨rfl, rfl⟩]))
theorem ct_X5_clear {K : Int32 → St → Prop} (hA : okA A) (h : cR σ A) (k : ∀ σ', FrM σ σ' → cR σ' (opClear A).2 → K (opClear A).1 σ') : CallI (d + 2) mX5_clear [.ref 0] σ K :=
  cgX5_clear (ct_empty hA h k)
theorem ct_isSpacing {K : Int32 → St → Prop} {x : Int32} (k : K (bI (isSp x)) σ) : CallI (d + 2) mX5_isSpacing [.int x] σ K := by
  refine cgX5_isSpacing (ct_isWithin ?_)
  rw [k10, k50]
  exact ⟨nar_b (bI_01 _), k⟩
def isSpN (x : Int32) : Bool := decide (x = 0) || isSp x
theorem ct_isSpacingOrNone {K : Int32 → St → Prop} {x : Int32} (k : K (bI (isSpN x)) σ) : CallI (d + 3) mX5_isSpacingOrNone [.int x] σ K := by
  refine cgX5_isSpacingOrNone (br_c (fun c => ?_) (fun c => ct_isSpacing (bI_br (fun e => ?_) (fun e => ?_))))
  · unfold isSpN at k; rw [decide_eq_true c] at k; exact k
  · unfold isSpN at k; rw [decide_eq_false c, e] at k; exact k
  · unfold isSpN at k; rw [decide_eq_false c, e] at k; exact k
theorem isSp_pos {x : Int32} (h : isSp x = true) : ¬ x ≤ 0 ∧ ¬ x = 0 := by
  have := of_decide_eq_true h
  refine ⟨fun c => ?_, fun c => ?_⟩
  · rw [Int32.le_iff_toInt_le, k0] at c; omega
  · rw [c, k0] at this; omega
/-- one spacing more, none if it is 0 -/
theorem ct_addT {K : St → Prop} {S : Sn} {x : Int32} (hx : isSpN x = true) (hS : cSc σ 1 S) (hn : S.2.1.length < 4) (h : ∀ σ', Fr (inSc 1) σ σ' → cSc σ' 1 (S.1, S.2.1 ++ (if x = 0 then [] else [x]), S.2.2) → K σ') : CallU (d + 1) mX3_addTurn [.ref 1, .int x] σ K := by
  by_cases c : x = 0
  · subst c
    refine ct_addTurn0 one_sc (Int32.le_refl _) (h σ (Fr.rf σ) ?_)
    rw [if_pos rfl, List.append_nil]
    exact hS
  · rw [if_neg c] at h
    have hs : isSp x = true := by unfold isSpN at hx; rw [decide_eq_false c] at hx; exact hx
    exact ct_addTurn one_sc hS hn (isSp_pos hs).1 h
theorem ct_X5_spacings {K : Int32 → St → Prop} {a b c e : Int32} (hA : okA A) (h : cR σ A) (k : ∀ σ', FrM σ σ' → cR σ' (opSpac A a b c e).2 → K (opSpac A a b c e).1 σ') : CallI (d + 4) mX5_spacings [.ref 0, .int a, .int b, .int c, .int e] σ K := by
  unfold opSpac at k
  have bad : okSp a b c e = false → K (-1) σ := fun z => by rw [z, if_neg (by decide)] at k; exact k σ (FrM.rf σ) h
  have good : isSp a = true → isSpN b = true → isSpN c = true → isSpN e = true → okSp a b c e = true → CallU (d + 3) mX5_remember [.ref 0] σ (fun s15 => CallU (d + 3) mX3_forgetTurns [.ref 1] s15 (fun s16 => CallU (d + 3) mX3_addTurn [.ref 1, .int a] s16 (fun s17 => CallU (d + 3) mX3_addTurn [.ref 1, .int b] s17 (fun s18 => CallU (d + 3) mX3_addTurn [.ref 1, .int c] s18 (fun s19 => CallU (d + 3) mX3_addTurn [.ref 1, .int e] s19 (fun s20 => CallI (d + 3) mX3_turnCount [.ref 1] s20 (fun r22 s21 => K r22 s21))))))) := by
    intro ha hb hc he hok
    rw [hok, if_pos rfl] at k
    refine ct_remember hA h (fun σ1 f1 h1 => ?_)
    refine ct_forgetTurns one_sc h1.1 (fun σ2 f2 h2 => ?_)
    refine ct_addT (by unfold isSpN; rw [ha, Bool.or_true]) h2 (by simp) (fun σ3 f3 h3 => ?_)
    rw [if_neg (isSp_pos ha).2] at h3
    refine ct_addT hb h3 (by simp) (fun σ4 f4 h4 => ?_)
    have l4 : (([] ++ [a]) ++ (if b = 0 then [] else [b])).length ≤ 2 := by split <;> simp
    refine ct_addT hc h4 (by show (([] ++ [a]) ++ (if b = 0 then [] else [b])).length < 4; omega) (fun σ5 f5 h5 => ?_)
    have l5 : ((([] ++ [a]) ++ (if b = 0 then [] else [b])) ++ (if c = 0 then [] else [c])).length ≤ 3 := by
      rw [List.length_append]
      have : (if c = 0 then ([] : List Int32) else [c]).length ≤ 1 := by split <;> simp
      omega
    refine ct_addT he h5 (by show ((([] ++ [a]) ++ (if b = 0 then [] else [b])) ++ (if c = 0 then [] else [c])).length < 4; omega) (fun σ6 f6 h6 => ?_)
    refine ct_turnCount one_sc h6 ?_
    have fs : Fr (inSc 1) σ1 σ6 := f2.tr (f3.tr (f4.tr (f5.tr f6)))
    exact k σ6 (f1.tr (FrM.ofSc fs)) (cR.sc (A := (A.1, pushH A.2.1 A.1, A.2.2)) (okPush hA) h1 fs h6)
  have okE : okSp a b c e = (isSp a && isSpN b && isSpN c && isSpN e && !(decide (b = 0) && !decide (c = 0)) && !(decide (c = 0) && !decide (e = 0))) := rfl
  refine cgX5_spacings (ct_isSpacing (bI_br (fun ea => bad (by rw [okE, ea]; rfl)) (fun ea => ct_isSpacingOrNone (bI_br (fun eb => bad (by rw [okE, ea, eb]; rfl)) (fun eb => ct_isSpacingOrNone (bI_br (fun ec => bad (by rw [okE, ea, eb, ec]; rfl)) (fun ec => ct_isSpacingOrNone (bI_br' (fun ee => bad (by rw [okE, ea, eb, ec, ee]; rfl)) (fun ee => ?_)))))))))
  have okF : okSp a b c e = (!(decide (b = 0) && !decide (c = 0)) && !(decide (c = 0) && !decide (e = 0))) := by rw [okE, ea, eb, ec, ee]; rfl
  have gd := good ea eb ec ee
  refine br_c' (fun cb => br_c' (fun cc => gd ?_) (fun cc => br_c (fun ce => gd ?_) (fun ce => bad ?_))) (fun cb => br_c' (fun cc => bad ?_) (fun cc => br_c' (fun cc2 => absurd cc cc2) (fun _ => br_c (fun ce => gd ?_) (fun ce => bad ?_))))
  · rw [okF]; simp [cb, cc]
  · rw [okF]; simp [cb, cc, ce]
  · rw [okF]; simp [cb, cc, ce]
  · rw [okF]; simp [cb, cc]
  · rw [okF]; simp [cb, cc, ce]
  · rw [okF]; simp [cb, cc, ce]
end OPC2
/-! the legal states stay legal -/
theorem nI_bd {n : Nat} (h : n < 2 ^ 31) : (nI n).toInt = (n : Int) := nI_toInt h
theorem okS.sub {S : Sn} {L : List Tg} (h : okS S) (hl : L.length ≤ S.1.length) (hm : ∀ t ∈ L, t ∈ S.1) : okS (L, S.2) := ⟨Nat.le_trans hl h.1, fun t ht => h.2.1 t (hm t ht), h.2.2⟩
theorem okA.sc {A : Ab} {S : Sn} (hA : okA A) (hS : okS S) : okA (S, pushH A.2.1 A.1, A.2.2) := ⟨hS, (okPush hA).2⟩
theorem ok_target {A : Ab} {x s v w : Int32} (hw : w = 0 ∨ w = 1) (hA : okA A) : okA (opTarget A x s v w).2 := by
  unfold opTarget
  split
  next e =>
    refine okA.sc hA ?_
    unfold errT at e
    split at e
    · split at e
      · exact absurd e (by decide)
      · split at e
        next hb _ hl =>
          have hb1 := of_decide_eq_true hb.1
          refine ⟨by show (A.1.1 ++ _).length ≤ 6; rw [List.length_append]; simp; omega, fun t ht => ?_, hA.1.2.2⟩
          have ht' : t ∈ A.1.1 ++ [(x, s, v, w)] := ht
          rcases List.mem_append.mp ht' with h | h
          · exact hA.1.2.1 t h
          · simp at h
            subst h
            exact ⟨hb1.1, hb1.2.1, hb1.2.2, hw, fun hw1 => hb.2.elim (fun z => absurd (z.symm.trans hw1) (by decide)) id⟩
        · exact absurd e (by decide)
    · exact absurd e (by decide)
  next e => exact hA
theorem ok_drop {A : Ab} {x : Int32} (hA : okA A) : okA (opDrop A x).2 := by
  unfold opDrop
  split
  · exact okA.sc hA (hA.1.sub (by rw [List.length_eraseIdx]; split <;> omega) (fun t ht => List.mem_of_mem_eraseIdx ht))
  · exact hA
/-- toInt of a sum that stays in range -/
theorem tI_add {a b : Int32} (h1 : -2147483648 ≤ a.toInt + b.toInt) (h2 : a.toInt + b.toInt < 2147483648) : (a + b).toInt = a.toInt + b.toInt := by
  rw [Int32.toInt_add]
  exact Int.bmod_eq_of_le (by omega) (by omega)
theorem tI_sub {a b : Int32} (h1 : -2147483648 ≤ a.toInt - b.toInt) (h2 : a.toInt - b.toInt < 2147483648) : (a - b).toInt = a.toInt - b.toInt := by
  rw [Int32.toInt_sub]
  exact Int.bmod_eq_of_le (by omega) (by omega)
theorem tI_mul {a b : Int32} (h1 : -2147483648 ≤ a.toInt * b.toInt) (h2 : a.toInt * b.toInt < 2147483648) : (a * b).toInt = a.toInt * b.toInt := by
  rw [Int32.toInt_mul]
  exact Int.bmod_eq_of_le (by omega) (by omega)
theorem ok_go {A : Ab} (hA : okA A) : okA (opGo A).2 := by
  refine okA.sc hA ⟨?_, fun t ht => ?_, hA.1.2.2⟩
  · show (goL A.1).length ≤ 6
    unfold goL
    exact Nat.le_trans (List.length_filter_le _ _) (by rw [List.length_map]; exact hA.1.1)
  · have ht' : t ∈ goL A.1 := ht
    unfold goL at ht'
    obtain ⟨h1, h2⟩ := List.mem_filter.mp ht'
    obtain ⟨u, hu, rfl⟩ := List.mem_map.mp h1
    have hok := hA.1.2.1 u hu
    exact ⟨of_decide_eq_true h2, hok.2⟩
theorem ok_set {A : Ab} {x y : Int32} (hA : okA A) : okA (opSet A x y).2 := by
  unfold opSet
  obtain ⟨h1, h2, h3, h4, h5, h6, h7⟩ := id hA.1
  split
  next e => exact okA.sc hA ⟨h1, h2, h3, h4, h5, e.2, h7⟩
  · split
    next e => exact okA.sc hA ⟨h1, h2, h3, h4, h5, h6, e.2⟩
    · exact hA
theorem ok_spac {A : Ab} {a b c e : Int32} (hA : okA A) : okA (opSpac A a b c e).2 := by
  unfold opSpac
  split
  next hg =>
    obtain ⟨h1, h2, h3, h4, h5, h6, h7⟩ := id hA.1
    have mem : ∀ s, s ∈ lsSp a b c e → isSp s = true := by
      intro s hs
      have hN : ∀ z s : Int32, isSpN z = true → s ∈ (if z = 0 then ([] : List Int32) else [z]) → isSp s = true := by
        intro z s hz hs
        split at hs
        · simp at hs
        next hne => simp at hs; subst hs; unfold isSpN at hz; rw [decide_eq_false hne] at hz; exact hz
      unfold okSp at hg
      simp only [Bool.and_eq_true] at hg
      unfold lsSp at hs
      rcases List.mem_append.mp hs with hs | hs
      · rcases List.mem_append.mp hs with hs | hs
        · rcases List.mem_append.mp hs with hs | hs
          · simp at hs; subst hs; exact hg.1.1.1.1.1
          · exact hN b s hg.1.1.1.1.2 hs
        · exact hN c s hg.1.1.1.2 hs
      · exact hN e s hg.1.1.2 hs
    have len : 1 ≤ (lsSp a b c e).length ∧ (lsSp a b c e).length ≤ 4 := by
      unfold lsSp
      simp only [List.length_append]
      have : ∀ z : Int32, (if z = 0 then ([] : List Int32) else [z]).length ≤ 1 := fun z => by split <;> simp
      have tb := this b
      have tc := this c
      have te := this e
      simp only [List.length_cons, List.length_nil]
      omega
    exact okA.sc hA ⟨h1, h2, len.1, len.2, fun s hs => of_decide_eq_true (mem s hs), h6, h7⟩
  · exact hA
theorem ok_append {A : Ab} {x : Int32} (hA : okA A) : okA (opAppend A x).2 := by
  unfold opAppend
  split
  · split
    · obtain ⟨h1, h2, h3, h4, h5, h6⟩ := id hA
      refine ⟨h1, h2, h3, h4, by show (A.2.2.2 ++ [x]).length ≤ 60; rw [List.length_append]; simp; omega, fun c hc => ?_⟩
      have hc' : c ∈ A.2.2.2 ++ [x] := hc
      rcases List.mem_append.mp hc' with h | h
      · exact h6 c h
      · simp at h; subst h; assumption
    · exact hA
  · exact hA
theorem ok_clear {A : Ab} (hA : okA A) : okA (opClear A).2 := ⟨hA.1, hA.2.1, hA.2.2.1, hA.2.2.2.1, Nat.zero_le _, fun c hc => by cases hc⟩
theorem ok_save {A : Ab} (hA : okA A) : okA (opSave A).2 := ⟨hA.1, hA.2.1, hA.2.2.1, fun T hT => by cases hT; exact hA.1, hA.2.2.2.2⟩
theorem ok_restore {A : Ab} (hA : okA A) : okA (opRestore A).2 := by
  unfold opRestore
  split
  · exact hA
  next T hT => exact okA.sc hA (hA.2.2.2.1 T hT)
theorem ok_undo {A : Ab} (hA : okA A) : okA (opUndo A).2 := by
  unfold opUndo
  split
  · exact hA
  next T hT =>
    have hT' : A.2.1[A.2.1.length - 1]? = some T := by rw [← List.getLast?_eq_getElem?]; exact hT
    refine ⟨hA.2.2.1 T (List.mem_of_getElem? hT'), by show A.2.1.dropLast.length ≤ 4; rw [List.length_dropLast]; have := hA.2.1; omega, fun U hU => hA.2.2.1 U ((List.dropLast_sublist _).subset hU), hA.2.2.2⟩
