/-! append, clear, spacings of the class; the legal states -/
theorem k33 : (33 : Int32).toInt = 33 := by decide +kernel
theorem k126 : (126 : Int32).toInt = 126 := by decide +kernel
theorem pos_nI {x : Int32} (h : 0 ≤ x.toInt) : ∃ n, n < 2 ^ 31 ∧ x = nI n := nI_of (fun c => by rw [Int32.lt_iff_toInt_lt, k0] at c; omega)
theorem ch_i2c {x : Int32} (h : 0 ≤ x.toInt) (h2 : x.toInt ≤ 65535) : (x.toUInt32 % 65536).toInt32 = x := by
  obtain ⟨n, hn, rfl⟩ := pos_nI h
  rw [nI_toInt hn] at h2
  rw [pk_char, pk_tn (by omega), Nat.mod_eq_of_lt (by omega)]
theorem ch_nch {x : Int32} (h : 0 ≤ x.toInt) (h2 : x.toInt ≤ 65535) : nch x = x := by
  obtain ⟨n, hn, rfl⟩ := pos_nI h
  rw [nI_toInt hn] at h2
  have := (pk_charN (q := n) (by omega)).1
  show vp_nar .char (nI n) = nI n
  unfold vp_nar
  rw [this]
theorem ch_nar {x : Int32} (h : 0 ≤ x.toInt) (h2 : x.toInt ≤ 65535) : narrow .char (.int x) = .int x := by
  obtain ⟨n, hn, rfl⟩ := pos_nI h
  rw [nI_toInt hn] at h2
  exact (pk_charN (q := n) (by omega)).1
section OPC2
variable {d : Nat} {σ : St} {A : Ab}
theorem ct_isSpacing {K : Int32 → St → Prop} {x : Int32} (k : K (bI (isSp x)) σ) : CallI (d + 2) mX5_isSpacing [.int x] σ K := by
  refine cgX5_isSpacing (ct_isWithin ?_)
  rw [k10, k50]
  exact ⟨nar_b (bI_01 _), k⟩
def isSpN (x : Int32) : Bool := decide (x = 0) || isSp x
theorem ct_isSpacingOrNone {K : Int32 → St → Prop} {x : Int32} (k : K (bI (isSpN x)) σ) : CallI (d + 3) mX5_isSpacingOrNone [.int x] σ K := by
  refine cgX5_isSpacingOrNone (br_c (fun c => ?_) (fun c => ct_isSpacing (bI_br (fun e => ?_) (fun e => ?_))))
  · unfold isSpN at k; rw [decide_eq_true c] at k; exact k
  · unfold isSpN at k; rw [decide_eq_false c, e] at k; exact k
  · unfold isSpN at k; rw [decide_eq_false c, e] at k; exact k
theorem isSp_pos {x : Int32} (h : isSp x = true) : ¬ x ≤ 0 ∧ ¬ x = 0 := by
  have := of_decide_eq_true h
  refine ⟨fun c => ?_, fun c => ?_⟩
  · rw [Int32.le_iff_toInt_le, k0] at c; omega
  · rw [c, k0] at this; omega
/-- one spacing more, none if it is 0 -/
theorem ct_addT {K : St → Prop} {S : Sn} {x : Int32} (hx : isSpN x = true) (hS : cSc σ 1 S) (hn : S.2.1.length < 4) (h : ∀ σ', Fr (inSc 1) σ σ' → cSc σ' 1 (S.1, S.2.1 ++ (if x = 0 then [] else [x]), S.2.2) → K σ') : CallU (d + 1) mX3_addTurn [.ref 1, .int x] σ K := by
  by_cases c : x = 0
  · subst c
    refine ct_addTurn0 one_sc (Int32.le_refl _) (h σ (Fr.rf σ) ?_)
    rw [if_pos rfl, List.append_nil]
    exact hS
  · rw [if_neg c] at h
    have hs : isSp x = true := by unfold isSpN at hx; rw [decide_eq_false c] at hx; exact hx
    exact ct_addTurn one_sc hS hn (isSp_pos hs).1 h
theorem ct_X5_spacings {K : Int32 → St → Prop} {a b c e : Int32} (hA : okA A) (h : cR σ A) (k : ∀ σ', FrM σ σ' → cR σ' (opSpac A a b c e).2 → K (opSpac A a b c e).1 σ') : CallI (d + 4) mX5_spacings [.ref 0, .int a, .int b, .int c, .int e] σ K := by
  unfold opSpac at k
  have bad : okSp a b c e = false → K (-1) σ := fun z => by rw [z, if_neg (by decide)] at k; exact k σ (FrM.rf σ) h
  have good : isSp a = true → isSpN b = true → isSpN c = true → isSpN e = true → okSp a b c e = true → CallU (d + 3) mX5_remember [.ref 0] σ (fun s15 => CallU (d + 3) mX3_forgetTurns [.ref 1] s15 (fun s16 => CallU (d + 3) mX3_addTurn [.ref 1, .int a] s16 (fun s17 => CallU (d + 3) mX3_addTurn [.ref 1, .int b] s17 (fun s18 => CallU (d + 3) mX3_addTurn [.ref 1, .int c] s18 (fun s19 => CallU (d + 3) mX3_addTurn [.ref 1, .int e] s19 (fun s20 => CallI (d + 3) mX3_turnCount [.ref 1] s20 (fun r22 s21 => K r22 s21))))))) := by
    intro ha hb hc he hok
    rw [hok, if_pos rfl] at k
    refine ct_remember hA h (fun σ1 f1 h1 => ?_)
    refine ct_forgetTurns one_sc h1.1 (fun σ2 f2 h2 => ?_)
    refine ct_addT (by unfold isSpN; rw [ha, Bool.or_true]) h2 (by simp) (fun σ3 f3 h3 => ?_)
    rw [if_neg (isSp_pos ha).2] at h3
    refine ct_addT hb h3 (by simp) (fun σ4 f4 h4 => ?_)
    have l4 : (([] ++ [a]) ++ (if b = 0 then [] else [b])).length ≤ 2 := by split <;> simp
    refine ct_addT hc h4 (by show (([] ++ [a]) ++ (if b = 0 then [] else [b])).length < 4; omega) (fun σ5 f5 h5 => ?_)
    have l5 : ((([] ++ [a]) ++ (if b = 0 then [] else [b])) ++ (if c = 0 then [] else [c])).length ≤ 3 := by
      rw [List.length_append]
      have : (if c = 0 then ([] : List Int32) else [c]).length ≤ 1 := by split <;> simp
      omega
    refine ct_addT he h5 (by show ((([] ++ [a]) ++ (if b = 0 then [] else [b])) ++ (if c = 0 then [] else [c])).length < 4; omega) (fun σ6 f6 h6 => ?_)
    refine ct_turnCount one_sc h6 ?_
    have fs : Fr (inSc 1) σ1 σ6 := f2.tr (f3.tr (f4.tr (f5.tr f6)))
    exact k σ6 (f1.tr (FrM.ofSc fs)) (cR.sc (A := (A.1, pushH A.2.1 A.1, A.2.2)) (okPush hA) h1 fs h6)
  have okE : okSp a b c e = (isSp a && isSpN b && isSpN c && isSpN e && !(decide (b = 0) && !decide (c = 0)) && !(decide (c = 0) && !decide (e = 0))) := rfl
  refine cgX5_spacings (ct_isSpacing (bI_br (fun ea => bad (by rw [okE, ea]; rfl)) (fun ea => ct_isSpacingOrNone (bI_br (fun eb => bad (by rw [okE, ea, eb]; rfl)) (fun eb => ct_isSpacingOrNone (bI_br (fun ec => bad (by rw [okE, ea, eb, ec]; rfl)) (fun ec => ct_isSpacingOrNone (bI_br' (fun ee => bad (by rw [okE, ea, eb, ec, ee]; rfl)) (fun ee => ?_)))))))))
  have okF : okSp a b c e = (!(decide (b = 0) && !decide (c = 0)) && !(decide (c = 0) && !decide (e = 0))) := by rw [okE, ea, eb, ec, ee]; rfl
  have gd := good ea eb ec ee
  refine br_c' (fun cb => br_c' (fun cc => gd ?_) (fun cc => br_c (fun ce => gd ?_) (fun ce => bad ?_))) (fun cb => br_c' (fun cc => bad ?_) (fun cc => br_c' (fun cc2 => absurd cc cc2) (fun _ => br_c (fun ce => gd ?_) (fun ce => bad ?_))))
  · rw [okF]; simp [cb, cc]
  · rw [okF]; simp [cb, cc, ce]
  · rw [okF]; simp [cb, cc, ce]
  · rw [okF]; simp [cb, cc]
  · rw [okF]; simp [cb, cc, ce]
  · rw [okF]; simp [cb, cc, ce]
end OPC2
/-! the legal states stay legal -/
theorem nI_bd {n : Nat} (h : n < 2 ^ 31) : (nI n).toInt = (n : Int) := nI_toInt h
theorem okS.sub {S : Sn} {L : List Tg} (h : okS S) (hl : L.length ≤ S.1.length) (hm : ∀ t ∈ L, t ∈ S.1) : okS (L, S.2) := ⟨Nat.le_trans hl h.1, fun t ht => h.2.1 t (hm t ht), h.2.2⟩
theorem okA.sc {A : Ab} {S : Sn} (hA : okA A) (hS : okS S) : okA (S, pushH A.2.1 A.1, A.2.2) := ⟨hS, (okPush hA).2⟩
theorem ok_target {A : Ab} {x s v w : Int32} (hw : w = 0 ∨ w = 1) (hA : okA A) : okA (opTarget A x s v w).2 := by
  unfold opTarget
  split
  next e =>
    refine okA.sc hA ?_
    unfold errT at e
    split at e
    · split at e
      · exact absurd e (by decide)
      · split at e
        next hb _ hl =>
          have hb1 := of_decide_eq_true hb.1
          refine ⟨by show (A.1.1 ++ _).length ≤ 6; rw [List.length_append]; simp; omega, fun t ht => ?_, hA.1.2.2⟩
          have ht' : t ∈ A.1.1 ++ [(x, s, v, w)] := ht
          rcases List.mem_append.mp ht' with h | h
          · exact hA.1.2.1 t h
          · simp at h
            subst h
            exact ⟨hb1.1, hb1.2.1, hb1.2.2, hw, fun hw1 => hb.2.elim (fun z => absurd (z.symm.trans hw1) (by decide)) id⟩
        · exact absurd e (by decide)
    · exact absurd e (by decide)
  next e => exact hA
theorem ok_drop {A : Ab} {x : Int32} (hA : okA A) : okA (opDrop A x).2 := by
  unfold opDrop
  split
  · exact okA.sc hA (hA.1.sub (by rw [List.length_eraseIdx]; split <;> omega) (fun t ht => List.mem_of_mem_eraseIdx ht))
  · exact hA
/-- toInt of a sum that stays in range -/
theorem tI_add {a b : Int32} (h1 : -2147483648 ≤ a.toInt + b.toInt) (h2 : a.toInt + b.toInt < 2147483648) : (a + b).toInt = a.toInt + b.toInt := by
  rw [Int32.toInt_add]
  exact Int.bmod_eq_of_le (by omega) (by omega)
theorem tI_sub {a b : Int32} (h1 : -2147483648 ≤ a.toInt - b.toInt) (h2 : a.toInt - b.toInt < 2147483648) : (a - b).toInt = a.toInt - b.toInt := by
  rw [Int32.toInt_sub]
  exact Int.bmod_eq_of_le (by omega) (by omega)
theorem tI_mul {a b : Int32} (h1 : -2147483648 ≤ a.toInt * b.toInt) (h2 : a.toInt * b.toInt < 2147483648) : (a * b).toInt = a.toInt * b.toInt := by
  rw [Int32.toInt_mul]
  exact Int.bmod_eq_of_le (by omega) (by omega)
theorem ok_go {A : Ab} (hA : okA A) : okA (opGo A).2 := by
  refine okA.sc hA ⟨?_, fun t ht => ?_, hA.1.2.2⟩
  · show (goL A.1).length ≤ 6
    unfold goL
    exact Nat.le_trans (List.length_filter_le _ _) (by rw [List.length_map]; exact hA.1.1)
  · have ht' : t ∈ goL A.1 := ht
    unfold goL at ht'
    obtain ⟨h1, h2⟩ := List.mem_filter.mp ht'
    obtain ⟨u, hu, rfl⟩ := List.mem_map.mp h1
    have hok := hA.1.2.1 u hu
    exact ⟨of_decide_eq_true h2, hok.2⟩
theorem ok_set {A : Ab} {x y : Int32} (hA : okA A) : okA (opSet A x y).2 := by
  unfold opSet
  obtain ⟨h1, h2, h3, h4, h5, h6, h7⟩ := id hA.1
  split
  next e => exact okA.sc hA ⟨h1, h2, h3, h4, h5, e.2, h7⟩
  · split
    next e => exact okA.sc hA ⟨h1, h2, h3, h4, h5, h6, e.2⟩
    · exact hA
theorem ok_spac {A : Ab} {a b c e : Int32} (hA : okA A) : okA (opSpac A a b c e).2 := by
  unfold opSpac
  split
  next hg =>
    obtain ⟨h1, h2, h3, h4, h5, h6, h7⟩ := id hA.1
    have mem : ∀ s, s ∈ lsSp a b c e → isSp s = true := by
      intro s hs
      have hN : ∀ z s : Int32, isSpN z = true → s ∈ (if z = 0 then ([] : List Int32) else [z]) → isSp s = true := by
        intro z s hz hs
        split at hs
        · simp at hs
        next hne => simp at hs; subst hs; unfold isSpN at hz; rw [decide_eq_false hne] at hz; exact hz
      unfold okSp at hg
      simp only [Bool.and_eq_true] at hg
      unfold lsSp at hs
      rcases List.mem_append.mp hs with hs | hs
      · rcases List.mem_append.mp hs with hs | hs
        · rcases List.mem_append.mp hs with hs | hs
          · simp at hs; subst hs; exact hg.1.1.1.1.1
          · exact hN b s hg.1.1.1.1.2 hs
        · exact hN c s hg.1.1.1.2 hs
      · exact hN e s hg.1.1.2 hs
    have len : 1 ≤ (lsSp a b c e).length ∧ (lsSp a b c e).length ≤ 4 := by
      unfold lsSp
      simp only [List.length_append]
      have : ∀ z : Int32, (if z = 0 then ([] : List Int32) else [z]).length ≤ 1 := fun z => by split <;> simp
      have tb := this b
      have tc := this c
      have te := this e
      simp only [List.length_cons, List.length_nil]
      omega
    exact okA.sc hA ⟨h1, h2, len.1, len.2, fun s hs => of_decide_eq_true (mem s hs), h6, h7⟩
  · exact hA
