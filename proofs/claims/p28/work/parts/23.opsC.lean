/-! the calls that change the scene: what they answer and leave; the class -/
def okB (x s v : Int32) : Bool := decide ((1 ≤ x.toInt ∧ x.toInt ≤ 300) ∧ (1 ≤ s.toInt ∧ s.toInt ≤ 99) ∧ (-5 ≤ v.toInt ∧ v.toInt ≤ 5))
/-- the error of a target that would come, or 0 -/
def errT (S : Sn) (x s v w : Int32) : Int32 := if okB x s v = true ∧ (w = 0 ∨ v = 0) then (if S.1.any (isAt x v) then -2 else if S.1.length < 6 then 0 else -3) else -1
def opTarget (A : Ab) (x s v w : Int32) : Int32 × Ab := if errT A.1 x s v w = 0 then (nI A.1.1.length, ((A.1.1 ++ [(x, s, v, w)], A.1.2), pushH A.2.1 A.1, A.2.2)) else (errT A.1 x s v w, A)
def inR (n : Nat) (x : Int32) : Bool := decide (0 ≤ x.toInt ∧ x.toInt < (n : Int))
def opDrop (A : Ab) (x : Int32) : Int32 × Ab := if inR A.1.1.length x then (nI (A.1.1.length - 1), ((A.1.1.eraseIdx (ix x), A.1.2), pushH A.2.1 A.1, A.2.2)) else (-1, A)
def goL (S : Sn) : List Tg := (S.1.map (mvT S.2.1.length)).filter inT
def opGo (A : Ab) : Int32 × Ab := (nI (goL A.1).length, ((goL A.1, A.1.2), pushH A.2.1 A.1, A.2.2))
def isSp (x : Int32) : Bool := decide (10 ≤ x.toInt ∧ x.toInt ≤ 50)
def okSp (a b c e : Int32) : Bool := isSp a && (decide (b = 0) || isSp b) && (decide (c = 0) || isSp c) && (decide (e = 0) || isSp e) && !(decide (b = 0) && !decide (c = 0)) && !(decide (c = 0) && !decide (e = 0))
def lsSp (a b c e : Int32) : List Int32 := [a] ++ (if b = 0 then [] else [b]) ++ (if c = 0 then [] else [c]) ++ (if e = 0 then [] else [e])
def opSpac (A : Ab) (a b c e : Int32) : Int32 × Ab := if okSp a b c e then (nI (lsSp a b c e).length, ((A.1.1, lsSp a b c e, A.1.2.2), pushH A.2.1 A.1, A.2.2)) else (-1, A)
def opSet (A : Ab) (x y : Int32) : Int32 × Ab :=
  if x = 0 ∧ (0 ≤ y.toInt ∧ y.toInt ≤ 9) then (A.1.2.2.1, ((A.1.1, A.1.2.1, y, A.1.2.2.2), pushH A.2.1 A.1, A.2.2))
  else if x = 1 ∧ (1 ≤ y.toInt ∧ y.toInt ≤ 99) then (A.1.2.2.2, ((A.1.1, A.1.2.1, A.1.2.2.1, y), pushH A.2.1 A.1, A.2.2)) else (-1, A)
theorem lit_i (n : Nat) : (OfNat.ofNat n : Int32) = nI n := rfl
theorem wOK {S : Sn} (h : okS S) : ∀ t ∈ S.1, t.2.2.2 = 0 ∨ t.2.2.2 = 1 := fun t ht => (h.2.1 t ht).2.2.2.1
section OPC
variable {d : Nat} {σ : St} {A : Ab}
theorem FrM.ofSc {σ' : St} (f : Fr (inSc 1) σ σ') : FrM σ σ' := f.M (fun c hc => by unfold inSc at hc; omega)
theorem k1 : (1 : Int32).toInt = 1 := by decide
theorem k300 : (300 : Int32).toInt = 300 := by decide +kernel
theorem k99 : (99 : Int32).toInt = 99 := by decide +kernel
theorem km5 : (-5 : Int32).toInt = -5 := by decide +kernel
theorem k5 : (5 : Int32).toInt = 5 := by decide +kernel
theorem k0 : (0 : Int32).toInt = 0 := by decide
theorem k9 : (9 : Int32).toInt = 9 := by decide +kernel
theorem k10 : (10 : Int32).toInt = 10 := by decide +kernel
theorem k50 : (50 : Int32).toInt = 50 := by decide +kernel
/-- a Bool as the machine has it, looked at -/
theorem bI_br {b : Bool} {P Q : Prop} (h0 : b = false → P) (h1 : b = true → Q) : (bI b = 0 → P) ∧ (¬ bI b = 0 → Q) := by
  cases b
  · exact br_t rfl (h0 rfl)
  · exact br_f one_ne (h1 rfl)
theorem bI_br' {b : Bool} {P Q : Prop} (h0 : b = false → P) (h1 : b = true → Q) : (¬ bI b = 0 → Q) ∧ (bI b = 0 → P) := (bI_br h0 h1).symm
theorem ct_comingError {K : Int32 → St → Prop} {x s v w : Int32} (hA : okS A.1) (h : cR σ A) (k : K (errT A.1 x s v w) σ) : CallI (d + 4) mX5_comingError [.ref 0, .int x, .int s, .int v, .int w] σ K := by
  unfold errT okB at k
  have tail : (w = 0 ∨ v = 0) → ((1 ≤ x.toInt ∧ x.toInt ≤ 300) ∧ (1 ≤ s.toInt ∧ s.toInt ≤ 99) ∧ (-5 ≤ v.toInt ∧ v.toInt ≤ 5)) → CallI (d + 3) mX3_holds [.ref 1, .int x, .int v] σ (fun r12 s11 => (r12 = 0 → CallI (d + 3) mX3_targetCount [.ref 1] s11 (fun r15 s14 => (r15 < 6 → K 0 s14) ∧ (¬ r15 < 6 → K (-3) s14))) ∧ (¬ r12 = 0 → K (-2) s11)) := by
    intro hw hb
    rw [decide_eq_true hb, if_pos ⟨rfl, hw⟩] at k
    refine ct_holds one_sc h.1 hA.1 (bI_br (fun e => ?_) (fun e => ?_))
    · rw [e, if_neg (by decide)] at k
      refine ct_targetCount one_sc h.1 (pk_lt A.1.1.length 6 (fun e2 => ?_) (fun e2 => ?_) rfl rfl (by have := hA.1; omega))
      · rw [if_pos e2] at k; exact k
      · rw [if_neg (by omega)] at k; exact k
    · rw [e, if_pos rfl] at k; exact k
  refine cgX5_comingError (ct_isWithin (bI_br (fun e => ?_) (fun e1 => ct_isWithin (bI_br (fun e => ?_) (fun e2 => ct_isWithin (bI_br (fun e => ?_) (fun e3 => ?_)))))))
  · rw [k1, k300] at e
    rw [if_neg (fun z => of_decide_eq_false e (of_decide_eq_true z.1).1)] at k; exact k
  · rw [k1, k99] at e
    rw [if_neg (fun z => of_decide_eq_false e (of_decide_eq_true z.1).2.1)] at k; exact k
  · rw [km5, k5] at e
    rw [if_neg (fun z => of_decide_eq_false e (of_decide_eq_true z.1).2.2)] at k; exact k
  · rw [k1, k300] at e1
    rw [k1, k99] at e2
    rw [km5, k5] at e3
    have hb := And.intro (of_decide_eq_true e1) (And.intro (of_decide_eq_true e2) (of_decide_eq_true e3))
    refine br_c (fun c => tail (Or.inl c) hb) (fun c => br_c (fun c2 => tail (Or.inr c2) hb) (fun c2 => ?_))
    rw [if_neg (fun z => z.2.elim c c2)] at k; exact k
theorem ct_X5_target {K : Int32 → St → Prop} {x s v w : Int32} (hw : w = 0 ∨ w = 1) (hA : okA A) (h : cR σ A) (k : ∀ σ', FrM σ σ' → cR σ' (opTarget A x s v w).2 → K (opTarget A x s v w).1 σ') : CallI (d + 5) mX5_target [.ref 0, .int x, .int s, .int v, .int w] σ K := by
  unfold opTarget at k
  refine cgX5_target (ct_comingError hA.1 h ?_)
  refine br_c (fun e => ?_) (fun e => ?_)
  · rw [if_pos e] at k
    have hl : A.1.1.length < 6 := by
      unfold errT at e
      split at e
      · split at e
        · exact absurd e (by decide)
        · split at e
          · assumption
          · exact absurd e (by decide)
      · exact absurd e (by decide)
    refine ct_remember hA h (fun σ1 f1 h1 => ?_)
    refine ct_join (t := (x, s, v, w)) one_sc h1.1 hl hw (fun σ2 f2 h2 => ?_)
    exact k σ2 (f1.tr (FrM.ofSc f2)) (cR.sc (A := (A.1, pushH A.2.1 A.1, A.2.2)) (okPush hA) h1 f2 h2)
  · rw [if_neg e] at k
    exact k σ (FrM.rf σ) h
theorem ix_cases {n : Nat} (x : Int32) (hn : n < 2 ^ 31) : (inR n x = false ∧ (x < 0 ∨ nI n ≤ x)) ∨ ∃ j, j < n ∧ x = nI j ∧ inR n x = true := by
  rcases pk_ix x hn with hx | hx | ⟨j, hj, rfl⟩
  · left
    refine ⟨decide_eq_false ?_, Or.inl hx⟩
    rw [Int32.lt_iff_toInt_lt, k0] at hx; omega
  · left
    refine ⟨decide_eq_false ?_, Or.inr hx⟩
    rw [Int32.le_iff_toInt_le, nI_toInt hn] at hx; omega
  · right
    refine ⟨j, hj, rfl, decide_eq_true ?_⟩
    rw [nI_toInt (by omega)]; omega
theorem ct_X5_drop {K : Int32 → St → Prop} {x : Int32} (hA : okA A) (h : cR σ A) (k : ∀ σ', FrM σ σ' → cR σ' (opDrop A x).2 → K (opDrop A x).1 σ') : CallI (d + 5) mX5_drop [.ref 0, .int x] σ K := by
  unfold opDrop at k
  have hl := hA.1.1
  refine cgX5_drop ?_
  rcases ix_cases (n := A.1.1.length) x (by omega) with ⟨e, hx⟩ | ⟨j, hj, rfl, e⟩
  · rw [e, if_neg (by decide)] at k
    exact ct_has0 one_sc h.1 hx (br_c' (fun c => absurd rfl c) (fun _ => k σ (FrM.rf σ) h))
  · rw [e, if_pos rfl, ix_nI (by omega)] at k
    refine ct_has one_sc h.1 hl hj (br_c' (fun _ => ?_) (fun c => absurd c one_ne))
    refine ct_remember hA h (fun σ1 f1 h1 => ?_)
    refine ct_leave one_sc h1.1 hl (wOK hA.1) hj (fun σ2 f2 h2 => ?_)
    refine ct_targetCount one_sc h2 ?_
    have hlen : (A.1.1.eraseIdx j).length = A.1.1.length - 1 := List.length_eraseIdx_of_lt hj
    show K (nI (A.1.1.eraseIdx j).length) σ2
    rw [hlen]
    exact k σ2 (f1.tr (FrM.ofSc f2)) (cR.sc (A := (A.1, pushH A.2.1 A.1, A.2.2)) (okPush hA) h1 f2 h2)
theorem ct_X5_go {K : Int32 → St → Prop} (hA : okA A) (h : cR σ A) (k : ∀ σ', FrM σ σ' → cR σ' (opGo A).2 → K (opGo A).1 σ') : CallI (d + 5) mX5_go [.ref 0] σ K := by
  refine cgX5_go (ct_remember hA h (fun σ1 f1 h1 => ?_))
  refine ct_moveAll one_sc h1.1 hA.1.1 (wOK hA.1) (fun σ2 f2 h2 => ?_)
  refine ct_targetCount one_sc h2 ?_
  exact k σ2 (f1.tr (FrM.ofSc f2)) (cR.sc (A := (A.1, pushH A.2.1 A.1, A.2.2)) (okPush hA) h1 f2 h2)
theorem ct_X5_set {K : Int32 → St → Prop} {x y : Int32} (hA : okA A) (h : cR σ A) (k : ∀ σ', FrM σ σ' → cR σ' (opSet A x y).2 → K (opSet A x y).1 σ') : CallI (d + 3) mX5_set [.ref 0, .int x, .int y] σ K := by
  unfold opSet at k
  have loud : x = 1 → CallI (d + 2) mX5_isWithin [.int y, .int 1, .int 99] σ (fun r4 s3 => (r4 = 0 → K (-1) s3) ∧ (¬ r4 = 0 → CallU (d + 2) mX5_remember [.ref 0] s3 (fun s6 => CallI (d + 2) mX3_changeLoud [.ref 1, .int y] s6 (fun r8 s7 => K r8 s7)))) := by
    intro hx
    subst hx
    rw [if_neg (fun z => one_ne z.1)] at k
    refine ct_isWithin (bI_br (fun e => ?_) (fun e => ?_))
    · rw [k1, k99] at e
      rw [if_neg (fun z => of_decide_eq_false e z.2)] at k
      exact k σ (FrM.rf σ) h
    · rw [k1, k99] at e
      rw [if_pos ⟨rfl, of_decide_eq_true e⟩] at k
      refine ct_remember hA h (fun σ1 f1 h1 => ?_)
      refine ct_changeLoud one_sc h1.1 (fun σ2 f2 h2 => ?_)
      exact k σ2 (f1.tr (FrM.ofSc f2)) (cR.sc (A := (A.1, pushH A.2.1 A.1, A.2.2)) (okPush hA) h1 f2 h2)
  refine cgX5_set (br_c' (fun c => br_c' (fun c1 => ?_) (fun c1 => loud c1)) (fun c => ?_))
  · rw [if_neg (fun z => c z.1), if_neg (fun z => c1 z.1)] at k
    exact k σ (FrM.rf σ) h
  · subst c
    refine ct_isWithin (bI_br (fun e => ?_) (fun e => ?_))
    · rw [k0, k9] at e
      rw [if_neg (fun z => of_decide_eq_false e z.2), if_neg (fun z => absurd z.1 (by decide))] at k
      exact br_c' (fun _ => k σ (FrM.rf σ) h) (fun c => absurd c (by decide))
    · rw [k0, k9] at e
      rw [if_pos ⟨rfl, of_decide_eq_true e⟩] at k
      refine ct_remember hA h (fun σ1 f1 h1 => ?_)
      refine ct_changeBlind one_sc h1.1 (fun σ2 f2 h2 => ?_)
      exact k σ2 (f1.tr (FrM.ofSc f2)) (cR.sc (A := (A.1, pushH A.2.1 A.1, A.2.2)) (okPush hA) h1 f2 h2)
end OPC
