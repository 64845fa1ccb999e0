/-! truth: doubles -/
theorem wb_808 : Cond.instanceMethod yX5_truth ∈ tbg := tbAt (i := 808) (by decide +kernel) (by decide +kernel)
theorem wb_809 : Cond.selects RX5 yX5_truth yX5_truth ∈ tbg := tbAt (i := 809) (by decide +kernel) (by decide +kernel)
theorem wb_810 : Cond.code yX5_truth cX5_truth 2 (some .double) ∈ tbg := tbAt (i := 810) (by decide +kernel) (by decide +kernel)
theorem wb_1097 : Cond.instanceMethod yX6_truth ∈ tbg := tbAt (i := 1097) (by decide +kernel) (by decide +kernel)
theorem wb_1098 : Cond.selects RX6 yX6_truth yX6_truth ∈ tbg := tbAt (i := 1098) (by decide +kernel) (by decide +kernel)
theorem wb_1099 : Cond.code yX6_truth cX6_truth 2 (some .double) ∈ tbg := tbAt (i := 1099) (by decide +kernel) (by decide +kernel)
def mX5_truth : MI := (yX5_truth, cX5_truth, 2, some .double)
def mX6_truth : MI := (yX6_truth, cX6_truth, 2, some .double)
theorem mk_X5_truth : mOKV mX5_truth 5 0 := ⟨wb_808, wb_809, wb_72, wb_810, ⟨_, rfl, rfl⟩, ⟨by decide +kernel, by decide +kernel⟩, by decide +kernel, by decide⟩
theorem mk_X6_truth : mOKV mX6_truth 6 0 := ⟨wb_1097, wb_1098, wb_78, wb_1099, ⟨_, rfl, rfl⟩, ⟨by decide +kernel, by decide +kernel⟩, by decide +kernel, by decide⟩
theorem dX5_truth_0 : decode cX5_truth 0 = .ok (.aload_n 0, 1) := by decide +kernel
theorem dX5_truth_1 : decode cX5_truth 1 = .ok (.getfield 50, 3) := by decide +kernel
theorem dX5_truth_4 : decode cX5_truth 4 = .ok (.aload_n 0, 1) := by decide +kernel
theorem dX5_truth_5 : decode cX5_truth 5 = .ok (.getfield 12, 3) := by decide +kernel
theorem dX5_truth_8 : decode cX5_truth 8 = .ok (.invokevirtual 163, 3) := by decide +kernel
theorem dX5_truth_11 : decode cX5_truth 11 = .ok (.aload_n 0, 1) := by decide +kernel
theorem dX5_truth_12 : decode cX5_truth 12 = .ok (.getfield 50, 3) := by decide +kernel
theorem dX5_truth_15 : decode cX5_truth 15 = .ok (.invokevirtual 231, 3) := by decide +kernel
theorem dX5_truth_18 : decode cX5_truth 18 = .ok (.istore_n 1, 1) := by decide +kernel
theorem dX5_truth_19 : decode cX5_truth 19 = .ok (.iload_n 1, 1) := by decide +kernel
theorem dX5_truth_20 : decode cX5_truth 20 = .ok (.ifCond .ne 5, 3) := by decide +kernel
theorem dX5_truth_23 : decode cX5_truth 23 = .ok (.dconst 1, 1) := by decide +kernel
theorem dX5_truth_24 : decode cX5_truth 24 = .ok (.dreturn, 1) := by decide +kernel
theorem dX5_truth_25 : decode cX5_truth 25 = .ok (.aload_n 0, 1) := by decide +kernel
theorem dX5_truth_26 : decode cX5_truth 26 = .ok (.getfield 50, 3) := by decide +kernel
theorem dX5_truth_29 : decode cX5_truth 29 = .ok (.invokevirtual 234, 3) := by decide +kernel
theorem dX5_truth_32 : decode cX5_truth 32 = .ok (.i2d, 1) := by decide +kernel
theorem dX5_truth_33 : decode cX5_truth 33 = .ok (.iload_n 1, 1) := by decide +kernel
theorem dX5_truth_34 : decode cX5_truth 34 = .ok (.i2d, 1) := by decide +kernel
theorem dX5_truth_35 : decode cX5_truth 35 = .ok (.ddiv, 1) := by decide +kernel
theorem dX5_truth_36 : decode cX5_truth 36 = .ok (.dreturn, 1) := by decide +kernel
theorem dX6_truth_0 : decode cX6_truth 0 = .ok (.aload_n 0, 1) := by decide +kernel
theorem dX6_truth_1 : decode cX6_truth 1 = .ok (.invokevirtual 117, 3) := by decide +kernel
theorem dX6_truth_4 : decode cX6_truth 4 = .ok (.aload_n 0, 1) := by decide +kernel
theorem dX6_truth_5 : decode cX6_truth 5 = .ok (.iconst 0, 1) := by decide +kernel
theorem dX6_truth_6 : decode cX6_truth 6 = .ok (.invokevirtual 139, 3) := by decide +kernel
theorem dX6_truth_9 : decode cX6_truth 9 = .ok (.istore_n 1, 1) := by decide +kernel
theorem dX6_truth_10 : decode cX6_truth 10 = .ok (.iload_n 1, 1) := by decide +kernel
theorem dX6_truth_11 : decode cX6_truth 11 = .ok (.ifCond .ne 7, 3) := by decide +kernel
theorem dX6_truth_14 : decode cX6_truth 14 = .ok (.dconst 1, 1) := by decide +kernel
theorem dX6_truth_15 : decode cX6_truth 15 = .ok (.goto 14, 3) := by decide +kernel
theorem dX6_truth_18 : decode cX6_truth 18 = .ok (.iload_n 1, 1) := by decide +kernel
theorem dX6_truth_19 : decode cX6_truth 19 = .ok (.aload_n 0, 1) := by decide +kernel
theorem dX6_truth_20 : decode cX6_truth 20 = .ok (.iconst 1, 1) := by decide +kernel
theorem dX6_truth_21 : decode cX6_truth 21 = .ok (.invokevirtual 139, 3) := by decide +kernel
theorem dX6_truth_24 : decode cX6_truth 24 = .ok (.isub, 1) := by decide +kernel
theorem dX6_truth_25 : decode cX6_truth 25 = .ok (.i2d, 1) := by decide +kernel
theorem dX6_truth_26 : decode cX6_truth 26 = .ok (.iload_n 1, 1) := by decide +kernel
theorem dX6_truth_27 : decode cX6_truth 27 = .ok (.i2d, 1) := by decide +kernel
theorem dX6_truth_28 : decode cX6_truth 28 = .ok (.ddiv, 1) := by decide +kernel
theorem dX6_truth_29 : decode cX6_truth 29 = .ok (.dreturn, 1) := by decide +kernel
def QD (K : UInt64 → St → Prop) : Option Value → St → Prop := fun r σ => ∃ x : UInt64, r = some (.double x) ∧ K x σ
theorem vf_of {r : UInt64} (h : FP.Core.dIsNaN r = false) : vf_n64 r := by
  unfold vf_n64
  have h2 : ¬ (9218868437227405312 < r.toNat % 2 ^ 63) := fun z => by
    rw [(FP.Core.isNaN_bits r).mpr z] at h
    cases h
  rw [UInt64.le_iff_toNat_le, UInt64.toNat_and]
  have e1 : (0x7fffffffffffffff : UInt64).toNat = 2 ^ 63 - 1 := by decide
  have e2 : (0x7ff0000000000000 : UInt64).toNat = 9218868437227405312 := by decide
  rw [e1, e2, Nat.and_two_pow_sub_one_eq_mod]
  omega
/-- n of m, as truth tells it -/
def tvD (n m : Nat) : UInt64 := if m = 0 then FP.dconst1 else FP.ddiv (FP.i2d (nI n)) (FP.i2d (nI m))
theorem dv_ok {n m : Nat} (h0 : ¬ m = 0) (h : m < 2 ^ 31) : FP.Core.dIsNaN (FP.ddiv (FP.i2d (nI n)) (FP.i2d (nI m))) = false := by
  refine FP.Core.ddiv_out (FP.Core.i2d_fin _).notNaN (FP.Core.i2d_fin _) (fun z => ?_)
  exact FP.Core.i2d_ne_zero (nI_ne0 (Nat.pos_of_ne_zero h0) h) ((FP.Core.zero_bits2 _).mp z)
theorem tv_ok {n m : Nat} (h : m < 2 ^ 31) : FP.Core.dIsNaN (tvD n m) = false := by
  unfold tvD
  by_cases h0 : m = 0
  · rw [if_pos h0]
    decide +kernel
  · rw [if_neg h0]
    exact dv_ok h0 h
section GOD
variable {y : MI} {d pc : Nat} {ls st : List Value} {σ : St} {Q : Option Value → St → Prop}
theorem Go.i2d {x : Int32} (hd : decode y.2.1 pc = .ok (.i2d, 1)) (k : Go y d (pc + 1) ls (.double (FP.i2d x) :: st) σ Q) : Go y d pc ls (.int x :: st) σ Q :=
  fun l G p e s m args below meth c H locs lsA R hH hS hL => lv_i2d R.1 R.2.1 hd (k l G p e s m args below meth c H locs lsA R hH hS hL)
theorem Go.ddiv {a b : UInt64} (hd : decode y.2.1 pc = .ok (.ddiv, 1)) (hne : vf_n64 (FP.ddiv a b)) (k : Go y d (pc + 1) ls (.double (FP.ddiv a b) :: st) σ Q) : Go y d pc ls (.double b :: .double a :: st) σ Q :=
  fun l G p e s m args below meth c H locs lsA R hH hS hL => lv_ddiv R.1 R.2.1 hd hne (k l G p e s m args below meth c H locs lsA R hH hS hL)
theorem Go.dconst1 (hd : decode y.2.1 pc = .ok (.dconst 1, 1)) (k : Go y d (pc + 1) ls (.double FP.dconst1 :: st) σ Q) : Go y d pc ls st σ Q :=
  fun l G p e s m args below meth c H locs lsA R hH hS hL => lv_dconst1 R.1 R.2.1 hd (k l G p e s m args below meth c H locs lsA R hH hS hL)
theorem Go.dret {v : UInt64} (hr : y.2.2.2 = some .double) (hd : decode y.2.1 pc = .ok (.dreturn, 1)) (k : Q (some (.double v)) σ) : Go y d pc ls [.double v] σ Q := by
  intro l G p e s m args below meth c H locs lsA R hH hS hL
  have hlocks := R.2.2.2.2.2.2.1
  exact W.dret R.1 R.2.1 (R.2.2.1.trans hr) (fun t ht _ => ⟨⟨some (.double v), σ, rfl, k, by rw [ht]; exact hH⟩, hS.F ht⟩) hS.2.2 hd
end GOD
section TRUTH
variable {d : Nat} {σ : St} {A : Ab}
theorem tolds6600 (E : En) : (tolds E).length ≤ 6600 := by
  have h := TL_len_le E allP 600
  rw [allP_len] at h
  unfold tolds
  omega
theorem ct_X5_truth {K : UInt64 → St → Prop} (hA : okA A) (h : cR σ A) (k : ∀ σ', Fr scr σ σ' → FrM σ σ' → K (tvD (trC (enS A.1) (enS A.1).1.length) (tolds (enS A.1)).length) σ') : Call 9 mX5_truth [.ref 0] σ (QD K) := by
  have hok := hA.1
  have hE := okE_S hok
  have hb := tolds6600 (enS A.1)
  refine Call_of_Go (by decide +kernel) (ls := [.ref 0, .null]) rfl (Nat.le_of_ble_eq_true rfl) ?_
  refine Go.aload_n 0 dX5_truth_0 rfl rfl (?_ : Go _ _ 1 _ _ _ _)
  refine Go.getR fk_X5_50 shq_0 frq_0_7 dX5_truth_1 (?_ : Go _ _ 4 _ _ _ _)
  refine Go.aload_n 0 dX5_truth_4 rfl rfl (?_ : Go _ _ 5 _ _ _ _)
  refine Go.getR fk_X5_12 shq_0 frq_0_0 dX5_truth_5 (?_ : Go _ _ 8 _ _ _ _)
  refine Go.callV (d := 8) (as := [.ref 1]) (st := []) mk_X0_listen wl_X5_163 shq_54 rfl rfl (Nat.le_of_ble_eq_true rfl) dX5_truth_8 (ct_listen (K := fun s => FrL σ s ∧ earOK s (enS A.1) A.1.1.length) one_sc h.1 hok (fun s f e => ⟨f, e⟩)) ?_
  rintro _ s1 ⟨rfl, f1, e1⟩
  show Go _ _ 11 _ [] _ _
  refine Go.aload_n 0 dX5_truth_11 rfl rfl (?_ : Go _ _ 12 _ _ _ _)
  refine Go.getR fk_X5_50 shq_0 frq_0_7 dX5_truth_12 (?_ : Go _ _ 15 _ _ _ _)
  refine Go.callV (d := 8) (as := []) (st := []) mk_X0_toldCount wl_X5_231 shq_54 rfl rfl (Nat.le_of_ble_eq_true rfl) dX5_truth_15 (ct_toldCount (K := fun r s => r = nI (tolds (enS A.1)).length ∧ s = s1) hE e1 ⟨rfl, rfl⟩) ?_
  rintro _ s2 ⟨_, rfl, rfl, rfl⟩
  show Go _ _ 18 _ [.int _] _ _
  refine Go.istore_n 1 dX5_truth_18 rfl (by decide) rfl rfl (?_ : Go _ _ 19 [.ref 0, .int (nI (tolds (enS A.1)).length)] _ _ _)
  refine Go.iload_n 1 dX5_truth_19 rfl rfl (?_ : Go _ _ 20 _ _ _ _)
  have kk := k s2 f1.S f1.M
  unfold tvD at kk
  refine Go.if_ne 25 dX5_truth_20 rfl ⟨fun c => ?_, fun c => (?_ : Go _ _ 23 _ _ _ _)⟩
  · have h0 : ¬ (tolds (enS A.1)).length = 0 := fun z => c (by rw [z]; rfl)
    rw [if_neg h0] at kk
    refine Go.aload_n 0 dX5_truth_25 rfl rfl (?_ : Go _ _ 26 _ _ _ _)
    refine Go.getR fk_X5_50 shq_0 frq_0_7 dX5_truth_26 (?_ : Go _ _ 29 _ _ _ _)
    refine Go.callV (d := 8) (as := []) (st := []) mk_X0_trueCount wl_X5_234 shq_54 rfl rfl (Nat.le_of_ble_eq_true rfl) dX5_truth_29 (ct_trueCount (K := fun r s => r = nI (trC (enS A.1) (enS A.1).1.length) ∧ s = s2) hE e1 ⟨rfl, rfl⟩) ?_
    rintro _ s3 ⟨_, rfl, rfl, rfl⟩
    show Go _ _ 32 _ [.int _] _ _
    refine Go.i2d dX5_truth_32 (?_ : Go _ _ 33 _ _ _ _)
    refine Go.iload_n 1 dX5_truth_33 rfl rfl (?_ : Go _ _ 34 _ _ _ _)
    refine Go.i2d dX5_truth_34 (?_ : Go _ _ 35 _ _ _ _)
    refine Go.ddiv dX5_truth_35 (vf_of (dv_ok h0 (by omega))) (?_ : Go _ _ 36 _ _ _ _)
    exact Go.dret rfl dX5_truth_36 ⟨_, rfl, kk⟩
  · have h0 : (tolds (enS A.1)).length = 0 := by
      rcases Nat.eq_zero_or_pos (tolds (enS A.1)).length with z | z
      · exact z
      · exact absurd c (nI_ne0 z (by omega))
    rw [if_pos h0] at kk
    refine Go.dconst1 dX5_truth_23 (?_ : Go _ _ 24 _ _ _ _)
    exact Go.dret rfl dX5_truth_24 ⟨_, rfl, kk⟩
theorem ct_X6_truth {K : UInt64 → St → Prop} (hA : okA A) (h : mR σ A) (k : ∀ σ', FrN σ σ' → K (tvD (trC (enS A.1) (enS A.1).1.length) (tolds (enS A.1)).length) σ') : Call 9 mX6_truth [.ref 64] σ (QD K) := by
  have hok := hA.1
  have hE := okE_S hok
  have hb := tolds6600 (enS A.1)
  refine Call_of_Go (by decide +kernel) (ls := [.ref 64, .null]) rfl (Nat.le_of_ble_eq_true rfl) ?_
  refine Go.aload_n 0 dX6_truth_0 rfl rfl (?_ : Go _ _ 1 _ _ _ _)
  refine Go.callV (d := 8) (as := []) (st := []) mk_X6_listen wl_X6_117 shq_64 rfl rfl (Nat.le_of_ble_eq_true rfl) dX6_truth_1 (ct_mlisten (K := fun s => FrY σ s ∧ modOK s (enS A.1)) h.1 hok (fun s f e => ⟨f, e⟩)) ?_
  rintro _ s1 ⟨rfl, f1, e1⟩
  show Go _ _ 4 _ [] _ _
  refine Go.aload_n 0 dX6_truth_4 rfl rfl (?_ : Go _ _ 5 _ _ _ _)
  refine Go.iconst dX6_truth_5 k_ic_0 (?_ : Go _ _ 6 _ _ _ _)
  refine Go.callV (d := 8) (as := [.int 0]) (st := []) mk_X6_toldMany wl_X6_139 shq_64 rfl rfl (Nat.le_of_ble_eq_true rfl) dX6_truth_6 (ct_toldAll (K := fun r s => r = nI (tolds (enS A.1)).length ∧ s = s1) hE e1 ⟨rfl, rfl⟩) ?_
  rintro _ s2 ⟨_, rfl, rfl, rfl⟩
  show Go _ _ 9 _ [.int _] _ _
  refine Go.istore_n 1 dX6_truth_9 rfl (by decide) rfl rfl (?_ : Go _ _ 10 [.ref 64, .int (nI (tolds (enS A.1)).length)] _ _ _)
  refine Go.iload_n 1 dX6_truth_10 rfl rfl (?_ : Go _ _ 11 _ _ _ _)
  have kk := k s2 f1.N
  unfold tvD at kk
  refine Go.if_ne 18 dX6_truth_11 rfl ⟨fun c => ?_, fun c => (?_ : Go _ _ 14 _ _ _ _)⟩
  · have h0 : ¬ (tolds (enS A.1)).length = 0 := fun z => c (by rw [z]; rfl)
    rw [if_neg h0] at kk
    refine Go.iload_n 1 dX6_truth_18 rfl rfl (?_ : Go _ _ 19 _ _ _ _)
    refine Go.aload_n 0 dX6_truth_19 rfl rfl (?_ : Go _ _ 20 _ _ _ _)
    refine Go.iconst dX6_truth_20 k_ic_1 (?_ : Go _ _ 21 _ _ _ _)
    refine Go.callV (d := 8) (as := [.int 1]) (st := [.int (nI (tolds (enS A.1)).length)]) mk_X6_toldMany wl_X6_139 shq_64 rfl rfl (Nat.le_of_ble_eq_true rfl) dX6_truth_21 (ct_toldPh (K := fun r s => r = nI (phant (enS A.1)) ∧ s = s2) hE e1 ⟨rfl, rfl⟩) ?_
    rintro _ s3 ⟨_, rfl, rfl, rfl⟩
    show Go _ _ 24 _ [.int _, .int _] _ _
    refine Go.isub dX6_truth_24 (?_ : Go _ _ 25 _ _ _ _)
    have hp := phant_eq hE
    have ep : nI (tolds (enS A.1)).length - nI (phant (enS A.1)) = nI (trC (enS A.1) (enS A.1).1.length) := by
      rw [pk_sub (by omega), show (tolds (enS A.1)).length - phant (enS A.1) = trC (enS A.1) (enS A.1).1.length by omega]
    rw [ep]
    refine Go.i2d dX6_truth_25 (?_ : Go _ _ 26 _ _ _ _)
    refine Go.iload_n 1 dX6_truth_26 rfl rfl (?_ : Go _ _ 27 _ _ _ _)
    refine Go.i2d dX6_truth_27 (?_ : Go _ _ 28 _ _ _ _)
    refine Go.ddiv dX6_truth_28 (vf_of (dv_ok h0 (by omega))) (?_ : Go _ _ 29 _ _ _ _)
    exact Go.dret rfl dX6_truth_29 ⟨_, rfl, kk⟩
  · have h0 : (tolds (enS A.1)).length = 0 := by
      rcases Nat.eq_zero_or_pos (tolds (enS A.1)).length with z | z
      · exact z
      · exact absurd c (nI_ne0 z (by omega))
    rw [if_pos h0] at kk
    refine Go.dconst1 dX6_truth_14 (?_ : Go _ _ 15 _ _ _ _)
    refine Go.goto 29 dX6_truth_15 rfl ?_
    exact Go.dret rfl dX6_truth_29 ⟨_, rfl, kk⟩
def BothD (A : Ab) (m5 : MI) (a5 : List Value) (m6 : MI) (a6 : List Value) : Prop := ∃ r : UInt64, FP.Core.dIsNaN r = false ∧ (∀ (σ : St) (K : UInt64 → St → Prop), cR σ A → (∀ σ', FrM σ σ' → cR σ' A → K r σ') → Call 9 m5 a5 σ (QD K)) ∧ (∀ (σ : St) (K : UInt64 → St → Prop), mR σ A → (∀ σ', Fr mod σ σ' → mR σ' A → K r σ') → Call 9 m6 a6 σ (QD K))
theorem bo_truth (hA : okA A) : BothD A mX5_truth [.ref 0] mX6_truth [.ref 64] :=
  ⟨_, tv_ok (by have := tolds6600 (enS A.1); omega), fun σ K h k => ct_X5_truth hA h (fun σ' f fm => k σ' fm (h.keep hA f)), fun σ K h k => ct_X6_truth hA h (fun σ' f => k σ' f.1 (h.keepN f))⟩
end TRUTH
