def QD (K : UInt64 → St → Prop) : Option Value → St → Prop := fun r σ => ∃ x : UInt64, r = some (.double x) ∧ K x σ
theorem vf_of {r : UInt64} (h : FP.Core.dIsNaN r = false) : vf_n64 r := by
  unfold vf_n64
  have h2 : ¬ (9218868437227405312 < r.toNat % 2 ^ 63) := fun z => by
    rw [(FP.Core.isNaN_bits r).mpr z] at h
    cases h
  rw [UInt64.le_iff_toNat_le, UInt64.toNat_and]
  have e1 : (0x7fffffffffffffff : UInt64).toNat = 2 ^ 63 - 1 := by decide
  have e2 : (0x7ff0000000000000 : UInt64).toNat = 9218868437227405312 := by decide
  rw [e1, e2, Nat.and_two_pow_sub_one_eq_mod]
  omega
/-- n of m, as truth tells it -/
def tvD (n m : Nat) : UInt64 := if m = 0 then FP.dconst1 else FP.ddiv (FP.i2d (nI n)) (FP.i2d (nI m))
theorem dv_ok {n m : Nat} (h0 : ¬ m = 0) (h : m < 2 ^ 31) : FP.Core.dIsNaN (FP.ddiv (FP.i2d (nI n)) (FP.i2d (nI m))) = false := by
  refine FP.Core.ddiv_out (FP.Core.i2d_fin _).notNaN (FP.Core.i2d_fin _) (fun z => ?_)
  exact FP.Core.i2d_ne_zero (nI_ne0 (Nat.pos_of_ne_zero h0) h) ((FP.Core.zero_bits2 _).mp z)
theorem tv_ok {n m : Nat} (h : m < 2 ^ 31) : FP.Core.dIsNaN (tvD n m) = false := by
  unfold tvD
  by_cases h0 : m = 0
  · rw [if_pos h0]
    decide +kernel
  · rw [if_neg h0]
    exact dv_ok h0 h
section GOD
variable {y : MI} {d pc : Nat} {ls st : List Value} {σ : St} {Q : Option Value → St → Prop}
end GOD
section TRUTH
variable {d : Nat} {σ : St} {A : Ab}
theorem tolds6600 (E : En) : (tolds E).length ≤ 6600 := by
  have h := TL_len_le E allP 600
  rw [allP_len] at h
  unfold tolds
  omega
theorem ct_X5_truth {K : UInt64 → St → Prop} (hA : okA A) (h : cR σ A) (k : ∀ σ', Fr scr σ σ' → FrM σ σ' → K (tvD (trC (enS A.1) (enS A.1).1.length) (tolds (enS A.1)).length) σ') : Call 9 mX5_truth [.ref 0] σ (QD K) := by
  have hok := hA.1
  have hE := okE_S hok
  have hb := tolds6600 (enS A.1)
  refine Call_of_Go (by decide +kernel) (ls := [.ref 0, .null]) rfl (Nat.le_of_ble_eq_true rfl) ?_
  refine Go.aload_n 0 dX5_truth_0 rfl rfl (?_ : Go _ _ 1 _ _ _ _)
  refine Go.getR fk_X5_50 shq_0 frq_0_7 dX5_truth_1 (?_ : Go _ _ 4 _ _ _ _)
  refine Go.aload_n 0 dX5_truth_4 rfl rfl (?_ : Go _ _ 5 _ _ _ _)
  refine Go.getR fk_X5_12 shq_0 frq_0_0 dX5_truth_5 (?_ : Go _ _ 8 _ _ _ _)
  refine Go.callV (d := 8) (as := [.ref 1]) (st := []) mk_X0_listen wl_X5_163 shq_54 rfl rfl (Nat.le_of_ble_eq_true rfl) dX5_truth_8 (ct_listen (K := fun s => FrL σ s ∧ earOK s (enS A.1) A.1.1.length) one_sc h.1 hok (fun s f e => ⟨f, e⟩)) ?_
  rintro _ s1 ⟨rfl, f1, e1⟩
  show Go _ _ 11 _ [] _ _
  refine Go.aload_n 0 dX5_truth_11 rfl rfl (?_ : Go _ _ 12 _ _ _ _)
  refine Go.getR fk_X5_50 shq_0 frq_0_7 dX5_truth_12 (?_ : Go _ _ 15 _ _ _ _)
  refine Go.callV (d := 8) (as := []) (st := []) mk_X0_toldCount wl_X5_231 shq_54 rfl rfl (Nat.le_of_ble_eq_true rfl) dX5_truth_15 (ct_toldCount (K := fun r s => r = nI (tolds (enS A.1)).length ∧ s = s1) hE e1 ⟨rfl, rfl⟩) ?_
  rintro _ s2 ⟨_, rfl, rfl, rfl⟩
  show Go _ _ 18 _ [.int _] _ _
  refine Go.istore_n 1 dX5_truth_18 rfl (by decide) rfl rfl (?_ : Go _ _ 19 [.ref 0, .int (nI (tolds (enS A.1)).length)] _ _ _)
  refine Go.iload_n 1 dX5_truth_19 rfl rfl (?_ : Go _ _ 20 _ _ _ _)
  have kk := k s2 f1.S f1.M
  unfold tvD at kk
  refine Go.if_ne 25 dX5_truth_20 rfl ⟨fun c => ?_, fun c => (?_ : Go _ _ 23 _ _ _ _)⟩
  · have h0 : ¬ (tolds (enS A.1)).length = 0 := fun z => c (by rw [z]; rfl)
    rw [if_neg h0] at kk
    refine Go.aload_n 0 dX5_truth_25 rfl rfl (?_ : Go _ _ 26 _ _ _ _)
    refine Go.getR fk_X5_50 shq_0 frq_0_7 dX5_truth_26 (?_ : Go _ _ 29 _ _ _ _)
    refine Go.callV (d := 8) (as := []) (st := []) mk_X0_trueCount wl_X5_234 shq_54 rfl rfl (Nat.le_of_ble_eq_true rfl) dX5_truth_29 (ct_trueCount (K := fun r s => r = nI (trC (enS A.1) (enS A.1).1.length) ∧ s = s2) hE e1 ⟨rfl, rfl⟩) ?_
    rintro _ s3 ⟨_, rfl, rfl, rfl⟩
    show Go _ _ 32 _ [.int _] _ _
    refine Go.i2d dX5_truth_32 (?_ : Go _ _ 33 _ _ _ _)
    refine Go.iload_n 1 dX5_truth_33 rfl rfl (?_ : Go _ _ 34 _ _ _ _)
    refine Go.i2d dX5_truth_34 (?_ : Go _ _ 35 _ _ _ _)
    refine Go.ddiv dX5_truth_35 (vf_of (dv_ok h0 (by omega))) (?_ : Go _ _ 36 _ _ _ _)
    exact Go.dret rfl dX5_truth_36 ⟨_, rfl, kk⟩
  · have h0 : (tolds (enS A.1)).length = 0 := by
      rcases Nat.eq_zero_or_pos (tolds (enS A.1)).length with z | z
      · exact z
      · exact absurd c (nI_ne0 z (by omega))
    rw [if_pos h0] at kk
    refine Go.dconst1 dX5_truth_23 (?_ : Go _ _ 24 _ _ _ _)
    exact Go.dret rfl dX5_truth_24 ⟨_, rfl, kk⟩
end TRUTH
