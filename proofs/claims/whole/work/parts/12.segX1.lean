set_option maxHeartbeats 4000000 in
set_option maxRecDepth 100000 in
theorem sgX1_length_0 {d : Nat} {σ : St} {K : Int32 → St → Prop} (h : K (sF σ 44 1) σ) : Go mX1_length (d + 1) 0 [.ref 44] [] σ (QI K) := by
  refine Go.aload_n 0 dX1_length_0 rfl rfl (?_ : Go _ _ 1 _ _ _ _)
  refine Go.getI fk_X1_15 shq_44 frq_44_1 dX1_length_1 (?_ : Go _ _ 4 _ _ _ _)
  exact Go.iret rfl dX1_length_4 ⟨_, rfl, h⟩
theorem cgX1_length {d : Nat} {σ : St} {K : Int32 → St → Prop} (h : K (sF σ 44 1) σ) : CallI (d + 1) mX1_length [.ref 44] σ K := Call_of_Go (by decide +kernel) (ls := [.ref 44]) rfl (Nat.le_of_ble_eq_true rfl) (sgX1_length_0 h)
set_option maxHeartbeats 4000000 in
set_option maxRecDepth 100000 in
theorem sgX1_take_0 {d : Nat} {σ : St} {x1 : Int32} {K : Int32 → St → Prop} (h : ((sF σ 44 1) < 0 → K 0 σ) ∧ (¬ (sF σ 44 1) < 0 → ((sF σ 44 1) < 60 → vp_in (sF σ 44 1) 60 ∧ ∀ s3, s3 = setA σ 45 (ix (sF σ 44 1)) (nch x1) → ∀ s4, s4 = setF s3 44 1 ((sF s3 44 1) + 1) → K 1 s4) ∧ (¬ (sF σ 44 1) < 60 → K 0 σ))) : Go mX1_take (d + 1) 0 [.ref 44, .int x1] [] σ (QI K) := by
  refine Go.aload_n 0 dX1_take_0 rfl rfl (?_ : Go _ _ 1 _ _ _ _)
  refine Go.getI fk_X1_15 shq_44 frq_44_1 dX1_take_1 (?_ : Go _ _ 4 _ _ _ _)
  refine Go.if_lt 19 dX1_take_4 rfl ⟨fun c1 => ?_, fun c1 => (?_ : Go _ _ 7 _ _ _ _)⟩
  · have h := h.1 c1
    refine Go.iconst dX1_take_19 k_ic_0 (?_ : Go _ _ 20 _ _ _ _)
    exact Go.zret rfl rfl dX1_take_20 ⟨_, rfl, h⟩
  · have h := h.2 c1
    refine Go.aload_n 0 dX1_take_7 rfl rfl (?_ : Go _ _ 8 _ _ _ _)
    refine Go.getI fk_X1_15 shq_44 frq_44_1 dX1_take_8 (?_ : Go _ _ 11 _ _ _ _)
    refine Go.aload_n 0 dX1_take_11 rfl rfl (?_ : Go _ _ 12 _ _ _ _)
    refine Go.getR fk_X1_9 shq_44 frq_44_0 dX1_take_12 (?_ : Go _ _ 15 _ _ _ _)
    refine Go.alen shq_45 (by decide) k_on_60 dX1_take_15 (?_ : Go _ _ 16 _ _ _ _)
    refine Go.icmp_lt 21 dX1_take_16 rfl ⟨fun c2 => ?_, fun c2 => (?_ : Go _ _ 19 _ _ _ _)⟩
    · have h := h.1 c2
      refine Go.aload_n 0 dX1_take_21 rfl rfl (?_ : Go _ _ 22 _ _ _ _)
      refine Go.getR fk_X1_9 shq_44 frq_44_0 dX1_take_22 (?_ : Go _ _ 25 _ _ _ _)
      refine Go.aload_n 0 dX1_take_25 rfl rfl (?_ : Go _ _ 26 _ _ _ _)
      refine Go.getI fk_X1_15 shq_44 frq_44_1 dX1_take_26 (?_ : Go _ _ 29 _ _ _ _)
      refine Go.iload_n 1 dX1_take_29 rfl rfl (?_ : Go _ _ 30 _ _ _ _)
      refine Go.cast shq_45 dX1_take_30 ⟨h.1, (?_ : Go _ _ 31 _ _ _ _)⟩
      generalize es3 : setA σ 45 (ix (sF σ 44 1)) (nch x1) = s3
      have h := h.2 s3 es3.symm
      refine Go.aload_n 0 dX1_take_31 rfl rfl (?_ : Go _ _ 32 _ _ _ _)
      refine Go.dup dX1_take_32 rfl (?_ : Go _ _ 33 _ _ _ _)
      refine Go.getI fk_X1_15 shq_44 frq_44_1 dX1_take_33 (?_ : Go _ _ 36 _ _ _ _)
      refine Go.iconst dX1_take_36 k_ic_1 (?_ : Go _ _ 37 _ _ _ _)
      refine Go.iadd dX1_take_37 (?_ : Go _ _ 38 _ _ _ _)
      refine Go.putI fp_X1_15 shq_44 frq_44_1 dX1_take_38 (?_ : Go _ _ 41 _ _ _ _)
      generalize es4 : setF s3 44 1 ((sF s3 44 1) + 1) = s4
      have h := h s4 es4.symm
      refine Go.iconst dX1_take_41 k_ic_1 (?_ : Go _ _ 42 _ _ _ _)
      exact Go.zret rfl rfl dX1_take_42 ⟨_, rfl, h⟩
    · have h := h.2 c2
      refine Go.iconst dX1_take_19 k_ic_0 (?_ : Go _ _ 20 _ _ _ _)
      exact Go.zret rfl rfl dX1_take_20 ⟨_, rfl, h⟩
theorem cgX1_take {d : Nat} {σ : St} {x1 : Int32} {K : Int32 → St → Prop} (h : ((sF σ 44 1) < 0 → K 0 σ) ∧ (¬ (sF σ 44 1) < 0 → ((sF σ 44 1) < 60 → vp_in (sF σ 44 1) 60 ∧ ∀ s3, s3 = setA σ 45 (ix (sF σ 44 1)) (nch x1) → ∀ s4, s4 = setF s3 44 1 ((sF s3 44 1) + 1) → K 1 s4) ∧ (¬ (sF σ 44 1) < 60 → K 0 σ))) : CallI (d + 1) mX1_take [.ref 44, .int x1] σ K := Call_of_Go (by decide +kernel) (ls := [.ref 44, .int x1]) rfl (Nat.le_of_ble_eq_true rfl) (sgX1_take_0 h)
set_option maxHeartbeats 4000000 in
set_option maxRecDepth 100000 in
theorem sgX1_empty_0 {d : Nat} {σ : St} {K : Int32 → St → Prop} (h : ∀ s1, s1 = setF σ 44 1 0 → K (sF σ 44 1) s1) : Go mX1_empty (d + 1) 0 [.ref 44, .null] [] σ (QI K) := by
  refine Go.aload_n 0 dX1_empty_0 rfl rfl (?_ : Go _ _ 1 _ _ _ _)
  refine Go.getI fk_X1_15 shq_44 frq_44_1 dX1_empty_1 (?_ : Go _ _ 4 _ _ _ _)
  refine Go.istore_n 1 dX1_empty_4 rfl (by decide) rfl rfl (?_ : Go _ _ 5 [.ref 44, .int (sF σ 44 1)] _ _ _)
  refine Go.aload_n 0 dX1_empty_5 rfl rfl (?_ : Go _ _ 6 _ _ _ _)
  refine Go.iconst dX1_empty_6 k_ic_0 (?_ : Go _ _ 7 _ _ _ _)
  refine Go.putI fp_X1_15 shq_44 frq_44_1 dX1_empty_7 (?_ : Go _ _ 10 _ _ _ _)
  generalize es1 : setF σ 44 1 0 = s1
  have h := h s1 es1.symm
  refine Go.iload_n 1 dX1_empty_10 rfl rfl (?_ : Go _ _ 11 _ _ _ _)
  exact Go.iret rfl dX1_empty_11 ⟨_, rfl, h⟩
theorem cgX1_empty {d : Nat} {σ : St} {K : Int32 → St → Prop} (h : ∀ s1, s1 = setF σ 44 1 0 → K (sF σ 44 1) s1) : CallI (d + 1) mX1_empty [.ref 44] σ K := Call_of_Go (by decide +kernel) (ls := [.ref 44, .null]) rfl (Nat.le_of_ble_eq_true rfl) (sgX1_empty_0 h)
set_option maxHeartbeats 4000000 in
set_option maxRecDepth 100000 in
theorem sgX1_signAt_0 {d : Nat} {σ : St} {x1 : Int32} {K : Int32 → St → Prop} (h : (x1 < 0 → (narrow .char (.int 32) = .int 32) ∧ K 32 σ) ∧ (¬ x1 < 0 → (60 ≤ x1 → (narrow .char (.int 32) = .int 32) ∧ K 32 σ) ∧ (¬ 60 ≤ x1 → vp_in x1 60 ∧ (narrow .char (.int (sA σ 45 (ix x1))) = .int (sA σ 45 (ix x1))) ∧ K (sA σ 45 (ix x1)) σ))) : Go mX1_signAt (d + 1) 0 [.ref 44, .int x1] [] σ (QI K) := by
  refine Go.iload_n 1 dX1_signAt_0 rfl rfl (?_ : Go _ _ 1 _ _ _ _)
  refine Go.if_lt 22 dX1_signAt_1 rfl ⟨fun c1 => ?_, fun c1 => (?_ : Go _ _ 4 _ _ _ _)⟩
  · have h := h.1 c1
    refine Go.bipush dX1_signAt_22 k_bi_32 (?_ : Go _ _ 24 _ _ _ _)
    exact Go.zret rfl h.1 dX1_signAt_24 ⟨_, rfl, h.2⟩
  · have h := h.2 c1
    refine Go.iload_n 1 dX1_signAt_4 rfl rfl (?_ : Go _ _ 5 _ _ _ _)
    refine Go.aload_n 0 dX1_signAt_5 rfl rfl (?_ : Go _ _ 6 _ _ _ _)
    refine Go.getR fk_X1_9 shq_44 frq_44_0 dX1_signAt_6 (?_ : Go _ _ 9 _ _ _ _)
    refine Go.alen shq_45 (by decide) k_on_60 dX1_signAt_9 (?_ : Go _ _ 10 _ _ _ _)
    refine Go.icmp_ge 22 dX1_signAt_10 rfl ⟨fun c2 => ?_, fun c2 => (?_ : Go _ _ 13 _ _ _ _)⟩
    · have h := h.1 c2
      refine Go.bipush dX1_signAt_22 k_bi_32 (?_ : Go _ _ 24 _ _ _ _)
      exact Go.zret rfl h.1 dX1_signAt_24 ⟨_, rfl, h.2⟩
    · have h := h.2 c2
      refine Go.aload_n 0 dX1_signAt_13 rfl rfl (?_ : Go _ _ 14 _ _ _ _)
      refine Go.getR fk_X1_9 shq_44 frq_44_0 dX1_signAt_14 (?_ : Go _ _ 17 _ _ _ _)
      refine Go.iload_n 1 dX1_signAt_17 rfl rfl (?_ : Go _ _ 18 _ _ _ _)
      refine Go.cald shq_45 dX1_signAt_18 ⟨h.1, (?_ : Go _ _ 19 _ _ _ _)⟩
      have h := h.2
      refine Go.goto 24 dX1_signAt_19 rfl ?_
      exact Go.zret rfl h.1 dX1_signAt_24 ⟨_, rfl, h.2⟩
theorem cgX1_signAt {d : Nat} {σ : St} {x1 : Int32} {K : Int32 → St → Prop} (h : (x1 < 0 → (narrow .char (.int 32) = .int 32) ∧ K 32 σ) ∧ (¬ x1 < 0 → (60 ≤ x1 → (narrow .char (.int 32) = .int 32) ∧ K 32 σ) ∧ (¬ 60 ≤ x1 → vp_in x1 60 ∧ (narrow .char (.int (sA σ 45 (ix x1))) = .int (sA σ 45 (ix x1))) ∧ K (sA σ 45 (ix x1)) σ))) : CallI (d + 1) mX1_signAt [.ref 44, .int x1] σ K := Call_of_Go (by decide +kernel) (ls := [.ref 44, .int x1]) rfl (Nat.le_of_ble_eq_true rfl) (sgX1_signAt_0 h)
