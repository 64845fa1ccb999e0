def pop64 (x : Nat) : Nat := sm (fun p => bN (x.testBit p)) 64
theorem lane_bit (x k p : Nat) (hp : p < 8) : (x / 256 ^ k % 256).testBit p = x.testBit (k * 8 + p) := by
  rw [show (256 : Nat) = 2 ^ 8 from rfl, Nat.testBit_mod_two_pow, decide_eq_true hp, Bool.true_and, ← Nat.pow_mul, Nat.testBit_div_two_pow]
  congr 1
  omega
theorem pop_lanes (x : Nat) : pop64 x = sm (fun k => pc8 (x / 256 ^ k % 256)) 8 := by
  unfold pop64
  rw [show (64 : Nat) = 8 * 8 from rfl, sm_split]
  apply sm_congr
  intro k _
  unfold pc8
  apply sm_congr
  intro p hp
  rw [lane_bit x k p hp]
theorem mk_85 : mk8 85 8 = 6148914691236517205 := by decide
theorem mk_51 : mk8 51 8 = 3689348814741910323 := by decide
theorem mk_15 : mk8 15 8 = 1085102592571150095 := by decide
/-- the whole chain in numbers -/
theorem pop_chain {x i1 i2 i3 i4 i5 i6 : Nat} (hx : x < 2 ^ 64) (e1 : i1 = x - (x / 2 &&& 6148914691236517205)) (e2 : i2 = (i1 &&& 3689348814741910323) + (i1 / 4 &&& 3689348814741910323)) (e3 : i3 = (i2 + i2 / 16) &&& 1085102592571150095) (e4 : i4 = i3 + i3 / 256) (e5 : i5 = i4 + i4 / 65536) (e6 : i6 = i5 + i5 / 4294967296) : i6 < 2 ^ 64 ∧ i6 % 128 = pop64 x := by
  rw [← mk_85, (st1 8 x (by rw [show (256 : Nat) ^ 8 = 2 ^ 64 from by decide]; exact hx)).2] at e1
  rw [← mk_51, st2, e1] at e2
  obtain ⟨n1, n2⟩ := T2_T1 8 x
  rw [← mk_15, e2, st3 8 _ n1, n2, T4_8] at e3
  have h := fold8 (pc8_le _) (pc8_le _) (pc8_le _) (pc8_le _) (pc8_le _) (pc8_le _) (pc8_le _) (pc8_le _) e3 rfl rfl rfl rfl rfl rfl rfl e4 e5 e6
  refine ⟨h.1, h.2.trans ?_⟩
  rw [pop_lanes]
  simp only [sm, Nat.zero_add]
  rw [show x / 256 ^ 0 = x by rw [Nat.pow_zero, Nat.div_one], show x / 256 ^ 1 = x / 256 by rw [Nat.pow_one]]
  simp only [Nat.div_div_eq_div_mul]
