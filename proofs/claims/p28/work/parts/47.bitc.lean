/-! Long.bitCount -/
theorem wc_314 : Cond.constantLong RJ13 314 6148914691236517205 ∈ tbg := tbAt (i := 468) (by decide +kernel) (by decide +kernel)
theorem wc_316 : Cond.constantLong RJ13 316 3689348814741910323 ∈ tbg := tbAt (i := 469) (by decide +kernel) (by decide +kernel)
theorem wc_318 : Cond.constantLong RJ13 318 1085102592571150095 ∈ tbg := tbAt (i := 470) (by decide +kernel) (by decide +kernel)
theorem dJ13_bitCount_95d88_0 : decode cJ13_bitCount_95d88 0 = .ok (.lload_n 0, 1) := by decide +kernel
theorem dJ13_bitCount_95d88_1 : decode cJ13_bitCount_95d88 1 = .ok (.lload_n 0, 1) := by decide +kernel
theorem dJ13_bitCount_95d88_2 : decode cJ13_bitCount_95d88 2 = .ok (.iconst 1, 1) := by decide +kernel
theorem dJ13_bitCount_95d88_3 : decode cJ13_bitCount_95d88 3 = .ok (.lushr, 1) := by decide +kernel
theorem dJ13_bitCount_95d88_4 : decode cJ13_bitCount_95d88 4 = .ok (.ldc2_w 314, 3) := by decide +kernel
theorem dJ13_bitCount_95d88_7 : decode cJ13_bitCount_95d88 7 = .ok (.land, 1) := by decide +kernel
theorem dJ13_bitCount_95d88_8 : decode cJ13_bitCount_95d88 8 = .ok (.lsub, 1) := by decide +kernel
theorem dJ13_bitCount_95d88_9 : decode cJ13_bitCount_95d88 9 = .ok (.lstore_n 0, 1) := by decide +kernel
theorem dJ13_bitCount_95d88_10 : decode cJ13_bitCount_95d88 10 = .ok (.lload_n 0, 1) := by decide +kernel
theorem dJ13_bitCount_95d88_11 : decode cJ13_bitCount_95d88 11 = .ok (.ldc2_w 316, 3) := by decide +kernel
theorem dJ13_bitCount_95d88_14 : decode cJ13_bitCount_95d88 14 = .ok (.land, 1) := by decide +kernel
theorem dJ13_bitCount_95d88_15 : decode cJ13_bitCount_95d88 15 = .ok (.lload_n 0, 1) := by decide +kernel
theorem dJ13_bitCount_95d88_16 : decode cJ13_bitCount_95d88 16 = .ok (.iconst 2, 1) := by decide +kernel
theorem dJ13_bitCount_95d88_17 : decode cJ13_bitCount_95d88 17 = .ok (.lushr, 1) := by decide +kernel
theorem dJ13_bitCount_95d88_18 : decode cJ13_bitCount_95d88 18 = .ok (.ldc2_w 316, 3) := by decide +kernel
theorem dJ13_bitCount_95d88_21 : decode cJ13_bitCount_95d88 21 = .ok (.land, 1) := by decide +kernel
theorem dJ13_bitCount_95d88_22 : decode cJ13_bitCount_95d88 22 = .ok (.ladd, 1) := by decide +kernel
theorem dJ13_bitCount_95d88_23 : decode cJ13_bitCount_95d88 23 = .ok (.lstore_n 0, 1) := by decide +kernel
theorem dJ13_bitCount_95d88_24 : decode cJ13_bitCount_95d88 24 = .ok (.lload_n 0, 1) := by decide +kernel
theorem dJ13_bitCount_95d88_25 : decode cJ13_bitCount_95d88 25 = .ok (.lload_n 0, 1) := by decide +kernel
theorem dJ13_bitCount_95d88_26 : decode cJ13_bitCount_95d88 26 = .ok (.iconst 4, 1) := by decide +kernel
theorem dJ13_bitCount_95d88_27 : decode cJ13_bitCount_95d88 27 = .ok (.lushr, 1) := by decide +kernel
theorem dJ13_bitCount_95d88_28 : decode cJ13_bitCount_95d88 28 = .ok (.ladd, 1) := by decide +kernel
theorem dJ13_bitCount_95d88_29 : decode cJ13_bitCount_95d88 29 = .ok (.ldc2_w 318, 3) := by decide +kernel
theorem dJ13_bitCount_95d88_32 : decode cJ13_bitCount_95d88 32 = .ok (.land, 1) := by decide +kernel
theorem dJ13_bitCount_95d88_33 : decode cJ13_bitCount_95d88 33 = .ok (.lstore_n 0, 1) := by decide +kernel
theorem dJ13_bitCount_95d88_34 : decode cJ13_bitCount_95d88 34 = .ok (.lload_n 0, 1) := by decide +kernel
theorem dJ13_bitCount_95d88_35 : decode cJ13_bitCount_95d88 35 = .ok (.lload_n 0, 1) := by decide +kernel
theorem dJ13_bitCount_95d88_36 : decode cJ13_bitCount_95d88 36 = .ok (.bipush 8, 2) := by decide +kernel
theorem dJ13_bitCount_95d88_38 : decode cJ13_bitCount_95d88 38 = .ok (.lushr, 1) := by decide +kernel
theorem dJ13_bitCount_95d88_39 : decode cJ13_bitCount_95d88 39 = .ok (.ladd, 1) := by decide +kernel
theorem dJ13_bitCount_95d88_40 : decode cJ13_bitCount_95d88 40 = .ok (.lstore_n 0, 1) := by decide +kernel
theorem dJ13_bitCount_95d88_41 : decode cJ13_bitCount_95d88 41 = .ok (.lload_n 0, 1) := by decide +kernel
theorem dJ13_bitCount_95d88_42 : decode cJ13_bitCount_95d88 42 = .ok (.lload_n 0, 1) := by decide +kernel
theorem dJ13_bitCount_95d88_43 : decode cJ13_bitCount_95d88 43 = .ok (.bipush 16, 2) := by decide +kernel
theorem dJ13_bitCount_95d88_45 : decode cJ13_bitCount_95d88 45 = .ok (.lushr, 1) := by decide +kernel
theorem dJ13_bitCount_95d88_46 : decode cJ13_bitCount_95d88 46 = .ok (.ladd, 1) := by decide +kernel
theorem dJ13_bitCount_95d88_47 : decode cJ13_bitCount_95d88 47 = .ok (.lstore_n 0, 1) := by decide +kernel
theorem dJ13_bitCount_95d88_48 : decode cJ13_bitCount_95d88 48 = .ok (.lload_n 0, 1) := by decide +kernel
theorem dJ13_bitCount_95d88_49 : decode cJ13_bitCount_95d88 49 = .ok (.lload_n 0, 1) := by decide +kernel
theorem dJ13_bitCount_95d88_50 : decode cJ13_bitCount_95d88 50 = .ok (.bipush 32, 2) := by decide +kernel
theorem dJ13_bitCount_95d88_52 : decode cJ13_bitCount_95d88 52 = .ok (.lushr, 1) := by decide +kernel
theorem dJ13_bitCount_95d88_53 : decode cJ13_bitCount_95d88 53 = .ok (.ladd, 1) := by decide +kernel
theorem dJ13_bitCount_95d88_54 : decode cJ13_bitCount_95d88 54 = .ok (.lstore_n 0, 1) := by decide +kernel
theorem dJ13_bitCount_95d88_55 : decode cJ13_bitCount_95d88 55 = .ok (.lload_n 0, 1) := by decide +kernel
theorem dJ13_bitCount_95d88_56 : decode cJ13_bitCount_95d88 56 = .ok (.l2i, 1) := by decide +kernel
theorem dJ13_bitCount_95d88_57 : decode cJ13_bitCount_95d88 57 = .ok (.bipush 127, 2) := by decide +kernel
theorem dJ13_bitCount_95d88_59 : decode cJ13_bitCount_95d88 59 = .ok (.iand, 1) := by decide +kernel
theorem dJ13_bitCount_95d88_60 : decode cJ13_bitCount_95d88 60 = .ok (.ireturn, 1) := by decide +kernel
section GOL
variable {y : MI} {d pc : Nat} {ls st : List Value} {σ : St} {Q : Option Value → St → Prop}
theorem Go.lstore2 {j : Fin 4} {x x' : Int64} (hd : decode y.2.1 pc = .ok (.lstore_n j, 1)) (hj : (j : Nat) = 0) (hn : y.2.2.1 = 2) (k : Go y d (pc + 1) [.long x', .null] st σ Q) : Go y d pc [.long x, .null] (.long x' :: st) σ Q := by
  intro l G p e s m args below meth c H locs lsA R hH hS hL
  have h1 : lv_has lsA y.2.2.1 [] := ⟨hL.1, hL.2.1, fun q hq => by cases hq⟩
  refine lv_lstore_n R.1 R.2.1 hd hj h1 (by omega) rfl (fun lsB hB => ?_)
  refine k l G p e s m args below meth c H locs lsB R hH hS ⟨hB.1, hB.2.1, by rw [hn]; rfl, fun i v hi hv => ?_⟩
  rcases i with _ | _ | i
  · injection hi with hi
    rw [← hi]
    exact hB.2.2 (0, .long x') List.mem_cons_self
  · injection hi with hi
    exact absurd hi.symm hv
  · cases hi
theorem Go.lushr {x v : Int64} {y0 : Int32} (hd : decode y.2.1 pc = .ok (.lushr, 1)) (hv : (x.toUInt64 >>> (y0.toInt64.toUInt64 &&& Int64.toUInt64 63)).toInt64 = v) (k : Go y d (pc + 1) ls (.long v :: st) σ Q) : Go y d pc ls (.int y0 :: .long x :: st) σ Q :=
  fun l G p e s m args below meth c H locs lsA R hH hS hL => lv_lushr R.1 R.2.1 hd hv (k l G p e s m args below meth c H locs lsA R hH hS hL)
theorem Go.ladd {a b : Int64} (hd : decode y.2.1 pc = .ok (.ladd, 1)) (k : Go y d (pc + 1) ls (.long (a + b) :: st) σ Q) : Go y d pc ls (.long b :: .long a :: st) σ Q :=
  fun l G p e s m args below meth c H locs lsA R hH hS hL => lv_ladd R.1 R.2.1 hd (k l G p e s m args below meth c H locs lsA R hH hS hL)
theorem Go.lsub {a b : Int64} (hd : decode y.2.1 pc = .ok (.lsub, 1)) (k : Go y d (pc + 1) ls (.long (a - b) :: st) σ Q) : Go y d pc ls (.long b :: .long a :: st) σ Q :=
  fun l G p e s m args below meth c H locs lsA R hH hS hL => lv_lsub R.1 R.2.1 hd (k l G p e s m args below meth c H locs lsA R hH hS hL)
theorem Go.land2 {a b : Int64} (hd : decode y.2.1 pc = .ok (.land, 1)) (k : Go y d (pc + 1) ls (.long (a &&& b) :: st) σ Q) : Go y d pc ls (.long b :: .long a :: st) σ Q :=
  fun l G p e s m args below meth c H locs lsA R hH hS hL => lv_land R.1 R.2.1 hd (k l G p e s m args below meth c H locs lsA R hH hS hL)
theorem Go.iand2 {a b : Int32} (hd : decode y.2.1 pc = .ok (.iand, 1)) (k : Go y d (pc + 1) ls (.int (a &&& b) :: st) σ Q) : Go y d pc ls (.int b :: .int a :: st) σ Q :=
  fun l G p e s m args below meth c H locs lsA R hH hS hL => lv_iand R.1 R.2.1 hd (k l G p e s m args below meth c H locs lsA R hH hS hL)
theorem Go.l2i {x : Int64} (hd : decode y.2.1 pc = .ok (.l2i, 1)) (k : Go y d (pc + 1) ls (.int x.toInt32 :: st) σ Q) : Go y d pc ls (.long x :: st) σ Q :=
  fun l G p e s m args below meth c H locs lsA R hH hS hL => lv_l2i R.1 R.2.1 hd rfl (k l G p e s m args below meth c H locs lsA R hH hS hL)
theorem Go.ldc2 {index : Nat} {v : Int64} (hw : Cond.constantLong y.1.cls index v ∈ tbg) (hd : decode y.2.1 pc = .ok (.ldc2_w index, 3)) (k : Go y d (pc + 3) ls (.long v :: st) σ Q) : Go y d pc ls st σ Q :=
  fun l G p e s m args below meth c H locs lsA R hH hS hL => lv_ldc2 R.1 R.2.1 R.2.2.2.2.1 (R.2.2.2.2.2.1 _ hw) hd (k l G p e s m args below meth c H locs lsA R hH hS hL)
end GOL
def ush (x : Int64) (y0 : Int32) : Int64 := (x.toUInt64 >>> (y0.toInt64.toUInt64 &&& Int64.toUInt64 63)).toInt64
def bc1 (x : Int64) : Int64 := x - (ush x 1 &&& 6148914691236517205)
def bc2 (x : Int64) : Int64 := (x &&& 3689348814741910323) + (ush x 2 &&& 3689348814741910323)
def bc3 (x : Int64) : Int64 := (x + ush x 4) &&& 1085102592571150095
def bc4 (x : Int64) : Int64 := x + ush x 8
def bc5 (x : Int64) : Int64 := x + ush x 16
def bc6 (x : Int64) : Int64 := x + ush x 32
def bcA (x : Int64) : Int32 := (bc6 (bc5 (bc4 (bc3 (bc2 (bc1 x)))))).toInt32 &&& 127
set_option maxRecDepth 100000 in
theorem cgJ13 {d : Nat} {σ : St} {x : Int64} {K : Int32 → St → Prop} (h : K (bcA x) σ) : CallI (d + 1) mJ13_bitCount_95d88 [.long x] σ K := by
  refine Call_of_Go (by decide +kernel) (ls := [.long x, .null]) rfl (Nat.le_of_ble_eq_true rfl) ?_
  refine Go.lload_n 0 dJ13_bitCount_95d88_0 rfl rfl (?_ : Go _ _ 1 _ _ _ _)
  refine Go.lload_n 0 dJ13_bitCount_95d88_1 rfl rfl (?_ : Go _ _ 2 _ _ _ _)
  refine Go.iconst dJ13_bitCount_95d88_2 k_ic_1 (?_ : Go _ _ 3 _ _ _ _)
  refine Go.lushr (v := ush x 1) dJ13_bitCount_95d88_3 rfl (?_ : Go _ _ 4 _ _ _ _)
  refine Go.ldc2 wc_314 dJ13_bitCount_95d88_4 (?_ : Go _ _ 7 _ _ _ _)
  refine Go.land2 dJ13_bitCount_95d88_7 (?_ : Go _ _ 8 _ _ _ _)
  refine Go.lsub dJ13_bitCount_95d88_8 (?_ : Go _ _ 9 _ _ _ _)
  refine Go.lstore2 (x' := bc1 x) dJ13_bitCount_95d88_9 rfl rfl (?_ : Go _ _ 10 _ _ _ _)
  generalize hx1 : bc1 x = x1
  refine Go.lload_n 0 dJ13_bitCount_95d88_10 rfl rfl (?_ : Go _ _ 11 _ _ _ _)
  refine Go.ldc2 wc_316 dJ13_bitCount_95d88_11 (?_ : Go _ _ 14 _ _ _ _)
  refine Go.land2 dJ13_bitCount_95d88_14 (?_ : Go _ _ 15 _ _ _ _)
  refine Go.lload_n 0 dJ13_bitCount_95d88_15 rfl rfl (?_ : Go _ _ 16 _ _ _ _)
  refine Go.iconst (v := 2) dJ13_bitCount_95d88_16 (by decide) (?_ : Go _ _ 17 _ _ _ _)
  refine Go.lushr (v := ush x1 2) dJ13_bitCount_95d88_17 rfl (?_ : Go _ _ 18 _ _ _ _)
  refine Go.ldc2 wc_316 dJ13_bitCount_95d88_18 (?_ : Go _ _ 21 _ _ _ _)
  refine Go.land2 dJ13_bitCount_95d88_21 (?_ : Go _ _ 22 _ _ _ _)
  refine Go.ladd dJ13_bitCount_95d88_22 (?_ : Go _ _ 23 _ _ _ _)
  refine Go.lstore2 (x' := bc2 x1) dJ13_bitCount_95d88_23 rfl rfl (?_ : Go _ _ 24 _ _ _ _)
  generalize hx2 : bc2 x1 = x2
  refine Go.lload_n 0 dJ13_bitCount_95d88_24 rfl rfl (?_ : Go _ _ 25 _ _ _ _)
  refine Go.lload_n 0 dJ13_bitCount_95d88_25 rfl rfl (?_ : Go _ _ 26 _ _ _ _)
  refine Go.iconst (v := 4) dJ13_bitCount_95d88_26 (by decide) (?_ : Go _ _ 27 _ _ _ _)
  refine Go.lushr (v := ush x2 4) dJ13_bitCount_95d88_27 rfl (?_ : Go _ _ 28 _ _ _ _)
  refine Go.ladd dJ13_bitCount_95d88_28 (?_ : Go _ _ 29 _ _ _ _)
  refine Go.ldc2 wc_318 dJ13_bitCount_95d88_29 (?_ : Go _ _ 32 _ _ _ _)
  refine Go.land2 dJ13_bitCount_95d88_32 (?_ : Go _ _ 33 _ _ _ _)
  refine Go.lstore2 (x' := bc3 x2) dJ13_bitCount_95d88_33 rfl rfl (?_ : Go _ _ 34 _ _ _ _)
  generalize hx3 : bc3 x2 = x3
  refine Go.lload_n 0 dJ13_bitCount_95d88_34 rfl rfl (?_ : Go _ _ 35 _ _ _ _)
  refine Go.lload_n 0 dJ13_bitCount_95d88_35 rfl rfl (?_ : Go _ _ 36 _ _ _ _)
  refine Go.bipush (v := 8) dJ13_bitCount_95d88_36 (by decide) (?_ : Go _ _ 38 _ _ _ _)
  refine Go.lushr (v := ush x3 8) dJ13_bitCount_95d88_38 rfl (?_ : Go _ _ 39 _ _ _ _)
  refine Go.ladd dJ13_bitCount_95d88_39 (?_ : Go _ _ 40 _ _ _ _)
  refine Go.lstore2 (x' := bc4 x3) dJ13_bitCount_95d88_40 rfl rfl (?_ : Go _ _ 41 _ _ _ _)
  generalize hx4 : bc4 x3 = x4
  refine Go.lload_n 0 dJ13_bitCount_95d88_41 rfl rfl (?_ : Go _ _ 42 _ _ _ _)
  refine Go.lload_n 0 dJ13_bitCount_95d88_42 rfl rfl (?_ : Go _ _ 43 _ _ _ _)
  refine Go.bipush (v := 16) dJ13_bitCount_95d88_43 (by decide) (?_ : Go _ _ 45 _ _ _ _)
  refine Go.lushr (v := ush x4 16) dJ13_bitCount_95d88_45 rfl (?_ : Go _ _ 46 _ _ _ _)
  refine Go.ladd dJ13_bitCount_95d88_46 (?_ : Go _ _ 47 _ _ _ _)
  refine Go.lstore2 (x' := bc5 x4) dJ13_bitCount_95d88_47 rfl rfl (?_ : Go _ _ 48 _ _ _ _)
  generalize hx5 : bc5 x4 = x5
  refine Go.lload_n 0 dJ13_bitCount_95d88_48 rfl rfl (?_ : Go _ _ 49 _ _ _ _)
  refine Go.lload_n 0 dJ13_bitCount_95d88_49 rfl rfl (?_ : Go _ _ 50 _ _ _ _)
  refine Go.bipush (v := 32) dJ13_bitCount_95d88_50 (by decide) (?_ : Go _ _ 52 _ _ _ _)
  refine Go.lushr (v := ush x5 32) dJ13_bitCount_95d88_52 rfl (?_ : Go _ _ 53 _ _ _ _)
  refine Go.ladd dJ13_bitCount_95d88_53 (?_ : Go _ _ 54 _ _ _ _)
  refine Go.lstore2 (x' := bc6 x5) dJ13_bitCount_95d88_54 rfl rfl (?_ : Go _ _ 55 _ _ _ _)
  refine Go.lload_n 0 dJ13_bitCount_95d88_55 rfl rfl (?_ : Go _ _ 56 _ _ _ _)
  refine Go.l2i dJ13_bitCount_95d88_56 (?_ : Go _ _ 57 _ _ _ _)
  refine Go.bipush (v := 127) dJ13_bitCount_95d88_57 (by decide) (?_ : Go _ _ 59 _ _ _ _)
  refine Go.iand2 dJ13_bitCount_95d88_59 (?_ : Go _ _ 60 _ _ _ _)
  refine Go.iret rfl dJ13_bitCount_95d88_60 ⟨_, rfl, ?_⟩
  unfold bcA at h
  rw [hx1, hx2, hx3, hx4, hx5] at h
  exact h
