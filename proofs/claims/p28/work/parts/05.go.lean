/-! the rows of PM's logic: an instruction a row -/
section GO
variable {y : MI} {d pc : Nat} {ls st : List Value} {σ : St} {Q : Option Value → St → Prop}
theorem Go.iconst {n : Int} {v : Int32} (hd : decode y.2.1 pc = .ok (.iconst n, 1)) (hv : Int32.ofInt n = v) (k : Go y d (pc + 1) ls (.int v :: st) σ Q) : Go y d pc ls st σ Q :=
  fun l G p e s m args below meth c H locs lsA R hH hS hL => lv_iconst R.1 R.2.1 hd hv (k l G p e s m args below meth c H locs lsA R hH hS hL)
theorem Go.bipush {n : Int} {v : Int32} (hd : decode y.2.1 pc = .ok (.bipush n, 2)) (hv : (Int8.ofInt n).toInt32 = v) (k : Go y d (pc + 2) ls (.int v :: st) σ Q) : Go y d pc ls st σ Q :=
  fun l G p e s m args below meth c H locs lsA R hH hS hL => lv_bipush R.1 R.2.1 hd hv (k l G p e s m args below meth c H locs lsA R hH hS hL)
theorem Go.sipush {n : Int} {v : Int32} (hd : decode y.2.1 pc = .ok (.sipush n, 3)) (hv : (Int16.ofInt n).toInt32 = v) (k : Go y d (pc + 3) ls (.int v :: st) σ Q) : Go y d pc ls st σ Q :=
  fun l G p e s m args below meth c H locs lsA R hH hS hL => lv_sipush R.1 R.2.1 hd hv (k l G p e s m args below meth c H locs lsA R hH hS hL)
theorem pm_L.at' {ad : Nat → Nat} {lsA : Array Slot} {n i : Nat} {ls : List Value} {v : Value} (h : pm_L ad lsA n ls) (hi : ls[i]? = some v) (hn : v ≠ .null) : lsA[i]? = some (.val (ptr ad v)) := h.2.2.2 i v hi hn
theorem Go.iload_n {j : Fin 4} {x : Int32} (i : Nat) (hd : decode y.2.1 pc = .ok (.iload_n j, 1)) (hj : (j : Nat) = i) (hl : ls[i]? = some (.int x)) (k : Go y d (pc + 1) ls (.int x :: st) σ Q) : Go y d pc ls st σ Q :=
  fun l G p e s m args below meth c H locs lsA R hH hS hL => lv_iload_n R.1 R.2.1 hd hj (hL.at' hl (by simp)) (k l G p e s m args below meth c H locs lsA R hH hS hL)
theorem Go.iload {i : Nat} {x : Int32} (hd : decode y.2.1 pc = .ok (.iload i, 2)) (hl : ls[i]? = some (.int x)) (k : Go y d (pc + 2) ls (.int x :: st) σ Q) : Go y d pc ls st σ Q :=
  fun l G p e s m args below meth c H locs lsA R hH hS hL => lv_iload R.1 R.2.1 hd (hL.at' hl (by simp)) (k l G p e s m args below meth c H locs lsA R hH hS hL)
theorem Go.aload_n {j : Fin 4} {x : Nat} (i : Nat) (hd : decode y.2.1 pc = .ok (.aload_n j, 1)) (hj : (j : Nat) = i) (hl : ls[i]? = some (.ref x)) (k : Go y d (pc + 1) ls (.ref x :: st) σ Q) : Go y d pc ls st σ Q :=
  fun l G p e s m args below meth c H locs lsA R hH hS hL => lv_aload_n R.1 R.2.1 hd hj (hL.at' hl (by simp)) (k l G p e s m args below meth c H locs lsA R hH hS hL)
theorem Go.lload_n {j : Fin 4} {x : Int64} (i : Nat) (hd : decode y.2.1 pc = .ok (.lload_n j, 1)) (hj : (j : Nat) = i) (hl : ls[i]? = some (.long x)) (k : Go y d (pc + 1) ls (.long x :: st) σ Q) : Go y d pc ls st σ Q :=
  fun l G p e s m args below meth c H locs lsA R hH hS hL => lv_lload_n R.1 R.2.1 hd hj (hL.at' hl (by simp)) (k l G p e s m args below meth c H locs lsA R hH hS hL)
/-- a store may not cut a value of two slots that is named -/
def lvok (ls : List Value) (i : Nat) : Bool := match i with
  | 0 => true
  | j + 1 => (ls.getD j .null).category != 2
theorem pm_L.store {ad : Nat → Nat} {ls : List Value} {n i : Nat} {v : Value} {lsA : Array Slot} (h : pm_L ad lsA n ls) (hi : i < n) (hok : lvok ls i = true) :
    ∃ lv : List (Nat × Value), lv_has lsA n lv ∧ ∀ lsB : Array Slot, lv_has lsB n ((i, ptr ad v) :: lv.filter (fun q => !(q.1 == i) && !(q.1 + 1 == i && q.2.category == 2))) → pm_L ad lsB n (ls.set i v) := by
  obtain ⟨h1, h2, h3, h4⟩ := h
  refine ⟨((List.range n).filterMap fun j => match ls[j]? with | some Value.null => none | some w => some (j, ptr ad w) | none => none), ⟨h1, h2, fun q hq => ?_⟩, fun lsB hB => ?_⟩
  · obtain ⟨j, -, hj⟩ := List.mem_filterMap.mp hq
    rcases hls : ls[j]? with _ | w
    · rw [hls] at hj; cases hj
    · rw [hls] at hj
      cases w <;> first | (cases hj; exact h4 j _ hls (by simp)) | cases hj
  · obtain ⟨b1, b2, b3⟩ := hB
    refine ⟨b1, b2, by simp [h3], fun j w hj hw => ?_⟩
    rcases Nat.decEq j i with hne | rfl
    · rw [List.getElem?_set_ne (fun z => hne z.symm)] at hj
      have hjn : j < n := by rw [← h3]; exact (List.getElem?_eq_some_iff.mp hj).1
      refine b3 (j, ptr ad w) (List.mem_cons_of_mem _ (List.mem_filter.mpr ⟨List.mem_filterMap.mpr ⟨j, List.mem_range.mpr hjn, ?_⟩, ?_⟩))
      · rw [hj]
        cases w <;> first | rfl | exact (hw rfl).elim
      · simp only [Bool.and_eq_true, Bool.not_eq_true', beq_eq_false_iff_ne, ne_eq, Bool.and_eq_false_iff]
        refine ⟨hne, ?_⟩
        rcases Nat.decEq (j + 1) i with hz | hz
        · exact Or.inl hz
        · right
          subst hz
          rw [ptr_cat]
          have hok2 : ((ls.getD j .null).category != 2) = true := hok
          have : ls.getD j .null = w := by simp [List.getD, hj]
          rw [this] at hok2
          simpa using hok2
    · rw [List.getElem?_set_self (by omega)] at hj
      cases hj
      exact b3 (j, ptr ad v) List.mem_cons_self
theorem Go.istore_n {j : Fin 4} {x : Int32} {ls' : List Value} (i : Nat) (hd : decode y.2.1 pc = .ok (.istore_n j, 1)) (hj : (j : Nat) = i) (hi : i < y.2.2.1) (hok : lvok ls i = true) (hl : ls.set i (.int x) = ls') (k : Go y d (pc + 1) ls' st σ Q) : Go y d pc ls (.int x :: st) σ Q := by
  intro l G p e s m args below meth c H locs lsA R hH hS hL
  obtain ⟨lv, h1, h2⟩ := hL.store (v := .int x) hi hok
  refine lv_istore_n R.1 R.2.1 hd hj h1 hi rfl (fun lsB hB => ?_)
  exact k l G p e s m args below meth c H locs lsB R hH hS (hl ▸ h2 lsB hB)
theorem Go.istore {i : Nat} {x : Int32} {ls' : List Value} (hd : decode y.2.1 pc = .ok (.istore i, 2)) (hi : i < y.2.2.1) (hok : lvok ls i = true) (hl : ls.set i (.int x) = ls') (k : Go y d (pc + 2) ls' st σ Q) : Go y d pc ls (.int x :: st) σ Q := by
  intro l G p e s m args below meth c H locs lsA R hH hS hL
  obtain ⟨lv, h1, h2⟩ := hL.store (v := .int x) hi hok
  refine lv_istore R.1 R.2.1 hd h1 hi rfl (fun lsB hB => ?_)
  exact k l G p e s m args below meth c H locs lsB R hH hS (hl ▸ h2 lsB hB)
theorem Go.astore_n {j : Fin 4} {x : Nat} {ls' : List Value} (i : Nat) (hd : decode y.2.1 pc = .ok (.astore_n j, 1)) (hj : (j : Nat) = i) (hi : i < y.2.2.1) (hok : lvok ls i = true) (hl : ls.set i (.ref x) = ls') (k : Go y d (pc + 1) ls' st σ Q) : Go y d pc ls (.ref x :: st) σ Q := by
  intro l G p e s m args below meth c H locs lsA R hH hS hL
  obtain ⟨lv, h1, h2⟩ := hL.store (v := .ref x) hi hok
  refine lv_astore_n R.1 R.2.1 hd hj h1 hi rfl (fun lsB hB => ?_)
  exact k l G p e s m args below meth c H locs lsB R hH hS (hl ▸ h2 lsB hB)
theorem Go.iinc {i : Nat} {n : Int} {x v : Int32} {ls' : List Value} (hd : decode y.2.1 pc = .ok (.iinc i n, 3)) (hx : ls[i]? = some (.int x)) (hv : x + Int32.ofInt n = v) (hi : i < y.2.2.1) (hok : lvok ls i = true) (hl : ls.set i (.int v) = ls') (k : Go y d (pc + 3) ls' st σ Q) : Go y d pc ls st σ Q := by
  intro l G p e s m args below meth c H locs lsA R hH hS hL
  obtain ⟨lv, h1, h2⟩ := hL.store (v := .int v) hi hok
  have h3 : lv_has lsA y.2.2.1 ((i, .int x) :: lv) := ⟨h1.1, h1.2.1, fun q hq => by
    rcases List.mem_cons.mp hq with rfl | hq
    · exact hL.at' hx (by simp)
    · exact h1.2.2 q hq⟩
  refine lv_iinc R.1 R.2.1 hd h3 (k := 0) rfl hv hi rfl (fun lsB hB => ?_)
  refine k l G p e s m args below meth c H locs lsB R hH hS (hl ▸ h2 lsB ?_)
  have e1 : ((i, Value.int x) :: lv).filter (fun q => !(q.1 == i) && !(q.1 + 1 == i && q.2.category == 2)) = lv.filter (fun q => !(q.1 == i) && !(q.1 + 1 == i && q.2.category == 2)) := by simp
  rw [e1] at hB
  exact hB
theorem Go.iadd {a b : Int32} (hd : decode y.2.1 pc = .ok (.iadd, 1)) (k : Go y d (pc + 1) ls (.int (a + b) :: st) σ Q) : Go y d pc ls (.int b :: .int a :: st) σ Q :=
  fun l G p e s m args below meth c H locs lsA R hH hS hL => lv_iadd R.1 R.2.1 hd (k l G p e s m args below meth c H locs lsA R hH hS hL)
theorem Go.isub {a b : Int32} (hd : decode y.2.1 pc = .ok (.isub, 1)) (k : Go y d (pc + 1) ls (.int (a - b) :: st) σ Q) : Go y d pc ls (.int b :: .int a :: st) σ Q :=
  fun l G p e s m args below meth c H locs lsA R hH hS hL => lv_isub R.1 R.2.1 hd (k l G p e s m args below meth c H locs lsA R hH hS hL)
theorem Go.imul {a b : Int32} (hd : decode y.2.1 pc = .ok (.imul, 1)) (k : Go y d (pc + 1) ls (.int (a * b) :: st) σ Q) : Go y d pc ls (.int b :: .int a :: st) σ Q :=
  fun l G p e s m args below meth c H locs lsA R hH hS hL => lv_imul R.1 R.2.1 hd (k l G p e s m args below meth c H locs lsA R hH hS hL)
/-- the remainder, as the machine has it -/
def irem (a b : Int32) : Int32 := a - a / b * b
theorem Go.idiv {a b : Int32} (hd : decode y.2.1 pc = .ok (.idiv, 1)) (hne : ¬ b = 0) (k : Go y d (pc + 1) ls (.int (a / b) :: st) σ Q) : Go y d pc ls (.int b :: .int a :: st) σ Q :=
  fun l G p e s m args below meth c H locs lsA R hH hS hL => lv_idiv R.1 R.2.1 hd hne (k l G p e s m args below meth c H locs lsA R hH hS hL)
theorem Go.irem {a b : Int32} (hd : decode y.2.1 pc = .ok (.irem, 1)) (hne : ¬ b = 0) (k : Go y d (pc + 1) ls (.int (irem a b) :: st) σ Q) : Go y d pc ls (.int b :: .int a :: st) σ Q :=
  fun l G p e s m args below meth c H locs lsA R hH hS hL => lv_irem R.1 R.2.1 hd hne (k l G p e s m args below meth c H locs lsA R hH hS hL)
theorem Go.ineg {a : Int32} (hd : decode y.2.1 pc = .ok (.ineg, 1)) (k : Go y d (pc + 1) ls (.int (-a) :: st) σ Q) : Go y d pc ls (.int a :: st) σ Q :=
  fun l G p e s m args below meth c H locs lsA R hH hS hL => lv_ineg R.1 R.2.1 hd (k l G p e s m args below meth c H locs lsA R hH hS hL)
theorem Go.i2c {a v : Int32} (hd : decode y.2.1 pc = .ok (.i2c, 1)) (hv : (a.toUInt32 % 65536).toInt32 = v) (k : Go y d (pc + 1) ls (.int v :: st) σ Q) : Go y d pc ls (.int a :: st) σ Q :=
  fun l G p e s m args below meth c H locs lsA R hH hS hL => lv_i2c R.1 R.2.1 hd hv (k l G p e s m args below meth c H locs lsA R hH hS hL)
theorem Go.dup {v : Value} (hd : decode y.2.1 pc = .ok (.dup, 1)) (hv : v.category = 1) (k : Go y d (pc + 1) ls (v :: v :: st) σ Q) : Go y d pc ls (v :: st) σ Q :=
  fun l G p e s m args below meth c H locs lsA R hH hS hL => lv_dup R.1 R.2.1 hd ((ptr_cat _ v).trans hv) (k l G p e s m args below meth c H locs lsA R hH hS hL)
theorem Go.dup2 {v w : Value} (hd : decode y.2.1 pc = .ok (.dup2, 1)) (hv : v.category = 1) (hw : w.category = 1) (k : Go y d (pc + 1) ls (v :: w :: v :: w :: st) σ Q) : Go y d pc ls (v :: w :: st) σ Q :=
  fun l G p e s m args below meth c H locs lsA R hH hS hL => lv_dup2_11 R.1 R.2.1 hd ((ptr_cat _ v).trans hv) ((ptr_cat _ w).trans hw) (k l G p e s m args below meth c H locs lsA R hH hS hL)
theorem Go.pop {v : Value} (hd : decode y.2.1 pc = .ok (.pop, 1)) (hv : v.category = 1) (k : Go y d (pc + 1) ls st σ Q) : Go y d pc ls (v :: st) σ Q :=
  fun l G p e s m args below meth c H locs lsA R hH hS hL => lv_pop R.1 R.2.1 hd ((ptr_cat _ v).trans hv) (k l G p e s m args below meth c H locs lsA R hH hS hL)
theorem Go.goto {off : Int} (t : Nat) (hd : decode y.2.1 pc = .ok (.goto off, 3)) (ht : (pc : Int) + off = (t : Int)) (k : Go y d t ls st σ Q) : Go y d pc ls st σ Q :=
  fun l G p e s m args below meth c H locs lsA R hH hS hL => lv_goto R.1 R.2.1 hd ht (k l G p e s m args below meth c H locs lsA R hH hS hL)
theorem Go.if_eq {x : Int32} {off : Int} (t : Nat) (hd : decode y.2.1 pc = .ok (.ifCond .eq off, 3)) (ht : (pc : Int) + off = (t : Int)) (k : (x = 0 → Go y d t ls st σ Q) ∧ (¬ x = 0 → Go y d (pc + 3) ls st σ Q)) : Go y d pc ls (.int x :: st) σ Q :=
  fun l G p e s m args below meth c H locs lsA R hH hS hL => lv_if_eq R.1 R.2.1 hd ht (fun q => k.1 q l G p e s m args below meth c H locs lsA R hH hS hL) (fun q => k.2 q l G p e s m args below meth c H locs lsA R hH hS hL)
theorem Go.icmp_eq {x y0 : Int32} {off : Int} (t : Nat) (hd : decode y.2.1 pc = .ok (.if_icmp .eq off, 3)) (ht : (pc : Int) + off = (t : Int)) (k : (x = y0 → Go y d t ls st σ Q) ∧ (¬ x = y0 → Go y d (pc + 3) ls st σ Q)) : Go y d pc ls (.int y0 :: .int x :: st) σ Q :=
  fun l G p e s m args below meth c H locs lsA R hH hS hL => lv_icmp_eq R.1 R.2.1 hd ht (fun q => k.1 q l G p e s m args below meth c H locs lsA R hH hS hL) (fun q => k.2 q l G p e s m args below meth c H locs lsA R hH hS hL)
theorem Go.if_ne {x : Int32} {off : Int} (t : Nat) (hd : decode y.2.1 pc = .ok (.ifCond .ne off, 3)) (ht : (pc : Int) + off = (t : Int)) (k : (¬ x = 0 → Go y d t ls st σ Q) ∧ (x = 0 → Go y d (pc + 3) ls st σ Q)) : Go y d pc ls (.int x :: st) σ Q :=
  fun l G p e s m args below meth c H locs lsA R hH hS hL => lv_if_ne R.1 R.2.1 hd ht (fun q => k.1 q l G p e s m args below meth c H locs lsA R hH hS hL) (fun q => k.2 q l G p e s m args below meth c H locs lsA R hH hS hL)
theorem Go.icmp_ne {x y0 : Int32} {off : Int} (t : Nat) (hd : decode y.2.1 pc = .ok (.if_icmp .ne off, 3)) (ht : (pc : Int) + off = (t : Int)) (k : (¬ x = y0 → Go y d t ls st σ Q) ∧ (x = y0 → Go y d (pc + 3) ls st σ Q)) : Go y d pc ls (.int y0 :: .int x :: st) σ Q :=
  fun l G p e s m args below meth c H locs lsA R hH hS hL => lv_icmp_ne R.1 R.2.1 hd ht (fun q => k.1 q l G p e s m args below meth c H locs lsA R hH hS hL) (fun q => k.2 q l G p e s m args below meth c H locs lsA R hH hS hL)
theorem Go.if_lt {x : Int32} {off : Int} (t : Nat) (hd : decode y.2.1 pc = .ok (.ifCond .lt off, 3)) (ht : (pc : Int) + off = (t : Int)) (k : (x < 0 → Go y d t ls st σ Q) ∧ (¬ x < 0 → Go y d (pc + 3) ls st σ Q)) : Go y d pc ls (.int x :: st) σ Q :=
  fun l G p e s m args below meth c H locs lsA R hH hS hL => lv_if_lt R.1 R.2.1 hd ht (fun q => k.1 q l G p e s m args below meth c H locs lsA R hH hS hL) (fun q => k.2 q l G p e s m args below meth c H locs lsA R hH hS hL)
theorem Go.icmp_lt {x y0 : Int32} {off : Int} (t : Nat) (hd : decode y.2.1 pc = .ok (.if_icmp .lt off, 3)) (ht : (pc : Int) + off = (t : Int)) (k : (x < y0 → Go y d t ls st σ Q) ∧ (¬ x < y0 → Go y d (pc + 3) ls st σ Q)) : Go y d pc ls (.int y0 :: .int x :: st) σ Q :=
  fun l G p e s m args below meth c H locs lsA R hH hS hL => lv_icmp_lt R.1 R.2.1 hd ht (fun q => k.1 q l G p e s m args below meth c H locs lsA R hH hS hL) (fun q => k.2 q l G p e s m args below meth c H locs lsA R hH hS hL)
theorem Go.if_ge {x : Int32} {off : Int} (t : Nat) (hd : decode y.2.1 pc = .ok (.ifCond .ge off, 3)) (ht : (pc : Int) + off = (t : Int)) (k : (0 ≤ x → Go y d t ls st σ Q) ∧ (¬ 0 ≤ x → Go y d (pc + 3) ls st σ Q)) : Go y d pc ls (.int x :: st) σ Q :=
  fun l G p e s m args below meth c H locs lsA R hH hS hL => lv_if_ge R.1 R.2.1 hd ht (fun q => k.1 q l G p e s m args below meth c H locs lsA R hH hS hL) (fun q => k.2 q l G p e s m args below meth c H locs lsA R hH hS hL)
theorem Go.icmp_ge {x y0 : Int32} {off : Int} (t : Nat) (hd : decode y.2.1 pc = .ok (.if_icmp .ge off, 3)) (ht : (pc : Int) + off = (t : Int)) (k : (y0 ≤ x → Go y d t ls st σ Q) ∧ (¬ y0 ≤ x → Go y d (pc + 3) ls st σ Q)) : Go y d pc ls (.int y0 :: .int x :: st) σ Q :=
  fun l G p e s m args below meth c H locs lsA R hH hS hL => lv_icmp_ge R.1 R.2.1 hd ht (fun q => k.1 q l G p e s m args below meth c H locs lsA R hH hS hL) (fun q => k.2 q l G p e s m args below meth c H locs lsA R hH hS hL)
theorem Go.if_gt {x : Int32} {off : Int} (t : Nat) (hd : decode y.2.1 pc = .ok (.ifCond .gt off, 3)) (ht : (pc : Int) + off = (t : Int)) (k : (0 < x → Go y d t ls st σ Q) ∧ (¬ 0 < x → Go y d (pc + 3) ls st σ Q)) : Go y d pc ls (.int x :: st) σ Q :=
  fun l G p e s m args below meth c H locs lsA R hH hS hL => lv_if_gt R.1 R.2.1 hd ht (fun q => k.1 q l G p e s m args below meth c H locs lsA R hH hS hL) (fun q => k.2 q l G p e s m args below meth c H locs lsA R hH hS hL)
theorem Go.icmp_gt {x y0 : Int32} {off : Int} (t : Nat) (hd : decode y.2.1 pc = .ok (.if_icmp .gt off, 3)) (ht : (pc : Int) + off = (t : Int)) (k : (y0 < x → Go y d t ls st σ Q) ∧ (¬ y0 < x → Go y d (pc + 3) ls st σ Q)) : Go y d pc ls (.int y0 :: .int x :: st) σ Q :=
  fun l G p e s m args below meth c H locs lsA R hH hS hL => lv_icmp_gt R.1 R.2.1 hd ht (fun q => k.1 q l G p e s m args below meth c H locs lsA R hH hS hL) (fun q => k.2 q l G p e s m args below meth c H locs lsA R hH hS hL)
theorem Go.if_le {x : Int32} {off : Int} (t : Nat) (hd : decode y.2.1 pc = .ok (.ifCond .le off, 3)) (ht : (pc : Int) + off = (t : Int)) (k : (x ≤ 0 → Go y d t ls st σ Q) ∧ (¬ x ≤ 0 → Go y d (pc + 3) ls st σ Q)) : Go y d pc ls (.int x :: st) σ Q :=
  fun l G p e s m args below meth c H locs lsA R hH hS hL => lv_if_le R.1 R.2.1 hd ht (fun q => k.1 q l G p e s m args below meth c H locs lsA R hH hS hL) (fun q => k.2 q l G p e s m args below meth c H locs lsA R hH hS hL)
theorem Go.icmp_le {x y0 : Int32} {off : Int} (t : Nat) (hd : decode y.2.1 pc = .ok (.if_icmp .le off, 3)) (ht : (pc : Int) + off = (t : Int)) (k : (x ≤ y0 → Go y d t ls st σ Q) ∧ (¬ x ≤ y0 → Go y d (pc + 3) ls st σ Q)) : Go y d pc ls (.int y0 :: .int x :: st) σ Q :=
  fun l G p e s m args below meth c H locs lsA R hH hS hL => lv_icmp_le R.1 R.2.1 hd ht (fun q => k.1 q l G p e s m args below meth c H locs lsA R hH hS hL) (fun q => k.2 q l G p e s m args below meth c H locs lsA R hH hS hL)
end GO
