/-! more rows of PM's logic: what the law's methods and the doubles want -/
section GO2
variable {y : MI} {d pc : Nat} {ls st : List Value} {σ : St} {Q : Option Value → St → Prop}
theorem Go.aload {i : Nat} {x : Nat} (hd : decode y.2.1 pc = .ok (.aload i, 2)) (hl : ls[i]? = some (.ref x)) (k : Go y d (pc + 2) ls (.ref x :: st) σ Q) : Go y d pc ls st σ Q :=
  fun l G p e s m args below meth c H locs lsA R hH hS hL => lv_aload R.1 R.2.1 hd (hL.at' hl (by simp)) (k l G p e s m args below meth c H locs lsA R hH hS hL)
theorem Go.ishr {a b : Int32} (hd : decode y.2.1 pc = .ok (.ishr, 1)) (k : Go y d (pc + 1) ls (.int (a >>> (b &&& 31)) :: st) σ Q) : Go y d pc ls (.int b :: .int a :: st) σ Q :=
  fun l G p e s m args below meth c H locs lsA R hH hS hL => lv_ishr R.1 R.2.1 hd (k l G p e s m args below meth c H locs lsA R hH hS hL)
theorem Go.iand {a b : Int32} (hd : decode y.2.1 pc = .ok (.iand, 1)) (k : Go y d (pc + 1) ls (.int (a &&& b) :: st) σ Q) : Go y d pc ls (.int b :: .int a :: st) σ Q :=
  fun l G p e s m args below meth c H locs lsA R hH hS hL => lv_iand R.1 R.2.1 hd (k l G p e s m args below meth c H locs lsA R hH hS hL)
theorem Go.ldc {index : Nat} {v : Int32} (hw : Cond.constant y.1.cls index v ∈ tbg) (hd : decode y.2.1 pc = .ok (.ldc index, 2)) (k : Go y d (pc + 2) ls (.int v :: st) σ Q) : Go y d pc ls st σ Q :=
  fun l G p e s m args below meth c H locs lsA R hH hS hL => lv_ldc R.1 R.2.1 R.2.2.2.2.1 (R.2.2.2.2.2.1 _ hw) hd (k l G p e s m args below meth c H locs lsA R hH hS hL)
theorem Go.i2d {x : Int32} (hd : decode y.2.1 pc = .ok (.i2d, 1)) (k : Go y d (pc + 1) ls (.double (FP.i2d x) :: st) σ Q) : Go y d pc ls (.int x :: st) σ Q :=
  fun l G p e s m args below meth c H locs lsA R hH hS hL => lv_i2d R.1 R.2.1 hd (k l G p e s m args below meth c H locs lsA R hH hS hL)
theorem Go.ddiv {a b : UInt64} (hd : decode y.2.1 pc = .ok (.ddiv, 1)) (hne : vf_n64 (FP.ddiv a b)) (k : Go y d (pc + 1) ls (.double (FP.ddiv a b) :: st) σ Q) : Go y d pc ls (.double b :: .double a :: st) σ Q :=
  fun l G p e s m args below meth c H locs lsA R hH hS hL => lv_ddiv R.1 R.2.1 hd hne (k l G p e s m args below meth c H locs lsA R hH hS hL)
theorem Go.dconst1 (hd : decode y.2.1 pc = .ok (.dconst 1, 1)) (k : Go y d (pc + 1) ls (.double FP.dconst1 :: st) σ Q) : Go y d pc ls st σ Q :=
  fun l G p e s m args below meth c H locs lsA R hH hS hL => lv_dconst1 R.1 R.2.1 hd (k l G p e s m args below meth c H locs lsA R hH hS hL)
theorem Go.dret {v : UInt64} (hr : y.2.2.2 = some .double) (hd : decode y.2.1 pc = .ok (.dreturn, 1)) (k : Q (some (.double v)) σ) : Go y d pc ls [.double v] σ Q := by
  intro l G p e s m args below meth c H locs lsA R hH hS hL
  have hlocks := R.2.2.2.2.2.2.1
  exact W.dret R.1 R.2.1 (R.2.2.1.trans hr) (fun t ht _ => ⟨⟨some (.double v), σ, rfl, k, by rw [ht]; exact hH⟩, hS.F ht⟩) hS.2.2 hd
theorem Go.dcmp {a b : UInt64} {op : CmpOp} (hd : decode y.2.1 pc = .ok (.dcmp op, 1)) (k : Go y d (pc + 1) ls (.int (Op.cmpValue (FP.dcmp a b) op) :: st) σ Q) : Go y d pc ls (.double b :: .double a :: st) σ Q :=
  fun l G p e s m args below meth c H locs lsA R hH hS hL => lv_dcmp R.1 R.2.1 hd (k l G p e s m args below meth c H locs lsA R hH hS hL)
theorem Go.dload {i : Nat} {x : UInt64} (hd : decode y.2.1 pc = .ok (.dload i, 2)) (hl : ls[i]? = some (.double x)) (k : Go y d (pc + 2) ls (.double x :: st) σ Q) : Go y d pc ls st σ Q :=
  fun l G p e s m args below meth c H locs lsA R hH hS hL => lv_dload R.1 R.2.1 hd (hL.at' hl (by simp)) (k l G p e s m args below meth c H locs lsA R hH hS hL)
theorem Go.dstore {i : Nat} {x : UInt64} {ls' : List Value} (hd : decode y.2.1 pc = .ok (.dstore i, 2)) (hi : i + 1 < y.2.2.1) (hok : lvok ls i = true) (hl : (ls.set i (.double x)).set (i + 1) .null = ls') (k : Go y d (pc + 2) ls' st σ Q) : Go y d pc ls (.double x :: st) σ Q := by
  intro l G p e s m args below meth c H locs lsA R hH hS hL
  obtain ⟨h1, h2, h3, h4⟩ := hL
  have hlv : lv_has lsA y.2.2.1 ((List.range y.2.2.1).filterMap fun j => match ls[j]? with | some Value.null => none | some w => some (j, ptr G.2.2 w) | none => none) := by
    refine ⟨h1, h2, fun q hq => ?_⟩
    obtain ⟨j, -, hj⟩ := List.mem_filterMap.mp hq
    rcases hls : ls[j]? with _ | w
    · rw [hls] at hj; cases hj
    · rw [hls] at hj
      cases w <;> first | (cases hj; exact h4 j _ hls (by simp)) | cases hj
  refine lv_dstore R.1 R.2.1 hd hlv hi rfl (fun lsB hB => ?_)
  refine k l G p e s m args below meth c H locs lsB R hH hS ⟨hB.1, hB.2.1, by rw [← hl]; simp [h3], fun j w hj hw => ?_⟩
  rw [← hl] at hj
  rcases Nat.decEq j (i + 1) with hne | rfl
  · rw [List.getElem?_set_ne (fun z => hne z.symm)] at hj
    rcases Nat.decEq j i with hne2 | rfl
    · rw [List.getElem?_set_ne (fun z => hne2 z.symm)] at hj
      have hjn : j < y.2.2.1 := by rw [← h3]; exact (List.getElem?_eq_some_iff.mp hj).1
      refine hB.2.2 (j, ptr G.2.2 w) (List.mem_cons_of_mem _ (List.mem_filter.mpr ⟨List.mem_filterMap.mpr ⟨j, List.mem_range.mpr hjn, ?_⟩, ?_⟩))
      · rw [hj]
        cases w <;> first | rfl | exact (hw rfl).elim
      · simp only [Bool.and_eq_true, Bool.not_eq_true', beq_eq_false_iff_ne, ne_eq, Bool.and_eq_false_iff]
        refine ⟨hne2, hne, ?_⟩
        rcases Nat.decEq (j + 1) i with hz | hz
        · exact Or.inl hz
        · right
          subst hz
          rw [ptr_cat]
          have hok2 : ((ls.getD j .null).category != 2) = true := hok
          have : ls.getD j .null = w := by simp [List.getD, hj]
          rw [this] at hok2
          simpa using hok2
    · rw [List.getElem?_set_self (by omega)] at hj
      cases hj
      exact hB.2.2 (j, .double x) List.mem_cons_self
  · rw [List.getElem?_set_self (by simp; omega)] at hj
    cases hj
    exact (hw rfl).elim
end GO2
