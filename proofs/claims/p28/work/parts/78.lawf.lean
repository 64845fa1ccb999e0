/-! THE CLAIM OUT OF ONE WALK OF THE LAW'S BODY. Your part is whole_start (and what it stands on); all else here is the same for every law, but numbers. -/
def R_law : String := "EchoTurnsLaw"
def lw_P (b : Addr) (xs : List Int32) (args : Array Value) (s : State) : Prop := args = #[.ref b] ∧ s.IntsAt b xs ∧ xs.length ≤ 260 ∧ (Jvm.Cond.and given_1 narrow_1).before args s = true
/-- what a walk over the start with the record d0 says of its end, said of the start itself -/
theorem lw_closed {s t : State} {o : Outcome} {d0 : Drawn} {L : List Loc} {k n : Nat} (hd0 : s.drawn.sameBut d0 lw_cs) (hv : ∃ v, o = .returned v) (hW : (s.setDrawn d0).WarmedH t.vm) (hs : (s.setDrawn d0).sameButNew ({ t with vm := s.vm } : State) L k n) : State.butDraws s t lw_cs (fun t1 => Framed s o t1 L k n) := by
  have h2 : t.drawn = d0 := congrArg State.drawn hs.1
  refine ⟨⟨hv, hW, State.sameButNew.setDrawn hs s.drawn⟩, ?_, by decide⟩
  rw [h2]
  exact hd0
def lw_Q (_ : Array Value) (s : State) (o : Outcome) (t : State) : Prop := o = .returned (some (.int 1)) ∧ State.butDraws s t lw_cs (fun t1 => Framed s o t1 [] 600000 7302250)
def lw_Z (below : List Frame) (a : Array Value) (s : State) : State → Prop := fun t => ∃ o, t.status = .running ∧ Ended t below o ∧ lw_Q a s o t
/-- the law's own end, with 1 on the stack, nothing written that was there before, its room as the claim has it; d0: the record of draws at this point (at the entry s.drawn: begin with 'refine W.base ?_' and 'have hd0 := Drawn.sameBut.refl s.drawn lw_cs') -/
theorem lw_ret {p : Program} {l : Launch} {e : Env} {s : State} {m : MethodId} {below : List Frame} {meth : Method} {c : Code} {b : Nat} {d0 : Drawn} (hd0 : s.drawn.sameBut d0 lw_cs) (hx : p.tables.exec = Jvm.exec) (hb : c.code = code) (hr : meth.sig.returnType = ret) (hlocks : meth.locks = false) {pc : Nat} {H : Heap} {ls : Array Slot} (hdg : decode code pc = .ok (.ireturn, 1)) : W p l e room_1 (s.setDrawn d0) m #[Value.ref b] below meth c H [] 600000 7302250 (lw_Z below #[Value.ref b] s) (F0 m pc ls [.int 1]) := by
  intro T hT X
  obtain ⟨fs, hret, hrun, hended, hW, hframe⟩ := X.leave (v := some (.int 1)) (hlocks := hlocks) (fun h => by rw [hr] at h; cases h)
  have hmeth' : T.vm.method? m = some meth := X.method'
  refine ⟨T.setFrames fs, ?_, .returned (some (.int 1)), hrun, hended, rfl, lw_closed hd0 ⟨_, rfl⟩ hW hframe⟩
  jvm_step X.here [X.here.top, hx, hb, hdg, hmeth', hr, ret, narrow_b1]
  (try refine ⟨rfl, ?_⟩); (try refine ⟨rfl, ?_⟩)
  first | (intro acts; rw [hret _ acts rfl rfl rfl]) | rw [hret _ _ rfl rfl rfl]
  exact Steps.refl _
/-- what holds at the law's entry: the machine, the code, the tables' words (any of lw_tbl by 'hts w (by decide +kernel)'), the script of L ints xs at the cell b, what the Statement gives of the start (any of its parts by flat_of_before) -/
def lw_At (p : Program) (s : State) (m : MethodId) (meth : Method) (c : Code) (b L : Nat) (xs : Nat → Int32) : Prop :=
  p.tables.exec = Jvm.exec ∧ c.code = code ∧ meth.sig.returnType = ret ∧ c.maxLocals = 18 ∧ s.vm.findClass R_law = some m.cls ∧ (∀ w ∈ lw_tbl, w.before #[Value.ref b] s = true) ∧ va_X b L xs s s.heap ∧ b < s.heap.size ∧ meth.locks = false ∧ (Jvm.Cond.and given_1 narrow_1).before #[Value.ref b] s = true
/-! the law's frame -/
abbrev LX : Type := Program × Launch × Env × State × MethodId × List Frame × Method × Code × Nat × GC
/-- from this frame of the law in this world the law comes to its end, with true -/
def LGo (X : LX) (pc : Nat) (ls st : List Value) (σ : St) : Prop := match X with
  | (p, l, e, s, m, below, meth, c, b0, G) => ∀ (H : Heap) (locs : List Loc) (lsA : Array Slot), pm_H G σ H → va_S (fun q : Nat => s.heap.size ≤ q) s.heap H locs → pm_L G.2.2 lsA mL_law.2.2.1 ls →
    W p l e room_1 s m #[Value.ref b0] below meth c H locs 67 4350 (lw_Z below #[Value.ref b0] s) (F0 m pc lsA (st.map (ptr G.2.2)))
def LF (X : LX) (L : Nat) (xs : Nat → Int32) : Prop := match X with
  | (p, _, _, s, m, _, meth, c, b0, G) => pm_run mL_law G p s m #[Value.ref b0] meth c ∧ va_X b0 L xs s s.heap ∧ b0 < s.heap.size ∧ (∀ k, k < 67 → s.heap.size ≤ G.2.2 k) ∧ G.2.2 67 = b0 ∧ L ≤ 260
theorem LF.D {p : Program} {l : Launch} {e : Env} {s : State} {m : MethodId} {below : List Frame} {meth : Method} {c : Code} {b0 L : Nat} {G : GC} {xs : Nat → Int32} (F : LF (p, l, e, s, m, below, meth, c, b0, G) L xs) (σ : St) : va_D (fun q : Nat => s.heap.size ≤ q) (pm_W G σ) := by
  have h := pm_D F.1.2.2.2.2.2.2.2.2.1 σ
  refine ⟨h.1, fun k q hk => ?_⟩
  obtain ⟨j, hj, e1⟩ := h.2 k q hk
  rw [e1]
  exact F.2.2.2.1 j hj
section LGO
variable {X : LX} {L : Nat} {xs : Nat → Int32} {pc idx : Nat} {ls st : List Value} {σ : St}
theorem LGo.iconst {n : Int} {v : Int32} (F : LF X L xs) (hd : decode mL_law.2.1 pc = .ok (.iconst n, 1)) (hv : Int32.ofInt n = v) (k : LGo X (pc + 1) ls (.int v :: st) σ) : LGo X pc ls st σ := by
  obtain ⟨p, l, e, s, m, below, meth, c, b0, G⟩ := X
  intro H locs lsA hH hS hL
  have R := F.1
  exact lv_iconst R.1 R.2.1 hd hv (k H locs lsA hH hS hL)
theorem LGo.bipush {n : Int} {v : Int32} (F : LF X L xs) (hd : decode mL_law.2.1 pc = .ok (.bipush n, 2)) (hv : (Int8.ofInt n).toInt32 = v) (k : LGo X (pc + 2) ls (.int v :: st) σ) : LGo X pc ls st σ := by
  obtain ⟨p, l, e, s, m, below, meth, c, b0, G⟩ := X
  intro H locs lsA hH hS hL
  have R := F.1
  exact lv_bipush R.1 R.2.1 hd hv (k H locs lsA hH hS hL)
theorem LGo.sipush {n : Int} {v : Int32} (F : LF X L xs) (hd : decode mL_law.2.1 pc = .ok (.sipush n, 3)) (hv : (Int16.ofInt n).toInt32 = v) (k : LGo X (pc + 3) ls (.int v :: st) σ) : LGo X pc ls st σ := by
  obtain ⟨p, l, e, s, m, below, meth, c, b0, G⟩ := X
  intro H locs lsA hH hS hL
  have R := F.1
  exact lv_sipush R.1 R.2.1 hd hv (k H locs lsA hH hS hL)
theorem LGo.iload_n {j : Fin 4} {x : Int32} (F : LF X L xs) (i : Nat) (hd : decode mL_law.2.1 pc = .ok (.iload_n j, 1)) (hj : (j : Nat) = i) (hl : ls[i]? = some (.int x)) (k : LGo X (pc + 1) ls (.int x :: st) σ) : LGo X pc ls st σ := by
  obtain ⟨p, l, e, s, m, below, meth, c, b0, G⟩ := X
  intro H locs lsA hH hS hL
  have R := F.1
  exact lv_iload_n R.1 R.2.1 hd hj (hL.at' hl (by simp)) (k H locs lsA hH hS hL)
theorem LGo.iload {i : Nat} {x : Int32} (F : LF X L xs) (hd : decode mL_law.2.1 pc = .ok (.iload i, 2)) (hl : ls[i]? = some (.int x)) (k : LGo X (pc + 2) ls (.int x :: st) σ) : LGo X pc ls st σ := by
  obtain ⟨p, l, e, s, m, below, meth, c, b0, G⟩ := X
  intro H locs lsA hH hS hL
  have R := F.1
  exact lv_iload R.1 R.2.1 hd (hL.at' hl (by simp)) (k H locs lsA hH hS hL)
theorem LGo.aload_n {j : Fin 4} {x : Nat} (F : LF X L xs) (i : Nat) (hd : decode mL_law.2.1 pc = .ok (.aload_n j, 1)) (hj : (j : Nat) = i) (hl : ls[i]? = some (.ref x)) (k : LGo X (pc + 1) ls (.ref x :: st) σ) : LGo X pc ls st σ := by
  obtain ⟨p, l, e, s, m, below, meth, c, b0, G⟩ := X
  intro H locs lsA hH hS hL
  have R := F.1
  exact lv_aload_n R.1 R.2.1 hd hj (hL.at' hl (by simp)) (k H locs lsA hH hS hL)
theorem LGo.istore_n {j : Fin 4} {x : Int32} {ls' : List Value} (F : LF X L xs) (i : Nat) (hd : decode mL_law.2.1 pc = .ok (.istore_n j, 1)) (hj : (j : Nat) = i) (hi : i < mL_law.2.2.1) (hok : lvok ls i = true) (hl : ls.set i (.int x) = ls') (k : LGo X (pc + 1) ls' st σ) : LGo X pc ls (.int x :: st) σ := by
  obtain ⟨p, l, e, s, m, below, meth, c, b0, G⟩ := X
  intro H locs lsA hH hS hL
  have R := F.1
  obtain ⟨lv, h1, h2⟩ := hL.store (v := .int x) hi hok
  refine lv_istore_n R.1 R.2.1 hd hj h1 hi rfl (fun lsB hB => ?_)
  exact k H locs lsB hH hS (hl ▸ h2 lsB hB)
theorem LGo.istore {i : Nat} {x : Int32} {ls' : List Value} (F : LF X L xs) (hd : decode mL_law.2.1 pc = .ok (.istore i, 2)) (hi : i < mL_law.2.2.1) (hok : lvok ls i = true) (hl : ls.set i (.int x) = ls') (k : LGo X (pc + 2) ls' st σ) : LGo X pc ls (.int x :: st) σ := by
  obtain ⟨p, l, e, s, m, below, meth, c, b0, G⟩ := X
  intro H locs lsA hH hS hL
  have R := F.1
  obtain ⟨lv, h1, h2⟩ := hL.store (v := .int x) hi hok
  refine lv_istore R.1 R.2.1 hd h1 hi rfl (fun lsB hB => ?_)
  exact k H locs lsB hH hS (hl ▸ h2 lsB hB)
theorem LGo.iinc {i : Nat} {n : Int} {x v : Int32} {ls' : List Value} (F : LF X L xs) (hd : decode mL_law.2.1 pc = .ok (.iinc i n, 3)) (hx : ls[i]? = some (.int x)) (hv : x + Int32.ofInt n = v) (hi : i < mL_law.2.2.1) (hok : lvok ls i = true) (hl : ls.set i (.int v) = ls') (k : LGo X (pc + 3) ls' st σ) : LGo X pc ls st σ := by
  obtain ⟨p, l, e, s, m, below, meth, c, b0, G⟩ := X
  intro H locs lsA hH hS hL
  have R := F.1
  obtain ⟨lv, h1, h2⟩ := hL.store (v := .int v) hi hok
  have h3 : lv_has lsA mL_law.2.2.1 ((i, .int x) :: lv) := ⟨h1.1, h1.2.1, fun q hq => by
    rcases List.mem_cons.mp hq with rfl | hq
    · exact hL.at' hx (by simp)
    · exact h1.2.2 q hq⟩
  refine lv_iinc R.1 R.2.1 hd h3 (k := 0) rfl hv hi rfl (fun lsB hB => ?_)
  refine k H locs lsB hH hS (hl ▸ h2 lsB ?_)
  have e1 : ((i, Value.int x) :: lv).filter (fun q => !(q.1 == i) && !(q.1 + 1 == i && q.2.category == 2)) = lv.filter (fun q => !(q.1 == i) && !(q.1 + 1 == i && q.2.category == 2)) := by simp
  rw [e1] at hB
  exact hB
theorem LGo.iadd {a b : Int32} (F : LF X L xs) (hd : decode mL_law.2.1 pc = .ok (.iadd, 1)) (k : LGo X (pc + 1) ls (.int (a + b) :: st) σ) : LGo X pc ls (.int b :: .int a :: st) σ := by
  obtain ⟨p, l, e, s, m, below, meth, c, b0, G⟩ := X
  intro H locs lsA hH hS hL
  have R := F.1
  exact lv_iadd R.1 R.2.1 hd (k H locs lsA hH hS hL)
theorem LGo.isub {a b : Int32} (F : LF X L xs) (hd : decode mL_law.2.1 pc = .ok (.isub, 1)) (k : LGo X (pc + 1) ls (.int (a - b) :: st) σ) : LGo X pc ls (.int b :: .int a :: st) σ := by
  obtain ⟨p, l, e, s, m, below, meth, c, b0, G⟩ := X
  intro H locs lsA hH hS hL
  have R := F.1
  exact lv_isub R.1 R.2.1 hd (k H locs lsA hH hS hL)
theorem LGo.imul {a b : Int32} (F : LF X L xs) (hd : decode mL_law.2.1 pc = .ok (.imul, 1)) (k : LGo X (pc + 1) ls (.int (a * b) :: st) σ) : LGo X pc ls (.int b :: .int a :: st) σ := by
  obtain ⟨p, l, e, s, m, below, meth, c, b0, G⟩ := X
  intro H locs lsA hH hS hL
  have R := F.1
  exact lv_imul R.1 R.2.1 hd (k H locs lsA hH hS hL)
theorem LGo.idiv {a b : Int32} (F : LF X L xs) (hd : decode mL_law.2.1 pc = .ok (.idiv, 1)) (hne : ¬ b = 0) (k : LGo X (pc + 1) ls (.int (a / b) :: st) σ) : LGo X pc ls (.int b :: .int a :: st) σ := by
  obtain ⟨p, l, e, s, m, below, meth, c, b0, G⟩ := X
  intro H locs lsA hH hS hL
  have R := F.1
  exact lv_idiv R.1 R.2.1 hd hne (k H locs lsA hH hS hL)
theorem LGo.irem {a b : Int32} (F : LF X L xs) (hd : decode mL_law.2.1 pc = .ok (.irem, 1)) (hne : ¬ b = 0) (k : LGo X (pc + 1) ls (.int (irem a b) :: st) σ) : LGo X pc ls (.int b :: .int a :: st) σ := by
  obtain ⟨p, l, e, s, m, below, meth, c, b0, G⟩ := X
  intro H locs lsA hH hS hL
  have R := F.1
  exact lv_irem R.1 R.2.1 hd hne (k H locs lsA hH hS hL)
theorem LGo.dup2 {v w : Value} (F : LF X L xs) (hd : decode mL_law.2.1 pc = .ok (.dup2, 1)) (hv : v.category = 1) (hw : w.category = 1) (k : LGo X (pc + 1) ls (v :: w :: v :: w :: st) σ) : LGo X pc ls (v :: w :: st) σ := by
  obtain ⟨p, l, e, s, m, below, meth, c, b0, G⟩ := X
  intro H locs lsA hH hS hL
  have R := F.1
  exact lv_dup2_11 R.1 R.2.1 hd ((ptr_cat _ v).trans hv) ((ptr_cat _ w).trans hw) (k H locs lsA hH hS hL)
theorem LGo.goto {off : Int} (F : LF X L xs) (t : Nat) (hd : decode mL_law.2.1 pc = .ok (.goto off, 3)) (ht : (pc : Int) + off = (t : Int)) (k : LGo X t ls st σ) : LGo X pc ls st σ := by
  obtain ⟨p, l, e, s, m, below, meth, c, b0, G⟩ := X
  intro H locs lsA hH hS hL
  have R := F.1
  exact lv_goto R.1 R.2.1 hd ht (k H locs lsA hH hS hL)
theorem LGo.if_eq {x : Int32} {off : Int} (F : LF X L xs) (t : Nat) (hd : decode mL_law.2.1 pc = .ok (.ifCond .eq off, 3)) (ht : (pc : Int) + off = (t : Int)) (k : (x = 0 → LGo X t ls st σ) ∧ (¬ x = 0 → LGo X (pc + 3) ls st σ)) : LGo X pc ls (.int x :: st) σ := by
  obtain ⟨p, l, e, s, m, below, meth, c, b0, G⟩ := X
  intro H locs lsA hH hS hL
  have R := F.1
  exact lv_if_eq R.1 R.2.1 hd ht (fun q => k.1 q H locs lsA hH hS hL) (fun q => k.2 q H locs lsA hH hS hL)
theorem LGo.icmp_eq {x y0 : Int32} {off : Int} (F : LF X L xs) (t : Nat) (hd : decode mL_law.2.1 pc = .ok (.if_icmp .eq off, 3)) (ht : (pc : Int) + off = (t : Int)) (k : (x = y0 → LGo X t ls st σ) ∧ (¬ x = y0 → LGo X (pc + 3) ls st σ)) : LGo X pc ls (.int y0 :: .int x :: st) σ := by
  obtain ⟨p, l, e, s, m, below, meth, c, b0, G⟩ := X
  intro H locs lsA hH hS hL
  have R := F.1
  exact lv_icmp_eq R.1 R.2.1 hd ht (fun q => k.1 q H locs lsA hH hS hL) (fun q => k.2 q H locs lsA hH hS hL)
theorem LGo.if_ne {x : Int32} {off : Int} (F : LF X L xs) (t : Nat) (hd : decode mL_law.2.1 pc = .ok (.ifCond .ne off, 3)) (ht : (pc : Int) + off = (t : Int)) (k : (¬ x = 0 → LGo X t ls st σ) ∧ (x = 0 → LGo X (pc + 3) ls st σ)) : LGo X pc ls (.int x :: st) σ := by
  obtain ⟨p, l, e, s, m, below, meth, c, b0, G⟩ := X
  intro H locs lsA hH hS hL
  have R := F.1
  exact lv_if_ne R.1 R.2.1 hd ht (fun q => k.1 q H locs lsA hH hS hL) (fun q => k.2 q H locs lsA hH hS hL)
theorem LGo.icmp_ne {x y0 : Int32} {off : Int} (F : LF X L xs) (t : Nat) (hd : decode mL_law.2.1 pc = .ok (.if_icmp .ne off, 3)) (ht : (pc : Int) + off = (t : Int)) (k : (¬ x = y0 → LGo X t ls st σ) ∧ (x = y0 → LGo X (pc + 3) ls st σ)) : LGo X pc ls (.int y0 :: .int x :: st) σ := by
  obtain ⟨p, l, e, s, m, below, meth, c, b0, G⟩ := X
  intro H locs lsA hH hS hL
  have R := F.1
  exact lv_icmp_ne R.1 R.2.1 hd ht (fun q => k.1 q H locs lsA hH hS hL) (fun q => k.2 q H locs lsA hH hS hL)
theorem LGo.if_lt {x : Int32} {off : Int} (F : LF X L xs) (t : Nat) (hd : decode mL_law.2.1 pc = .ok (.ifCond .lt off, 3)) (ht : (pc : Int) + off = (t : Int)) (k : (x < 0 → LGo X t ls st σ) ∧ (¬ x < 0 → LGo X (pc + 3) ls st σ)) : LGo X pc ls (.int x :: st) σ := by
  obtain ⟨p, l, e, s, m, below, meth, c, b0, G⟩ := X
  intro H locs lsA hH hS hL
  have R := F.1
  exact lv_if_lt R.1 R.2.1 hd ht (fun q => k.1 q H locs lsA hH hS hL) (fun q => k.2 q H locs lsA hH hS hL)
theorem LGo.icmp_lt {x y0 : Int32} {off : Int} (F : LF X L xs) (t : Nat) (hd : decode mL_law.2.1 pc = .ok (.if_icmp .lt off, 3)) (ht : (pc : Int) + off = (t : Int)) (k : (x < y0 → LGo X t ls st σ) ∧ (¬ x < y0 → LGo X (pc + 3) ls st σ)) : LGo X pc ls (.int y0 :: .int x :: st) σ := by
  obtain ⟨p, l, e, s, m, below, meth, c, b0, G⟩ := X
  intro H locs lsA hH hS hL
  have R := F.1
  exact lv_icmp_lt R.1 R.2.1 hd ht (fun q => k.1 q H locs lsA hH hS hL) (fun q => k.2 q H locs lsA hH hS hL)
theorem LGo.if_ge {x : Int32} {off : Int} (F : LF X L xs) (t : Nat) (hd : decode mL_law.2.1 pc = .ok (.ifCond .ge off, 3)) (ht : (pc : Int) + off = (t : Int)) (k : (0 ≤ x → LGo X t ls st σ) ∧ (¬ 0 ≤ x → LGo X (pc + 3) ls st σ)) : LGo X pc ls (.int x :: st) σ := by
  obtain ⟨p, l, e, s, m, below, meth, c, b0, G⟩ := X
  intro H locs lsA hH hS hL
  have R := F.1
  exact lv_if_ge R.1 R.2.1 hd ht (fun q => k.1 q H locs lsA hH hS hL) (fun q => k.2 q H locs lsA hH hS hL)
theorem LGo.icmp_ge {x y0 : Int32} {off : Int} (F : LF X L xs) (t : Nat) (hd : decode mL_law.2.1 pc = .ok (.if_icmp .ge off, 3)) (ht : (pc : Int) + off = (t : Int)) (k : (y0 ≤ x → LGo X t ls st σ) ∧ (¬ y0 ≤ x → LGo X (pc + 3) ls st σ)) : LGo X pc ls (.int y0 :: .int x :: st) σ := by
  obtain ⟨p, l, e, s, m, below, meth, c, b0, G⟩ := X
  intro H locs lsA hH hS hL
  have R := F.1
  exact lv_icmp_ge R.1 R.2.1 hd ht (fun q => k.1 q H locs lsA hH hS hL) (fun q => k.2 q H locs lsA hH hS hL)
theorem LGo.if_gt {x : Int32} {off : Int} (F : LF X L xs) (t : Nat) (hd : decode mL_law.2.1 pc = .ok (.ifCond .gt off, 3)) (ht : (pc : Int) + off = (t : Int)) (k : (0 < x → LGo X t ls st σ) ∧ (¬ 0 < x → LGo X (pc + 3) ls st σ)) : LGo X pc ls (.int x :: st) σ := by
  obtain ⟨p, l, e, s, m, below, meth, c, b0, G⟩ := X
  intro H locs lsA hH hS hL
  have R := F.1
  exact lv_if_gt R.1 R.2.1 hd ht (fun q => k.1 q H locs lsA hH hS hL) (fun q => k.2 q H locs lsA hH hS hL)
theorem LGo.icmp_gt {x y0 : Int32} {off : Int} (F : LF X L xs) (t : Nat) (hd : decode mL_law.2.1 pc = .ok (.if_icmp .gt off, 3)) (ht : (pc : Int) + off = (t : Int)) (k : (y0 < x → LGo X t ls st σ) ∧ (¬ y0 < x → LGo X (pc + 3) ls st σ)) : LGo X pc ls (.int y0 :: .int x :: st) σ := by
  obtain ⟨p, l, e, s, m, below, meth, c, b0, G⟩ := X
  intro H locs lsA hH hS hL
  have R := F.1
  exact lv_icmp_gt R.1 R.2.1 hd ht (fun q => k.1 q H locs lsA hH hS hL) (fun q => k.2 q H locs lsA hH hS hL)
theorem LGo.if_le {x : Int32} {off : Int} (F : LF X L xs) (t : Nat) (hd : decode mL_law.2.1 pc = .ok (.ifCond .le off, 3)) (ht : (pc : Int) + off = (t : Int)) (k : (x ≤ 0 → LGo X t ls st σ) ∧ (¬ x ≤ 0 → LGo X (pc + 3) ls st σ)) : LGo X pc ls (.int x :: st) σ := by
  obtain ⟨p, l, e, s, m, below, meth, c, b0, G⟩ := X
  intro H locs lsA hH hS hL
  have R := F.1
  exact lv_if_le R.1 R.2.1 hd ht (fun q => k.1 q H locs lsA hH hS hL) (fun q => k.2 q H locs lsA hH hS hL)
theorem LGo.icmp_le {x y0 : Int32} {off : Int} (F : LF X L xs) (t : Nat) (hd : decode mL_law.2.1 pc = .ok (.if_icmp .le off, 3)) (ht : (pc : Int) + off = (t : Int)) (k : (x ≤ y0 → LGo X t ls st σ) ∧ (¬ x ≤ y0 → LGo X (pc + 3) ls st σ)) : LGo X pc ls (.int y0 :: .int x :: st) σ := by
  obtain ⟨p, l, e, s, m, below, meth, c, b0, G⟩ := X
  intro H locs lsA hH hS hL
  have R := F.1
  exact lv_icmp_le R.1 R.2.1 hd ht (fun q => k.1 q H locs lsA hH hS hL) (fun q => k.2 q H locs lsA hH hS hL)
theorem LGo.iald {q n : Nat} {i : Int32} (F : LF X L xs) (hs : shp[q]? = some (1, 0, n)) (hd : decode mL_law.2.1 pc = .ok (.iaload, 1)) (kk : vp_in i n ∧ LGo X (pc + 1) ls (.int (sA σ q (ix i)) :: st) σ) : LGo X pc ls (.int i :: .ref q :: st) σ := by
  obtain ⟨p, l, e, s, m, below, meth, c, b0, G⟩ := X
  intro H locs lsA hH hS hL
  have R := F.1
  exact va_iald R.1 R.2.1 R.2.2.2.2.2.2.2.1 hH.1 q 0 (pm_row hs) rfl kk.1 hd (kk.2 H locs lsA hH hS hL)
theorem LGo.iast {q n : Nat} {i x : Int32} (F : LF X L xs) (hs : shp[q]? = some (1, 0, n)) (hd : decode mL_law.2.1 pc = .ok (.iastore, 1)) (kk : vp_in i n ∧ LGo X (pc + 1) ls st (setA σ q (ix i) x)) : LGo X pc ls (.int x :: .int i :: .ref q :: st) σ := by
  obtain ⟨p, l, e, s, m, below, meth, c, b0, G⟩ := X
  intro H locs lsA hH hS hL
  have R := F.1
  refine va_iast R.1 R.2.1 R.2.2.2.2.2.2.2.1 hH.1 (F.D σ) hS q 0 (pm_row hs) rfl kk.1 hd (fun H1 locs1 hP1 _ hS1 => ?_)
  rw [pm_setR hs] at hP1
  exact kk.2 H1 locs1 lsA ⟨hP1, hH.2.setR hs (fun h => by cases h)⟩ hS1 hL
theorem LGo.aload {i : Nat} {x : Nat} (F : LF X L xs) (hd : decode mL_law.2.1 pc = .ok (.aload i, 2)) (hl : ls[i]? = some (.ref x)) (k : LGo X (pc + 2) ls (.ref x :: st) σ) : LGo X pc ls st σ := by
  obtain ⟨p, l, e, s, m, below, meth, c, b0, G⟩ := X
  intro H locs lsA hH hS hL
  have R := F.1
  exact lv_aload R.1 R.2.1 hd (hL.at' hl (by simp)) (k H locs lsA hH hS hL)
theorem LGo.ishr {a b : Int32} (F : LF X L xs) (hd : decode mL_law.2.1 pc = .ok (.ishr, 1)) (k : LGo X (pc + 1) ls (.int (a >>> (b &&& 31)) :: st) σ) : LGo X pc ls (.int b :: .int a :: st) σ := by
  obtain ⟨p, l, e, s, m, below, meth, c, b0, G⟩ := X
  intro H locs lsA hH hS hL
  have R := F.1
  exact lv_ishr R.1 R.2.1 hd (k H locs lsA hH hS hL)
theorem LGo.ialdK {q n k : Nat} {i : Int32} (F : LF X L xs) (hk : ix i = k) (hin : vp_in i n) (hs : shp[q]? = some (1, 0, n)) (hd : decode mL_law.2.1 pc = .ok (.iaload, 1)) (kk : LGo X (pc + 1) ls (.int (sA σ q k) :: st) σ) : LGo X pc ls (.int i :: .ref q :: st) σ :=
  LGo.iald F hs hd ⟨hin, by rw [hk]; exact kk⟩
theorem LGo.iastK {q n k : Nat} {i x : Int32} (F : LF X L xs) (hk : ix i = k) (hin : vp_in i n) (hs : shp[q]? = some (1, 0, n)) (hd : decode mL_law.2.1 pc = .ok (.iastore, 1)) (kk : LGo X (pc + 1) ls st (setA σ q k x)) : LGo X pc ls (.int x :: .int i :: .ref q :: st) σ :=
  LGo.iast F hs hd ⟨hin, by rw [hk]; exact kk⟩
/-- forget places of the locals -/
theorem LGo.drop {ls' : List Value} (F : LF X L xs) (j : Nat) (h : ls.set j .null = ls') (k : LGo X pc ls' st σ) : LGo X pc ls st σ := by
  subst h
  obtain ⟨p, l, e, s, m, below, meth, c, b0, G⟩ := X
  intro H locs lsA hH hS hL
  refine k H locs lsA hH hS ⟨hL.1, hL.2.1, by simp; exact hL.2.2.1, fun i v hi hn => hL.2.2.2 i v ?_ hn⟩
  rcases Nat.decEq i j with hne | rfl
  · rw [List.getElem?_set_ne (fun z => hne z.symm)] at hi
    exact hi
  · rw [List.getElem?_set] at hi
    split at hi
    · split at hi
      · cases hi; exact absurd rfl hn
      · cases hi
    · exact hi
/-- the law's end -/
theorem LGo.ret (F : LF X L xs) (hd : decode mL_law.2.1 pc = .ok (.ireturn, 1)) : LGo X pc ls [.int 1] σ := by
  obtain ⟨p, l, e, s, m, below, meth, c, b0, G⟩ := X
  intro H locs lsA hH hS hL
  have R := F.1
  exact va_forget hS.2.2 (W.widen (k := 600000) (n := 7302250) (Nat.le_of_ble_eq_true rfl) (Nat.le_of_ble_eq_true rfl) (W.base (lw_ret (Drawn.sameBut.refl s.drawn lw_cs) R.1 R.2.1 R.2.2.1 R.2.2.2.2.2.2.1 hd)))
/-- behind a call -/
theorem l_back {p : Program} {l : Launch} {e : Env} {s : State} {m : MethodId} {below : List Frame} {meth : Method} {c : Code} {b0 : Nat} {G : GC} {H : Heap} {locs : List Loc} {lsA : Array Slot} {st0 : List Value} {a2 : Array Value} {Q2 : Option Value → St → Prop} {A : Nat → Prop}
    (F : LF (p, l, e, s, m, below, meth, c, b0, G) L xs) (hr : va_Run p l e room_1 s m #[Value.ref b0] below meth c H locs 67 4350 0 0 (F0 m pc lsA st0) (st.map (ptr G.2.2)) (pm_Q G Q2 a2) (pm_A G))
    (hS : va_S (fun q : Nat => s.heap.size ≤ q) s.heap H locs) (hL : pm_L G.2.2 lsA mL_law.2.2.1 ls)
    (hk : ∀ r σ', Q2 r σ' → LGo (p, l, e, s, m, below, meth, c, b0, G) (pc + 3) ls (r.toList ++ st) σ') :
    W p l e room_1 s m #[Value.ref b0] below meth c H locs 67 4350 (lw_Z below #[Value.ref b0] s) (F0 m pc lsA st0) := by
  intro T hT X0
  obtain ⟨v, st₀, t, T', L1, h0, X', hLc, e1, e2, ⟨⟨r, σ', ho, hq2, hH'⟩, hz, hkp⟩, stp⟩ := hr T hT X0
  rw [h0] at hz hkp
  have hv : v = r.map (ptr G.2.2) := Outcome.returned.inj ho
  subst hv
  have hin : ∀ q : Nat, pm_A G q → s.heap.size ≤ q := by
    rintro q ⟨k, hk1, rfl⟩
    exact F.2.2.2.1 k hk1
  have hS1 : va_S (fun q : Nat => s.heap.size ≤ q) s.heap T'.heap (locs ++ L1) := by
    refine ⟨Nat.le_trans hS.1 (by rw [e1]; exact hz), fun q h1 h2 => ?_, fun q hq => ?_⟩
    · rw [e1, hkp q (Nat.lt_of_lt_of_le h1 hS.1) (fun z => h2 (hin q z))]; exact hS.2.1 q h1 h2
    · rcases List.mem_append.mp hq with h | h
      · exact hS.2.2 q h
      · exact hin _ (hLc q h)
  have key := hk r σ' hq2 T'.heap (locs ++ L1) lsA (by rw [e1]; exact hH') hS1 hL
  have hst : (r.toList ++ st).map (ptr G.2.2) = (r.map (ptr G.2.2)).toList ++ st.map (ptr G.2.2) := by cases r <;> rfl
  rw [hst] at key
  obtain ⟨t2, a1, b1⟩ := key T' rfl X'
  exact ⟨t2, stp t2 a1, b1⟩
theorem LGo.callV {y2 : MI} {a ci n N : Nat} {as : List Value} {Q2 : Option Value → St → Prop} {st0 : List Value} (F : LF X L xs) (hm : mOKV y2 ci n) (hl : Cond.methodLink mL_law.1.cls idx y2.1 ∈ tbg) (hs : shp[a]? = some (0, ci, N)) (hst : st0 = as.reverse ++ .ref a :: st) (hn : as.length = n) (hw : (st.map fun v => v.category).sum ≤ 8) (hd : decode mL_law.2.1 pc = .ok (.invokevirtual idx, 3))
    (hc : Call 9 y2 (.ref a :: as) σ Q2) (hk : ∀ r σ', Q2 r σ' → LGo X (pc + 3) ls (r.toList ++ st) σ') : LGo X pc ls st0 σ := by
  subst hst
  obtain ⟨p, l, e, s, m, below, meth, c, b0, G⟩ := X
  obtain ⟨hx, hb, hret, hml, hown, hts, hlocks, hK, hinj, hN⟩ := id F.1
  intro H locs lsA hH hS hL2
  obtain ⟨m1, m2, m3, m4, ⟨q, hq, hqc⟩, m6, m7, m8⟩ := hm
  have hrv := va_recv hK hH.1 hq (pm_obj hs)
  rw [hqc] at hrv
  have hrl : room_1.locals = 404 := rfl
  have hCW : CallW room_1 s #[Value.ref b0] mL_law.1.cls y2.1.cls idx y2.1 y2.2.1 y2.2.2.1 y2.2.2.2 (wsz y2) (rmz 9) 0 0 n :=
    ⟨⟨rfl, rfl, Nat.le_of_ble_eq_true rfl, by rw [hrl]; show 8 + (y2.2.2.1 + 11) + 31 * 9 ≤ 404; omega, pm_words hts m4, List.mem_cons_self, hts _ m4, hts _ m3, m6, lenOK m7, hts _ hl⟩, hts _ m1, hts _ m2⟩
  exact l_back (Q2 := Q2) (A := pm_A G) F (va_runV (p := p) (l := l) (e := e) (R := room_1) (s := s) (m := m) (args := #[Value.ref b0]) (below := below) (meth := meth) (c := c) (H := H) (locs := locs) (cells := 67) (slots := 4350) (b := G.2.2 a) (As := as.map (ptr G.2.2)) (rest := st.map (ptr G.2.2)) (g := F0 m pc lsA ((as.reverse ++ .ref a :: st).map (ptr G.2.2)))
    ⟨hx, hb, hml, hown, hts⟩ (hc l G) hCW ⟨pm_blind G _ σ, hrv, fun U hU hW => ⟨rfl, by rw [hU]; exact hH, va_K.moved hW.alike hK, hinj, pm_N.warm hW hN⟩⟩ rfl (by rw [List.length_map]; exact hn) hL2.1 (by simp [ptr]) (lv_room (by rw [ptr_cats]; exact hw)) hd ⟨Nat.le_of_ble_eq_true rfl, Nat.le_of_ble_eq_true rfl⟩) hS hL2 hk
theorem LGo.callS {y2 : MI} {n : Nat} {as : List Value} {Q2 : Option Value → St → Prop} {st0 : List Value} (F : LF X L xs) (hm : mOKS y2 n) (hl : Cond.methodLink mL_law.1.cls idx y2.1 ∈ tbg) (hst : st0 = as.reverse ++ st) (hn : as.length = n) (hw : (st.map fun v => v.category).sum ≤ 8) (hd : decode mL_law.2.1 pc = .ok (.invokestatic idx, 3))
    (hc : Call 10 y2 as σ Q2) (hk : ∀ r σ', Q2 r σ' → LGo X (pc + 3) ls (r.toList ++ st) σ') : LGo X pc ls st0 σ := by
  subst hst
  obtain ⟨p, l, e, s, m, below, meth, c, b0, G⟩ := X
  obtain ⟨hx, hb, hret, hml, hown, hts, hlocks, hK, hinj, hN⟩ := id F.1
  intro H locs lsA hH hS hL2
  obtain ⟨m1, m3, m4, m6, m7, m8⟩ := hm
  have hrl : room_1.locals = 404 := rfl
  have hCB : CallB room_1 s #[Value.ref b0] mL_law.1.cls idx y2.1 y2.2.1 y2.2.2.1 y2.2.2.2 (wsz y2) (rmz 10) 0 0 n ∧ (Cond.static y2.1).before #[Value.ref b0] s = true :=
    ⟨⟨rfl, rfl, Nat.le_of_ble_eq_true rfl, by rw [hrl]; show 8 + (y2.2.2.1 + 11) + 31 * 10 ≤ 404; omega, pm_words hts m4, List.mem_cons_self, hts _ m4, hts _ m3, m6, lenOK m7, hts _ hl⟩, hts _ m1⟩
  exact l_back (Q2 := Q2) (A := pm_A G) F (va_runS (p := p) (l := l) (e := e) (R := room_1) (s := s) (m := m) (args := #[Value.ref b0]) (below := below) (meth := meth) (c := c) (H := H) (locs := locs) (cells := 67) (slots := 4350) (As := as.map (ptr G.2.2)) (rest := st.map (ptr G.2.2)) (g := F0 m pc lsA ((as.reverse ++ st).map (ptr G.2.2)))
    ⟨hx, hb, hml, hown, hts⟩ (hc l G) hCB ⟨pm_blind G _ σ, fun U hU hW => ⟨rfl, by rw [hU]; exact hH, va_K.moved hW.alike hK, hinj, pm_N.warm hW hN⟩⟩ rfl (by rw [List.length_map]; exact hn) hL2.1 (by simp) (lv_room (by rw [ptr_cats]; exact hw)) hd ⟨Nat.le_of_ble_eq_true rfl, Nat.le_of_ble_eq_true rfl⟩) hS hL2 hk
end LGO
