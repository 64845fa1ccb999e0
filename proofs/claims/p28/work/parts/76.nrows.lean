/-! making: a logic of constructors over a growing world -/
abbrev NC : Type := va_G × (Nat → ClassId) × (Nat → Prop)
def n_tys (N : NC) : List (ClassId × FieldType) := [(N.2.1 0, .int), (N.2.1 1, .boolean), (N.2.1 2, .char), (N.2.1 3, .long), (N.2.1 4, .object "EchoTurns$Scene")]
def rmn (d mc ms : Nat) : Room := { frames := d, cells := mc, slots := ms, locals := 31 * d }
def nwN : List (String × Nat × MethodName × String) := [(RX5, 28, yX1_init, "EchoTurns"), (RX5, 35, yX2_init, "EchoTurns"), (RX5, 42, yX4_init, "EchoTurns"), (RX5, 49, yX0_init, "EchoTurns")]
def n_N (U : State) : Prop := (∀ q ∈ nwN, va_Nw (.methodLinkNest q.1 q.2.1 q.2.2.1 q.2.2.2) U) ∧ va_AO "EchoTurns$Scene" U
theorem n_N.warm {s U : State} (hW : s.WarmedH U.vm) (h : n_N s) : n_N U := ⟨fun q hq => va_Nw.warmM hW (h.1 q hq), va_AO.moved hW.alike h.2⟩
theorem n_N.same {u U : State} (hv : u.vm = U.vm) (h : n_N u) : n_N U := ⟨fun q hq => va_Nw.same rfl hv (h.1 q hq), va_AO.moved (by rw [hv]; exact Vm.Alike.refl U.vm) h.2⟩
def n_run (y : MI) (N : NC) (p : Program) (s : State) (m : MethodId) (args : Array Value) (meth : Method) (c : Code) : Prop :=
  p.tables.exec = Jvm.exec ∧ c.code = y.2.1 ∧ meth.sig.returnType = y.2.2.2 ∧ c.maxLocals = y.2.2.1 ∧ s.vm.findClass y.1.cls = some m.cls ∧ (∀ w ∈ tbg, w.before args s = true) ∧ meth.locks = false ∧ va_K N.1 vwCl (n_tys N) s ∧ (∀ q : Nat, s.heap.size ≤ q → N.2.2 q) ∧ meth.name = "<init>" ∧ n_N s
def n_Q (N : NC) (Q : va_W → Prop) : Array Value → State → Outcome → State → Prop := fun _ st o t => (o = .returned none ∧ ∃ w, Q w ∧ va_P N.1 vwCl w t.heap ∧ va_D N.2.2 w) ∧ va_F N.2.2 st t
def n_P (N : NC) (as : List Value) (w : va_W) : Array Value → State → Prop := fun v U => v = as.toArray ∧ va_P N.1 vwCl w U.heap ∧ va_D N.2.2 w ∧ va_K N.1 vwCl (n_tys N) U ∧ (∀ q : Nat, U.heap.size ≤ q → N.2.2 q) ∧ n_N U
def NGo (y : MI) (N : NC) (d mc ms pc : Nat) (ls : List (Nat × Value)) (st : List Value) (w : va_W) (kc ks : Nat) (Q : va_W → Prop) : Prop :=
  ∀ (l : Launch) (p : Program) (e : Env) (s : State) (m : MethodId) (args : Array Value) (below : List Frame) (meth : Method) (c : Code) (H : Heap) (locs : List Loc) (lsA : Array Slot),
    n_run y N p s m args meth c → va_P N.1 vwCl w H → va_D N.2.2 w → va_S N.2.2 s.heap H locs → lv_has lsA y.2.2.1 ls →
    W p l e (rmn d mc ms) s m args below meth c H locs kc ks (MQ below (n_Q N Q) args s mc ms N.2.2) (F0 m pc lsA st)
def NCall (y : MI) (N : NC) (d mc ms : Nat) (as : List Value) (w : va_W) (Q : va_W → Prop) : Prop := ∀ l : Launch, Met l y.1 (wsz y) (rmn d mc ms) (n_P N as w) (n_Q N Q) mc ms N.2.2
def mOKI (y : MI) : Prop := Cond.instanceMethod y.1 ∈ tbg ∧ Cond.initialized y.1.cls ∈ tbg ∧ Cond.code y.1 y.2.1 y.2.2.1 y.2.2.2 ∈ tbg ∧ (y.1.cls ≠ "java/lang/invoke/MethodHandle" ∧ y.1.cls ≠ "java/lang/invoke/VarHandle") ∧ (parseMethodDescriptor y.1.desc).map (fun d => d.parameters.length) = some 0 ∧ y.2.2.1 ≤ 12 ∧ y.1.name = "<init>" ∧ y.2.2.2 = none
def nfOK (own : String) (idx ci k N : Nat) (ty : FieldType) : Prop := ∃ (C : String) (T : u_T) (ty0 : Nat → FieldType), vwCl[ci]? = some (C, T, N) ∧ k < N ∧ (∀ w ∈ u_ws C T N, w ∈ tbg) ∧ Cond.fieldLink own idx (T k).1 (T k).2.1 (T k).2.2.1 ∈ tbg ∧
  (∀ k, k < N → parseFieldDescriptor (T k).2.2.1 = some (ty0 k)) ∧ (∀ a, a < N → ∀ b, b < N → a ≠ b → (T a).2.1 ≠ (T b).2.1) ∧ (T k).2.2.2 = true ∧ (T k).1 = own ∧ parseFieldDescriptor (T k).2.2.1 = some ty
theorem ra_uniq {U : State} {a b : ClassId} {ty : FieldType} (h : va_RA U a ty) (k : va_RA U b ty) : a = b := by
  cases ty with
  | object C =>
    obtain ⟨_, _, _, _, _, h4⟩ := h
    obtain ⟨_, _, _, _, _, k4⟩ := k
    rw [h4] at k4
    exact Option.some.inj k4
  | _ =>
    have h1 : U.vm.findClass _ = some a := h
    have k1 : U.vm.findClass _ = some b := k
    rw [h1] at k1
    exact Option.some.inj k1
theorem app3 {α : Type} (pre : List α) (x : α) (post : List α) (c : α) : (pre ++ x :: post) ++ [c] = pre ++ x :: (post ++ [c]) := by simp
theorem set3 {α : Type} (pre : List α) (x x' : α) (post : List α) : (pre ++ x :: post).set pre.length x' = pre ++ x' :: post := by simp
theorem get3 {α : Type} (pre : List α) (x : α) (post : List α) : (pre ++ x :: post)[pre.length]? = some x := by simp
theorem set4 {α : Type} (pre : List α) (x x' : α) (post : List α) (j : Nat) : (pre ++ x :: post).set (pre.length + 1 + j) x' = pre ++ x :: (post.set j x') := by
  rw [List.set_append_right _ _ (by omega), show pre.length + 1 + j - pre.length = j + 1 by omega]
  rfl
theorem get4 {α : Type} (pre : List α) (x : α) (post : List α) (j : Nat) : (pre ++ x :: post)[pre.length + 1 + j]? = post[j]? := by
  rw [List.getElem?_append_right (by omega), show pre.length + 1 + j - pre.length = j + 1 by omega]
  rfl
section NROWS
variable {y y2 : MI} {N : NC} {d mc ms mc2 ms2 pc idx kc ks ci k n' t : Nat} {ls ls' : List (Nat × Value)} {st : List Value} {w pre post : va_W} {Q Q2 : va_W → Prop} {h q : Nat} {fs : List Value} {x n v : Int32}
theorem NGo.iconst {z : Int} (hd : decode y.2.1 pc = .ok (.iconst z, 1)) (hv : Int32.ofInt z = v) (kk : NGo y N d mc ms (pc + 1) ls (.int v :: st) w kc ks Q) : NGo y N d mc ms pc ls st w kc ks Q :=
  fun l p e s m args below meth c H locs lsA R hP hD hS hL => lv_iconst R.1 R.2.1 hd hv (kk l p e s m args below meth c H locs lsA R hP hD hS hL)
theorem NGo.bipush {z : Int} (hd : decode y.2.1 pc = .ok (.bipush z, 2)) (hv : (Int8.ofInt z).toInt32 = v) (kk : NGo y N d mc ms (pc + 2) ls (.int v :: st) w kc ks Q) : NGo y N d mc ms pc ls st w kc ks Q :=
  fun l p e s m args below meth c H locs lsA R hP hD hS hL => lv_bipush R.1 R.2.1 hd hv (kk l p e s m args below meth c H locs lsA R hP hD hS hL)
theorem NGo.sipush {z : Int} (hd : decode y.2.1 pc = .ok (.sipush z, 3)) (hv : (Int16.ofInt z).toInt32 = v) (kk : NGo y N d mc ms (pc + 3) ls (.int v :: st) w kc ks Q) : NGo y N d mc ms pc ls st w kc ks Q :=
  fun l p e s m args below meth c H locs lsA R hP hD hS hL => lv_sipush R.1 R.2.1 hd hv (kk l p e s m args below meth c H locs lsA R hP hD hS hL)
theorem NGo.aload_n {j : Fin 4} (hd : decode y.2.1 pc = .ok (.aload_n j, 1)) (i : Nat) (hj : (j : Nat) = i) (place : Nat) (hl : ls[place]? = some (i, .ref h)) (kk : NGo y N d mc ms (pc + 1) ls (.ref h :: st) w kc ks Q) : NGo y N d mc ms pc ls st w kc ks Q :=
  fun l p e s m args below meth c H locs lsA R hP hD hS hL => lv_aload_n R.1 R.2.1 hd hj (lv_at hL place hl) (kk l p e s m args below meth c H locs lsA R hP hD hS hL)
theorem NGo.iload_n {j : Fin 4} (hd : decode y.2.1 pc = .ok (.iload_n j, 1)) (i : Nat) (hj : (j : Nat) = i) (place : Nat) (hl : ls[place]? = some (i, .int x)) (kk : NGo y N d mc ms (pc + 1) ls (.int x :: st) w kc ks Q) : NGo y N d mc ms pc ls st w kc ks Q :=
  fun l p e s m args below meth c H locs lsA R hP hD hS hL => lv_iload_n R.1 R.2.1 hd hj (lv_at hL place hl) (kk l p e s m args below meth c H locs lsA R hP hD hS hL)
theorem NGo.istore_n {j : Fin 4} (hd : decode y.2.1 pc = .ok (.istore_n j, 1)) (i : Nat) (hj : (j : Nat) = i) (hi : i < y.2.2.1) (hl : (i, Value.int x) :: ls.filter (fun q => !(q.1 == i) && !(q.1 + 1 == i && q.2.category == 2)) = ls') (kk : NGo y N d mc ms (pc + 1) ls' st w kc ks Q) : NGo y N d mc ms pc ls (.int x :: st) w kc ks Q :=
  fun l p e s m args below meth c H locs lsA R hP hD hS hL => lv_istore_n R.1 R.2.1 hd hj hL hi hl (fun lsB hB => kk l p e s m args below meth c H locs lsB R hP hD hS hB)
theorem NGo.iinc {i : Nat} {z : Int} (hd : decode y.2.1 pc = .ok (.iinc i z, 3)) (place : Nat) (hx : ls[place]? = some (i, .int x)) (hv : x + Int32.ofInt z = v) (hi : i < y.2.2.1) (hl : (i, Value.int v) :: ls.filter (fun q => !(q.1 == i) && !(q.1 + 1 == i && q.2.category == 2)) = ls') (kk : NGo y N d mc ms (pc + 3) ls' st w kc ks Q) : NGo y N d mc ms pc ls st w kc ks Q :=
  fun l p e s m args below meth c H locs lsA R hP hD hS hL => lv_iinc R.1 R.2.1 hd hL (k := place) hx hv hi hl (fun lsB hB => kk l p e s m args below meth c H locs lsB R hP hD hS hB)
theorem NGo.dup {z : Value} (hd : decode y.2.1 pc = .ok (.dup, 1)) (hz : z.category = 1) (kk : NGo y N d mc ms (pc + 1) ls (z :: z :: st) w kc ks Q) : NGo y N d mc ms pc ls (z :: st) w kc ks Q :=
  fun l p e s m args below meth c H locs lsA R hP hD hS hL => lv_dup R.1 R.2.1 hd hz (kk l p e s m args below meth c H locs lsA R hP hD hS hL)
theorem NGo.goto {off : Int} (tg : Nat) (hd : decode y.2.1 pc = .ok (.goto off, 3)) (ht : (pc : Int) + off = (tg : Int)) (kk : NGo y N d mc ms tg ls st w kc ks Q) : NGo y N d mc ms pc ls st w kc ks Q :=
  fun l p e s m args below meth c H locs lsA R hP hD hS hL => lv_goto R.1 R.2.1 hd ht (kk l p e s m args below meth c H locs lsA R hP hD hS hL)
theorem NGo.icmp_ge {y0 : Int32} {off : Int} (tg : Nat) (hd : decode y.2.1 pc = .ok (.if_icmp .ge off, 3)) (ht : (pc : Int) + off = (tg : Int)) (kk : (y0 ≤ x → NGo y N d mc ms tg ls st w kc ks Q) ∧ (¬ y0 ≤ x → NGo y N d mc ms (pc + 3) ls st w kc ks Q)) : NGo y N d mc ms pc ls (.int y0 :: .int x :: st) w kc ks Q :=
  fun l p e s m args below meth c H locs lsA R hP hD hS hL => lv_icmp_ge R.1 R.2.1 hd ht (fun q => kk.1 q l p e s m args below meth c H locs lsA R hP hD hS hL) (fun q => kk.2 q l p e s m args below meth c H locs lsA R hP hD hS hL)
theorem NGo.cast {w' : va_W} (e : w = w') (kk : NGo y N d mc ms pc ls st w' kc ks Q) : NGo y N d mc ms pc ls st w kc ks Q := by
  subst e
  exact kk
theorem NGo.ret (hr : y.2.2.2 = none) (hd : decode y.2.1 pc = .ok (.return_, 1)) (hkc : kc = mc) (hks : ks = ms) (kk : Q w) : NGo y N d mc ms pc ls [] w kc ks Q := by
  subst hkc
  subst hks
  intro l p e s m args below meth c H locs lsA R hP hD hS hL
  have hlocks := R.2.2.2.2.2.2.1
  exact W.vret R.1 R.2.1 (R.2.2.1.trans hr) (fun t ht _ => ⟨⟨rfl, w, kk, by rw [ht]; exact hP, hD⟩, hS.F ht⟩) hS.2.2 hd
theorem NGo.obj (hl : Cond.methodLink y.1.cls idx objectInit ∈ tbg) (hi : Cond.instanceMethod objectInit ∈ tbg) (hc : Cond.code objectInit ⟨#[0xb1]⟩ 1 none ∈ tbg) (hd : decode y.2.1 pc = .ok (.invokespecial idx, 3)) (kk : NGo y N (d + 1) mc ms (pc + 3) ls [] w kc ks Q) : NGo y N (d + 1) mc ms pc ls [.ref h] w kc ks Q := by
  intro l p e s m args below meth c H locs lsA R hP hD hS hL
  obtain ⟨hx, hb, hret, hml, hown, hts, hlocks, hK, hA, hin, hN⟩ := id R
  refine W.objInit hx hb hown (hts _ hl) (hts _ hi) (hts _ hc) rfl (hL.1.trans hml.symm) rfl hd (Nat.le_add_left 1 d) ?_ (kk l p e s m args below meth c H locs lsA R hP hD hS hL)
  have hr := lv_room (m := m) (pc := pc) (ls := lsA) (rest := [Value.ref h]) (st := []) (Nat.le_of_ble_eq_true rfl)
  show _ + 12 ≤ 31 * (d + 1)
  omega
theorem NGo.newa {atype : ArrayType} {ty : FieldType} {a0 : vp_A} {o : Nat × va_E} (harr : Cond.arrayClass (newarray.typeOf atype) ∈ tbg) (hty : newarray.typeOf atype = ty) (ht : (n_tys N)[t]? = some (N.2.1 t, ty)) (ha : ∀ cA : ClassId, vp_cell cA a0 = arrV cA n' (fun _ => defaultValue ty)) (hn : ¬ n < 0) (hn' : n.toNatClampNeg = n') (hb : n' * componentBytes ty ≤ 536870912) (hc : kc + 1 ≤ mc) (hs : ks + n' ≤ ms) (hd : decode y.2.1 pc = .ok (.newarray atype, 2))
    (kk : ∀ q, NGo y N d mc ms (pc + 2) ls (.ref q :: st) (pre ++ o :: (post ++ [(q, .inl (N.2.1 t, a0))])) (kc + 1) (ks + n') Q) : NGo y N d mc ms pc ls (.int n :: st) (pre ++ o :: post) kc ks Q := by
  intro l p e s m args below meth c H locs lsA R hP hD hS hL
  obtain ⟨hx, hbb, hret, hml, hown, hts, hlocks, hK, hA, hin, hN⟩ := id R
  refine va_newa hx hbb (hts _ harr) hty hK hP hD hS hA ha hn hn' hb hc hs hd (fun q cA H1 hK1 hP1 hD1 hS1 => ?_)
  have e1 : cA = N.2.1 t := by
    have h1 := (hK1.2 (n_tys N).length (cA, ty) (by simp)).2
    exact ra_uniq h1 (hK.2 t _ ht).2
  subst e1
  rw [app3] at hP1 hD1
  exact kk q l p e s m args below meth c H1 locs lsA R hP1 hD1 hS1 hL
theorem NGo.newq {o : Nat × va_E} (hcl : Cond.classLink y.1.cls idx "EchoTurns$Scene" ∈ tbg) (hn : ¬ n < 0) (hn' : n.toNatClampNeg = n') (hb : n' * 4 ≤ 536870912) (hc : kc + 1 ≤ mc) (hs : ks + n' ≤ ms) (hd : decode y.2.1 pc = .ok (.anewarray idx, 3))
    (kk : ∀ q, NGo y N d mc ms (pc + 3) ls (.ref q :: st) (pre ++ o :: (post ++ [(q, .inl (N.2.1 4, n', .inr (.inr (.inr (.inr (fun _ => none))))))])) (kc + 1) (ks + n') Q) : NGo y N d mc ms pc ls (.int n :: st) (pre ++ o :: post) kc ks Q := by
  intro l p e s m args below meth c H locs lsA R hP hD hS hL
  obtain ⟨hx, hbb, hret, hml, hown, hts, hlocks, hK, hA, hin, hN⟩ := id R
  refine va_newq hx hbb hown (hts _ hcl) hN.2 hK hP hD hS hA hn hn' hb hc hs hd (fun q cA H1 hK1 hP1 hD1 hS1 => ?_)
  have e1 : cA = N.2.1 4 := by
    have h1 := (hK1.2 (n_tys N).length (cA, .object "EchoTurns$Scene") (by simp)).2
    exact ra_uniq h1 (hK.2 4 _ rfl).2
  subst e1
  rw [app3] at hP1 hD1
  exact kk q l p e s m args below meth c H1 locs lsA R hP1 hD1 hS1 hL
theorem NGo.new {o : Nat × va_E} {C : String} {T : u_T} {Nf : Nat} {tyf : Nat → FieldType} (hq : vwCl[ci]? = some (C, T, Nf)) (hin0 : ∀ w ∈ u_ws C T Nf, w ∈ tbg) (htyf : ∀ k, k < Nf → parseFieldDescriptor (T k).2.2.1 = some (tyf k)) (hcl : Cond.classLink y.1.cls idx C ∈ tbg) (hinst : Cond.instantiable C Nf ∈ tbg) (hini : Cond.initialized C ∈ tbg) (hfs : ∀ j, j < Nf → defaultValue (tyf j) = vp_V fs j) (hc : kc + 1 ≤ mc) (hs : ks + Nf ≤ ms) (hd : decode y.2.1 pc = .ok (.new idx, 3))
    (kk : ∀ q, NGo y N d mc ms (pc + 3) ls (.ref q :: st) (pre ++ o :: (post ++ [(q, .inr (ci, fs))])) (kc + 1) (ks + Nf) Q) : NGo y N d mc ms pc ls st (pre ++ o :: post) kc ks Q := by
  intro l p e s m args below meth c H locs lsA R hP hD hS hL
  obtain ⟨hx, hbb, hret, hml, hown, hts, hlocks, hK, hA, hin, hN⟩ := id R
  refine va_new hx hbb hts hin0 tyf htyf hown (hts _ hcl) (hts _ hinst) (hts _ hini) hK hP hD hS hA hq hfs hc hs hd (fun q H1 hP1 hD1 hS1 => ?_)
  rw [app3] at hP1 hD1
  exact kk q l p e s m args below meth c H1 locs lsA R hP1 hD1 hS1 hL
theorem NGo.putF {Nf : Nat} {ty : FieldType} {z : Value} (hf : nfOK y.1.cls idx ci k Nf ty) (hn : narrow ty z = z) (hfit : fits ty z = true) (hl : fs.length = Nf) (hd : decode y.2.1 pc = .ok (.putfield idx, 3))
    (kk : NGo y N d mc ms (pc + 3) ls st (pre ++ (h, .inr (ci, fs.set k z)) :: post) kc ks Q) : NGo y N d mc ms pc ls (z :: .ref h :: st) (pre ++ (h, .inr (ci, fs)) :: post) kc ks Q := by
  intro l p e s m args below meth c H locs lsA R hP hD hS hL
  obtain ⟨hx, hbb, hret, hml, hown, hts, hlocks, hK, hA, hin, hN⟩ := id R
  obtain ⟨C, T, ty0, hc, hk, hin0, hln, hty, hnm, hfin, hdecl, hpd⟩ := hf
  refine va_putF hx hbb hts hin0 ty0 hty hnm hown hK hP hD hS pre.length (get3 pre _ post) hc k hk (hts _ hln) (fun _ h => h) hfin hin hdecl hpd hn hfit (by rw [hl]; exact hk) hd (fun H1 locs1 hP1 hD1 hS1 => ?_)
  rw [set3] at hP1 hD1
  exact kk l p e s m args below meth c H1 locs1 lsA R hP1 hD1 hS1 hL
theorem NGo.put {Nf : Nat} {ty : FieldType} {z : Value} (hf : fputOK y.1.cls idx ci k Nf ty) (hn : narrow ty z = z) (hfit : fits ty z = true) (hl : fs.length = Nf) (hd : decode y.2.1 pc = .ok (.putfield idx, 3))
    (kk : NGo y N d mc ms (pc + 3) ls st (pre ++ (h, .inr (ci, fs.set k z)) :: post) kc ks Q) : NGo y N d mc ms pc ls (z :: .ref h :: st) (pre ++ (h, .inr (ci, fs)) :: post) kc ks Q := by
  intro l p e s m args below meth c H locs lsA R hP hD hS hL
  obtain ⟨hx, hbb, hret, hml, hown, hts, hlocks, hK, hA, hin, hN⟩ := id R
  obtain ⟨C, T, ty0, hc, hk, hin0, hln, hty, hnm, hfin, hpd⟩ := hf
  refine va_put hx hbb hts hin0 ty0 hty hnm hown hK hP hD hS pre.length (get3 pre _ post) hc k hk (hts _ hln) (fun _ h => h) hfin hpd hn hfit (by rw [hl]; exact hk) hd (fun H1 locs1 hP1 hD1 hS1 => ?_)
  rw [set3] at hP1 hD1
  exact kk l p e s m args below meth c H1 locs1 lsA R hP1 hD1 hS1 hL
theorem NGo.getf {Nf : Nat} {z : Value} (hf : fldOK y.1.cls idx ci k Nf) (hz : fs[k]? = some z) (hd : decode y.2.1 pc = .ok (.getfield idx, 3))
    (kk : NGo y N d mc ms (pc + 3) ls (z :: st) (pre ++ (h, .inr (ci, fs)) :: post) kc ks Q) : NGo y N d mc ms pc ls (.ref h :: st) (pre ++ (h, .inr (ci, fs)) :: post) kc ks Q := by
  intro l p e s m args below meth c H locs lsA R hP hD hS hL
  obtain ⟨hx, hbb, hret, hml, hown, hts, hlocks, hK, hA, hin, hN⟩ := id R
  obtain ⟨C, T, hc, hk, hin0, hln⟩ := hf
  exact va_get hx hbb hts hin0 hown hK hP pre.length (get3 pre _ post) hc k hk (hts _ hln) (fun _ h => h) hz hd (kk l p e s m args below meth c H locs lsA R hP hD hS hL)
theorem NGo.iast {o : Nat × va_E} {i : Int32} {f : Nat → Int32} {j ki : Nat} (hj : post[j]? = some (q, .inl (N.2.1 0, n', .inl f))) (hin0 : vp_in i n') (hki : i.toNatClampNeg = ki) (hd : decode y.2.1 pc = .ok (.iastore, 1))
    (kk : NGo y N d mc ms (pc + 1) ls st (pre ++ o :: (post.set j (q, .inl (N.2.1 0, n', .inl (upd f ki x))))) kc ks Q) : NGo y N d mc ms pc ls (.int x :: .int i :: .ref q :: st) (pre ++ o :: post) kc ks Q := by
  subst hki
  intro l p e s m args below meth c H locs lsA R hP hD hS hL
  obtain ⟨hx, hbb, hret, hml, hown, hts, hlocks, hK, hA, hin, hN⟩ := id R
  refine va_iast hx hbb hK hP hD hS (pre.length + 1 + j) 0 ((get4 pre o post j).trans hj) rfl hin0 hd (fun H1 locs1 hP1 hD1 hS1 => ?_)
  rw [set4] at hP1 hD1
  exact kk l p e s m args below meth c H1 locs1 lsA R hP1 hD1 hS1 hL
theorem n_back {l : Launch} {p : Program} {e : Env} {s : State} {m : MethodId} {args : Array Value} {below : List Frame} {meth : Method} {c : Code} {H : Heap} {locs : List Loc} {lsA : Array Slot} {st0 : List Value} {a2 : Array Value}
    (hr : va_Run p l e (rmn (d + 1) mc ms) s m args below meth c H locs kc ks mc2 ms2 (F0 m pc lsA st0) st (n_Q N Q2 a2) N.2.2)
    (R : n_run y N p s m args meth c) (hS : va_S N.2.2 s.heap H locs) (hL : lv_has lsA y.2.2.1 ls)
    (hk : ∀ w', Q2 w' → NGo y N (d + 1) mc ms (pc + 3) ls st w' (kc + mc2) (ks + ms2) Q) :
    W p l e (rmn (d + 1) mc ms) s m args below meth c H locs kc ks (MQ below (n_Q N Q) args s mc ms N.2.2) (F0 m pc lsA st0) := by
  intro T hT X
  obtain ⟨v, st₀, t, T', L, h0, X', hLc, e1, e2, ⟨⟨ho, w', hq, hP', hD'⟩, hz, hkp⟩, stp⟩ := hr T hT X
  rw [h0] at hz hkp
  have hv : v = none := Outcome.returned.inj ho
  subst hv
  have hS1 : va_S N.2.2 s.heap T'.heap (locs ++ L) := by
    refine ⟨Nat.le_trans hS.1 (by rw [e1]; exact hz), fun q h1 h2 => ?_, fun q hq => ?_⟩
    · rw [e1, hkp q (Nat.lt_of_lt_of_le h1 hS.1) h2]; exact hS.2.1 q h1 h2
    · rcases List.mem_append.mp hq with h | h
      · exact hS.2.2 q h
      · exact hLc q h
  have key := hk w' hq l p e s m args below meth c T'.heap (locs ++ L) lsA R (by rw [e1]; exact hP') hD' hS1 hL
  obtain ⟨t2, a1, b1⟩ := key T' rfl X'
  exact ⟨t2, stp t2 a1, b1⟩
theorem n_blind (N : NC) (as : List Value) (w : va_W) : FrameBlind (n_P N as w) := by
  intro a U g mk ⟨h1, h2, h3, h4, h5, h6⟩
  exact ⟨h1, h2, h3, va_K.moved (u := U) (U := U.calling g mk a) (Vm.Alike.refl U.vm) h4, h5, n_N.same (u := U) rfl h6⟩
theorem rn_le {m d : Nat} (mc ms mc2 ms2 : Nat) (h : m ≤ 12) : (rmn d mc2 ms2).frames + 1 ≤ (rmn (d + 1) mc ms).frames ∧ 8 + (m + 11) + (rmn d mc2 ms2).locals ≤ (rmn (d + 1) mc ms).locals := by
  refine ⟨Nat.le_refl _, ?_⟩
  show 8 + (m + 11) + 31 * d ≤ 31 * (d + 1)
  omega
theorem NGo.call (hm : mOKI y2) (hl : Cond.methodLink y.1.cls idx y2.1 ∈ tbg) (hw : (st.map fun v => v.category).sum ≤ 8) (hd : decode y.2.1 pc = .ok (.invokespecial idx, 3)) (hf : kc + mc2 ≤ mc ∧ ks + ms2 ≤ ms)
    (hc : NCall y2 N d mc2 ms2 [.ref h] w Q2) (hk : ∀ w', Q2 w' → NGo y N (d + 1) mc ms (pc + 3) ls st w' (kc + mc2) (ks + ms2) Q) : NGo y N (d + 1) mc ms pc ls (.ref h :: st) w kc ks Q := by
  intro l p e s m args below meth c H locs lsA R hP hD hS hL
  obtain ⟨hx, hb, hret, hml, hown, hts, hlocks, hK, hA, hin, hN⟩ := id R
  obtain ⟨m1, m3, m4, m6, m7, m8, m9, m10⟩ := hm
  have hrun := va_runI (p := p) (l := l) (e := e) (R := rmn (d + 1) mc ms) (s := s) (m := m) (args := args) (below := below) (meth := meth) (c := c) (H := H) (locs := locs) (cells := kc) (slots := ks) (b := h) (As := []) (rest := st) (g := F0 m pc lsA (.ref h :: st))
    ⟨hx, hb, hml, hown, hts⟩ (hc l) ⟨⟨rfl, rfl, (rn_le mc ms mc2 ms2 m8).1, (rn_le mc ms mc2 ms2 m8).2, pm_words hts m4, by rw [← m10]; exact List.mem_cons_self, by rw [← m10]; exact hts _ m4, hts _ m3, m6, lenOK m7, hts _ hl⟩, m9, hts _ m1⟩ ⟨n_blind N _ w, fun U hU hW => ⟨rfl, by rw [hU]; exact hP, hD, va_K.moved hW.alike hK, fun q hq => hA q (Nat.le_trans hS.1 (by rw [← hU]; exact hq)), hN.warm hW⟩⟩ rfl rfl hL.1 rfl (lv_room hw) hd hf
  exact n_back hrun R hS hL hk
theorem NGo.callN {host : String} (hm : mOKI y2) (hl : (y.1.cls, idx, y2.1, host) ∈ nwN) (hw : (st.map fun v => v.category).sum ≤ 8) (hd : decode y.2.1 pc = .ok (.invokespecial idx, 3)) (hf : kc + mc2 ≤ mc ∧ ks + ms2 ≤ ms)
    (hc : NCall y2 N d mc2 ms2 [.ref h] w Q2) (hk : ∀ w', Q2 w' → NGo y N (d + 1) mc ms (pc + 3) ls st w' (kc + mc2) (ks + ms2) Q) : NGo y N (d + 1) mc ms pc ls (.ref h :: st) w kc ks Q := by
  intro l p e s m args below meth c H locs lsA R hP hD hS hL
  obtain ⟨hx, hb, hret, hml, hown, hts, hlocks, hK, hA, hin, hN⟩ := id R
  obtain ⟨m1, m3, m4, m6, m7, m8, m9, m10⟩ := hm
  have hrun := va_runIN (p := p) (l := l) (e := e) (R := rmn (d + 1) mc ms) (s := s) (m := m) (args := args) (below := below) (meth := meth) (c := c) (H := H) (locs := locs) (cells := kc) (slots := ks) (b := h) (As := []) (rest := st) (g := F0 m pc lsA (.ref h :: st))
    ⟨hx, hb, hml, hown, hts⟩ (hc l) ⟨⟨⟨rfl, rfl, (rn_le mc ms mc2 ms2 m8).1, (rn_le mc ms mc2 ms2 m8).2, pm_words hts m4, by rw [← m10]; exact List.mem_cons_self⟩, by rw [← m10]; exact hts _ m4, hts _ m3, m6, lenOK m7, va_Nw.use rfl (hN.1 _ hl)⟩, m9, hts _ m1⟩ ⟨n_blind N _ w, fun U hU hW => ⟨rfl, by rw [hU]; exact hP, hD, va_K.moved hW.alike hK, fun q hq => hA q (Nat.le_trans hS.1 (by rw [← hU]; exact hq)), hN.warm hW⟩⟩ rfl rfl hL.1 rfl (lv_room hw) hd hf
  exact n_back hrun R hS hL hk
theorem NCall_of (hy : plainName y.1.cls = true) (hn1 : 1 ≤ y.2.2.1) (hnm : y.1.name = "<init>") (kk : NGo y N d mc ms 0 [(0, .ref h)] [] w 0 0 Q) : NCall y N d mc ms [.ref h] w Q := by
  intro l
  refine Met.ofW (cc := y.2.1) (maxL := y.2.2.1) (ret := y.2.2.2) hy rfl ?_
  intro p e s m args below meth c s₁ B hml hv
  obtain ⟨rfl, hP, hD, hK, hA, hN⟩ := hv
  have hts := atoms_spec (ws := wsz y) B.pre
  have hown : s.vm.findClass y.1.cls = some m.cls := findClass_of_methodNamed B.named
  have hin : meth.name = "<init>" := ((name_of_methodNamed B.named B.method).1).trans hnm
  rw [lg_entry_eq]
  have hl := lv_entry ([.ref h]) (n := y.2.2.1) hn1
  exact kk l p e s m _ below meth c s.heap [] _ ⟨B.exec, B.bytes, B.returns, hml, hown, fun w hw => hts w (List.mem_cons_of_mem _ hw), B.notSynchronized, hK, hA, hin, hN⟩ hP hD va_S.rf hl
end NROWS
