/-! THE CLAIM OUT OF ONE WALK OF THE LAW'S BODY. Your part is whole_start (and what it stands on); all else here is the same for every law, but numbers. -/
def R_law : String := "EchoTurnsLaw"
def lw_P (b : Addr) (xs : List Int32) (args : Array Value) (s : State) : Prop := args = #[.ref b] ∧ s.IntsAt b xs ∧ xs.length ≤ 2560 ∧ (Jvm.Cond.and given_1 narrow_1).before args s = true
/-- what a walk over the start with the record d0 says of its end, said of the start itself -/
theorem lw_closed {s t : State} {o : Outcome} {d0 : Drawn} {L : List Loc} {k n : Nat} (hd0 : s.drawn.sameBut d0 lw_cs) (hv : ∃ v, o = .returned v) (hW : (s.setDrawn d0).WarmedH t.vm) (hs : (s.setDrawn d0).sameButNew ({ t with vm := s.vm } : State) L k n) : State.butDraws s t lw_cs (fun t1 => Framed s o t1 L k n) := by
  have h2 : t.drawn = d0 := congrArg State.drawn hs.1
  refine ⟨⟨hv, hW, State.sameButNew.setDrawn hs s.drawn⟩, ?_, by decide⟩
  rw [h2]
  exact hd0
def lw_Q (_ : Array Value) (s : State) (o : Outcome) (t : State) : Prop := o = .returned (some (.int 1)) ∧ State.butDraws s t lw_cs (fun t1 => Framed s o t1 [] 600000 7302250)
def lw_Z (below : List Frame) (a : Array Value) (s : State) : State → Prop := fun t => ∃ o, t.status = .running ∧ Ended t below o ∧ lw_Q a s o t
/-- the law's own end, with 1 on the stack, nothing written that was there before, its room as the claim has it; d0: the record of draws at this point (at the entry s.drawn: begin with 'refine W.base ?_' and 'have hd0 := Drawn.sameBut.refl s.drawn lw_cs') -/
theorem lw_ret {p : Program} {l : Launch} {e : Env} {s : State} {m : MethodId} {below : List Frame} {meth : Method} {c : Code} {b : Nat} {d0 : Drawn} (hd0 : s.drawn.sameBut d0 lw_cs) (hx : p.tables.exec = Jvm.exec) (hb : c.code = code) (hr : meth.sig.returnType = ret) (hlocks : meth.locks = false) {pc : Nat} {H : Heap} {ls : Array Slot} (hdg : decode code pc = .ok (.ireturn, 1)) : W p l e room_1 (s.setDrawn d0) m #[Value.ref b] below meth c H [] 600000 7302250 (lw_Z below #[Value.ref b] s) (F0 m pc ls [.int 1]) := by
  intro T hT X
  obtain ⟨fs, hret, hrun, hended, hW, hframe⟩ := X.leave (v := some (.int 1)) (hlocks := hlocks) (fun h => by rw [hr] at h; cases h)
  have hmeth' : T.vm.method? m = some meth := X.method'
  refine ⟨T.setFrames fs, ?_, .returned (some (.int 1)), hrun, hended, rfl, lw_closed hd0 ⟨_, rfl⟩ hW hframe⟩
  jvm_step X.here [X.here.top, hx, hb, hdg, hmeth', hr, ret, narrow_b1]
  (try refine ⟨rfl, ?_⟩); (try refine ⟨rfl, ?_⟩)
  first | (intro acts; rw [hret _ acts rfl rfl rfl]) | rw [hret _ _ rfl rfl rfl]
  exact Steps.refl _
/-- what holds at the law's entry: the machine, the code, the tables' words (any of lw_tbl by 'hts w (by decide +kernel)'), the script of L ints xs at the cell b, what the Statement gives of the start (any of its parts by flat_of_before) -/
def lw_At (p : Program) (s : State) (m : MethodId) (meth : Method) (c : Code) (b L : Nat) (xs : Nat → Int32) : Prop :=
  p.tables.exec = Jvm.exec ∧ c.code = code ∧ meth.sig.returnType = ret ∧ c.maxLocals = 8 ∧ s.vm.findClass R_law = some m.cls ∧ (∀ w ∈ lw_tbl, w.before #[Value.ref b] s = true) ∧ va_X b L xs s s.heap ∧ b < s.heap.size ∧ meth.locks = false ∧ (Jvm.Cond.and given_1 narrow_1).before #[Value.ref b] s = true
/-! the law's frame -/
abbrev LX : Type := Program × Launch × Env × State × MethodId × List Frame × Method × Code × Nat × GC
def LG (X : LX) (ex : List (Nat × Value)) (i pc : Nat) (st : List Value) (σ : St) : Prop := match X with
  | (p, l, e, s, m, below, meth, c, b, G) => ∀ (H : Heap) (locs : List Loc) (lsA : Array Slot), pm_H G σ H → va_S (fun q : Nat => s.heap.size ≤ q) s.heap H locs → lv_has lsA 8 ([(0, .ref b), (1, .ref (G.2.2 0)), (2, .ref (G.2.2 64)), (3, .int (nI i))] ++ ex) →
    W p l e room_1 s m #[Value.ref b] below meth c H locs 75 9188 (lw_Z below #[Value.ref b] s) (F0 m pc lsA (st.map (ptr G.2.2)))
def LF (X : LX) (L : Nat) (xs : Nat → Int32) : Prop := match X with
  | (p, _, _, s, m, _, meth, c, b, G) => p.tables.exec = Jvm.exec ∧ c.code = code ∧ meth.sig.returnType = ret ∧ c.maxLocals = 8 ∧ s.vm.findClass RL = some m.cls ∧ (∀ w ∈ tbg, w.before #[Value.ref b] s = true) ∧ va_X b L xs s s.heap ∧ b < s.heap.size ∧ meth.locks = false ∧ va_K G.1 vwCl (pm_tys G) s ∧ pm_inj G ∧ pm_N s ∧ (∀ k, k < 75 → s.heap.size ≤ G.2.2 k) ∧ L ≤ 2560
def argD (pc k : Nat) : List (Nat × Instr × Nat) := [(pc, .aload_n 0, 1), (pc + 1, .iload_n 3, 1), (pc + 2, .iconst ((k : Int) + 1), 1), (pc + 3, .iadd, 1), (pc + 4, .iaload, 1)]
def decd (D : List (Nat × Instr × Nat)) : Prop := ∀ q ∈ D, decode code q.1 = .ok q.2
theorem decd.at {D : List (Nat × Instr × Nat)} (h : decd D) (j : Nat) {pc : Nat} {ins : Instr} {n : Nat} (hj : D[j]? = some (pc, ins, n)) : decode code pc = .ok (ins, n) := h (pc, ins, n) (List.mem_of_getElem? hj)
theorem ic_k {k : Nat} (h : k < 4) : Int32.ofInt ((k : Int) + 1) = nI (k + 1) := by
  rcases (show k = 0 ∨ k = 1 ∨ k = 2 ∨ k = 3 by omega) with rfl | rfl | rfl | rfl <;> decide
section LAWF
variable {X : LX} {L : Nat} {xs : Nat → Int32} {i pc idx : Nat} {st : List Value} {σ : St} {ex ex' : List (Nat × Value)}
theorem LG.drop (kk : LG X [] i pc st σ) : LG X ex i pc st σ := by
  obtain ⟨p, l, e, s, m, below, meth, c, b, G⟩ := X
  intro H locs lsA hH hS hl
  exact kk H locs lsA hH hS ⟨hl.1, hl.2.1, fun q hq => hl.2.2 q (List.mem_append.mpr (Or.inl (by simpa using hq)))⟩
theorem LG.aload1 (F : LF X L xs) (hd : decode code pc = .ok (.aload_n 1, 1)) (kk : LG X ex i (pc + 1) (.ref 0 :: st) σ) : LG X ex i pc st σ := by
  obtain ⟨p, l, e, s, m, below, meth, c, b, G⟩ := X
  intro H locs lsA hH hS hl
  exact lv_aload_n F.1 F.2.1 hd rfl (lv_at hl 1 rfl) (kk H locs lsA hH hS hl)
theorem LG.aload2 (F : LF X L xs) (hd : decode code pc = .ok (.aload_n 2, 1)) (kk : LG X ex i (pc + 1) (.ref 64 :: st) σ) : LG X ex i pc st σ := by
  obtain ⟨p, l, e, s, m, below, meth, c, b, G⟩ := X
  intro H locs lsA hH hS hl
  exact lv_aload_n F.1 F.2.1 hd rfl (lv_at hl 2 rfl) (kk H locs lsA hH hS hl)
theorem LG.arg (F : LF X L xs) (hi : i + 5 ≤ L) {k : Nat} (hk : k < 4) (hd : decd (argD pc k)) (kk : LG X ex i (pc + 5) (.int (xs (i + 1 + k)) :: st) σ) : LG X ex i pc st σ := by
  obtain ⟨p, l, e, s, m, below, meth, c, b, G⟩ := X
  obtain ⟨hx, hb, hret, hml, hown, hts, hX, hbl, hlocks, hK, hinj, hN, hA, hL⟩ := id F
  intro H locs lsA hH hS hl
  refine lv_aload_n hx hb (hd.at 0 rfl) rfl (lv_at hl 0 rfl) ?_
  refine lv_iload_n hx hb (hd.at 1 rfl) rfl (lv_at hl 3 rfl) ?_
  refine lv_iconst (v := nI (k + 1)) hx hb (hd.at 2 rfl) (ic_k hk) ?_
  refine lv_iadd hx hb (hd.at 3 rfl) ?_
  rw [nI_add]
  refine va_sld hx hb hX hbl (Nat.not_le.mpr hbl) hS (vp_in_nI (by omega) (by omega)) (hd.at 4 rfl) ?_
  rw [nI_clamp (by omega), show i + (k + 1) = i + 1 + k by omega]
  exact kk H locs lsA hH hS hl
theorem LG.args (F : LF X L xs) (hi : i + 5 ≤ L) : ∀ (n : Nat), n ≤ 4 → (∀ k, k < n → decd (argD (pc + 5 * k) k)) → LG X ex i (pc + 5 * n) (((List.range n).map (fun k => Value.int (xs (i + 1 + k)))).reverse ++ st) σ → LG X ex i pc st σ := by
  intro n
  induction n with
  | zero => intro _ _ kk; exact kk
  | succ n ih =>
    intro hn hd kk
    refine ih (by omega) (fun k hk => hd k (by omega)) (LG.arg F hi (k := n) (by omega) (hd n (by omega)) ?_)
    rw [List.range_succ, List.map_append, List.reverse_append] at kk
    exact kk
theorem LG.call {y2 : MI} {a ci n N : Nat} {as : List Value} {Q2 : Option Value → St → Prop} {st0 : List Value} (F : LF X L xs) (hm : mOKV y2 ci n) (hl : Cond.methodLink RL idx y2.1 ∈ tbg) (hs : shp[a]? = some (0, ci, N)) (hst : st0 = as.reverse ++ .ref a :: st) (hn : as.length = n) (hw : (st.map fun v => v.category).sum ≤ 8) (hd : decode code pc = .ok (.invokevirtual idx, 3))
    (hc : Call 9 y2 (.ref a :: as) σ Q2) (hk : ∀ r σ', Q2 r σ' → LG X ex i (pc + 3) (r.toList ++ st) σ') : LG X ex i pc st0 σ := by
  subst hst
  obtain ⟨p, l, e, s, m, below, meth, c, b, G⟩ := X
  obtain ⟨hx, hb, hret, hml, hown, hts, hX, hbl, hlocks, hK, hinj, hN, hA, hL⟩ := id F
  intro H locs lsA hH hS hL2
  obtain ⟨m1, m2, m3, m4, ⟨q, hq, hqc⟩, m6, m7, m8⟩ := hm
  have hrv := va_recv hK hH.1 hq (pm_obj hs)
  rw [hqc] at hrv
  have hrl : room_1.locals = 344 := rfl
  have hCW : CallW room_1 s #[Value.ref b] RL y2.1.cls idx y2.1 y2.2.1 y2.2.2.1 y2.2.2.2 (wsz y2) (rmz 9) 0 0 n :=
    ⟨⟨rfl, rfl, Nat.le_of_ble_eq_true rfl, by rw [hrl]; show 8 + (y2.2.2.1 + 11) + 31 * 9 ≤ 344; omega, pm_words hts m4, List.mem_cons_self, hts _ m4, hts _ m3, m6, lenOK m7, hts _ hl⟩, hts _ m1, hts _ m2⟩
  have hrun := va_runV (p := p) (l := l) (e := e) (R := room_1) (s := s) (m := m) (args := #[Value.ref b]) (below := below) (meth := meth) (c := c) (H := H) (locs := locs) (cells := 75) (slots := 9188) (b := G.2.2 a) (As := as.map (ptr G.2.2)) (rest := st.map (ptr G.2.2)) (g := F0 m pc lsA ((as.reverse ++ .ref a :: st).map (ptr G.2.2)))
    ⟨hx, hb, hml, hown, hts⟩ (hc l G) hCW ⟨pm_blind G _ σ, hrv, fun U hU hW => ⟨rfl, by rw [hU]; exact hH, va_K.moved hW.alike hK, hinj, pm_N.warm hW hN⟩⟩ rfl (by rw [List.length_map]; exact hn) hL2.1 (by simp [ptr]) (lv_room (by rw [ptr_cats]; exact hw)) hd ⟨Nat.le_of_ble_eq_true rfl, Nat.le_of_ble_eq_true rfl⟩
  intro T hT X0
  obtain ⟨v, st₀, t, T', L1, h0, X', hLc, e1, e2, ⟨⟨r, σ', ho, hq2, hH'⟩, hz, hkp⟩, stp⟩ := hrun T hT X0
  rw [h0] at hz hkp
  have hv : v = r.map (ptr G.2.2) := Outcome.returned.inj ho
  subst hv
  have hin : ∀ q : Nat, pm_A G q → s.heap.size ≤ q := by
    rintro q ⟨k, hk1, rfl⟩
    exact hA k hk1
  have hS1 : va_S (fun q : Nat => s.heap.size ≤ q) s.heap T'.heap (locs ++ L1) := by
    refine ⟨Nat.le_trans hS.1 (by rw [e1]; exact hz), fun q h1 h2 => ?_, fun q hq => ?_⟩
    · rw [e1, hkp q (Nat.lt_of_lt_of_le h1 hS.1) (fun z => h2 (hin q z))]; exact hS.2.1 q h1 h2
    · rcases List.mem_append.mp hq with h | h
      · exact hS.2.2 q h
      · exact hin _ (hLc q h)
  have key := hk r σ' hq2 T'.heap (locs ++ L1) lsA (by rw [e1]; exact hH') hS1 hL2
  have hst : (r.toList ++ st).map (ptr G.2.2) = (r.map (ptr G.2.2)).toList ++ st.map (ptr G.2.2) := by cases r <;> rfl
  rw [hst] at key
  obtain ⟨t2, a1, b1⟩ := key T' rfl X'
  exact ⟨t2, stp t2 a1, b1⟩
theorem LG.same {r : Int32} {off : Int} (F : LF X L xs) (hd : decode code pc = .ok (.if_icmp .eq off, 3)) (ht : (pc : Int) + off = (867 : Int)) (kk : LG X ex i 867 [] σ) : LG X ex i pc [.int r, .int r] σ := by
  obtain ⟨p, l, e, s, m, below, meth, c, b, G⟩ := X
  intro H locs lsA hH hS hl
  exact lv_icmp_eq (tgt := 867) F.1 F.2.1 hd ht (fun _ => kk H locs lsA hH hS hl) (fun z => absurd rfl z)
theorem LG.goto {off : Int} (tg : Nat) (F : LF X L xs) (hd : decode code pc = .ok (.goto off, 3)) (ht : (pc : Int) + off = (tg : Int)) (kk : LG X ex i tg st σ) : LG X ex i pc st σ := by
  obtain ⟨p, l, e, s, m, below, meth, c, b, G⟩ := X
  intro H locs lsA hH hS hl
  exact lv_goto F.1 F.2.1 hd ht (kk H locs lsA hH hS hl)
theorem LG.iconst {z : Int} {v : Int32} (F : LF X L xs) (hd : decode code pc = .ok (.iconst z, 1)) (hv : Int32.ofInt z = v) (kk : LG X ex i (pc + 1) (.int v :: st) σ) : LG X ex i pc st σ := by
  obtain ⟨p, l, e, s, m, below, meth, c, b, G⟩ := X
  intro H locs lsA hH hS hl
  exact lv_iconst F.1 F.2.1 hd hv (kk H locs lsA hH hS hl)
theorem LG.if_eq {x : Int32} {off : Int} (tg : Nat) (F : LF X L xs) (hd : decode code pc = .ok (.ifCond .eq off, 3)) (ht : (pc : Int) + off = (tg : Int)) (kk : (x = 0 → LG X ex i tg st σ) ∧ (¬ x = 0 → LG X ex i (pc + 3) st σ)) : LG X ex i pc (.int x :: st) σ := by
  obtain ⟨p, l, e, s, m, below, meth, c, b, G⟩ := X
  intro H locs lsA hH hS hl
  exact lv_if_eq F.1 F.2.1 hd ht (fun z => kk.1 z H locs lsA hH hS hl) (fun z => kk.2 z H locs lsA hH hS hl)
theorem LG.dcmp {x y : UInt64} {op : CmpOp} (F : LF X L xs) (hd : decode code pc = .ok (.dcmp op, 1)) (kk : LG X ex i (pc + 1) (.int (Op.cmpValue (FP.dcmp x y) op) :: st) σ) : LG X ex i pc (.double y :: .double x :: st) σ := by
  obtain ⟨p, l, e, s, m, below, meth, c, b, G⟩ := X
  intro H locs lsA hH hS hl
  exact lv_dcmp F.1 F.2.1 hd (kk H locs lsA hH hS hl)
theorem LG.dload {x : UInt64} {j : Nat} (F : LF X L xs) (hd : decode code pc = .ok (.dload j, 2)) (hj : (j, Value.double x) ∈ ex) (kk : LG X ex i (pc + 2) (.double x :: st) σ) : LG X ex i pc st σ := by
  obtain ⟨p, l, e, s, m, below, meth, c, b, G⟩ := X
  intro H locs lsA hH hS hl
  exact lv_dload F.1 F.2.1 hd (hl.2.2 (j, .double x) (List.mem_append.mpr (Or.inr hj))) (kk H locs lsA hH hS hl)
theorem LG.dst4 {x : UInt64} (F : LF X L xs) (hd : decode code pc = .ok (.dstore 4, 2)) (kk : LG X [(4, .double x)] i (pc + 2) st σ) : LG X [] i pc (.double x :: st) σ := by
  obtain ⟨p, l, e, s, m, below, meth, c, b, G⟩ := X
  intro H locs lsA hH hS hl
  exact lv_dstore (lv' := [(4, .double x), (0, .ref b), (1, .ref (G.2.2 0)), (2, .ref (G.2.2 64)), (3, .int (nI i))]) F.1 F.2.1 hd hl (by decide) rfl (fun ls hl => kk H locs ls hH hS (lv_sub hl [1, 2, 3, 4, 0] rfl))
theorem LG.dst6 {x y : UInt64} (F : LF X L xs) (hd : decode code pc = .ok (.dstore 6, 2)) (kk : LG X [(4, .double y), (6, .double x)] i (pc + 2) st σ) : LG X [(4, .double y)] i pc (.double x :: st) σ := by
  obtain ⟨p, l, e, s, m, below, meth, c, b, G⟩ := X
  intro H locs lsA hH hS hl
  exact lv_dstore (lv' := [(6, .double x), (0, .ref b), (1, .ref (G.2.2 0)), (2, .ref (G.2.2 64)), (3, .int (nI i)), (4, .double y)]) F.1 F.2.1 hd hl (by decide) rfl (fun ls hl => kk H locs ls hH hS (lv_sub hl [1, 2, 3, 4, 5, 0] rfl))
def caseD (pc n x5 x6 : Nat) : List (Nat × Instr × Nat) := [(pc, .aload_n 1, 1), (pc + 1 + 5 * n, .invokevirtual x5, 3), (pc + 4 + 5 * n, .aload_n 2, 1), (pc + 5 + 10 * n, .invokevirtual x6, 3), (pc + 8 + 10 * n, .if_icmp .eq (867 - ((pc + 8 + 10 * n : Nat) : Int)), 3)]
/-- a case whose arguments are read from the script -/
theorem law_case {A : Ab} {m5 m6 : MI} (F : LF X L xs) (hi : i + 5 ≤ L) (n x5 x6 : Nat) (hn : n ≤ 4) (hD : decd (caseD pc n x5 x6)) (hD5 : ∀ k, k < n → decd (argD (pc + 1 + 5 * k) k)) (hD6 : ∀ k, k < n → decd (argD (pc + 5 + 5 * n + 5 * k) k)) (h5 : mOKV m5 5 n) (h6 : mOKV m6 6 n) (l5 : Cond.methodLink RL x5 m5.1 ∈ tbg) (l6 : Cond.methodLink RL x6 m6.1 ∈ tbg)
    (hB : Both A m5 (.ref 0 :: (List.range n).map (fun k => Value.int (xs (i + 1 + k)))) m6 (.ref 64 :: (List.range n).map (fun k => Value.int (xs (i + 1 + k))))) (hc : cR σ A) (hm : mR σ A) (kk : ∀ A' σ', okA A' → cR σ' A' → mR σ' A' → LG X [] i 867 [] σ') : LG X [] i pc [] σ := by
  obtain ⟨r, A', hA', b5, b6⟩ := hB
  refine LG.aload1 F (hD.at 0 rfl) (LG.args F hi n hn hD5 ?_)
  refine LG.call F h5 l5 shq_0 (st := []) (Q2 := QI (fun r' s1 => r' = r ∧ FrM σ s1 ∧ cR s1 A')) rfl (by simp) (Nat.le_of_ble_eq_true rfl) (hD.at 1 rfl) (b5 σ _ hc (fun s1 f c => ⟨rfl, f, c⟩)) ?_
  rintro _ s1 ⟨r', rfl, hr, f1, c1⟩
  subst hr
  have e1 : pc + 1 + 5 * n + 3 = pc + 4 + 5 * n := by omega
  rw [e1]
  refine LG.aload2 F (hD.at 2 rfl) ?_
  have e2 : pc + 4 + 5 * n + 1 = pc + 5 + 5 * n := by omega
  rw [e2]
  refine LG.args F hi n hn hD6 ?_
  have e3 : pc + 5 + 5 * n + 5 * n = pc + 5 + 10 * n := by omega
  rw [e3]
  refine LG.call F h6 l6 shq_64 (st := [.int r']) (Q2 := QI (fun r2 s2 => r2 = r' ∧ Fr mod s1 s2 ∧ mR s2 A')) rfl (by simp) (Nat.le_of_ble_eq_true rfl) (hD.at 3 rfl) (b6 s1 _ (hm.keep f1) (fun s2 f c => ⟨rfl, f, c⟩)) ?_
  rintro _ s2 ⟨_, rfl, rfl, f2, c2⟩
  have e4 : pc + 5 + 10 * n + 3 = pc + 8 + 10 * n := by omega
  rw [e4]
  exact LG.same F (hD.at 4 rfl) (by omega) (kk A' s2 hA' (c1.keepM hA' f2) c2)
end LAWF
