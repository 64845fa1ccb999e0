/-! from the entry to the loop -/
theorem dl_0 : decode code 0 = .ok (.new 25, 3) := by decide +kernel
theorem dl_3 : decode code 3 = .ok (.dup, 1) := by decide +kernel
theorem dl_4 : decode code 4 = .ok (.invokespecial 64, 3) := by decide +kernel
theorem dl_7 : decode code 7 = .ok (.astore_n 1, 1) := by decide +kernel
theorem dl_8 : decode code 8 = .ok (.bipush 24, 2) := by decide +kernel
theorem dl_10 : decode code 10 = .ok (.newarray .int, 2) := by decide +kernel
theorem dl_12 : decode code 12 = .ok (.astore_n 2, 1) := by decide +kernel
theorem dl_13 : decode code 13 = .ok (.bipush 63, 2) := by decide +kernel
theorem dl_15 : decode code 15 = .ok (.newarray .int, 2) := by decide +kernel
theorem dl_17 : decode code 17 = .ok (.astore_n 3, 1) := by decide +kernel
theorem dl_18 : decode code 18 = .ok (.bipush 9, 2) := by decide +kernel
theorem dl_20 : decode code 20 = .ok (.newarray .int, 2) := by decide +kernel
theorem dl_22 : decode code 22 = .ok (.astore 4, 2) := by decide +kernel
theorem dl_24 : decode code 24 = .ok (.aload 4, 2) := by decide +kernel
theorem dl_26 : decode code 26 = .ok (.iconst 0, 1) := by decide +kernel
theorem dl_27 : decode code 27 = .ok (.bipush 20, 2) := by decide +kernel
theorem dl_29 : decode code 29 = .ok (.iastore, 1) := by decide +kernel
theorem dl_30 : decode code 30 = .ok (.aload 4, 2) := by decide +kernel
theorem dl_32 : decode code 32 = .ok (.iconst 5, 1) := by decide +kernel
theorem dl_33 : decode code 33 = .ok (.iconst 1, 1) := by decide +kernel
theorem dl_34 : decode code 34 = .ok (.iastore, 1) := by decide +kernel
theorem dl_35 : decode code 35 = .ok (.aload 4, 2) := by decide +kernel
theorem dl_37 : decode code 37 = .ok (.bipush 7, 2) := by decide +kernel
theorem dl_39 : decode code 39 = .ok (.iconst 1, 1) := by decide +kernel
theorem dl_40 : decode code 40 = .ok (.iastore, 1) := by decide +kernel
theorem dl_41 : decode code 41 = .ok (.iconst 0, 1) := by decide +kernel
theorem dl_42 : decode code 42 = .ok (.istore 5, 2) := by decide +kernel
theorem wn_82 : Cond.classLink RL 25 RX5 ∈ tbg := tbAt (i := 34) (by decide +kernel) (by decide +kernel)
theorem wn_84 : Cond.methodLink RL 64 yX5_init ∈ tbg := tbAt (i := 36) (by decide +kernel) (by decide +kernel)
theorem lt_126 : Cond.arrayOver (.object "EchoTurns$Scene") ∈ lw_tbl := List.mem_of_getElem? (i := 78) (by decide +kernel)
theorem lt_129 : Cond.methodLinkNest RX5 28 yX1_init "EchoTurns" ∈ lw_tbl := List.mem_of_getElem? (i := 81) (by decide +kernel)
theorem lt_143 : Cond.methodLinkNest RX5 35 yX2_init "EchoTurns" ∈ lw_tbl := List.mem_of_getElem? (i := 95) (by decide +kernel)
theorem lt_189 : Cond.methodLinkNest RX5 42 yX4_init "EchoTurns" ∈ lw_tbl := List.mem_of_getElem? (i := 133) (by decide +kernel)
theorem lt_202 : Cond.methodLinkNest RX5 49 yX0_init "EchoTurns" ∈ lw_tbl := List.mem_of_getElem? (i := 146) (by decide +kernel)
theorem lt_370 : Cond.methodLinkNest RX3 75 yX5_isWithin "EchoTurns" ∈ lw_tbl := List.mem_of_getElem? (i := 313) (by decide +kernel)
theorem start_call {l : Launch} {p : Program} {e : Env} {s : State} {m : MethodId} {below : List Frame} {meth : Method} {c : Code} {b pc idx kc ks mc2 ms2 h : Nat} {N : NC} {y2 : MI} {st : List Value} {w : va_W} {Q2 : va_W → Prop} {Z : State → Prop} {H : Heap} {locs : List Loc} {lsA : Array Slot}
    (hx : p.tables.exec = Jvm.exec) (hb : c.code = code) (hml : c.maxLocals = 18) (hown : s.vm.findClass RL = some m.cls) (hts : ∀ w ∈ tbg, w.before #[Value.ref b] s = true) (hK : va_K N.1 vwCl (n_tys N) s) (hN : n_N s) (hA : ∀ q : Nat, s.heap.size ≤ q → N.2.2 q)
    (hm : mOKI y2) (hl : Cond.methodLink RL idx y2.1 ∈ tbg) (hd : decode code pc = .ok (.invokespecial idx, 3)) (hw : (st.map fun v => v.category).sum ≤ 8) (hf : kc + mc2 ≤ 600000 ∧ ks + ms2 ≤ 7302250) (hc : NCall y2 N 9 mc2 ms2 [.ref h] w Q2) (hP : va_P N.1 vwCl w H) (hD : va_D N.2.2 w) (hS : va_S N.2.2 s.heap H locs) (hz : lsA.size = 18)
    (kk : ∀ w' H' locs', Q2 w' → va_P N.1 vwCl w' H' → va_D N.2.2 w' → va_S N.2.2 s.heap H' locs' → W p l e room_1 s m #[Value.ref b] below meth c H' locs' (kc + mc2) (ks + ms2) Z (F0 m (pc + 3) lsA st)) : W p l e room_1 s m #[Value.ref b] below meth c H locs kc ks Z (F0 m pc lsA (.ref h :: st)) := by
  obtain ⟨m1, m3, m4, m6, m7, m8, m9, m10⟩ := hm
  have hrl : room_1.locals = 404 := rfl
  have hrun := va_runI (p := p) (l := l) (e := e) (R := room_1) (s := s) (m := m) (args := #[Value.ref b]) (below := below) (meth := meth) (c := c) (H := H) (locs := locs) (cells := kc) (slots := ks) (b := h) (As := []) (rest := st) (g := F0 m pc lsA (.ref h :: st))
    ⟨hx, hb, hml, hown, hts⟩ (hc l) ⟨⟨rfl, rfl, Nat.le_of_ble_eq_true rfl, by rw [hrl]; show 8 + (y2.2.2.1 + 11) + 31 * 9 ≤ 404; omega, pm_words hts m4, by rw [← m10]; exact List.mem_cons_self, by rw [← m10]; exact hts _ m4, hts _ m3, m6, lenOK m7, hts _ hl⟩, m9, hts _ m1⟩ ⟨n_blind N _ w, fun U hU hW => ⟨rfl, by rw [hU]; exact hP, hD, va_K.moved hW.alike hK, fun q hq => hA q (Nat.le_trans hS.1 (by rw [← hU]; exact hq)), hN.warm hW⟩⟩ rfl rfl hz rfl (lv_room hw) hd hf
  intro T hT X
  obtain ⟨v, st₀, t, T', L, h0, X', hLc, e1, e2, ⟨⟨ho, w', hq, hP', hD'⟩, hz2, hkp⟩, stp⟩ := hrun T hT X
  rw [h0] at hz2 hkp
  have hv : v = none := Outcome.returned.inj ho
  subst hv
  have hS1 : va_S N.2.2 s.heap T'.heap (locs ++ L) := by
    refine ⟨Nat.le_trans hS.1 (by rw [e1]; exact hz2), fun q h1 h2 => ?_, fun q hq => ?_⟩
    · rw [e1, hkp q (Nat.lt_of_lt_of_le h1 hS.1) h2]; exact hS.2.1 q h1 h2
    · rcases List.mem_append.mp hq with h | h
      · exact hS.2.2 q h
      · exact hLc q h
  obtain ⟨t2, a1, b1⟩ := kk w' T'.heap (locs ++ L) hq (by rw [e1]; exact hP') hD' hS1 T' rfl X'
  exact ⟨t2, stp t2 a1, b1⟩
theorem start_newa {l : Launch} {p : Program} {e : Env} {s : State} {m : MethodId} {below : List Frame} {meth : Method} {c : Code} {b pc kc ks n' : Nat} {n : Int32} {N : NC} {st : List Value} {w : va_W} {Z : State → Prop} {H : Heap} {locs : List Loc} {lsA : Array Slot}
    (hx : p.tables.exec = Jvm.exec) (hb : c.code = code) (hts : ∀ w ∈ tbg, w.before #[Value.ref b] s = true) (hK : va_K N.1 vwCl (n_tys N) s) (hA : ∀ q : Nat, s.heap.size ≤ q → N.2.2 q)
    (hP : va_P N.1 vwCl w H) (hD : va_D N.2.2 w) (hS : va_S N.2.2 s.heap H locs) (hn : ¬ n < 0) (hn' : n.toNatClampNeg = n') (hbb : n' * 4 ≤ 536870912) (hc : kc + 1 ≤ 600000) (hs : ks + n' ≤ 7302250) (hd : decode code pc = .ok (.newarray .int, 2))
    (kk : ∀ q H', va_P N.1 vwCl (w ++ [(q, .inl (N.2.1 0, n', .inl fun _ => 0))]) H' → va_D N.2.2 (w ++ [(q, .inl (N.2.1 0, n', .inl fun _ => 0))]) → va_S N.2.2 s.heap H' locs → W p l e room_1 s m #[Value.ref b] below meth c H' locs (kc + 1) (ks + n') Z (F0 m (pc + 2) lsA (.ref q :: st))) : W p l e room_1 s m #[Value.ref b] below meth c H locs kc ks Z (F0 m pc lsA (.int n :: st)) := by
  refine va_newa (atype := .int) (ty := .int) (a0 := (n', .inl fun _ => 0)) hx hb (hts _ wn_124) rfl hK hP hD hS hA (fun _ => rfl) hn hn' hbb hc hs hd (fun q cA H1 hK1 hP1 hD1 hS1 => ?_)
  have e1 : cA = N.2.1 0 := by
    have h1 := (hK1.2 (n_tys N).length (cA, .int) (by simp)).2
    exact ra_uniq h1 (hK.2 0 _ rfl).2
  subst e1
  exact kk q H1 hP1 hD1 hS1
set_option maxHeartbeats 4000000 in
set_option maxRecDepth 100000 in
/-- from the entry, for every script of at most 260 ints, the law comes to its end with true -/
theorem whole_start {p : Program} {e : Env} {s : State} {m : MethodId} {below : List Frame} {meth : Method} {c : Code} (l : Launch) (hflags : l.flags = flags0) {b L : Nat} {xs : Nat → Int32} (hL : L ≤ 260) (C0 : lw_At p s m meth c b L xs) : W p l e room_1 s m #[Value.ref b] below meth c s.heap [] 0 0 (lw_Z below #[Value.ref b] s) (entryFrame m ([Value.ref b] : List Value).toArray 18) := by
  obtain ⟨hx, hb, hr, hml, hown0, hts0, hX, hbl, hlocks, hgv⟩ := id C0
  have hown : s.vm.findClass RL = some m.cls := hown0
  have hts : ∀ w ∈ tbg, w.before #[Value.ref b] s = true := fun w hw => hts0 w (List.mem_filter.mp hw).1
  obtain ⟨c0, i0, k0⟩ := u_known (C := RX0) (T := TX0) (N := 16) (n := 16) hts uw_X0 (hts _ wn_201)
  obtain ⟨c1, i1, k1⟩ := u_known (C := RX1) (T := TX1) (N := 2) (n := 2) hts uw_X1 (hts _ wn_128)
  obtain ⟨c2, i2, k2⟩ := u_known (C := RX2) (T := TX2) (N := 13) (n := 13) hts uw_X2 (hts _ wn_142)
  obtain ⟨c3, i3, k3⟩ := u_known (C := RX3) (T := TX3) (N := 9) (n := 9) hts uw_X3 (hts _ wn_91)
  obtain ⟨c4, i4, k4⟩ := u_known (C := RX4) (T := TX4) (N := 2) (n := 2) hts uw_X4 (hts _ wn_188)
  obtain ⟨c5, i5, k5⟩ := u_known (C := RX5) (T := TX5) (N := 10) (n := 10) hts uw_X5 (hts _ wn_83)
  obtain ⟨dC, dI, hKc⟩ : ∃ (dC : Nat → ClassId) (dI : Nat → Nat → Nat), ∀ (k : Nat) (q : vw_C), vwCl[k]? = some q → u_Kn s q.1 q.2.1 q.2.2 (dC k) (dI k) := by
    refine ⟨fun k => if k = 0 then c0 else if k = 1 then c1 else if k = 2 then c2 else if k = 3 then c3 else if k = 4 then c4 else c5, fun k => if k = 0 then i0 else if k = 1 then i1 else if k = 2 then i2 else if k = 3 then i3 else if k = 4 then i4 else i5, ?_⟩
    intro k q hq
    match k, hq with
    | 0, hq => cases hq; exact k0
    | 1, hq => cases hq; exact k1
    | 2, hq => cases hq; exact k2
    | 3, hq => cases hq; exact k3
    | 4, hq => cases hq; exact k4
    | 5, hq => cases hq; exact k5
    | k + 6, hq => simp [vwCl] at hq
  obtain ⟨t0, a0, f0⟩ := arr_known (hts _ wn_124)
  obtain ⟨t1, a1, f1⟩ := arr_known (hts _ wn_125)
  obtain ⟨t2, a2, f2⟩ := arr_known (hts _ wn_140)
  obtain ⟨t3, a3, f3⟩ := arr_known (hts _ wn_255)
  have hover : va_AO "EchoTurns$Scene" s := va_AO.of (hts0 _ lt_126)
  obtain ⟨comp, t4, k4', g1, -, g3, g4, g5⟩ := Cond.arrayOver_spec hover
  obtain ⟨tc, hK⟩ : ∃ tc : Nat → ClassId, va_K (dC, dI) vwCl [(tc 0, .int), (tc 1, .boolean), (tc 2, .char), (tc 3, .long), (tc 4, .object "EchoTurns$Scene")] s := by
    refine ⟨fun k => if k = 0 then t0 else if k = 1 then t1 else if k = 2 then t2 else if k = 3 then t3 else t4, hKc, fun k q hq => ?_⟩
    match k, hq with
    | 0, hq => cases hq; exact ⟨a0, f0⟩
    | 1, hq => cases hq; exact ⟨a1, f1⟩
    | 2, hq => cases hq; exact ⟨a2, f2⟩
    | 3, hq => cases hq; exact ⟨a3, f3⟩
    | 4, hq => cases hq; exact ⟨fun N z => ⟨(fun k h => by cases h), k4', g3, comp, g4⟩, k4', comp, g3, g4, g1, g5⟩
    | k + 5, hq => simp at hq
  have hNn : n_N s := ⟨fun q hq => by
    have hq' : q = (RX5, 28, yX1_init, "EchoTurns") ∨ q = (RX5, 35, yX2_init, "EchoTurns") ∨ q = (RX5, 42, yX4_init, "EchoTurns") ∨ q = (RX5, 49, yX0_init, "EchoTurns") := by simpa [nwN] using hq
    rcases hq' with rfl | rfl | rfl | rfl
    · exact va_Nw.of rfl (hts0 _ lt_129)
    · exact va_Nw.of rfl (hts0 _ lt_143)
    · exact va_Nw.of rfl (hts0 _ lt_189)
    · exact va_Nw.of rfl (hts0 _ lt_202), hover⟩
  have hPn : pm_N s := fun q hq => by
    have hq' : q = (RX3, 75, yX5_isWithin, "EchoTurns") := by simpa [pmN] using hq
    subst hq'
    exact va_Nw.of rfl (hts0 _ lt_370)
  obtain ⟨N, hNe⟩ : ∃ N : NC, N = ((dC, dI), tc, fun q : Nat => s.heap.size ≤ q) := ⟨_, rfl⟩
  have hK : va_K N.1 vwCl (n_tys N) s := by rw [hNe]; exact hK
  have hA : ∀ q : Nat, s.heap.size ≤ q → N.2.2 q := by rw [hNe]; exact fun _ h => h
  have hA2 : ∀ q : Nat, N.2.2 q → s.heap.size ≤ q := by rw [hNe]; exact fun _ h => h
  have hS : va_S N.2.2 s.heap s.heap [] := va_S.rf
  have hP : va_P N.1 vwCl [] s.heap := fun k q h => by simp at h
  have hD : va_D N.2.2 [] := ⟨fun i j p q h => by simp at h, fun k q h => by simp at h⟩
  clear hNe
  have hl := lv_entry ([.ref b]) (n := 18) (Nat.le_of_ble_eq_true rfl)
  rw [lg_entry_eq]
  generalize (lg_sl ([.ref b]) ++ List.replicate (18 - (lg_sl ([.ref b])).length) Slot.unset).toArray = ls at hl ⊢
  have hl : lv_has ls 18 [(0, .ref b)] := hl
  refine va_new (ci := 5) (fs := [.null, .null, .null, .null, .null, .null, .null, .null, .int 0, .int 0]) (C := RX5) (T := TX5) (N := 10) hx hb hts uw_X5 tyX5 tyX5_ok hown (hts _ wn_82) (hts _ wn_83) (hts _ wn_iX5) hK hP hD hS hA rfl (by decide +kernel) (Nat.le_of_ble_eq_true rfl) (Nat.le_of_ble_eq_true rfl) dl_0 (fun h5 H1 hP1 hD1 hS1 => ?_)
  refine lv_dup hx hb dl_3 rfl ?_
  refine start_call (mc2 := 63) (ms2 := 4244) hx hb hml hown hts hK hNn hA mi_X5 wn_84 dl_4 (Nat.le_of_ble_eq_true rfl) ⟨Nat.le_of_ble_eq_true rfl, Nat.le_of_ble_eq_true rfl⟩ (nc_X5 h5) hP1 hD1 hS1 hl.1 (fun w2 H2 locs2 hQ2 hP2 hD2 hS2 => ?_)
  clear hP1 hD1 hS1
  obtain ⟨a, ha, hw2⟩ := hQ2
  subst ha
  rw [hw2] at hP2 hD2
  clear hw2
  refine lv_astore_n (lv' := [(1, .ref (a 0)), (0, .ref b)]) hx hb dl_7 rfl hl (by decide) rfl (fun ls hl => ?_)
  refine lv_bipush (v := 24) hx hb dl_8 (by decide +kernel) ?_
  refine start_newa (n' := 24) hx hb hts hK hA hP2 hD2 hS2 (by decide +kernel) (by decide +kernel) (by decide) (Nat.le_of_ble_eq_true rfl) (Nat.le_of_ble_eq_true rfl) dl_10 (fun q0 H3 hP3 hD3 hS3 => ?_)
  refine lv_astore_n (lv' := [(2, .ref q0), (1, .ref (a 0)), (0, .ref b)]) hx hb dl_12 rfl hl (by decide) rfl (fun ls hl => ?_)
  refine lv_bipush (v := 63) hx hb dl_13 (by decide +kernel) ?_
  refine start_newa (n' := 63) hx hb hts hK hA hP3 hD3 hS3 (by decide +kernel) (by decide +kernel) (by decide) (Nat.le_of_ble_eq_true rfl) (Nat.le_of_ble_eq_true rfl) dl_15 (fun q1 H4 hP4 hD4 hS4 => ?_)
  refine lv_astore_n (lv' := [(3, .ref q1), (2, .ref q0), (1, .ref (a 0)), (0, .ref b)]) hx hb dl_17 rfl hl (by decide) rfl (fun ls hl => ?_)
  refine lv_bipush (v := 9) hx hb dl_18 (by decide +kernel) ?_
  refine start_newa (n' := 9) hx hb hts hK hA hP4 hD4 hS4 (by decide +kernel) (by decide +kernel) (by decide) (Nat.le_of_ble_eq_true rfl) (Nat.le_of_ble_eq_true rfl) dl_20 (fun q2 H5 hP5 hD5 hS5 => ?_)
  refine lv_astore (lv' := [(4, .ref q2), (3, .ref q1), (2, .ref q0), (1, .ref (a 0)), (0, .ref b)]) hx hb dl_22 hl (by decide) rfl (fun ls hl => ?_)
  clear hP2 hD2 hS2 hP3 hD3 hS3 hP4 hD4 hS4
  have hP : va_P N.1 vwCl (cX5w N a ++ cLw N q0 q1 q2 (fun _ => 0)) H5 := hP5
  have hD : va_D N.2.2 (cX5w N a ++ cLw N q0 q1 q2 (fun _ => 0)) := hD5
  have e66 : ∀ f, (cX5w N a ++ cLw N q0 q1 q2 f)[66]? = some (q2, .inl (N.2.1 0, 9, .inl f)) := fun f => rfl
  have s66 : ∀ f g, (cX5w N a ++ cLw N q0 q1 q2 f).set 66 (q2, .inl (N.2.1 0, 9, .inl g)) = cX5w N a ++ cLw N q0 q1 q2 g := fun f g => rfl
  refine lv_aload hx hb dl_24 (lv_at hl 0 rfl) ?_
  refine lv_iconst (v := 0) hx hb dl_26 (by decide) ?_
  refine lv_bipush (v := 20) hx hb dl_27 (by decide +kernel) ?_
  refine va_iast hx hb hK hP hD hS5 66 0 (e66 _) rfl (vp_in_nI (n := 0) (by omega) (by omega)) dl_29 (fun H6 locs6 hP6 hD6 hS6 => ?_)
  rw [s66] at hP6 hD6
  refine lv_aload hx hb dl_30 (lv_at hl 0 rfl) ?_
  refine lv_iconst (v := 5) hx hb dl_32 (by decide) ?_
  refine lv_iconst (v := 1) hx hb dl_33 (by decide) ?_
  refine va_iast hx hb hK hP6 hD6 hS6 66 0 (e66 _) rfl (vp_in_nI (n := 5) (by omega) (by omega)) dl_34 (fun H7 locs7 hP7 hD7 hS7 => ?_)
  rw [s66] at hP7 hD7
  refine lv_aload hx hb dl_35 (lv_at hl 0 rfl) ?_
  refine lv_bipush (v := 7) hx hb dl_37 (by decide +kernel) ?_
  refine lv_iconst (v := 1) hx hb dl_39 (by decide) ?_
  refine va_iast hx hb hK hP7 hD7 hS7 66 0 (e66 _) rfl (vp_in_nI (n := 7) (by omega) (by omega)) dl_40 (fun H8 locs8 hP8 hD8 hS8 => ?_)
  rw [s66] at hP8 hD8
  refine lv_iconst (v := 0) hx hb dl_41 (by decide) ?_
  refine lv_istore (lv' := [(5, .int 0), (4, .ref q2), (3, .ref q1), (2, .ref q0), (1, .ref (a 0)), (0, .ref b)]) hx hb dl_42 hl (by decide) rfl (fun ls hl => ?_)
  have hP8 : va_P N.1 vwCl (cX5w N a ++ cLw N q0 q1 q2 (upd (upd (upd (fun _ => 0) 0 20) 5 1) 7 1)) H8 := hP8
  have hD8 : va_D N.2.2 (cX5w N a ++ cLw N q0 q1 q2 (upd (upd (upd (fun _ => 0) 0 20) 5 1) 7 1)) := hD8
  have e19 : (cX5w N a ++ cLw N q0 q1 q2 (upd (upd (upd (fun _ => 0) 0 20) 5 1) 7 1))[19]? = some (a 19, .inl (N.2.1 4, 4, .inr (.inr (.inr (.inr (va_up (va_up (va_up (va_up (fun _ => none) 0 (some (a 20))) 1 (some (a 26))) 2 (some (a 32))) 3 (some (a 38)))))))) := rfl
  have hP9 := hP8.refs (g := fun j => some (ad0 a [q0, q1, q2, b] (sP σ0 j))) e19 (fun j hj => by
    rcases (show j = 0 ∨ j = 1 ∨ j = 2 ∨ j = 3 by omega) with rfl | rfl | rfl | rfl <;> rfl)
  have hD9 := hD8.set (e := .inl (N.2.1 4, 4, .inr (.inr (.inr (.inr (fun j => some (ad0 a [q0, q1, q2, b] (sP σ0 j)))))))) e19
  rw [world0] at hP9 hD9
  have hpi : pm_inj (N.1, N.2.1, ad0 a [q0, q1, q2, b]) := fun i j hi hj e => hD9.1 i j _ _ (pm_get hi) (pm_get hj) e
  have hpa : ∀ k, k < 67 → s.heap.size ≤ ad0 a [q0, q1, q2, b] k := fun k hk => hA2 _ (hD9.2 k _ (pm_get (G := (N.1, N.2.1, ad0 a [q0, q1, q2, b])) hk))
  have hS9 : va_S (fun q : Nat => s.heap.size ≤ q) s.heap H8 locs8 := ⟨hS8.1, fun q h1 h2 => hS8.2.1 q h1 (fun z => h2 (hA2 q z)), fun q hq => hA2 _ (hS8.2.2 q hq)⟩
  refine lg_44 (X := (p, l, e, s, m, below, meth, c, b, (N.1, N.2.1, ad0 a [q0, q1, q2, b]))) (L := L) (xs := xs) ⟨⟨hx, hb, hr, hml, hown, hts, hlocks, hK, hpi, hPn⟩, hX, hbl, hpa, rfl, hL⟩ 24 0 rfl A0 σ0 ok0 lW0 H8 locs8 ls ⟨hP9, fit0⟩ hS9 ⟨hl.1, hl.2.1, rfl, fun i v hi hv => ?_⟩
  rcases i with _ | _ | _ | _ | _ | _ | i
  · cases hi; exact lv_at hl 5 rfl
  · cases hi; exact lv_at hl 4 rfl
  · cases hi; exact lv_at hl 3 rfl
  · cases hi; exact lv_at hl 2 rfl
  · cases hi; exact lv_at hl 1 rfl
  · cases hi; exact lv_at hl 0 rfl
  · have hm : v ∈ List.replicate 12 Value.null := List.mem_of_getElem? (i := i) hi
    exact absurd (List.eq_of_mem_replicate hm) hv
