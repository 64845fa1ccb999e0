/-! the law's cell: it reads the script alone -/
def cl_P (b L : Nat) (xs : Nat → Int32) (k : Int32) : Array Value → State → Prop := fun v U => v = #[.ref b, .int k] ∧ va_X b L xs U U.heap ∧ b < U.heap.size
def cl_Q : Array Value → State → Outcome → State → Prop := fun _ st o t => (∃ r : Int32, o = .returned (some (.int r)) ∧ t.heap = st.heap) ∧ va_F (fun _ => False) st t
theorem cl_blind (b L : Nat) (xs : Nat → Int32) (k : Int32) : FrameBlind (cl_P b L xs k) := by
  intro a U g mk ⟨h1, h2, h3⟩
  exact ⟨h1, va_X.moved (u := U) (U := U.calling g mk a) (Vm.Alike.refl U.vm) h2, h3⟩
theorem cell_met (l : Launch) {b L : Nat} {xs : Nat → Int32} {k : Int32} (hL : L ≤ 260) (hk : ¬ k < 0) : Met l yL_cell (wsz mL_cell) (rmz 1) (cl_P b L xs k) cl_Q 0 0 (fun _ => False) := by
  refine Met.ofW (cc := cL_cell) (maxL := 2) (ret := some .int) (by decide +kernel) rfl ?_
  intro p e s m args below meth c s₁ B hml hv
  obtain ⟨rfl, hX, hbl⟩ := hv
  have hts := atoms_spec (ws := wsz mL_cell) B.pre
  have hts2 : ∀ w ∈ tbg, w.before #[.ref b, .int k] s = true := fun w hw => hts w (List.mem_cons_of_mem _ hw)
  have hown : s.vm.findClass RL = some m.cls := findClass_of_methodNamed B.named
  have hlocks := B.notSynchronized
  have hx := B.exec
  have hb : c.code = cL_cell := B.bytes
  have hS : va_S (fun _ : Nat => False) s.heap s.heap [] := va_S.rf
  rw [show (#[Value.ref b, Value.int k] : Array Value) = ([Value.ref b, Value.int k] : List Value).toArray from rfl, lg_entry_eq]
  have hl := lv_entry ([.ref b, .int k]) (n := 2) (Nat.le_of_ble_eq_true rfl)
  generalize (lg_sl ([.ref b, .int k]) ++ List.replicate (2 - (lg_sl ([.ref b, .int k])).length) Slot.unset).toArray = ls at hl ⊢
  have hl : lv_has ls 2 [(0, .ref b), (1, .int k)] := hl
  have hend : ∀ r : Int32, W p l e (rmz 1) s m #[.ref b, .int k] below meth c s.heap [] 0 0 (MQ below cl_Q #[.ref b, .int k] s 0 0 (fun _ => False)) (F0 m 19 ls [.int r]) :=
    fun r => W.iret hx hb B.returns (fun t ht _ => ⟨⟨r, rfl, ht⟩, hS.F ht⟩) hS.2.2 dL_cell_19
  obtain ⟨kk, hk1, rfl⟩ := nI_of hk
  refine lv_iload_n hx hb dL_cell_0 rfl (lv_at hl 1 rfl) ?_
  refine lv_aload_n hx hb dL_cell_1 rfl (lv_at hl 0 rfl) ?_
  refine va_slen hx hb hX hbl (fun z => z) hS dL_cell_2 ?_
  refine lv_icmp_ge (tgt := 12) hx hb dL_cell_3 (by decide) (fun _ => ?_) (fun z => ?_)
  · refine lv_ldc hx hb hown (hts2 _ wk_L_7) dL_cell_12 ?_
    refine lv_iload_n hx hb dL_cell_14 rfl (lv_at hl 1 rfl) ?_
    refine lv_imul hx hb dL_cell_15 ?_
    refine lv_ldc hx hb hown (hts2 _ wk_L_8) dL_cell_16 ?_
    refine lv_iadd hx hb dL_cell_18 ?_
    exact hend _
  · have hlt : kk < L := by
      rw [show Int32.ofNat L = nI L from rfl, nI_leI (by omega) (by omega)] at z
      omega
    refine lv_aload_n hx hb dL_cell_6 rfl (lv_at hl 0 rfl) ?_
    refine lv_iload_n hx hb dL_cell_7 rfl (lv_at hl 1 rfl) ?_
    refine va_sld hx hb hX hbl (fun z => z) hS (vp_in_nI hlt (by omega)) dL_cell_8 ?_
    refine lv_goto (tgt := 19) hx hb dL_cell_9 (by decide) ?_
    exact hend _
section LGCELL
variable {X : LX} {L : Nat} {xs : Nat → Int32} {pc idx : Nat} {ls st : List Value} {σ : St}
theorem LGo.cell {k : Int32} (F : LF X L xs) (hl : Cond.methodLink mL_law.1.cls idx yL_cell ∈ tbg) (hk : ¬ k < 0) (hw : (st.map fun v => v.category).sum ≤ 8) (hd : decode mL_law.2.1 pc = .ok (.invokestatic idx, 3))
    (kk : ∀ r : Int32, LGo X (pc + 3) ls (.int r :: st) σ) : LGo X pc ls (.int k :: .ref 67 :: st) σ := by
  obtain ⟨p, l, e, s, m, below, meth, c, b0, G⟩ := X
  obtain ⟨hx, hb, hret, hml, hown, hts, hlocks, hK, hinj, hN⟩ := id F.1
  obtain ⟨-, hX, hbl, hA, h67, hL⟩ := id F
  intro H locs lsA hH hS hL2
  obtain ⟨m1, m3, m4, m6, m7, m8⟩ := mk_L_cell
  have hrl : room_1.locals = 404 := rfl
  have hCB : CallB room_1 s #[Value.ref b0] mL_law.1.cls idx yL_cell cL_cell 2 (some .int) (wsz mL_cell) (rmz 1) 0 0 2 ∧ (Cond.static yL_cell).before #[Value.ref b0] s = true :=
    ⟨⟨rfl, rfl, Nat.le_of_ble_eq_true rfl, by rw [hrl]; show 8 + (2 + 11) + 31 * 1 ≤ 404; omega, pm_words hts m4, List.mem_cons_self, hts _ m4, hts _ m3, m6, lenOK m7, hts _ hl⟩, hts _ m1⟩
  have hrun := va_runS (p := p) (l := l) (e := e) (R := room_1) (s := s) (m := m) (args := #[Value.ref b0]) (below := below) (meth := meth) (c := c) (H := H) (locs := locs) (cells := 67) (slots := 4350) (As := [.ref b0, .int k]) (rest := st.map (ptr G.2.2)) (g := F0 m pc lsA ((Value.int k :: Value.ref 67 :: st).map (ptr G.2.2)))
    ⟨hx, hb, hml, hown, hts⟩ (cell_met l (b := b0) (L := L) (xs := xs) hL hk) hCB ⟨cl_blind b0 L xs k, fun U hU hW => ⟨rfl, by rw [hU]; exact va_X.moved hW.alike (hX.kept (hS.2.1 b0 hbl (Nat.not_le.mpr hbl))), by rw [hU]; exact Nat.lt_of_lt_of_le hbl hS.1⟩⟩ rfl rfl hL2.1 (by simp [ptr, h67]) (lv_room (by rw [ptr_cats]; exact hw)) hd ⟨Nat.le_of_ble_eq_true rfl, Nat.le_of_ble_eq_true rfl⟩
  intro T hT X0
  obtain ⟨v, st₀, t, T', L1, h0, X', hLc, e1, e2, ⟨⟨r, ho, hq2⟩, hz, hkp⟩, stp⟩ := hrun T hT X0
  have hH2 : T'.heap = H := by rw [e1, hq2, h0]
  have hv : v = some (.int r) := Outcome.returned.inj ho
  subst hv
  obtain ⟨t2, a1, b1⟩ := kk r T'.heap (locs ++ L1) lsA (by rw [hH2]; exact hH) (by
    rw [hH2]
    refine ⟨hS.1, hS.2.1, fun q hq => ?_⟩
    rcases List.mem_append.mp hq with h | h
    · exact hS.2.2 q h
    · exact (hLc q h).elim) hL2 T' rfl X'
  exact ⟨t2, stp t2 a1, b1⟩
end LGCELL
