/-! calls, switches, copies, entries -/
theorem wsAll : ∀ w ∈ tbg, (w.onTables && w.keeps) = true ∨ ∃ ty, w = .arrayClass ty := fun _ hw => good_of_word (List.mem_filter.mp hw).2
def mOKV (y : MI) (ci n : Nat) : Prop := Cond.instanceMethod y.1 ∈ tbg ∧ Cond.selects y.1.cls y.1 y.1 ∈ tbg ∧ Cond.initialized y.1.cls ∈ tbg ∧ Cond.code y.1 y.2.1 y.2.2.1 y.2.2.2 ∈ tbg ∧ (∃ q, vwCl[ci]? = some q ∧ q.1 = y.1.cls) ∧ (y.1.cls ≠ "java/lang/invoke/MethodHandle" ∧ y.1.cls ≠ "java/lang/invoke/VarHandle") ∧ (parseMethodDescriptor y.1.desc).map (fun d => d.parameters.length) = some n ∧ y.2.2.1 ≤ 12
def mOKS (y : MI) (n : Nat) : Prop := Cond.static y.1 ∈ tbg ∧ Cond.initialized y.1.cls ∈ tbg ∧ Cond.code y.1 y.2.1 y.2.2.1 y.2.2.2 ∈ tbg ∧ (y.1.cls ≠ "java/lang/invoke/MethodHandle" ∧ y.1.cls ≠ "java/lang/invoke/VarHandle") ∧ (parseMethodDescriptor y.1.desc).map (fun d => d.parameters.length) = some n ∧ y.2.2.1 ≤ 12
theorem pm_blind (G : GC) (as : List Value) (σ : St) : FrameBlind (pm_P G as σ) := by
  intro a U g mk ⟨h1, h2, h3, h4, h5⟩
  exact ⟨h1, h2, va_K.moved (u := U) (U := U.calling g mk a) (Vm.Alike.refl U.vm) h3, h4, fun q hq => va_Nw.same rfl rfl (h5 q hq)⟩
theorem pm_words {y : MI} {args : Array Value} {s : State} (hts : ∀ w ∈ tbg, w.before args s = true) (hc : Cond.code y.1 y.2.1 y.2.2.1 y.2.2.2 ∈ tbg) : ∀ w ∈ wsz y, ∀ (a' : Array Value) (U : State), s.WarmedH U.vm → w.before a' U = true := by
  intro w hw a' U hW
  have hm : w ∈ tbg := by
    rcases List.mem_cons.mp hw with rfl | h
    · exact hc
    · exact h
  exact word_at hW (wsAll w hm) (hts w hm)
theorem lenOK {desc : String} {n : Nat} (h : (parseMethodDescriptor desc).map (fun d => d.parameters.length) = some n) : ∀ sig, parseMethodDescriptor desc = some sig → n = sig.parameters.length := by
  intro sig hs
  rw [hs] at h
  exact (Option.some.inj h).symm
theorem rm_le {m d : Nat} (h : m ≤ 12) : (rmz d).frames + 1 ≤ (rmz (d + 1)).frames ∧ 8 + (m + 11) + (rmz d).locals ≤ (rmz (d + 1)).locals := by
  refine ⟨Nat.le_refl _, ?_⟩
  show 8 + (m + 11) + 31 * d ≤ 31 * (d + 1)
  omega
section CALLS
variable {y y2 : MI} {d pc idx : Nat} {ls st : List Value} {σ : St} {Q Q2 : Option Value → St → Prop}
/-- behind a call -/
theorem pm_back {l : Launch} {G : GC} {p : Program} {e : Env} {s : State} {m : MethodId} {args : Array Value} {below : List Frame} {meth : Method} {c : Code} {H : Heap} {locs : List Loc} {lsA : Array Slot} {st0 : List Value} {a2 : Array Value}
    (hr : va_Run p l e (rmz (d + 1)) s m args below meth c H locs 0 0 0 0 (F0 m pc lsA st0) (st.map (ptr G.2.2)) (pm_Q G Q2 a2) (pm_A G))
    (R : pm_run y G p s m args meth c) (hS : va_S (pm_A G) s.heap H locs) (hL : pm_L G.2.2 lsA y.2.2.1 ls)
    (hk : ∀ r σ', Q2 r σ' → Go y (d + 1) (pc + 3) ls (r.toList ++ st) σ' Q) :
    W p l e (rmz (d + 1)) s m args below meth c H locs 0 0 (MQ below (pm_Q G Q) args s 0 0 (pm_A G)) (F0 m pc lsA st0) := by
  intro T hT X
  obtain ⟨v, st₀, t, T', L, h0, X', hLc, e1, e2, ⟨⟨r, σ', ho, hq, hH'⟩, hz, hkp⟩, stp⟩ := hr T hT X
  rw [h0] at hz hkp
  have hv : v = r.map (ptr G.2.2) := Outcome.returned.inj ho
  subst hv
  have hS1 : va_S (pm_A G) s.heap T'.heap (locs ++ L) := by
    refine ⟨Nat.le_trans hS.1 (by rw [e1]; exact hz), fun q h1 h2 => ?_, fun q hq => ?_⟩
    · rw [e1, hkp q (Nat.lt_of_lt_of_le h1 hS.1) h2]; exact hS.2.1 q h1 h2
    · rcases List.mem_append.mp hq with h | h
      · exact hS.2.2 q h
      · exact hLc q h
  have key := hk r σ' hq l G p e s m args below meth c T'.heap (locs ++ L) lsA R (by rw [e1]; exact hH') hS1 hL
  have hst : (r.toList ++ st).map (ptr G.2.2) = (r.map (ptr G.2.2)).toList ++ st.map (ptr G.2.2) := by cases r <;> rfl
  rw [hst] at key
  obtain ⟨t2, a1, b1⟩ := key T' rfl X'
  exact ⟨t2, stp t2 a1, b1⟩
theorem Go.callV {a ci n N : Nat} {as : List Value} {st0 : List Value} (hm : mOKV y2 ci n) (hl : Cond.methodLink y.1.cls idx y2.1 ∈ tbg) (hs : shp[a]? = some (0, ci, N)) (hst : st0 = as.reverse ++ .ref a :: st) (hn : as.length = n) (hw : (st.map fun v => v.category).sum ≤ 8) (hd : decode y.2.1 pc = .ok (.invokevirtual idx, 3))
    (hc : Call d y2 (.ref a :: as) σ Q2) (hk : ∀ r σ', Q2 r σ' → Go y (d + 1) (pc + 3) ls (r.toList ++ st) σ' Q) : Go y (d + 1) pc ls st0 σ Q := by
  subst hst
  intro l G p e s m args below meth c H locs lsA R hH hS hL
  obtain ⟨hx, hb, hret, hml, hown, hts, hlocks, hK, hinj, hN⟩ := id R
  obtain ⟨m1, m2, m3, m4, ⟨q, hq, hqc⟩, m6, m7, m8⟩ := hm
  have hrv := va_recv hK hH.1 hq (pm_obj hs)
  rw [hqc] at hrv
  have hCW : CallW (rmz (d + 1)) s args y.1.cls y2.1.cls idx y2.1 y2.2.1 y2.2.2.1 y2.2.2.2 (wsz y2) (rmz d) 0 0 n :=
    ⟨⟨rfl, rfl, (rm_le m8).1, (rm_le m8).2, pm_words hts m4, List.mem_cons_self, hts _ m4, hts _ m3, m6, lenOK m7, hts _ hl⟩, hts _ m1, hts _ m2⟩
  have hrun := va_runV (p := p) (l := l) (e := e) (R := rmz (d + 1)) (s := s) (m := m) (args := args) (below := below) (meth := meth) (c := c) (H := H) (locs := locs) (cells := 0) (slots := 0) (b := G.2.2 a) (As := as.map (ptr G.2.2)) (rest := st.map (ptr G.2.2)) (g := F0 m pc lsA ((as.reverse ++ .ref a :: st).map (ptr G.2.2)))
    ⟨hx, hb, hml, hown, hts⟩ (hc l G) hCW ⟨pm_blind G _ σ, hrv, fun U hU hW => ⟨rfl, by rw [hU]; exact hH, va_K.moved hW.alike hK, hinj, pm_N.warm hW hN⟩⟩ rfl (by rw [List.length_map]; exact hn) hL.1 (by simp [ptr]) (lv_room (by rw [ptr_cats]; exact hw)) hd ⟨Nat.le_refl _, Nat.le_refl _⟩
  exact pm_back hrun R hS hL hk
theorem Go.callS {n : Nat} {as : List Value} {st0 : List Value} (hm : mOKS y2 n) (hl : Cond.methodLink y.1.cls idx y2.1 ∈ tbg) (hst : st0 = as.reverse ++ st) (hn : as.length = n) (hw : (st.map fun v => v.category).sum ≤ 8) (hd : decode y.2.1 pc = .ok (.invokestatic idx, 3))
    (hc : Call d y2 as σ Q2) (hk : ∀ r σ', Q2 r σ' → Go y (d + 1) (pc + 3) ls (r.toList ++ st) σ' Q) : Go y (d + 1) pc ls st0 σ Q := by
  subst hst
  intro l G p e s m args below meth c H locs lsA R hH hS hL
  obtain ⟨hx, hb, hret, hml, hown, hts, hlocks, hK, hinj, hN⟩ := id R
  obtain ⟨m1, m3, m4, m6, m7, m8⟩ := hm
  have hCB : CallB (rmz (d + 1)) s args y.1.cls idx y2.1 y2.2.1 y2.2.2.1 y2.2.2.2 (wsz y2) (rmz d) 0 0 n ∧ (Cond.static y2.1).before args s = true :=
    ⟨⟨rfl, rfl, (rm_le m8).1, (rm_le m8).2, pm_words hts m4, List.mem_cons_self, hts _ m4, hts _ m3, m6, lenOK m7, hts _ hl⟩, hts _ m1⟩
  have hrun := va_runS (p := p) (l := l) (e := e) (R := rmz (d + 1)) (s := s) (m := m) (args := args) (below := below) (meth := meth) (c := c) (H := H) (locs := locs) (cells := 0) (slots := 0) (As := as.map (ptr G.2.2)) (rest := st.map (ptr G.2.2)) (g := F0 m pc lsA ((as.reverse ++ st).map (ptr G.2.2)))
    ⟨hx, hb, hml, hown, hts⟩ (hc l G) hCB ⟨pm_blind G _ σ, fun U hU hW => ⟨rfl, by rw [hU]; exact hH, va_K.moved hW.alike hK, hinj, pm_N.warm hW hN⟩⟩ rfl (by rw [List.length_map]; exact hn) hL.1 (by simp) (lv_room (by rw [ptr_cats]; exact hw)) hd ⟨Nat.le_refl _, Nat.le_refl _⟩
  exact pm_back hrun R hS hL hk
theorem Go.callSN {n : Nat} {host : String} {as : List Value} {st0 : List Value} (hm : mOKS y2 n) (hl : (y.1.cls, idx, y2.1, host) ∈ pmN) (hst : st0 = as.reverse ++ st) (hn : as.length = n) (hw : (st.map fun v => v.category).sum ≤ 8) (hd : decode y.2.1 pc = .ok (.invokestatic idx, 3))
    (hc : Call d y2 as σ Q2) (hk : ∀ r σ', Q2 r σ' → Go y (d + 1) (pc + 3) ls (r.toList ++ st) σ' Q) : Go y (d + 1) pc ls st0 σ Q := by
  subst hst
  intro l G p e s m args below meth c H locs lsA R hH hS hL
  obtain ⟨hx, hb, hret, hml, hown, hts, hlocks, hK, hinj, hN⟩ := id R
  obtain ⟨m1, m3, m4, m6, m7, m8⟩ := hm
  have hCB : va_CN (rmz (d + 1)) s args y.1.cls idx y2.1 host y2.2.1 y2.2.2.1 y2.2.2.2 (wsz y2) (rmz d) 0 0 n ∧ (Cond.static y2.1).before args s = true ∧ True :=
    ⟨⟨⟨rfl, rfl, (rm_le m8).1, (rm_le m8).2, pm_words hts m4, List.mem_cons_self⟩, hts _ m4, hts _ m3, m6, lenOK m7, va_Nw.use rfl (hN _ hl)⟩, hts _ m1, trivial⟩
  have hrun := va_runSN (p := p) (l := l) (e := e) (R := rmz (d + 1)) (s := s) (m := m) (args := args) (below := below) (meth := meth) (c := c) (H := H) (locs := locs) (cells := 0) (slots := 0) (As := as.map (ptr G.2.2)) (rest := st.map (ptr G.2.2)) (g := F0 m pc lsA ((as.reverse ++ st).map (ptr G.2.2)))
    ⟨hx, hb, hml, hown, hts⟩ (hc l G) hCB ⟨pm_blind G _ σ, fun U hU hW => ⟨rfl, by rw [hU]; exact hH, va_K.moved hW.alike hK, hinj, pm_N.warm hW hN⟩⟩ rfl (by rw [List.length_map]; exact hn) hL.1 (by simp) (lv_room (by rw [ptr_cats]; exact hw)) hd ⟨Nat.le_refl _, Nat.le_refl _⟩
  exact pm_back hrun R hS hL hk
end CALLS
theorem flatMap_len (ad : Nat → Nat) (as : List Value) : (as.flatMap (fun v => if v.category = 2 then [v, Value.null] else [v])).length = (lg_sl (as.map (ptr ad))).length := by
  induction as with
  | nil => rfl
  | cons v vs ih =>
    have e1 : lg_sl ((v :: vs).map (ptr ad)) = (if (ptr ad v).category = 2 then [Slot.val (ptr ad v), Slot.second] else [Slot.val (ptr ad v)]) ++ lg_sl (vs.map (ptr ad)) := rfl
    rw [e1, List.flatMap_cons, List.length_append, List.length_append, ih, ptr_cat]
    by_cases h : v.category = 2 <;> simp [h]
theorem ent_at1 (ad : Nat → Nat) (as : List Value) : ∀ (i : Nat) (v : Value), (as.flatMap (fun v => if v.category = 2 then [v, Value.null] else [v]))[i]? = some v → v ≠ .null → (lg_sl (as.map (ptr ad)))[i]? = some (.val (ptr ad v)) := by
  induction as with
  | nil => intro i v h; simp at h
  | cons w ws ih =>
    intro i v h hn
    have e1 : lg_sl ((w :: ws).map (ptr ad)) = (if (ptr ad w).category = 2 then [Slot.val (ptr ad w), Slot.second] else [Slot.val (ptr ad w)]) ++ lg_sl (ws.map (ptr ad)) := rfl
    rw [e1, ptr_cat]
    rw [List.flatMap_cons] at h
    by_cases hc : w.category = 2
    · rw [if_pos hc] at h ⊢
      match i, h with
      | 0, h => simp at h; subst h; rfl
      | 1, h => simp at h; exact absurd h.symm hn
      | j + 2, h => exact ih j v (by simpa using h) hn
    · rw [if_neg hc] at h ⊢
      match i, h with
      | 0, h => simp at h; subst h; rfl
      | j + 1, h => exact ih j v (by simpa using h) hn
theorem Call_of_Go {y : MI} {d : Nat} {as ls : List Value} {σ : St} {Q : Option Value → St → Prop} (hy : plainName y.1.cls = true) (hls : ent as y.2.2.1 = ls) (hlen : (as.flatMap (fun v => if v.category = 2 then [v, Value.null] else [v])).length ≤ y.2.2.1) (h : Go y d 0 ls [] σ Q) : Call d y as σ Q := by
  intro l G
  refine Met.ofW (cc := y.2.1) (maxL := y.2.2.1) (ret := y.2.2.2) hy rfl ?_
  intro p e s m args below meth c s₁ B hml hv
  obtain ⟨rfl, hH, hK, hinj, hN⟩ := hv
  have hts := atoms_spec (ws := wsz y) B.pre
  have hown : s.vm.findClass y.1.cls = some m.cls := findClass_of_methodNamed B.named
  rw [lg_entry_eq]
  have hlen2 : (lg_sl (as.map (ptr G.2.2))).length ≤ y.2.2.1 := by rw [← flatMap_len]; exact hlen
  have hl := lv_entry (as.map (ptr G.2.2)) (n := y.2.2.1) hlen2
  refine h l G p e s m _ below meth c s.heap [] _ ⟨B.exec, B.bytes, B.returns, hml, hown, fun w hw => hts w (List.mem_cons_of_mem _ hw), B.notSynchronized, hK, hinj, hN⟩ hH va_S.rf ⟨hl.1, hl.2.1, ?_, ?_⟩
  · rw [← hls]
    unfold ent
    rw [List.length_append, List.length_replicate]
    omega
  · intro i v hi hn
    rw [← hls] at hi
    unfold ent at hi
    rw [List.getElem?_toArray]
    rcases Nat.lt_or_ge i (as.flatMap (fun v : Value => if v.category = 2 then [v, Value.null] else [v])).length with hlt | hge
    · rw [List.getElem?_append_left hlt] at hi
      rw [List.getElem?_append_left (by rw [← flatMap_len]; exact hlt)]
      exact ent_at1 G.2.2 as i v hi hn
    · rw [List.getElem?_append_right hge] at hi
      exact absurd (List.eq_of_mem_replicate (List.mem_of_getElem? hi)) hn
/-- less is known of the locals -/
theorem Go.weak {y : MI} {d pc : Nat} {ls ls' st : List Value} {σ : St} {Q : Option Value → St → Prop} (hlen : ls'.length = ls.length) (h : ∀ (i : Nat) (v : Value), ls'[i]? = some v → v ≠ .null → ls[i]? = some v) (k : Go y d pc ls' st σ Q) : Go y d pc ls st σ Q :=
  fun l G p e s m args below meth c H locs lsA R hH hS hL => k l G p e s m args below meth c H locs lsA R hH hS ⟨hL.1, hL.2.1, hlen.trans hL.2.2.1, fun i v hi hn => hL.2.2.2 i v (h i v hi hn) hn⟩
/-- forget places of the locals -/
theorem Go.drop {y : MI} {d pc : Nat} {ls ls' st : List Value} {σ : St} {Q : Option Value → St → Prop} (j : Nat) (h : ls.set j .null = ls') (k : Go y d pc ls' st σ Q) : Go y d pc ls st σ Q := by
  subst h
  refine Go.weak (by simp) (fun i v hi hn => ?_) k
  rcases Nat.decEq i j with hne | rfl
  · rw [List.getElem?_set_ne (fun z => hne z.symm)] at hi
    exact hi
  · rw [List.getElem?_set] at hi
    split at hi
    · split at hi
      · cases hi; exact absurd rfl hn
      · cases hi
    · exact hi
def casesG (x : Int32) (cs : List (Int32 × Nat)) (dt : Nat) (P : Nat → Prop) : Prop := match cs with
  | [] => P dt
  | (v, t) :: r => (x = v → P t) ∧ (¬ x = v → casesG x r dt P)
theorem casesG_hit {x : Int32} {dt t : Nat} {P : Nat → Prop} : ∀ (cs : List (Int32 × Nat)) (j : Nat), cs[j]? = some (x, t) → (∀ (i : Nat) (q : Int32 × Nat), i < j → cs[i]? = some q → ¬ x = q.1) → casesG x cs dt P → P t := by
  intro cs
  induction cs with
  | nil => intro j h; simp at h
  | cons q r ih =>
    intro j h hn k
    obtain ⟨v, t0⟩ := q
    match j, h with
    | 0, h => simp at h; obtain ⟨rfl, rfl⟩ := h; exact k.1 rfl
    | j + 1, h => exact ih j (by simpa using h) (fun i q hi hq => hn (i + 1) q (by omega) (by simpa using hq)) (k.2 (hn 0 (v, t0) (by omega) rfl))
theorem casesG_out {x : Int32} {dt : Nat} {P : Nat → Prop} : ∀ (cs : List (Int32 × Nat)), (∀ q ∈ cs, ¬ x = q.1) → casesG x cs dt P → P dt := by
  intro cs
  induction cs with
  | nil => intro _ k; exact k
  | cons q r ih =>
    intro hn k
    exact ih (fun q hq => hn q (List.mem_cons_of_mem _ hq)) (k.2 (hn q List.mem_cons_self))
def tswOK (pc : Nat) (dflt lo hi : Int) (offs : Array Int) (cs : List (Int32 × Nat)) (dt : Nat) : Bool :=
  decide ((pc : Int) + dflt = (dt : Int)) && decide (hi - lo + 1 = (cs.length : Int)) && decide (offs.size = cs.length) &&
  (List.range cs.length).all (fun j => match cs[j]?, offs[j]? with
    | some (v, t), some off => decide (v.toInt = lo + (j : Int)) && decide ((pc : Int) + off = (t : Int))
    | _, _ => false)
theorem Go.tsw {y : MI} {d pc : Nat} {ls st : List Value} {σ : St} {Q : Option Value → St → Prop} {x : Int32} {dflt lo hi : Int} {offs : Array Int} {len : Nat} (cs : List (Int32 × Nat)) (dt : Nat) (hd : decode y.2.1 pc = .ok (.tableswitch dflt lo hi offs, len)) (hok : tswOK pc dflt lo hi offs cs dt = true) (k : casesG x cs dt (fun t => Go y d t ls st σ Q)) : Go y d pc ls (.int x :: st) σ Q := by
  intro l G p e s m args below meth c H locs lsA R hH hS hL
  unfold tswOK at hok
  simp only [Bool.and_eq_true, decide_eq_true_eq] at hok
  obtain ⟨⟨⟨h1, h2⟩, h3⟩, h4⟩ := hok
  have hrow : ∀ (j : Nat) (q : Int32 × Nat), cs[j]? = some q → q.1.toInt = lo + (j : Int) ∧ ∃ off, offs[j]? = some off ∧ (pc : Int) + off = (q.2 : Int) := by
    intro j q hq
    have hj : j < cs.length := (List.getElem?_eq_some_iff.mp hq).1
    have h5 := List.all_eq_true.mp h4 j (List.mem_range.mpr hj)
    obtain ⟨off, ho⟩ : ∃ off, offs[j]? = some off := ⟨offs[j]'(by omega), by simp⟩
    rw [hq, ho] at h5
    simp only [Bool.and_eq_true, decide_eq_true_eq] at h5
    exact ⟨h5.1, off, ho, h5.2⟩
  by_cases hout : x.toInt < lo ∨ hi < x.toInt
  · refine lv_tableOut R.1 R.2.1 hd hout h1 ?_
    refine (casesG_out (P := fun t => Go y d t ls st σ Q) cs (fun q hq hx => ?_) k) l G p e s m args below meth c H locs lsA R hH hS hL
    obtain ⟨j, hj⟩ := List.getElem?_of_mem hq
    have h6 := (hrow j q hj).1
    have hjl : j < cs.length := (List.getElem?_eq_some_iff.mp hj).1
    rw [← hx] at h6
    omega
  · have hx1 : ¬ x.toInt < lo := fun h => hout (Or.inl h)
    have hx2 : ¬ hi < x.toInt := fun h => hout (Or.inr h)
    obtain ⟨j, hj⟩ : ∃ j : Nat, x.toInt = lo + (j : Int) := ⟨(x.toInt - lo).toNat, by omega⟩
    have hjl : j < cs.length := by omega
    obtain ⟨q, hq⟩ : ∃ q, cs[j]? = some q := ⟨cs[j], by simp [hjl]⟩
    obtain ⟨h6, off, ho, ht⟩ := hrow j q hq
    have hxq : x = q.1 := Int32.toInt_inj.mp (by omega)
    refine lv_tableIn R.1 R.2.1 hd hx1 hx2 (off := off) (tgt := q.2) (by rw [hj, show (lo + (j : Int) - lo).toNat = j by omega]; exact ho) ht ?_
    refine (casesG_hit (P := fun t => Go y d t ls st σ Q) (t := q.2) cs j (by rw [hq, hxq]) (fun i q2 hi hq2 hx3 => ?_) k) l G p e s m args below meth c H locs lsA R hH hS hL
    have h7 := (hrow i q2 hq2).1
    rw [← hx3] at h7
    omega
theorem Go.lsw {y : MI} {d pc : Nat} {ls st : List Value} {σ : St} {Q : Option Value → St → Prop} {x : Int32} {dflt : Int} {ps : Array (Int × Int)} {len : Nat} (cs : List (Int32 × Nat)) (dt : Nat) (hd : decode y.2.1 pc = .ok (.lookupswitch dflt ps, len)) (hp : (ps.toList.zip (ps.toList.drop 1)).all (fun (a, next) => a.1 < next.1) = true) (hdt : (pc : Int) + dflt = (dt : Int)) (hok : ps.toList = cs.map (fun q => (q.1.toInt, (q.2 : Int) - (pc : Int)))) (k : casesG x cs dt (fun t => Go y d t ls st σ Q)) : Go y d pc ls (.int x :: st) σ Q := by
  intro l G p e s m args below meth c H locs lsA R hH hS hL
  have key : ∀ (cs : List (Int32 × Nat)), casesG x cs dt (fun t => Go y d t ls st σ Q) → ∃ t : Nat, Op.lookupswitch.offset (cs.map (fun q => (q.1.toInt, (q.2 : Int) - (pc : Int)))) dflt x.toInt = (t : Int) - (pc : Int) ∧ Go y d t ls st σ Q := by
    intro cs
    induction cs with
    | nil => intro k; exact ⟨dt, by rw [List.map_nil, Op.lookupswitch.offset_nil]; omega, k⟩
    | cons q r ih =>
      intro k
      rw [List.map_cons, Op.lookupswitch.offset_cons]
      by_cases h : q.1.toInt = x.toInt
      · rw [if_pos h]
        exact ⟨q.2, rfl, k.1 (Int32.toInt_inj.mp h).symm⟩
      · rw [if_neg h]
        exact ih (k.2 (fun z => h (by rw [z])))
  obtain ⟨t, h1, h2⟩ := key cs k
  refine lv_lookup R.1 R.2.1 hd hp (off := (t : Int) - (pc : Int)) (tgt := t) (by rw [hok]; exact h1) (by omega) ?_
  exact h2 l G p e s m args below meth c H locs lsA R hH hS hL
theorem vp_in_lt {i : Int32} {n : Nat} (h : vp_in i n) : ix i < n := Nat.not_le.mp fun q => h (Or.inr q)
theorem Go.acopy {y : MI} {d pc idx : Nat} {ls st : List Value} {σ : St} {Q : Option Value → St → Prop} {q0 q1 t n0 n1 : Nat} {sp dp n : Int32} (hs0 : shp[q0]? = some (1, t, n0)) (hs1 : shp[q1]? = some (1, t, n1)) (ht : t < 2) (hl : Cond.methodLink y.1.cls idx arraycopyName ∈ tbg) (hnat : Cond.native arraycopyName ∈ tbg) (hstat : Cond.static arraycopyName ∈ tbg) (hini : Cond.initialized "java/lang/System" ∈ tbg)
    (h1 : ¬ sp < 0) (h2 : ¬ dp < 0) (h3 : ¬ n < 0) (h4 : ix sp + ix n ≤ n0) (h5 : ix dp + ix n ≤ n1) (hw : (st.map fun v => v.category).sum ≤ 8) (hd : decode y.2.1 pc = .ok (.invokestatic idx, 3))
    (kk : Go y (d + 1) (pc + 3) ls st (setR σ q1 (va_cpy (sA σ q0) (sA σ q1) (ix sp) (ix dp) (ix n))) Q) : Go y (d + 1) pc ls (.int n :: .int dp :: .ref q1 :: .int sp :: .ref q0 :: st) σ Q := by
  intro l G p e s m args below meth c H locs lsA R hH hS hL
  obtain ⟨hx, hb, hret, hml, hown, hts, hlocks, hK, hinj, hN⟩ := id R
  have hfr : 1 ≤ (rmz (d + 1)).frames := by show 1 ≤ d + 1; omega
  have hlo : ((st.map (ptr G.2.2)).map fun v => v.category).sum + (nativeFrameWords "java/lang/System" "arraycopy" 5 + 11) ≤ (rmz (d + 1)).locals := by
    rw [ptr_cats]
    show _ + (5 + 2 + 11) ≤ 31 * (d + 1)
    omega
  have hz : t = 1 → ∀ j, fits .boolean (.int (sA σ q0 j)) = true := fun h j => by subst h; exact hH.2 q0 n0 hs0 j
  have hz1 : t = 1 → ∀ j, fits .boolean (.int (sA σ q1 j)) = true := fun h j => by subst h; exact hH.2 q1 n1 hs1 j
  have go : ∀ H1 locs1, va_P G.1 vwCl ((pm_W G σ).set q1 (G.2.2 q1, .inl (G.2.1 t, n1, .inl (va_cpy (sA σ q0) (sA σ q1) (ix sp) (ix dp) (ix n))))) H1 → va_S (pm_A G) s.heap H1 locs1 → W p l e (rmz (d + 1)) s m args below meth c H1 locs1 0 0 (MQ below (pm_Q G Q) args s 0 0 (pm_A G)) (F0 m (pc + 3) lsA (st.map (ptr G.2.2))) := by
    intro H1 locs1 hP1 hS1
    rw [pm_setR hs1] at hP1
    refine kk l G p e s m args below meth c H1 locs1 lsA R ⟨hP1, hH.2.setR hs1 (fun h j => ?_)⟩ hS1 hL
    unfold va_cpy
    split
    · exact hz h _
    · exact hz1 h _
  match t, ht with
  | 0, _ => exact va_copyi hx hb (hml.trans hL.1.symm) hown (hts _ hl) (hts _ hnat) (hts _ hstat) (hts _ hini) hK hH.1 (pm_D hinj σ) hS q0 q1 0 0 (pm_row hs0) (pm_row hs1) rfl rfl rfl h1 h2 h3 h4 h5 (fun _ _ => rfl) hfr hlo hd (fun H1 locs1 hP1 _ hS1 => go H1 locs1 hP1 hS1)
  | 1, _ => exact va_copyi hx hb (hml.trans hL.1.symm) hown (hts _ hl) (hts _ hnat) (hts _ hstat) (hts _ hini) hK hH.1 (pm_D hinj σ) hS q0 q1 1 1 (pm_row hs0) (pm_row hs1) rfl rfl rfl h1 h2 h3 h4 h5 (fun _ _ => hz rfl _) hfr hlo hd (fun H1 locs1 hP1 _ hS1 => go H1 locs1 hP1 hS1)
theorem Go.mmax {y : MI} {d pc idx : Nat} {ls st : List Value} {σ : St} {Q : Option Value → St → Prop} {a b : Int32} (hl : Cond.methodLink y.1.cls idx Lib.Math.max.name ∈ tbg) (hstat : Cond.static Lib.Math.max.name ∈ tbg) (hini : Cond.initialized "java/lang/Math" ∈ tbg) (hcode : Cond.code Lib.Math.max.name Lib.Math.max.code 2 (some .int) ∈ tbg) (hw : (st.map fun v => v.category).sum ≤ 8) (hd : decode y.2.1 pc = .ok (.invokestatic idx, 3))
    (kk : Go y (d + 1) (pc + 3) ls (.int (if a < b then b else a) :: st) σ Q) : Go y (d + 1) pc ls (.int b :: .int a :: st) σ Q := by
  intro l G p e s m args below meth c H locs lsA R hH hS hL
  obtain ⟨hx, hb, hret, hml, hown, hts, hlocks, hK, hinj, hN⟩ := id R
  refine va_mmax hx hb (hml.trans hL.1.symm) hown (hts _ hl) (hts _ hstat) (hts _ hini) (hts _ hcode) (by show 1 ≤ d + 1; omega) (by rw [ptr_cats]; show _ + 13 ≤ 31 * (d + 1); omega) (Nat.le_refl _) (Nat.le_refl _) hd ?_
  exact kk l G p e s m args below meth c H locs lsA R hH hS hL
theorem Go.mmin {y : MI} {d pc idx : Nat} {ls st : List Value} {σ : St} {Q : Option Value → St → Prop} {a b : Int32} (hl : Cond.methodLink y.1.cls idx Lib.Math.min.name ∈ tbg) (hstat : Cond.static Lib.Math.min.name ∈ tbg) (hini : Cond.initialized "java/lang/Math" ∈ tbg) (hcode : Cond.code Lib.Math.min.name Lib.Math.min.code 2 (some .int) ∈ tbg) (hw : (st.map fun v => v.category).sum ≤ 8) (hd : decode y.2.1 pc = .ok (.invokestatic idx, 3))
    (kk : Go y (d + 1) (pc + 3) ls (.int (if b < a then b else a) :: st) σ Q) : Go y (d + 1) pc ls (.int b :: .int a :: st) σ Q := by
  intro l G p e s m args below meth c H locs lsA R hH hS hL
  obtain ⟨hx, hb, hret, hml, hown, hts, hlocks, hK, hinj, hN⟩ := id R
  refine va_mmin hx hb (hml.trans hL.1.symm) hown (hts _ hl) (hts _ hstat) (hts _ hini) (hts _ hcode) (by show 1 ≤ d + 1; omega) (by rw [ptr_cats]; show _ + 13 ≤ 31 * (d + 1); omega) (Nat.le_refl _) (Nat.le_refl _) hd ?_
  exact kk l G p e s m args below meth c H locs lsA R hH hS hL
theorem Go.ialdK {y : MI} {d pc : Nat} {ls st : List Value} {σ : St} {Q : Option Value → St → Prop} {q n k : Nat} {i : Int32} (hk : ix i = k) (hin : vp_in i n) (hs : shp[q]? = some (1, 0, n)) (hd : decode y.2.1 pc = .ok (.iaload, 1)) (kk : Go y d (pc + 1) ls (.int (sA σ q k) :: st) σ Q) : Go y d pc ls (.int i :: .ref q :: st) σ Q :=
  Go.iald hs hd ⟨hin, by rw [hk]; exact kk⟩
theorem Go.iastK {y : MI} {d pc : Nat} {ls st : List Value} {σ : St} {Q : Option Value → St → Prop} {q n k : Nat} {i x : Int32} (hk : ix i = k) (hin : vp_in i n) (hs : shp[q]? = some (1, 0, n)) (hd : decode y.2.1 pc = .ok (.iastore, 1)) (kk : Go y d (pc + 1) ls st (setA σ q k x) Q) : Go y d pc ls (.int x :: .int i :: .ref q :: st) σ Q :=
  Go.iast hs hd ⟨hin, by rw [hk]; exact kk⟩
