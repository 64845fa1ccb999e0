/-! PM: the whole world as one picture in numbers (cells by fixed numbers 0 .. 74), and a logic of programs over it -/
/-- int fields, int rows, the long row, the row of references -/
abbrev St : Type := (Nat → Nat → Int32) × (Nat → Nat → Int32) × (Nat → Int64) × (Nat → Nat)
def sF (σ : St) : Nat → Nat → Int32 := σ.1
def sA (σ : St) : Nat → Nat → Int32 := σ.2.1
def sL (σ : St) : Nat → Int64 := σ.2.2.1
def sP (σ : St) : Nat → Nat := σ.2.2.2
def setF (σ : St) (a k : Nat) (v : Int32) : St := (fun x y => if x = a ∧ y = k then v else sF σ x y, sA σ, sL σ, sP σ)
def setR (σ : St) (a : Nat) (g : Nat → Int32) : St := (sF σ, fun x => if x = a then g else sA σ x, sL σ, sP σ)
def setA (σ : St) (a i : Nat) (v : Int32) : St := setR σ a (upd (sA σ a) i v)
def setL (σ : St) (i : Nat) (v : Int64) : St := (sF σ, sA σ, vp_updL (sL σ) i v, sP σ)
def setP (σ : St) (i : Nat) (v : Nat) : St := (sF σ, sA σ, sL σ, fun j => if j = i then v else sP σ j)
/-- the shapes: (0, class, fields), (1, kind, length): kinds 0 int, 1 boolean, 2 char; (2, 3, length): longs; (3, 4, length): references -/
def shp : List (Nat × Nat × Nat) := [(0, 5, 10),
  (0, 3, 9), (1, 0, 6), (1, 0, 6), (1, 0, 6), (1, 1, 6), (1, 0, 4),
  (0, 3, 9), (1, 0, 6), (1, 0, 6), (1, 0, 6), (1, 1, 6), (1, 0, 4),
  (0, 3, 9), (1, 0, 6), (1, 0, 6), (1, 0, 6), (1, 1, 6), (1, 0, 4),
  (3, 4, 4),
  (0, 3, 9), (1, 0, 6), (1, 0, 6), (1, 0, 6), (1, 1, 6), (1, 0, 4),
  (0, 3, 9), (1, 0, 6), (1, 0, 6), (1, 0, 6), (1, 1, 6), (1, 0, 4),
  (0, 3, 9), (1, 0, 6), (1, 0, 6), (1, 0, 6), (1, 1, 6), (1, 0, 4),
  (0, 3, 9), (1, 0, 6), (1, 0, 6), (1, 0, 6), (1, 1, 6), (1, 0, 4),
  (0, 1, 2), (1, 2, 60),
  (0, 2, 13), (1, 0, 12), (1, 0, 12), (1, 0, 12), (1, 1, 12), (1, 0, 4),
  (0, 4, 2), (1, 2, 72),
  (0, 0, 16), (1, 0, 21), (1, 0, 21), (1, 0, 21), (1, 0, 21), (1, 0, 21), (1, 0, 4), (2, 3, 44), (1, 0, 11), (1, 0, 3600),
  (1, 0, 24), (1, 0, 63), (1, 0, 9)]
def isSc (a : Nat) : Prop := a = 1 ∨ a = 7 ∨ a = 13 ∨ a = 20 ∨ a = 26 ∨ a = 32 ∨ a = 38
/-- the fields that are references, all final: what cell they name -/
def FR (a k : Nat) : Option Nat :=
  if a = 0 then (match k with | 0 => some 1 | 1 => some 7 | 2 => some 13 | 3 => some 19 | 4 => some 44 | 5 => some 46 | 6 => some 52 | 7 => some 54 | _ => none)
  else if a = 44 ∨ a = 52 then (if k = 0 then some (a + 1) else none)
  else if a = 54 then (if k < 9 then some (a + 1 + k) else none)
  else (if k < 5 then some (a + 1 + k) else none)
abbrev GC : Type := va_G × (Nat → ClassId) × (Nat → Nat)
def ptr (ad : Nat → Nat) : Value → Value
  | .ref k => .ref (ad k)
  | v => v
def pm_fld (ad : Nat → Nat) (k : Nat) (σ : St) (j : Nat) : Value := match FR k j with
  | some q => .ref (ad q)
  | none => .int (sF σ k j)
def pm_cell (G : GC) (k : Nat) (σ : St) : va_E := match shp[k]? with
  | some (0, ci, n) => .inr (ci, (List.range n).map (pm_fld G.2.2 k σ))
  | some (1, t, n) => .inl (G.2.1 t, n, .inl (sA σ k))
  | some (2, t, n) => .inl (G.2.1 t, n, .inr (.inl (sL σ)))
  | some (_, t, n) => .inl (G.2.1 t, n, .inr (.inr (.inr (.inr (fun j => some (G.2.2 (sP σ j)))))))
  | none => .inr (0, [])
def pm_W (G : GC) (σ : St) : va_W := (List.range 67).map (fun k => (G.2.2 k, pm_cell G k σ))
def pm_tys (G : GC) : List (ClassId × FieldType) := [(G.2.1 0, .int), (G.2.1 1, .boolean), (G.2.1 2, .char), (G.2.1 3, .long), (G.2.1 4, .object "EchoTurns$Scene")]
def pm_A (G : GC) : Nat → Prop := fun q => ∃ k, k < 67 ∧ q = G.2.2 k
def pm_inj (G : GC) : Prop := ∀ i j, i < 67 → j < 67 → G.2.2 i = G.2.2 j → i = j
def pm_fit (σ : St) : Prop := ∀ (k n : Nat), shp[k]? = some (1, 1, n) → ∀ j, fits .boolean (.int (sA σ k j)) = true
def pm_H (G : GC) (σ : St) (H : Heap) : Prop := va_P G.1 vwCl (pm_W G σ) H ∧ pm_fit σ
/-- the links to the outer class's private methods -/
def pm_N (U : State) : Prop := ∀ q ∈ pmN, va_Nw (.methodLinkNest q.1 q.2.1 q.2.2.1 q.2.2.2) U
theorem pm_N.warm {s U : State} (hW : s.WarmedH U.vm) (h : pm_N s) : pm_N U := fun q hq => va_Nw.warmM hW (h q hq)
/-- a method: name, code, locals, answer -/
abbrev MI : Type := MethodName × ByteArray × Nat × Option FieldType
def pm_run (y : MI) (G : GC) (p : Program) (s : State) (m : MethodId) (args : Array Value) (meth : Method) (c : Code) : Prop :=
  p.tables.exec = Jvm.exec ∧ c.code = y.2.1 ∧ meth.sig.returnType = y.2.2.2 ∧ c.maxLocals = y.2.2.1 ∧ s.vm.findClass y.1.cls = some m.cls ∧ (∀ w ∈ tbg, w.before args s = true) ∧ meth.locks = false ∧ va_K G.1 vwCl (pm_tys G) s ∧ pm_inj G ∧ pm_N s
def rmz (d : Nat) : Room := { frames := d, cells := 0, slots := 0, locals := 31 * d }
def pm_L (ad : Nat → Nat) (lsA : Array Slot) (n : Nat) (ls : List Value) : Prop := lsA.size = n ∧ lv_wf lsA ∧ ls.length = n ∧ ∀ (i : Nat) (v : Value), ls[i]? = some v → v ≠ .null → lsA[i]? = some (.val (ptr ad v))
def pm_Q (G : GC) (Q : Option Value → St → Prop) : Array Value → State → Outcome → State → Prop := fun _ st o t => (∃ (r : Option Value) (σ' : St), o = .returned (r.map (ptr G.2.2)) ∧ Q r σ' ∧ pm_H G σ' t.heap) ∧ va_F (pm_A G) st t
def pm_P (G : GC) (as : List Value) (σ : St) : Array Value → State → Prop := fun v U => v = (as.map (ptr G.2.2)).toArray ∧ pm_H G σ U.heap ∧ va_K G.1 vwCl (pm_tys G) U ∧ pm_inj G ∧ pm_N U
def wsz (y : MI) : List Cond := .code y.1 y.2.1 y.2.2.1 y.2.2.2 :: tbg
/-- from this frame in this world the method comes to its end, and Q holds of the answer and the world -/
def Go (y : MI) (d : Nat) (pc : Nat) (ls st : List Value) (σ : St) (Q : Option Value → St → Prop) : Prop :=
  ∀ (l : Launch) (G : GC) (p : Program) (e : Env) (s : State) (m : MethodId) (args : Array Value) (below : List Frame) (meth : Method) (c : Code) (H : Heap) (locs : List Loc) (lsA : Array Slot),
    pm_run y G p s m args meth c → pm_H G σ H → va_S (pm_A G) s.heap H locs → pm_L G.2.2 lsA y.2.2.1 ls →
    W p l e (rmz d) s m args below meth c H locs 0 0 (MQ below (pm_Q G Q) args s 0 0 (pm_A G)) (F0 m pc lsA (st.map (ptr G.2.2)))
/-- a call of the method in this world comes back, and Q holds -/
def Call (d : Nat) (y : MI) (as : List Value) (σ : St) (Q : Option Value → St → Prop) : Prop :=
  ∀ (l : Launch) (G : GC), Met l y.1 (wsz y) (rmz d) (pm_P G as σ) (pm_Q G Q) 0 0 (pm_A G)
def QI (K : Int32 → St → Prop) : Option Value → St → Prop := fun r σ => ∃ x : Int32, r = some (.int x) ∧ K x σ
def QU (K : St → Prop) : Option Value → St → Prop := fun r σ => r = none ∧ K σ
abbrev CallI (d : Nat) (y : MI) (as : List Value) (σ : St) (K : Int32 → St → Prop) : Prop := Call d y as σ (QI K)
abbrev CallU (d : Nat) (y : MI) (as : List Value) (σ : St) (K : St → Prop) : Prop := Call d y as σ (QU K)
/-- the locals at a method's entry -/
def ent (as : List Value) (n : Nat) : List Value := as.flatMap (fun v => if v.category = 2 then [v, .null] else [v]) ++ List.replicate (n - (as.flatMap (fun v => if v.category = 2 then [v, Value.null] else [v])).length) .null
theorem ptr_cat (ad : Nat → Nat) (v : Value) : (ptr ad v).category = v.category := by cases v <;> rfl
theorem ptr_cats (ad : Nat → Nat) (st : List Value) : ((st.map (ptr ad)).map fun v => v.category) = st.map fun v => v.category := by
  rw [List.map_map]; exact List.map_congr_left fun v _ => ptr_cat ad v
theorem shp_lt {k : Nat} {x : Nat × Nat × Nat} (h : shp[k]? = some x) : k < 67 := (List.getElem?_eq_some_iff.mp h).1
theorem pm_get {G : GC} {σ : St} {k : Nat} (hk : k < 67) : (pm_W G σ)[k]? = some (G.2.2 k, pm_cell G k σ) := by
  simp [pm_W, List.getElem?_map, List.getElem?_range hk]
theorem pm_getS {G : GC} {σ : St} {k : Nat} {x : Nat × Nat × Nat} (h : shp[k]? = some x) : (pm_W G σ)[k]? = some (G.2.2 k, pm_cell G k σ) := pm_get (shp_lt h)
theorem pm_Wset {G : GC} {σ σ' : St} {k : Nat} {e : va_E} (hk : k < 67) (he : pm_cell G k σ' = e) (ho : ∀ j, j < 67 → j ≠ k → pm_cell G j σ' = pm_cell G j σ) : (pm_W G σ).set k (G.2.2 k, e) = pm_W G σ' := by
  apply List.ext_getElem?
  intro i
  rcases Nat.lt_or_ge i 67 with hi | hi
  · rw [pm_get hi]
    rcases Nat.decEq i k with h | h
    · rw [List.getElem?_set_ne (fun q => h q.symm), pm_get hi, ho i hi h]
    · subst h
      rw [List.getElem?_set_self (by simp [pm_W]; exact hk), he]
  · rw [List.getElem?_eq_none (by simp [pm_W]; exact hi), List.getElem?_eq_none (by simp [pm_W]; exact hi)]
theorem pm_D {G : GC} (hi : pm_inj G) (σ : St) : va_D (pm_A G) (pm_W G σ) := by
  have h67 : ∀ (i : Nat) (p : Nat × va_E), (pm_W G σ)[i]? = some p → i < 67 ∧ p.1 = G.2.2 i := by
    intro i p h
    have hlt : i < 67 := by
      have h1 := (List.getElem?_eq_some_iff.mp h).1
      simpa [pm_W] using h1
    rw [pm_get hlt] at h
    cases h
    exact ⟨hlt, rfl⟩
  refine ⟨fun i j p q h1 h2 h3 => ?_, fun k q h => ?_⟩
  · obtain ⟨a1, a2⟩ := h67 i p h1
    obtain ⟨b1, b2⟩ := h67 j q h2
    exact hi i j a1 b1 (by rw [← a2, ← b2]; exact h3)
  · obtain ⟨a1, a2⟩ := h67 k q h
    exact ⟨k, a1, a2⟩
theorem shp_long : ∀ j, j < 67 → ∀ t n, shp[j]? = some (2, t, n) → j = 61 := by
  intro j hj t n h
  have h1 : ∀ j, j < 67 → (shp[j]?).map (·.1) = some 2 → j = 61 := by decide +kernel
  exact h1 j hj (by rw [h]; rfl)
theorem shp_ref : ∀ j, j < 67 → ∀ i t n, shp[j]? = some (i + 3, t, n) → j = 19 := by
  intro j hj i t n h
  have h1 : ∀ j, j < 67 → (match shp[j]? with | some (0, _, _) => true | some (1, _, _) => true | some (2, _, _) => true | _ => decide (j = 19)) = true := by decide +kernel
  have h2 := h1 j hj
  rw [h] at h2
  simpa using h2
theorem cell_F {G : GC} {σ : St} {a k ci n : Nat} {v : Int32} (hs : shp[a]? = some (0, ci, n)) : ∀ j, j < 67 → j ≠ a → pm_cell G j (setF σ a k v) = pm_cell G j σ := by
  intro j hj hne
  unfold pm_cell
  have hf : pm_fld G.2.2 j (setF σ a k v) = pm_fld G.2.2 j σ := by
    funext i
    unfold pm_fld
    simp [setF, sF, hne]
  rw [hf]
  rfl
theorem cell_R {G : GC} {σ : St} {a : Nat} {g : Nat → Int32} : ∀ j, j < 67 → j ≠ a → pm_cell G j (setR σ a g) = pm_cell G j σ := by
  intro j hj hne
  unfold pm_cell
  have h1 : sA (setR σ a g) j = sA σ j := by simp [setR, sA, hne]
  rw [h1]
  rfl
theorem pm_setF {G : GC} {σ : St} {a k ci n : Nat} {v : Int32} (hs : shp[a]? = some (0, ci, n)) (hk : k < n) (hr : FR a k = none) :
    (pm_W G σ).set a (G.2.2 a, .inr (ci, ((List.range n).map (pm_fld G.2.2 a σ)).set k (.int v))) = pm_W G (setF σ a k v) := by
  refine pm_Wset (shp_lt hs) ?_ (cell_F hs)
  unfold pm_cell
  rw [hs]
  show Sum.inr (ci, _) = Sum.inr (ci, _)
  congr 2
  apply List.ext_getElem?
  intro i
  rcases Nat.lt_or_ge i n with hi | hi
  · rcases Nat.decEq i k with h | h
    · rw [List.getElem?_set_ne (fun q => h q.symm), List.getElem?_map, List.getElem?_map, List.getElem?_range hi]
      simp [pm_fld, setF, sF, h]
    · subst h
      rw [List.getElem?_set_self (by simp; exact hi), List.getElem?_map, List.getElem?_range hi]
      simp [pm_fld, setF, sF, hr]
  · rw [List.getElem?_eq_none (by simp; exact hi), List.getElem?_eq_none (by simp; exact hi)]
theorem pm_setR {G : GC} {σ : St} {a t n : Nat} {g : Nat → Int32} (hs : shp[a]? = some (1, t, n)) :
    (pm_W G σ).set a (G.2.2 a, .inl (G.2.1 t, n, .inl g)) = pm_W G (setR σ a g) := by
  refine pm_Wset (shp_lt hs) ?_ cell_R
  unfold pm_cell
  rw [hs]
  simp [setR, sA]
theorem pm_setL {G : GC} {σ : St} {i : Nat} {v : Int64} :
    (pm_W G σ).set 61 (G.2.2 61, .inl (G.2.1 3, 44, .inr (.inl (vp_updL (sL σ) i v)))) = pm_W G (setL σ i v) := by
  refine pm_Wset (by decide) rfl (fun j hj hne => ?_)
  unfold pm_cell
  have hf : pm_fld G.2.2 j (setL σ i v) = pm_fld G.2.2 j σ := rfl
  rw [hf]
  split <;> first | rfl | skip
  next h => exact absurd (shp_long j hj _ _ h) hne
theorem pm_setP {G : GC} {σ : St} {i v : Nat} :
    (pm_W G σ).set 19 (G.2.2 19, .inl (G.2.1 4, 4, .inr (.inr (.inr (.inr (va_up (fun j => some (G.2.2 (sP σ j))) i (some (G.2.2 v)))))))) = pm_W G (setP σ i v) := by
  have hfun : (fun j => some (G.2.2 (sP (setP σ i v) j))) = va_up (fun j => some (G.2.2 (sP σ j))) i (some (G.2.2 v)) := by
    funext j
    unfold va_up setP sP
    by_cases h : j = i <;> simp [h]
  refine pm_Wset (by decide) (by
    show (Sum.inl (G.2.1 4, 4, _) : va_E) = _
    rw [hfun]) (fun j hj hne => ?_)
  unfold pm_cell
  have hf : pm_fld G.2.2 j (setP σ i v) = pm_fld G.2.2 j σ := rfl
  rw [hf]
  rcases hsh : shp[j]? with _ | ⟨a, t, n⟩
  · rfl
  · match a, hsh with
    | 0, _ => rfl
    | 1, _ => rfl
    | 2, _ => rfl
    | k + 3, hsh => exact absurd (shp_ref j hj k _ _ hsh) hne
