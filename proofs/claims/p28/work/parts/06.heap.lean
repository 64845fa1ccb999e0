/-! the rows of PM's logic: fields, rows, calls, ends -/
def fldOK (own : String) (idx ci k N : Nat) : Prop := ∃ (C : String) (T : u_T), vwCl[ci]? = some (C, T, N) ∧ k < N ∧ (∀ w ∈ u_ws C T N, w ∈ tbg) ∧ Cond.fieldLink own idx (T k).1 (T k).2.1 (T k).2.2.1 ∈ tbg
def fputOK (own : String) (idx ci k N : Nat) (ty : FieldType) : Prop := ∃ (C : String) (T : u_T) (ty0 : Nat → FieldType), vwCl[ci]? = some (C, T, N) ∧ k < N ∧ (∀ w ∈ u_ws C T N, w ∈ tbg) ∧ Cond.fieldLink own idx (T k).1 (T k).2.1 (T k).2.2.1 ∈ tbg ∧
  (∀ k, k < N → parseFieldDescriptor (T k).2.2.1 = some (ty0 k)) ∧ (∀ a, a < N → ∀ b, b < N → a ≠ b → (T a).2.1 ≠ (T b).2.1) ∧ (T k).2.2.2 = false ∧ parseFieldDescriptor (T k).2.2.1 = some ty
theorem pm_obj {G : GC} {σ : St} {a ci N : Nat} (hs : shp[a]? = some (0, ci, N)) : (pm_W G σ)[a]? = some (G.2.2 a, .inr (ci, (List.range N).map (pm_fld G.2.2 a σ))) := by
  rw [pm_getS hs]
  unfold pm_cell
  rw [hs]
  rfl
theorem pm_row {G : GC} {σ : St} {a t n : Nat} (hs : shp[a]? = some (1, t, n)) : (pm_W G σ)[a]? = some (G.2.2 a, .inl (G.2.1 t, n, .inl (sA σ a))) := by
  rw [pm_getS hs]
  unfold pm_cell
  rw [hs]
  rfl
theorem pm_fldAt {ad : Nat → Nat} {σ : St} {a k N : Nat} (hk : k < N) : ((List.range N).map (pm_fld ad a σ))[k]? = some (pm_fld ad a σ k) := by
  simp [List.getElem?_map, List.getElem?_range hk]
section HEAP
variable {y : MI} {d pc : Nat} {ls st : List Value} {σ : St} {Q : Option Value → St → Prop}
theorem Go.getI {a idx ci k N : Nat} (hf : fldOK y.1.cls idx ci k N) (hs : shp[a]? = some (0, ci, N)) (hr : FR a k = none) (hd : decode y.2.1 pc = .ok (.getfield idx, 3)) (kk : Go y d (pc + 3) ls (.int (sF σ a k) :: st) σ Q) : Go y d pc ls (.ref a :: st) σ Q := by
  intro l G p e s m args below meth c H locs lsA R hH hS hL
  obtain ⟨C, T, hc, hk, hin, hln⟩ := hf
  obtain ⟨hx, hb, hret, hml, hown, hts, hlocks, hK, hinj, hN⟩ := id R
  refine va_get hx hb hts hin hown hK hH.1 a (pm_obj hs) hc k hk (hts _ hln) (fun _ h => h) (pm_fldAt hk) hd ?_
  have h := kk l G p e s m args below meth c H locs lsA R hH hS hL
  have e1 : pm_fld G.2.2 a σ k = .int (sF σ a k) := by unfold pm_fld; rw [hr]
  rw [e1]
  exact h
theorem Go.getR {a q idx ci k N : Nat} (hf : fldOK y.1.cls idx ci k N) (hs : shp[a]? = some (0, ci, N)) (hr : FR a k = some q) (hd : decode y.2.1 pc = .ok (.getfield idx, 3)) (kk : Go y d (pc + 3) ls (.ref q :: st) σ Q) : Go y d pc ls (.ref a :: st) σ Q := by
  intro l G p e s m args below meth c H locs lsA R hH hS hL
  obtain ⟨C, T, hc, hk, hin, hln⟩ := hf
  obtain ⟨hx, hb, hret, hml, hown, hts, hlocks, hK, hinj, hN⟩ := id R
  refine va_get hx hb hts hin hown hK hH.1 a (pm_obj hs) hc k hk (hts _ hln) (fun _ h => h) (pm_fldAt hk) hd ?_
  have h := kk l G p e s m args below meth c H locs lsA R hH hS hL
  have e1 : pm_fld G.2.2 a σ k = .ref (G.2.2 q) := by unfold pm_fld; rw [hr]
  rw [e1]
  exact h
theorem Go.put {a idx ci k N : Nat} {ty : FieldType} {x : Int32} (hf : fputOK y.1.cls idx ci k N ty) (hn : narrow ty (.int x) = .int x) (hfit : fits ty (.int x) = true) (hs : shp[a]? = some (0, ci, N)) (hr : FR a k = none) (hd : decode y.2.1 pc = .ok (.putfield idx, 3)) (kk : Go y d (pc + 3) ls st (setF σ a k x) Q) : Go y d pc ls (.int x :: .ref a :: st) σ Q := by
  intro l G p e s m args below meth c H locs lsA R hH hS hL
  obtain ⟨C, T, ty0, hc, hk, hin, hln, hty, hnm, hfin, hpd⟩ := hf
  obtain ⟨hx, hb, hret, hml, hown, hts, hlocks, hK, hinj, hN⟩ := id R
  refine va_put hx hb hts hin ty0 hty hnm hown hK hH.1 (pm_D hinj σ) hS a (pm_obj hs) hc k hk (hts _ hln) (fun _ h => h) hfin hpd hn hfit (by simp; exact hk) hd (fun H1 locs1 hP1 _ hS1 => ?_)
  have hP1 : va_P G.1 vwCl ((pm_W G σ).set a (G.2.2 a, .inr (ci, ((List.range N).map (pm_fld G.2.2 a σ)).set k (.int x)))) H1 := hP1
  rw [pm_setF hs hk hr] at hP1
  exact kk l G p e s m args below meth c H1 locs1 lsA R ⟨hP1, fun k n h j => hH.2 k n h j⟩ hS1 hL
theorem Go.putI {a idx ci k N : Nat} {x : Int32} (hf : fputOK y.1.cls idx ci k N .int) (hs : shp[a]? = some (0, ci, N)) (hr : FR a k = none) (hd : decode y.2.1 pc = .ok (.putfield idx, 3)) (kk : Go y d (pc + 3) ls st (setF σ a k x) Q) : Go y d pc ls (.int x :: .ref a :: st) σ Q :=
  Go.put hf rfl rfl hs hr hd kk
theorem bool_fit {x : Int32} (h : x = 0 ∨ x = 1) : narrow .boolean (.int x) = .int x ∧ fits .boolean (.int x) = true := by
  rcases h with rfl | rfl <;> exact ⟨rfl, rfl⟩
theorem Go.putZ {a idx ci k N : Nat} {x : Int32} (hv : x = 0 ∨ x = 1) (hf : fputOK y.1.cls idx ci k N .boolean) (hs : shp[a]? = some (0, ci, N)) (hr : FR a k = none) (hd : decode y.2.1 pc = .ok (.putfield idx, 3)) (kk : Go y d (pc + 3) ls st (setF σ a k x) Q) : Go y d pc ls (.int x :: .ref a :: st) σ Q :=
  Go.put hf (bool_fit hv).1 (bool_fit hv).2 hs hr hd kk
abbrev ix (i : Int32) : Nat := i.toNatClampNeg
theorem Go.iald {q n : Nat} {i : Int32} (hs : shp[q]? = some (1, 0, n)) (hd : decode y.2.1 pc = .ok (.iaload, 1)) (kk : vp_in i n ∧ Go y d (pc + 1) ls (.int (sA σ q (ix i)) :: st) σ Q) : Go y d pc ls (.int i :: .ref q :: st) σ Q := by
  intro l G p e s m args below meth c H locs lsA R hH hS hL
  exact va_iald R.1 R.2.1 R.2.2.2.2.2.2.2.1 hH.1 q 0 (pm_row hs) rfl kk.1 hd (kk.2 l G p e s m args below meth c H locs lsA R hH hS hL)
theorem Go.zald {q n : Nat} {i : Int32} (hs : shp[q]? = some (1, 1, n)) (hd : decode y.2.1 pc = .ok (.baload, 1)) (kk : vp_in i n ∧ Go y d (pc + 1) ls (.int (sA σ q (ix i)) :: st) σ Q) : Go y d pc ls (.int i :: .ref q :: st) σ Q := by
  intro l G p e s m args below meth c H locs lsA R hH hS hL
  exact va_zald R.1 R.2.1 R.2.2.2.2.2.2.2.1 hH.1 q 1 (pm_row hs) rfl kk.1 hd (kk.2 l G p e s m args below meth c H locs lsA R hH hS hL)
theorem Go.cald {q n : Nat} {i : Int32} (hs : shp[q]? = some (1, 2, n)) (hd : decode y.2.1 pc = .ok (.caload, 1)) (kk : vp_in i n ∧ Go y d (pc + 1) ls (.int (sA σ q (ix i)) :: st) σ Q) : Go y d pc ls (.int i :: .ref q :: st) σ Q := by
  intro l G p e s m args below meth c H locs lsA R hH hS hL
  exact va_cald R.1 R.2.1 R.2.2.2.2.2.2.2.1 hH.1 q 2 (pm_row hs) rfl kk.1 hd (kk.2 l G p e s m args below meth c H locs lsA R hH hS hL)
theorem shp_z {k n t m : Nat} (h : shp[k]? = some (1, t, n)) (h2 : shp[k]? = some (1, 1, m)) : t = 1 := by
  rw [h] at h2
  cases h2
  rfl
theorem pm_fit.setR {σ : St} {a t n : Nat} {g : Nat → Int32} (h : pm_fit σ) (hs : shp[a]? = some (1, t, n)) (hg : t = 1 → ∀ j, fits .boolean (.int (g j)) = true) : pm_fit (setR σ a g) := by
  intro k m hk j
  show fits .boolean (.int ((if k = a then g else sA σ k) j)) = true
  rcases Nat.decEq k a with hne | rfl
  · rw [if_neg hne]
    exact h k m hk j
  · rw [if_pos rfl]
    exact hg (shp_z hs hk) j
theorem Go.iast {q n : Nat} {i x : Int32} (hs : shp[q]? = some (1, 0, n)) (hd : decode y.2.1 pc = .ok (.iastore, 1)) (kk : vp_in i n ∧ Go y d (pc + 1) ls st (setA σ q (ix i) x) Q) : Go y d pc ls (.int x :: .int i :: .ref q :: st) σ Q := by
  intro l G p e s m args below meth c H locs lsA R hH hS hL
  refine va_iast R.1 R.2.1 R.2.2.2.2.2.2.2.1 hH.1 (pm_D R.2.2.2.2.2.2.2.2.1 σ) hS q 0 (pm_row hs) rfl kk.1 hd (fun H1 locs1 hP1 _ hS1 => ?_)
  rw [pm_setR hs] at hP1
  exact kk.2 l G p e s m args below meth c H1 locs1 lsA R ⟨hP1, hH.2.setR hs (fun h => by cases h)⟩ hS1 hL
/-- what a char row, a boolean row keeps of a number -/
abbrev nch (x : Int32) : Int32 := vp_nar .char x
abbrev nbo (x : Int32) : Int32 := vp_nar .boolean x
theorem Go.cast {q n : Nat} {i x : Int32} (hs : shp[q]? = some (1, 2, n)) (hd : decode y.2.1 pc = .ok (.castore, 1)) (kk : vp_in i n ∧ Go y d (pc + 1) ls st (setA σ q (ix i) (nch x)) Q) : Go y d pc ls (.int x :: .int i :: .ref q :: st) σ Q := by
  intro l G p e s m args below meth c H locs lsA R hH hS hL
  refine va_cast R.1 R.2.1 R.2.2.2.2.2.2.2.1 hH.1 (pm_D R.2.2.2.2.2.2.2.2.1 σ) hS q 2 (pm_row hs) rfl kk.1 hd (fun H1 locs1 hP1 _ hS1 => ?_)
  rw [pm_setR hs] at hP1
  exact kk.2 l G p e s m args below meth c H1 locs1 lsA R ⟨hP1, hH.2.setR hs (fun h => by cases h)⟩ hS1 hL
theorem nbo_fit (x : Int32) : fits .boolean (.int (nbo x)) = true := by
  show (x &&& 1 == 0 || x &&& 1 == 1) = true
  have h : x &&& 1 = 0 ∨ x &&& 1 = 1 := by
    obtain ⟨j, hj, e⟩ := pk_andE x (m := 1) 1 (by decide)
    rw [e]
    rcases (show j = 0 ∨ j = 1 by omega) with rfl | rfl
    · left; rfl
    · right; rfl
  rcases h with h | h <;> rw [h] <;> rfl
theorem Go.zast {q n : Nat} {i x : Int32} (hs : shp[q]? = some (1, 1, n)) (hd : decode y.2.1 pc = .ok (.bastore, 1)) (kk : vp_in i n ∧ Go y d (pc + 1) ls st (setA σ q (ix i) (nbo x)) Q) : Go y d pc ls (.int x :: .int i :: .ref q :: st) σ Q := by
  intro l G p e s m args below meth c H locs lsA R hH hS hL
  refine va_zast R.1 R.2.1 R.2.2.2.2.2.2.2.1 hH.1 (pm_D R.2.2.2.2.2.2.2.2.1 σ) hS q 1 (pm_row hs) rfl kk.1 hd (fun H1 locs1 hP1 _ hS1 => ?_)
  rw [pm_setR hs] at hP1
  refine kk.2 l G p e s m args below meth c H1 locs1 lsA R ⟨hP1, hH.2.setR hs (fun _ j => ?_)⟩ hS1 hL
  unfold upd
  by_cases h : j = ix i
  · rw [if_pos h]; exact nbo_fit x
  · rw [if_neg h]; exact hH.2 q n hs j
theorem Go.alen {q t n : Nat} {v : Int32} (hs : shp[q]? = some (1, t, n)) (ht : t < 3) (hv : Int32.ofNat n = v) (hd : decode y.2.1 pc = .ok (.arraylength, 1)) (kk : Go y d (pc + 1) ls (.int v :: st) σ Q) : Go y d pc ls (.ref q :: st) σ Q := by
  intro l G p e s m args below meth c H locs lsA R hH hS hL
  have h := kk l G p e s m args below meth c H locs lsA R hH hS hL
  match t, ht with
  | 0, _ => exact va_alen R.1 R.2.1 R.2.2.2.2.2.2.2.1 hH.1 q 0 (pm_row hs) (ty := .int) rfl hv hd h
  | 1, _ => exact va_alen R.1 R.2.1 R.2.2.2.2.2.2.2.1 hH.1 q 1 (pm_row hs) (ty := .boolean) rfl hv hd h
  | 2, _ => exact va_alen R.1 R.2.1 R.2.2.2.2.2.2.2.1 hH.1 q 2 (pm_row hs) (ty := .char) rfl hv hd h
theorem Go.alenL {v : Int32} (hv : Int32.ofNat 44 = v) (hd : decode y.2.1 pc = .ok (.arraylength, 1)) (kk : Go y d (pc + 1) ls (.int v :: st) σ Q) : Go y d pc ls (.ref 61 :: st) σ Q := by
  intro l G p e s m args below meth c H locs lsA R hH hS hL
  exact va_alen R.1 R.2.1 R.2.2.2.2.2.2.2.1 hH.1 61 3 (pm_get (by decide)) (ty := .long) rfl hv hd (kk l G p e s m args below meth c H locs lsA R hH hS hL)
theorem Go.alenP {v : Int32} (hv : Int32.ofNat 4 = v) (hd : decode y.2.1 pc = .ok (.arraylength, 1)) (kk : Go y d (pc + 1) ls (.int v :: st) σ Q) : Go y d pc ls (.ref 19 :: st) σ Q := by
  intro l G p e s m args below meth c H locs lsA R hH hS hL
  exact va_alen R.1 R.2.1 R.2.2.2.2.2.2.2.1 hH.1 19 4 (pm_get (by decide)) (ty := .object "EchoTurns$Scene") rfl hv hd (kk l G p e s m args below meth c H locs lsA R hH hS hL)
theorem Go.lald {i : Int32} (hd : decode y.2.1 pc = .ok (.laload, 1)) (kk : vp_in i 44 ∧ Go y d (pc + 1) ls (.long (sL σ (ix i)) :: st) σ Q) : Go y d pc ls (.int i :: .ref 61 :: st) σ Q := by
  intro l G p e s m args below meth c H locs lsA R hH hS hL
  exact va_lald R.1 R.2.1 R.2.2.2.2.2.2.2.1 hH.1 61 3 (pm_get (by decide)) rfl kk.1 hd (kk.2 l G p e s m args below meth c H locs lsA R hH hS hL)
theorem Go.last {i : Int32} {x : Int64} (hd : decode y.2.1 pc = .ok (.lastore, 1)) (kk : vp_in i 44 ∧ Go y d (pc + 1) ls st (setL σ (ix i) x) Q) : Go y d pc ls (.long x :: .int i :: .ref 61 :: st) σ Q := by
  intro l G p e s m args below meth c H locs lsA R hH hS hL
  refine va_last R.1 R.2.1 R.2.2.2.2.2.2.2.1 hH.1 (pm_D R.2.2.2.2.2.2.2.2.1 σ) hS 61 3 (pm_get (by decide)) rfl kk.1 hd (fun H1 locs1 hP1 _ hS1 => ?_)
  have hP1 : va_P G.1 vwCl ((pm_W G σ).set 61 (G.2.2 61, .inl (G.2.1 3, 44, .inr (.inl (vp_updL (sL σ) (ix i) x))))) H1 := hP1
  rw [pm_setL] at hP1
  exact kk.2 l G p e s m args below meth c H1 locs1 lsA R ⟨hP1, hH.2⟩ hS1 hL
theorem Go.aald {i : Int32} (hd : decode y.2.1 pc = .ok (.aaload, 1)) (kk : vp_in i 4 ∧ Go y d (pc + 1) ls (.ref (sP σ (ix i)) :: st) σ Q) : Go y d pc ls (.int i :: .ref 19 :: st) σ Q := by
  intro l G p e s m args below meth c H locs lsA R hH hS hL
  exact va_aldq R.1 R.2.1 R.2.2.2.2.2.2.2.1 hH.1 19 4 (pm_get (by decide)) rfl kk.1 hd (kk.2 l G p e s m args below meth c H locs lsA R hH hS hL)
theorem Go.aast {i : Int32} {v : Nat} (hv : shp[v]? = some (0, 3, 9)) (hd : decode y.2.1 pc = .ok (.aastore, 1)) (kk : vp_in i 4 ∧ Go y d (pc + 1) ls st (setP σ (ix i) v) Q) : Go y d pc ls (.ref v :: .int i :: .ref 19 :: st) σ Q := by
  intro l G p e s m args below meth c H locs lsA R hH hS hL
  refine va_astq R.1 R.2.1 R.2.2.2.2.2.2.2.1 hH.1 (pm_D R.2.2.2.2.2.2.2.2.1 σ) hS 19 4 v 3 (pm_get (by decide)) (r := (RX3, TX3, 9)) rfl (pm_obj hv) rfl kk.1 hd (fun H1 locs1 hP1 _ hS1 => ?_)
  have hP1 : va_P G.1 vwCl ((pm_W G σ).set 19 (G.2.2 19, .inl (G.2.1 4, 4, .inr (.inr (.inr (.inr (va_up (fun j => some (G.2.2 (sP σ j))) (ix i) (some (G.2.2 v))))))))) H1 := hP1
  rw [pm_setP] at hP1
  exact kk.2 l G p e s m args below meth c H1 locs1 lsA R ⟨hP1, hH.2⟩ hS1 hL
theorem Go.lconst {n : Fin 2} {v : Int64} (hd : decode y.2.1 pc = .ok (.lconst n, 1)) (hv : Int64.ofNat (n : Nat) = v) (k : Go y d (pc + 1) ls (.long v :: st) σ Q) : Go y d pc ls st σ Q :=
  fun l G p e s m args below meth c H locs lsA R hH hS hL => lv_lconst R.1 R.2.1 hd hv (k l G p e s m args below meth c H locs lsA R hH hS hL)
theorem Go.lshl {x v : Int64} {i : Int32} (hd : decode y.2.1 pc = .ok (.lshl, 1)) (hv : x <<< (i.toInt64 &&& 63) = v) (k : Go y d (pc + 1) ls (.long v :: st) σ Q) : Go y d pc ls (.int i :: .long x :: st) σ Q :=
  fun l G p e s m args below meth c H locs lsA R hH hS hL => lv_lshl R.1 R.2.1 hd hv (k l G p e s m args below meth c H locs lsA R hH hS hL)
theorem Go.lshr {x v : Int64} {i : Int32} (hd : decode y.2.1 pc = .ok (.lshr, 1)) (hv : x >>> (i.toInt64 &&& 63) = v) (k : Go y d (pc + 1) ls (.long v :: st) σ Q) : Go y d pc ls (.int i :: .long x :: st) σ Q :=
  fun l G p e s m args below meth c H locs lsA R hH hS hL => lv_lshr R.1 R.2.1 hd hv (k l G p e s m args below meth c H locs lsA R hH hS hL)
theorem Go.lor {a b : Int64} (hd : decode y.2.1 pc = .ok (.lor, 1)) (k : Go y d (pc + 1) ls (.long (a ||| b) :: st) σ Q) : Go y d pc ls (.long b :: .long a :: st) σ Q :=
  fun l G p e s m args below meth c H locs lsA R hH hS hL => lv_lor R.1 R.2.1 hd (k l G p e s m args below meth c H locs lsA R hH hS hL)
theorem Go.land {a b : Int64} (hd : decode y.2.1 pc = .ok (.land, 1)) (k : Go y d (pc + 1) ls (.long (a &&& b) :: st) σ Q) : Go y d pc ls (.long b :: .long a :: st) σ Q :=
  fun l G p e s m args below meth c H locs lsA R hH hS hL => lv_land R.1 R.2.1 hd (k l G p e s m args below meth c H locs lsA R hH hS hL)
theorem Go.lcmp {a b : Int64} (hd : decode y.2.1 pc = .ok (.lcmp, 1)) (k : Go y d (pc + 1) ls (.int (lg_cmp a b) :: st) σ Q) : Go y d pc ls (.long b :: .long a :: st) σ Q :=
  fun l G p e s m args below meth c H locs lsA R hH hS hL => W.lcmp R.1 R.2.1 hd (k l G p e s m args below meth c H locs lsA R hH hS hL)
theorem Go.iret {v : Int32} (hr : y.2.2.2 = some .int) (hd : decode y.2.1 pc = .ok (.ireturn, 1)) (k : Q (some (.int v)) σ) : Go y d pc ls [.int v] σ Q := by
  intro l G p e s m args below meth c H locs lsA R hH hS hL
  have hlocks := R.2.2.2.2.2.2.1
  exact W.iret R.1 R.2.1 (R.2.2.1.trans hr) (fun t ht _ => ⟨⟨some (.int v), σ, rfl, k, by rw [ht]; exact hH⟩, hS.F ht⟩) hS.2.2 hd
theorem Go.zret {v : Int32} {ty : FieldType} (hr : y.2.2.2 = some ty) (hn : narrow ty (.int v) = .int v) (hd : decode y.2.1 pc = .ok (.ireturn, 1)) (k : Q (some (.int v)) σ) : Go y d pc ls [.int v] σ Q := by
  intro l G p e s m args below meth c H locs lsA R hH hS hL
  have hlocks := R.2.2.2.2.2.2.1
  exact W.zret R.1 R.2.1 (R.2.2.1.trans hr) hn (fun t ht _ => ⟨⟨some (.int v), σ, rfl, k, by rw [ht]; exact hH⟩, hS.F ht⟩) hS.2.2 hd
theorem Go.vret (hr : y.2.2.2 = none) (hd : decode y.2.1 pc = .ok (.return_, 1)) (k : Q none σ) : Go y d pc ls [] σ Q := by
  intro l G p e s m args below meth c H locs lsA R hH hS hL
  have hlocks := R.2.2.2.2.2.2.1
  exact W.vret R.1 R.2.1 (R.2.2.1.trans hr) (fun t ht _ => ⟨⟨none, σ, rfl, k, by rw [ht]; exact hH⟩, hS.F ht⟩) hS.2.2 hd
end HEAP
