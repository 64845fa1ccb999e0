/-! the law from its entry -/
def A0 : Ab := (([], [20], 0, 1), [], none, [])
def σ0 : St := (fun a k => if (a = 1 ∨ a = 7 ∨ a = 13 ∨ a = 20 ∨ a = 26 ∨ a = 32 ∨ a = 38) ∧ (k = 6 ∨ k = 8) then 1 else 0, fun a => if a = 6 ∨ a = 12 ∨ a = 18 ∨ a = 25 ∨ a = 31 ∨ a = 37 ∨ a = 43 then upd (fun _ => 0) 0 20 else if a = 66 then upd (upd (upd (fun _ => 0) 0 20) 5 1) 7 1 else fun _ => 0, fun _ => 0, fun j => if j = 0 then 20 else if j = 1 then 26 else if j = 2 then 32 else 38)
theorem ok0 : okA A0 := ⟨⟨by decide, fun t ht => (by cases ht), by decide, by decide, fun s hs => (by rw [List.mem_singleton.mp hs]; decide), by decide, by decide⟩, by decide, fun T hT => (by cases hT), fun T hT => (by cases hT), by decide, fun c hc => (by cases hc)⟩
theorem cR0 : cR σ0 A0 := by
  refine ⟨⟨rfl, rfl, rfl, rfl, fun i t ht => (by cases ht), fun j s hs => ?_⟩, ⟨rfl, fun q T hq => (by cases hq)⟩, ⟨fun i hi => ?_, fun i j hi hj h => ?_⟩, ⟨rfl, fun T hT => (by cases hT)⟩, rfl, fun i c hc => (by cases hc)⟩
  · have hs' : [(20 : Int32)][j]? = some s := hs
    have hl := lt_of hs'
    have hj : j = 0 := by simpa using hl
    subst hj
    exact Option.some.inj hs'
  · rcases (show i = 0 ∨ i = 1 ∨ i = 2 ∨ i = 3 by omega) with rfl | rfl | rfl | rfl
    · exact Or.inl rfl
    · exact Or.inr (Or.inl rfl)
    · exact Or.inr (Or.inr (Or.inl rfl))
    · exact Or.inr (Or.inr (Or.inr rfl))
  · have inj : ∀ i, i < 4 → ∀ j, j < 4 → sP σ0 i = sP σ0 j → i = j := by decide +kernel
    exact inj i hi j hj h
theorem fit0 : pm_fit σ0 := by
  intro k n hk j
  have hlt := shp_lt hk
  have h1 : ∀ k, k < 67 → (match shp[k]? with
    | some (1, 1, _) => decide (k = 5 ∨ k = 11 ∨ k = 17 ∨ k = 24 ∨ k = 30 ∨ k = 36 ∨ k = 42 ∨ k = 50)
    | _ => true) = true := by decide +kernel
  have h2 := h1 k hlt
  rw [hk] at h2
  have h3 := of_decide_eq_true h2
  rcases h3 with rfl | rfl | rfl | rfl | rfl | rfl | rfl | rfl <;> rfl
theorem va_P.refs {D : va_G} {cl : List vw_C} {ws : va_W} {H : Heap} {k a n : Nat} {cA : ClassId} {f g : Nat → Option Nat} (h : va_P D cl ws H) (hk : ws[k]? = some (a, .inl (cA, n, .inr (.inr (.inr (.inr f)))))) (hfg : ∀ j, j < n → f j = g j) : va_P D cl (ws.set k (a, .inl (cA, n, .inr (.inr (.inr (.inr g)))))) H := by
  intro k' q hq
  rcases Nat.decEq k' k with hne | rfl
  · rw [List.getElem?_set_ne (fun z => hne z.symm)] at hq
    exact h k' q hq
  · rw [List.getElem?_set_self (List.getElem?_eq_some_iff.mp hk).1] at hq
    injection hq with hq
    subst hq
    have h0 : H[a]? = some (vp_cell cA (n, .inr (.inr (.inr (.inr f))))) := h k' _ hk
    show H[a]? = some (vp_cell cA (n, .inr (.inr (.inr (.inr g)))))
    rw [h0, vp_cell_q, vp_cell_q]
    unfold arrV
    congr 2
    apply Array.ext
    · simp
    · intro j h1 h2
      simp at h1
      simp [hfg j h1]
theorem arr_known {s : State} {args : Array Value} {ty : FieldType} (h : (Cond.arrayClass ty).before args s = true) : ∃ c, ArrOfT s c ty ∧ s.vm.findClass ("[" ++ ty.toString) = some c := by
  obtain ⟨c, k, comp, h1, h2, h3⟩ := Cond.arrayClass_spec h
  exact ⟨c, fun n z => ⟨fun k h => (by cases h), k, h2, comp, h3⟩, h1⟩
abbrev ad0 (a : Nat → Nat) (Q : List Nat) : Nat → Nat := fun k => if k < 64 then a k else Q.getD (k - 64) 0
def cLw (N : NC) (q0 q1 q2 : Nat) (f : Nat → Int32) : va_W := [(q0, .inl (N.2.1 0, 24, .inl fun _ => 0)), (q1, .inl (N.2.1 0, 63, .inl fun _ => 0)), (q2, .inl (N.2.1 0, 9, .inl f))]
set_option maxHeartbeats 4000000 in
set_option maxRecDepth 100000 in
theorem world0 (N : NC) (a : Nat → Nat) (q0 q1 q2 b : Nat) : (cX5w N a ++ cLw N q0 q1 q2 (upd (upd (upd (fun _ => 0) 0 20) 5 1) 7 1)).set 19 (a 19, .inl (N.2.1 4, 4, .inr (.inr (.inr (.inr (fun j => some (ad0 a [q0, q1, q2, b] (sP σ0 j)))))))) = pm_W (N.1, N.2.1, ad0 a [q0, q1, q2, b]) σ0 := rfl
theorem lW0 : lW σ0 A0 := by
  refine ⟨cR0, ⟨rfl, fun i t ht => by cases ht⟩, rfl, rfl, rfl, fun j s hs => ?_⟩
  have hs' : [(20 : Int32)][j]? = some s := hs
  have hl := lt_of hs'
  have hj : j = 0 := by simpa using hl
  subst hj
  exact Option.some.inj hs'
