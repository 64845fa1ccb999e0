/-! what is counted one way and the other -/
theorem countP_or {α : Type} (p q : α → Bool) (l : List α) : l.countP (fun e => p e || q e) = l.countP p + l.countP (fun e => !p e && q e) := by
  induction l with
  | nil => rfl
  | cons a l ih =>
    rw [List.countP_cons, List.countP_cons, List.countP_cons, ih]
    cases p a <;> cases q a <;> simp <;> omega
theorem countP_not {α : Type} (p : α → Bool) (l : List α) : l.countP (fun e => !p e) + l.countP p = l.length := by
  induction l with
  | nil => rfl
  | cons a l ih =>
    rw [List.countP_cons, List.countP_cons, List.length_cons]
    cases p a <;> simp <;> omega
theorem countP_sm (f : Nat → Bool) (n : Nat) : (List.range n).countP f = sm (fun j => bN (f j)) n := by
  induction n with
  | zero => rfl
  | succ n ih => rw [countP_rs, ih]; rfl
theorem allP_one : ∀ q, q < 11 → allP.countP (fun v => decide (v = pv q)) = 1 := by decide
theorem TL_one {E : En} {x q : Nat} (hx : x < 600) (hq : q < 11) : ∀ n, n ≤ 600 → (TL E allP n).countP (fun e => decide (nI (x + 1) = e.1) && decide (pv q = e.2)) = if x < n ∧ told E (nI (x + 1)) (pv q) = true then 1 else 0 := by
  intro n
  induction n with
  | zero => intro _; rw [if_neg (by omega)]; rfl
  | succ n ih =>
    intro hn
    show (TL E allP n ++ (allP.filter (told E (nI (n + 1)))).map (fun v => (nI (n + 1), v))).countP _ = _
    rw [List.countP_append, ih (by omega), List.countP_map]
    by_cases h : x = n
    · subst h
      rw [if_neg (by omega), Nat.zero_add, List.countP_filter]
      have e1 : ((fun e : Int32 × Int32 => decide (nI (x + 1) = e.1) && decide (pv q = e.2)) ∘ fun v => (nI (x + 1), v)) = fun v => decide (v = pv q) := by
        funext v
        show (decide (nI (x + 1) = nI (x + 1)) && decide (pv q = v)) = _
        rw [decide_eq_true rfl, Bool.true_and]
        by_cases hv : pv q = v
        · rw [decide_eq_true hv, decide_eq_true hv.symm]
        · rw [decide_eq_false hv, decide_eq_false (fun z => hv z.symm)]
      rw [e1]
      have e2 : allP.countP (fun a => decide (a = pv q) && told E (nI (x + 1)) a) = allP.countP (fun a => decide (a = pv q) && told E (nI (x + 1)) (pv q)) := by
        apply List.countP_congr
        intro a _
        by_cases ha : a = pv q
        · rw [ha]
        · rw [decide_eq_false ha]; simp
      rw [e2]
      cases ht : told E (nI (x + 1)) (pv q)
      · simp
      · simp only [Bool.and_true]
        rw [allP_one q hq, if_pos ⟨by omega, trivial⟩]
    · have e0 : (allP.filter (told E (nI (n + 1)))).countP ((fun e : Int32 × Int32 => decide (nI (x + 1) = e.1) && decide (pv q = e.2)) ∘ fun v => (nI (n + 1), v)) = 0 := by
        rw [List.countP_eq_zero]
        intro v _
        show ¬ (decide (nI (x + 1) = nI (n + 1)) && decide (pv q = v)) = true
        rw [decide_eq_false (fun z => by have := (nI_eq (a := x + 1) (b := n + 1) (by omega) (by omega)).mp z; omega)]
        simp
      rw [e0, Nat.add_zero]
      by_cases h1 : x < n ∧ told E (nI (x + 1)) (pv q) = true
      · rw [if_pos h1, if_pos ⟨by omega, h1.2⟩]
      · rw [if_neg h1, if_neg (fun z => h1 ⟨by omega, z.2⟩)]
theorem bd_one {E : En} {b : Bd} (hb : okBd b) : (tolds E).countP (fun e => decide (b.1 = e.1) && decide (b.2.2.1 = e.2)) = bN (told E b.1 b.2.2.1) := by
  obtain ⟨m, hm, e1⟩ := pos_nI (x := b.1) (by have := hb.1; omega)
  obtain ⟨q, hq, e2⟩ := pitch_of hb.2.2
  have h1 := hb.1
  rw [e1, nI_toInt hm] at h1
  have e2' : b.2.2.1 = pv q := e2
  rw [e1, e2', show m = (m - 1) + 1 by omega]
  unfold tolds
  rw [TL_one (by omega) hq 600 (Nat.le_refl _)]
  cases ht : told E (nI (m - 1 + 1)) (pv q)
  · rw [if_neg (fun z => by cases z.2)]; rfl
  · rw [if_pos ⟨by omega, rfl⟩]; rfl
theorem trC_eq {E : En} (hE : okE E) : ∀ i, i ≤ E.1.length → trC E i = (tolds E).countP (fun e => (E.1.take i).any (fun b => decide (b.1 = e.1) && decide (b.2.2.1 = e.2))) := by
  intro i
  induction i with
  | zero => intro _; rw [List.take_zero]; simp [trC]
  | succ i ih =>
    intro hi
    obtain ⟨b, hb⟩ := get_of (l := E.1) (i := i) (by omega)
    have hok := hE.2.1 b (List.mem_of_getElem? hb)
    have e1 : (fun e : Int32 × Int32 => (E.1.take (i + 1)).any (fun b => decide (b.1 = e.1) && decide (b.2.2.1 = e.2))) = fun e => ((E.1.take i).any (fun b => decide (b.1 = e.1) && decide (b.2.2.1 = e.2)) || (decide (b.1 = e.1) && decide (b.2.2.1 = e.2))) := by
      funext e
      rw [take_s hb, List.any_append]
      simp
    rw [e1, countP_or, ← ih (by omega)]
    have e2 : (tolds E).countP (fun e => !(E.1.take i).any (fun b => decide (b.1 = e.1) && decide (b.2.2.1 = e.2)) && (decide (b.1 = e.1) && decide (b.2.2.1 = e.2))) = (tolds E).countP (fun e => !(E.1.take i).any (fun b' => decide (b'.1 = b.1) && decide (b'.2.2.1 = b.2.2.1)) && (decide (b.1 = e.1) && decide (b.2.2.1 = e.2))) := by
      apply List.countP_congr
      intro e _
      by_cases h1 : b.1 = e.1
      · by_cases h2 : b.2.2.1 = e.2
        · rw [h1, h2]
        · rw [decide_eq_false h2]; simp
      · rw [decide_eq_false h1]; simp
    rw [e2]
    show trC E i + _ = _
    rw [hb]
    have e3 : ((E.1.take i).countP (posB b.1 b.2.2.1) == 0) = !(E.1.take i).any (fun b' => decide (b'.1 = b.1) && decide (b'.2.2.1 = b.2.2.1)) := by
      cases ha : (E.1.take i).any (fun b' => decide (b'.1 = b.1) && decide (b'.2.2.1 = b.2.2.1))
      · have : (E.1.take i).countP (posB b.1 b.2.2.1) = 0 := by
          rw [List.countP_eq_zero]
          intro b' hb' z
          exact (List.any_eq_false.mp ha b' hb') z
        rw [this]; rfl
      · obtain ⟨b', hb', z⟩ := List.any_eq_true.mp ha
        have : 0 < (E.1.take i).countP (posB b.1 b.2.2.1) := List.countP_pos_iff.mpr ⟨b', hb', z⟩
        have h0 : ¬ (E.1.take i).countP (posB b.1 b.2.2.1) = 0 := by omega
        simp [h0]
    show trC E i + (if told E b.1 b.2.2.1 && ((E.1.take i).countP (posB b.1 b.2.2.1) == 0) then 1 else 0) = _
    rw [e3]
    cases ha : (E.1.take i).any (fun b' => decide (b'.1 = b.1) && decide (b'.2.2.1 = b.2.2.1))
    · simp only [Bool.not_false, Bool.and_true, Bool.true_and]
      rw [bd_one hok]
      rfl
    · simp
theorem trC_all {E : En} (hE : okE E) : trC E E.1.length = (tolds E).countP (isTr E) := by
  rw [trC_eq hE _ (Nat.le_refl _), List.take_length]
  rfl
theorem phant_eq {E : En} (hE : okE E) : trC E E.1.length ≤ (tolds E).length ∧ (tolds E).length - trC E E.1.length = phant E := by
  have h := countP_not (isTr E) (tolds E)
  rw [trC_all hE]
  unfold phant
  omega
theorem sub_phant {E : En} (hE : okE E) : nI (tolds E).length - nI (trC E E.1.length) = nI (phant E) := by
  have h := phant_eq hE
  rw [pk_sub h.1, h.2]
theorem lsum_eq {E : En} : ∀ i, i ≤ E.1.length → lsum E i = sm (fun j => (E.1.take i).countP (ltJ E j)) E.2.1.length := by
  intro i
  induction i with
  | zero =>
    intro _
    rw [show (fun j => (E.1.take 0).countP (ltJ E j)) = fun _ => 0 by funext j; rfl, sm_zero]
    rfl
  | succ i ih =>
    intro hi
    obtain ⟨b, hb⟩ := get_of (l := E.1) (i := i) (by omega)
    have e1 : (fun j => (E.1.take (i + 1)).countP (ltJ E j)) = fun j => (E.1.take i).countP (ltJ E j) + bN (ltJ E j b) := by
      funext j
      rw [take_s hb, List.countP_append, List.countP_cons, List.countP_nil, Nat.zero_add]
      rfl
    rw [e1, sm_add, ← ih (by omega), ← countP_sm, lostB_eq]
    show lsum E i + _ = _
    rw [hb]
theorem lsum_all {E : En} : lsum E E.1.length = sm (fun j => E.1.countP (ltJ E j)) E.2.1.length := by
  rw [lsum_eq _ (Nat.le_refl _), List.take_length]
