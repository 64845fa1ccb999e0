/-! what a pad is read as is a scene -/
def spOK (u : Int32) : Prop := 10 ≤ u.toInt ∧ u.toInt ≤ 50
def okP (P : Ps) : Prop := (∀ t ∈ P.2.2.2.2.2.1, okT t) ∧ (∀ u ∈ P.2.2.2.2.2.2, spOK u) ∧ ((1 ≤ P.1 ∧ P.1 ≤ 5) → (P.2.1 = 0 ∨ P.2.1 = 1)) ∧ (P.1 = 2 → 1 ≤ P.2.2.2.1.toInt ∧ P.2.2.2.1.toInt ≤ 300) ∧ ((3 ≤ P.1 ∧ P.1 ≤ 5) → 1 ≤ P.2.2.1.toInt ∧ P.2.2.1.toInt ≤ 300) ∧ ((P.1 = 4 ∨ P.1 = 5) → 1 ≤ P.2.2.2.1.toInt ∧ P.2.2.2.1.toInt ≤ 99) ∧ (P.1 = 5 → P.2.1 = 0) ∧ (P.1 = 8 → 1 ≤ P.2.2.2.1.toInt ∧ P.2.2.2.1.toInt ≤ 5)
section ROK
variable {q s : Nat} {w d n mi c : Int32} {T : List Tg} {U : List Int32}
theorem okP_mk (h1 : ∀ t ∈ T, okT t) (h2 : ∀ u ∈ U, spOK u) (h3 : (1 ≤ q ∧ q ≤ 5) → (w = 0 ∨ w = 1)) (h4 : q = 2 → 1 ≤ n.toInt ∧ n.toInt ≤ 300) (h5 : (3 ≤ q ∧ q ≤ 5) → 1 ≤ d.toInt ∧ d.toInt ≤ 300) (h6 : (q = 4 ∨ q = 5) → 1 ≤ n.toInt ∧ n.toInt ≤ 99) (h7 : q = 5 → w = 0) (h8 : q = 8 → 1 ≤ n.toInt ∧ n.toInt ≤ 5) : okP (q, w, d, n, mi, T, U) := ⟨h1, h2, h3, h4, h5, h6, h7, h8⟩
theorem dig_up {x : Int32} {b : Int} (hn : 1 ≤ n.toInt ∧ n.toInt ≤ 300) (h : (inI 0 9 x && decide (n * 10 + x ≤ c)) = true) (hc : c.toInt = b) : 10 ≤ (n * 10 + x).toInt ∧ (n * 10 + x).toInt ≤ b := by
  obtain ⟨h1, h2⟩ := Bool.and_eq_true_iff.mp h
  have h1 := of_decide_eq_true h1
  have h2 := of_decide_eq_true h2
  rw [Int32.le_iff_toInt_le, hc] at h2
  refine ⟨?_, h2⟩
  obtain ⟨a, ha, rfl⟩ := pos_nI (x := n) (by omega)
  obtain ⟨e, he, rfl⟩ := pos_nI (x := x) (by omega)
  rw [nI_toInt ha] at hn
  rw [nI_toInt he] at h1
  have e1 : nI a * 10 + nI e = nI (a * 10 + e) := by
    show nI a * nI 10 + nI e = _
    rw [pk_mul, nI_add]
  rw [e1, nI_toInt (by omega)]
  omega
theorem okT_add {t : Tg} (h : ∀ t ∈ T, okT t) (ht : okT t) : ∀ x ∈ T ++ [t], okT x := fun x hx => by
  rcases List.mem_append.mp hx with z | z
  · exact h x z
  · rw [List.mem_singleton.mp z]; exact ht
theorem okU_add {u : Int32} (h : ∀ u ∈ U, spOK u) (hu : spOK u) : ∀ x ∈ U ++ [u], spOK x := fun x hx => by
  rcases List.mem_append.mp hx with z | z
  · exact h x z
  · rw [List.mem_singleton.mp z]; exact hu
theorem mv_ok {x : Int32} (h : inI 1 5 x = true) (b : Int32) : -5 ≤ (if b = 0 then x else -x).toInt ∧ (if b = 0 then x else -x).toInt ≤ 5 := by
  have h1 := of_decide_eq_true h
  obtain ⟨e, he, rfl⟩ := pos_nI (x := x) (by omega)
  rw [nI_toInt he] at h1
  rcases (show e = 1 ∨ e = 2 ∨ e = 3 ∨ e = 4 ∨ e = 5 by omega) with rfl | rfl | rfl | rfl | rfl <;> by_cases hb : b = 0 <;> simp only [hb, if_true, if_false] <;> decide
theorem zb5 : -5 ≤ (0 : Int32).toInt ∧ (0 : Int32).toInt ≤ 5 := by decide
theorem in_bd {a b : Int} {x : Int32} (h : inI a b x = true) : a ≤ x.toInt ∧ x.toInt ≤ b := of_decide_eq_true h
theorem ok_step {P' : Ps} (h : okP (q, w, d, n, mi, T, U)) (hq : q ≤ 9) (hs : stepP (q, w, d, n, mi, T, U) c = some P') : okP P' := by
  obtain ⟨h1, h2, h3, h4, h5, h6, h7, h8⟩ := h
  have a1 : ∀ t ∈ T, okT t := h1
  have a2 : ∀ u ∈ U, spOK u := h2
  have a3 : (1 ≤ q ∧ q ≤ 5) → (w = 0 ∨ w = 1) := h3
  have a4 : q = 2 → 1 ≤ n.toInt ∧ n.toInt ≤ 300 := h4
  have a5 : (3 ≤ q ∧ q ≤ 5) → 1 ≤ d.toInt ∧ d.toInt ≤ 300 := h5
  have a6 : (q = 4 ∨ q = 5) → 1 ≤ n.toInt ∧ n.toInt ≤ 99 := h6
  have a7 : q = 5 → w = 0 := h7
  have a8 : q = 8 → 1 ≤ n.toInt ∧ n.toInt ≤ 5 := h8
  clear h1 h2 h3 h4 h5 h6 h7 h8
  rcases (show q = 0 ∨ q = 1 ∨ q = 2 ∨ q = 3 ∨ q = 4 ∨ q = 5 ∨ q = 6 ∨ q = 7 ∨ q = 8 ∨ q = 9 by omega) with rfl | rfl | rfl | rfl | rfl | rfl | rfl | rfl | rfl | rfl
  · rcases ite_some hs with ⟨-, e⟩ | ⟨-, e⟩
    · injection e with e; subst e
      exact okP_mk a1 a2 (fun _ => Or.inl rfl) (fun z => by omega) (fun z => by omega) (fun z => by omega) (fun z => by omega) (fun z => by omega)
    · rcases ite_some e with ⟨-, e⟩ | ⟨-, e⟩
      · injection e with e; subst e
        exact okP_mk a1 a2 (fun _ => Or.inr rfl) (fun z => by omega) (fun z => by omega) (fun z => by omega) (fun z => by omega) (fun z => by omega)
      · cases e
  · rcases ite_some hs with ⟨z, e⟩ | ⟨-, e⟩
    · injection e with e; subst e
      have := in_bd z
      exact okP_mk a1 a2 (fun _ => a3 (by omega)) (fun _ => by omega) (fun z => by omega) (fun z => by omega) (fun z => by omega) (fun z => by omega)
    · cases e
  · rcases ite_some hs with ⟨-, e⟩ | ⟨-, e⟩
    · injection e with e; subst e
      exact okP_mk a1 a2 (fun _ => a3 (by omega)) (fun z => by omega) (fun _ => a4 rfl) (fun z => by omega) (fun z => by omega) (fun z => by omega)
    · rcases ite_some e with ⟨z, e⟩ | ⟨-, e⟩
      · injection e with e; subst e
        have := dig_up (a4 rfl) z (b := 300) rfl
        exact okP_mk a1 a2 (fun _ => a3 (by omega)) (fun _ => ⟨Int.le_trans (by decide) this.1, this.2⟩) (fun z => by omega) (fun z => by omega) (fun z => by omega) (fun z => by omega)
      · cases e
  · rcases ite_some hs with ⟨z, e⟩ | ⟨-, e⟩
    · injection e with e; subst e
      have := in_bd z
      exact okP_mk a1 a2 (fun _ => a3 (by omega)) (fun z => by omega) (fun _ => a5 (by omega)) (fun _ => by omega) (fun z => by omega) (fun z => by omega)
    · cases e
  · have t4 : okT (d, n, 0, w) := ⟨a5 (by omega), a6 (Or.inl rfl), zb5, a3 (by omega), fun _ => rfl⟩
    rcases ite_some hs with ⟨z, e⟩ | ⟨-, e⟩
    · injection e with e; subst e
      have b6 := a6 (Or.inl rfl)
      have := dig_up (n := n) (by omega) z (b := 99) rfl
      exact okP_mk a1 a2 (fun _ => a3 (by omega)) (fun z => by omega) (fun _ => a5 (by omega)) (fun _ => ⟨Int.le_trans (by decide) this.1, this.2⟩) (fun z => by omega) (fun z => by omega)
    · rcases ite_some e with ⟨z, e⟩ | ⟨-, e⟩
      · injection e with e; subst e
        exact okP_mk a1 a2 (fun _ => a3 (by omega)) (fun z => by omega) (fun _ => a5 (by omega)) (fun _ => a6 (Or.inl rfl)) (fun _ => z.1) (fun z => by omega)
      · rcases ite_some e with ⟨-, e⟩ | ⟨-, e⟩
        · injection e with e; subst e
          exact okP_mk (okT_add a1 t4) a2 (fun z => by omega) (fun z => by omega) (fun z => by omega) (fun z => by omega) (fun z => by omega) (fun z => by omega)
        · rcases ite_some e with ⟨-, e⟩ | ⟨-, e⟩
          · injection e with e; subst e
            exact okP_mk (okT_add a1 t4) a2 (fun z => by omega) (fun z => by omega) (fun z => by omega) (fun z => by omega) (fun z => by omega) (fun z => by omega)
          · cases e
  · rcases ite_some hs with ⟨z, e⟩ | ⟨-, e⟩
    · injection e with e; subst e
      exact okP_mk (okT_add a1 ⟨a5 (by omega), a6 (Or.inr rfl), mv_ok z mi, a3 (by omega), fun z2 => absurd (z2.symm.trans (a7 rfl)) one_ne⟩) a2 (fun z => by omega) (fun z => by omega) (fun z => by omega) (fun z => by omega) (fun z => by omega) (fun z => by omega)
    · cases e
  · rcases ite_some hs with ⟨-, e⟩ | ⟨-, e⟩
    · injection e with e; subst e
      exact okP_mk a1 a2 (fun z => by omega) (fun z => by omega) (fun z => by omega) (fun z => by omega) (fun z => by omega) (fun z => by omega)
    · rcases ite_some e with ⟨-, e⟩ | ⟨-, e⟩
      · injection e with e; subst e
        exact okP_mk a1 a2 (fun z => by omega) (fun z => by omega) (fun z => by omega) (fun z => by omega) (fun z => by omega) (fun z => by omega)
      · cases e
  · rcases ite_some hs with ⟨z, e⟩ | ⟨-, e⟩
    · injection e with e; subst e
      have := in_bd z
      exact okP_mk a1 a2 (fun z => by omega) (fun z => by omega) (fun z => by omega) (fun z => by omega) (fun z => by omega) (fun _ => by omega)
    · cases e
  · rcases ite_some hs with ⟨z, e⟩ | ⟨-, e⟩
    · injection e with e; subst e
      have b8 := a8 rfl
      have := dig_up (n := n) (by omega) z (b := 50) rfl
      exact okP_mk a1 (okU_add a2 this) (fun z => by omega) (fun z => by omega) (fun z => by omega) (fun z => by omega) (fun z => by omega) (fun z => by omega)
    · cases e
  · rcases ite_some hs with ⟨z0, e⟩ | ⟨-, e⟩
    · injection e with e; subst e
      exact okP_mk a1 a2 (fun z => by omega) (fun z => by omega) (fun z => by omega) (fun z => by omega) (fun z => by omega) (fun z => by omega)
    · cases e
def okR (r : List Tg × List Int32) (m : Nat) : Prop := (∀ t ∈ r.1, okT t) ∧ (∀ u ∈ r.2, spOK u) ∧ 5 * r.1.length ≤ m + 1 ∧ r.2.length ≤ 4
theorem run_ok {r : List Tg × List Int32} : ∀ (l : List Int32) (P : Ps) (s : Nat), invP P s → okP P → runP P l s = .inr r → okR r (s + l.length) := by
  intro l
  induction l with
  | nil =>
    rintro ⟨q, w, d, n, mi, T, U⟩ s hi h hr
    have i1 : q ≤ 9 := hi.1
    have i2 : 5 * T.length + (if q ≤ 5 then q else 0) ≤ s := hi.2.1
    have i5 : U.length ≤ 4 := hi.2.2.2.2.1
    obtain ⟨h1, h2, h3, h4, h5, h6, h7, h8⟩ := h
    have a1 : ∀ t ∈ T, okT t := h1
    have a2 : ∀ u ∈ U, spOK u := h2
    have a3 : (1 ≤ q ∧ q ≤ 5) → (w = 0 ∨ w = 1) := h3
    have a5 : (3 ≤ q ∧ q ≤ 5) → 1 ≤ d.toInt ∧ d.toInt ≤ 300 := h5
    have a6 : (q = 4 ∨ q = 5) → 1 ≤ n.toInt ∧ n.toInt ≤ 99 := h6
    rcases (show q = 0 ∨ q = 1 ∨ q = 2 ∨ q = 3 ∨ q = 4 ∨ q = 5 ∨ q = 6 ∨ q = 7 ∨ q = 8 ∨ q = 9 by omega) with rfl | rfl | rfl | rfl | rfl | rfl | rfl | rfl | rfl | rfl
    · cases hr
    · cases hr
    · cases hr
    · cases hr
    · injection hr with hr; subst hr
      refine ⟨okT_add a1 ⟨a5 (by omega), a6 (Or.inl rfl), zb5, a3 (by omega), fun _ => rfl⟩, a2, ?_, i5⟩
      show 5 * (T ++ [(d, n, 0, w)]).length ≤ _
      rw [List.length_append, List.length_singleton]
      simp at i2 ⊢
      omega
    · cases hr
    · injection hr with hr; subst hr
      exact ⟨a1, a2, by simp at i2 ⊢; omega, i5⟩
    · cases hr
    · cases hr
    · injection hr with hr; subst hr
      exact ⟨a1, a2, by simp at i2 ⊢; omega, i5⟩
  | cons c l ih =>
    rintro ⟨q, w, d, n, mi, T, U⟩ s hi h hr
    unfold runP at hr
    rcases hs : stepP (q, w, d, n, mi, T, U) c with _ | P'
    · rw [hs] at hr; cases hr
    · rw [hs] at hr
      have := ih P' (s + 1) (inv_step hi hs) (ok_step h hi.1 hs) hr
      rw [show s + (c :: l).length = s + 1 + l.length by rw [List.length_cons]; omega]
      exact this
theorem read_ok {p : List Int32} {r : List Tg × List Int32} (h : runP P0 p 0 = .inr r) : okR r p.length := by
  have := run_ok p P0 0 (inv_mk (by decide) (by decide) (fun _ => rfl) (fun z => absurd z (by decide)) (by decide) (fun z => absurd z.1 (by decide))) (okP_mk (fun t ht => (by cases ht)) (fun u hu => (by cases hu)) (fun z => by omega) (fun z => by omega) (fun z => by omega) (fun z => by omega) (fun z => by omega) (fun z => by omega)) h
  rw [Nat.zero_add] at this
  exact this
end ROK
section BFAULT
variable {A : Ab}
theorem FrR.S {a b : St} (h : FrR a b) : Fr scr a b := h.fr (fun x y z => by unfold scr; omega) (fun x z => by unfold scr; omega) (fun z => z.elim)
theorem FrR.M {a b : St} (h : FrR a b) : FrM a b := fun c hc => ⟨by funext k; exact h.1 c k (by omega), h.2.1 c (by omega)⟩
theorem FrQ.N {a b : St} (h : FrQ a b) : FrN a b := FrX.N h (fun x y z => ⟨z.1, by omega, by omega, by omega⟩) (fun x z => by omega)
theorem lk_fault (hA : okA A) : ∃ r, LkC A r mX5_fault [.ref 0] ∧ LkM A r mX6_fault [.ref 64] := by
  have hl := hA.2.2.2.2.1
  have hc := hA.2.2.2.2.2
  rcases h : runP P0 A.2.2.2 0 with s | r
  · refine ⟨nI s, fun σ K hcr k => cgX5_fault (ct_read hcr.2.2.2.2.1 hcr.2.2.2.2.2 hl hc (fun s' hs σ' f => ?_) (fun r hr => ?_)), fun σ K hm k => ct_mfault hl hm.2.2.2 (fun s' hs σ' f => ?_) (fun r hr => ?_)⟩
    · rw [h] at hs; injection hs with hs; subst hs
      exact k σ' f.S f.M
    · rw [h] at hr; cases hr
    · rw [h] at hs; injection hs with hs; subst hs
      exact k σ' f.N
    · rw [h] at hr; cases hr
  · refine ⟨-4, fun σ K hcr k => cgX5_fault (ct_read hcr.2.2.2.2.1 hcr.2.2.2.2.2 hl hc (fun s hs => ?_) (fun r hr σ' f t => k σ' f.S f.M)), fun σ K hm k => ct_mfault hl hm.2.2.2 (fun s hs => ?_) (fun r hr σ' f t => k σ' f.N)⟩
    · rw [h] at hs; cases hs
    · rw [h] at hs; cases hs
theorem bo_fault (hA : okA A) : Both A mX5_fault [.ref 0] mX6_fault [.ref 64] := both_lk hA (lk_fault hA)
end BFAULT
