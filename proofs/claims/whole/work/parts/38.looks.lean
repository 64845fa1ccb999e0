/-! look calls: both classes answer alike -/
/-- the model's picture stays -/
def FrN (σ σ' : St) : Prop := Fr mod σ σ' ∧ (sF σ' 64 2 = sF σ 64 2 ∧ sF σ' 64 4 = sF σ 64 4 ∧ sF σ' 64 6 = sF σ 64 6) ∧ ∀ c, 65 ≤ c → c ≤ 68 → sA σ' c = sA σ c
theorem FrN.rf (σ : St) : FrN σ σ := ⟨Fr.rf σ, ⟨rfl, rfl, rfl⟩, fun _ _ _ => rfl⟩
theorem FrN.tr {a b c : St} (h : FrN a b) (k : FrN b c) : FrN a c := ⟨h.1.tr k.1, ⟨k.2.1.1.trans h.2.1.1, k.2.1.2.1.trans h.2.1.2.1, k.2.1.2.2.trans h.2.1.2.2⟩, fun x h1 h2 => (k.2.2 x h1 h2).trans (h.2.2 x h1 h2)⟩
theorem mR.keepN {σ σ' : St} {A : Ab} (h : mR σ A) (f : FrN σ σ') : mR σ' A := by
  obtain ⟨h1, ⟨h2, h2'⟩, ⟨h3, h3'⟩, h4, h4'⟩ := h
  obtain ⟨-, ⟨e2, e4, e6⟩, e⟩ := f
  refine ⟨by rw [e 65 (by omega) (by omega)]; exact h1, ⟨by rw [e2]; exact h2, fun q T hq => by rw [e 66 (by omega) (by omega)]; exact h2' q T hq⟩, ⟨by rw [e4]; exact h3, fun T hT => by rw [e 67 (by omega) (by omega)]; exact h3' T hT⟩, by rw [e6]; exact h4, fun i c hc => by rw [e 68 (by omega) (by omega)]; exact h4' i c hc⟩
theorem FrX.N {P : Nat → Nat → Prop} {C : Nat → Prop} {a b : St} (h : FrX P C False a b) (hp : ∀ x y, P x y → x = 64 ∧ y ≠ 2 ∧ y ≠ 4 ∧ y ≠ 6) (hc : ∀ x, C x → 69 ≤ x) : FrN a b := by
  refine ⟨h.fr (fun x y z => by have := hp x y z; unfold mod; omega) (fun x z => by have := hc x z; unfold mod; omega) (fun z => z.elim), ⟨h.1 _ _ (fun z => (hp _ _ z).2.1 rfl), h.1 _ _ (fun z => (hp _ _ z).2.2.1 rfl), h.1 _ _ (fun z => (hp _ _ z).2.2.2 rfl)⟩, fun c h1 h2 => h.2.1 c (fun z => by have := hc c z; omega)⟩
theorem FrY.N {a b : St} (h : FrY a b) : FrN a b := FrX.N h (fun x y z => ⟨z.1, by omega, by omega, by omega⟩) (fun x z => z.1)
theorem FrL.S {a b : St} (h : FrL a b) : Fr scr a b := h.fr (fun x y z => by unfold scr; omega) (fun x z => by unfold scr; omega) (fun _ => by unfold scr; omega)
theorem FrL.M {a b : St} (h : FrL a b) : FrM a b := fun c hc => ⟨by funext k; exact h.1 c k (by omega), h.2.1 c (by omega)⟩
def LkC (A : Ab) (r : Int32) (m : MI) (as : List Value) : Prop := ∀ (σ : St) (K : Int32 → St → Prop), cR σ A → (∀ σ', Fr scr σ σ' → FrM σ σ' → K r σ') → CallI 9 m as σ K
def LkM (A : Ab) (r : Int32) (m : MI) (as : List Value) : Prop := ∀ (σ : St) (K : Int32 → St → Prop), mR σ A → (∀ σ', FrN σ σ' → K r σ') → CallI 9 m as σ K
theorem lt7 {j : Nat} (h : j < 7) : j = 0 ∨ j = 1 ∨ j = 2 ∨ j = 3 ∨ j = 4 ∨ j = 5 ∨ j = 6 := by omega
/-- a number within 0..n, or not -/
theorem wi_cases {n : Nat} (x : Int32) (hn : n < 2 ^ 20) : (decide ((0 : Int32).toInt ≤ x.toInt ∧ x.toInt ≤ (nI n).toInt) = false) ∨ ∃ j, j ≤ n ∧ x = nI j ∧ decide ((0 : Int32).toInt ≤ x.toInt ∧ x.toInt ≤ (nI n).toInt) = true := by
  rw [k0, nI_toInt (show n < 2 ^ 31 by omega)]
  by_cases h : 0 ≤ x.toInt ∧ x.toInt ≤ (n : Int)
  · obtain ⟨j, hj, rfl⟩ := pos_nI (x := x) h.1
    refine Or.inr ⟨j, ?_, rfl, decide_eq_true h⟩
    rw [nI_toInt hj] at h
    omega
  · exact Or.inl (decide_eq_false h)
theorem neg_cases (x : Int32) : x < 0 ∨ ∃ j, j < 2 ^ 31 ∧ x = nI j ∧ ¬ x < 0 := by
  by_cases h : x < 0
  · exact Or.inl h
  · have h' := h
    rw [Int32.lt_iff_toInt_lt, k0] at h
    obtain ⟨j, hj, rfl⟩ := pos_nI (x := x) (by omega)
    exact Or.inr ⟨j, hj, rfl, h'⟩
section LOOKS
variable {d : Nat} {σ : St} {A : Ab} {S : Sn} {E : En}
theorem ct_asNumber {K : Int32 → St → Prop} {b : Bool} (k : K (bI b) σ) : CallI (d + 1) mX5_asNumber [.int (bI b)] σ K := by
  refine cgX5_asNumber (bI_br (fun e => ?_) (fun e => ?_))
  · rw [e] at k; exact k
  · rw [e] at k; exact k
theorem lk_fits (hA : okA A) (x v w : Int32) : ∃ r, LkC A r mX5_fits [.ref 0, .int x, .int v, .int w] ∧ LkM A r mX6_fits [.ref 64, .int x, .int v, .int w] := by
  have hok := hA.1
  have hm := hok.2.2.2.1
  cases h1 : decide ((1 : Int32).toInt ≤ x.toInt ∧ x.toInt ≤ (600 : Int32).toInt)
  · exact ⟨-1, fun σ K h k => cgX5_fits (ct_isWithin (by rw [h1]; exact br_t rfl (k σ (Fr.rf σ) (FrM.rf σ)))), fun σ K h k => cgX6_fits (ct_in (by rw [h1]; exact br_t rfl (k σ (FrN.rf σ))))⟩
  cases h2 : decide ((-5 : Int32).toInt ≤ v.toInt ∧ v.toInt ≤ (5 : Int32).toInt)
  · exact ⟨-1, fun σ K h k => cgX5_fits (ct_isWithin (by rw [h1]; exact br_f one_ne (ct_isWithin (by rw [h2]; exact br_t rfl (k σ (Fr.rf σ) (FrM.rf σ)))))), fun σ K h k => cgX6_fits (ct_in (by rw [h1]; exact br_f one_ne (ct_in (by rw [h2]; exact br_t rfl (k σ (FrN.rf σ))))))⟩
  have hv := of_decide_eq_true h2
  rw [k5, show (-5 : Int32).toInt = -5 from rfl] at hv
  obtain ⟨q, hq, e⟩ := pitch_of hv
  rcases ix_cases (n := A.1.2.1.length) w (by omega) with ⟨h3, h3'⟩ | ⟨j, hj, rfl, h3⟩
  · exact ⟨-1, fun σ K h k => cgX5_fits (ct_isWithin (by rw [h1]; exact br_f one_ne (ct_isWithin (by rw [h2]; exact br_f one_ne (ct_hasTurn0 one_sc h.1 h3' (br_c' (fun c => absurd rfl c) (fun _ => k σ (Fr.rf σ) (FrM.rf σ)))))))), fun σ K h k => cgX6_fits (ct_in (by rw [h1]; exact br_f one_ne (ct_in (by rw [h2]; exact br_f one_ne (ct_isTurn (n := A.1.2.1.length) h.1.2.1 (by omega) (by rw [h3]; exact (br_c' (fun c => absurd rfl c) (fun _ => k σ (FrN.rf σ)))))))))⟩
  · subst e
    refine ⟨nI (fitE (enS A.1) x (pv q) j), fun σ K h k => cgX5_fits (ct_isWithin (by rw [h1]; exact br_f one_ne (ct_isWithin (by rw [h2]; exact br_f one_ne (ct_hasTurn one_sc h.1 hm hj (br_c' (fun _ => ct_listen one_sc h.1 hok (fun σ' f e => ct_fitOf (okE_S hok) e hj hq (k σ' f.S f.M))) (fun c => absurd c one_ne))))))), fun σ K h k => cgX6_fits (ct_in (by rw [h1]; exact br_f one_ne (ct_in (by rw [h2]; exact br_f one_ne (ct_isTurn (n := A.1.2.1.length) h.1.2.1 (by omega) (by rw [h3]; exact (br_c' (fun _ => ct_mlisten h.1 hok (fun σ' f e => ct_mfit (okE_S hok) e hj hq (k σ' f.N))) (fun c => absurd c one_ne))))))))⟩
end LOOKS
