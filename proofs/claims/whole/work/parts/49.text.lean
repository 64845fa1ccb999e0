/-! the scene's text, by the component and by the model -/
def dgt (n : Nat) : Int32 := nI (48 + n % 10)
def numS (n : Nat) : List Int32 := (if 100 ≤ n then [dgt (n / 100)] else []) ++ (if 10 ≤ n then [dgt (n / 10)] else []) ++ [dgt n]
def tgS (t : Tg) : List Int32 := [if t.2.2.2 = 1 then 119 else 116] ++ numS (ix t.1) ++ [42] ++ numS (ix t.2.1) ++ (if t.2.2.1 = 0 then [] else if 0 ≤ t.2.2.1 then [43] ++ numS (ix t.2.2.1) else [45] ++ numS (ix (-t.2.2.1)))
def jn (L : List Tg) : Nat → List Int32
  | 0 => []
  | i + 1 => (jn L i ++ (if i = 0 then [] else [44])) ++ (match L[i]? with | some t => tgS t | none => [])
def js (L : List Int32) : Nat → List Int32
  | 0 => []
  | j + 1 => (js L j ++ [if j = 0 then 59 else 47]) ++ (match L[j]? with | some s => numS (ix s) | none => [])
def txS (S : Sn) : List Int32 := if S.1.length = 0 then [] else jn S.1 S.1.length ++ js S.2.1 S.2.1.length
theorem numS_3 (n : Nat) : (numS n).length ≤ 3 := by
  unfold numS
  simp only [List.length_append]
  split <;> split <;> simp
theorem numS_2 {n : Nat} (h : n < 100) : (numS n).length ≤ 2 := by
  unfold numS
  simp only [List.length_append]
  rw [if_neg (by omega)]
  split <;> simp
theorem numS_1 {n : Nat} (h : n < 10) : numS n = [dgt n] := by
  unfold numS
  rw [if_neg (by omega), if_neg (by omega)]
  rfl
theorem okT_nat {t : Tg} (h : okT t) : (∃ a, t.1 = nI a ∧ 1 ≤ a ∧ a ≤ 300) ∧ (∃ s, t.2.1 = nI s ∧ 1 ≤ s ∧ s ≤ 99) ∧ (t.2.2.1 = 0 ∨ (∃ v, t.2.2.1 = nI v ∧ 1 ≤ v ∧ v ≤ 5) ∨ ∃ v, -t.2.2.1 = nI v ∧ 1 ≤ v ∧ v ≤ 5 ∧ ¬ 0 ≤ t.2.2.1 ∧ ¬ t.2.2.1 = 0) := by
  obtain ⟨h1, h2, h3, -, -⟩ := h
  refine ⟨?_, ?_, ?_⟩
  · obtain ⟨a, ha, e⟩ := pos_nI (x := t.1) (by omega)
    rw [e, nI_toInt ha] at h1
    exact ⟨a, e, by omega, by omega⟩
  · obtain ⟨a, ha, e⟩ := pos_nI (x := t.2.1) (by omega)
    rw [e, nI_toInt ha] at h2
    exact ⟨a, e, by omega, by omega⟩
  · obtain ⟨q, hq, e⟩ := pitch_of h3
    rw [e]
    have : ∀ q, q < 11 → (nI q - 5 = 0 ∨ (∃ v, v < 6 ∧ nI q - 5 = nI v ∧ 1 ≤ v ∧ v ≤ 5) ∨ ∃ v, v < 6 ∧ -(nI q - 5) = nI v ∧ 1 ≤ v ∧ v ≤ 5 ∧ ¬ 0 ≤ nI q - 5 ∧ ¬ nI q - 5 = 0) := by decide
    rcases this q hq with z | ⟨v, -, z⟩ | ⟨v, -, z⟩
    · exact Or.inl z
    · exact Or.inr (Or.inl ⟨v, z⟩)
    · exact Or.inr (Or.inr ⟨v, z⟩)
theorem tgS_9 {t : Tg} (h : okT t) : (tgS t).length ≤ 9 := by
  obtain ⟨-, ⟨s, es, s1, s2⟩, hv⟩ := okT_nat h
  have h1 := numS_3 (ix t.1)
  have h2 : (numS (ix t.2.1)).length ≤ 2 := numS_2 (by rw [es, ix_nI (by omega)]; omega)
  have h3 : (if t.2.2.1 = 0 then ([] : List Int32) else if 0 ≤ t.2.2.1 then [43] ++ numS (ix t.2.2.1) else [45] ++ numS (ix (-t.2.2.1))).length ≤ 2 := by
    rcases hv with z | ⟨v, e, v1, v2⟩ | ⟨v, e, v1, v2, v3, v4⟩
    · rw [if_pos z]; decide
    · split
      · decide
      · split
        · rw [e, ix_nI (by omega), numS_1 (by omega)]; exact Nat.le_refl _
        · rename_i c
          exact absurd (by rw [e]; exact nI_le (a := 0) (by omega) (by omega)) c
    · rw [if_neg v4, if_neg v3, e, ix_nI (by omega), numS_1 (by omega)]; exact Nat.le_refl _
  unfold tgS
  simp only [List.length_append, List.length_singleton] at h3 ⊢
  omega
theorem jn_len {L : List Tg} (h : ∀ t ∈ L, okT t) : ∀ i, i ≤ L.length → (jn L i).length ≤ 10 * i := by
  intro i
  induction i with
  | zero => intro _; exact Nat.le_refl _
  | succ i ih =>
    intro hi
    obtain ⟨t, ht⟩ := get_of (l := L) (i := i) (by omega)
    have h9 := tgS_9 (h t (List.mem_of_getElem? ht))
    have hi' := ih (by omega)
    show ((jn L i ++ (if i = 0 then ([] : List Int32) else [44])) ++ (match L[i]? with | some t => tgS t | none => [])).length ≤ _
    rw [ht, List.length_append, List.length_append]
    have : (if i = 0 then ([] : List Int32) else [44]).length ≤ 1 := by split <;> decide
    show (jn L i).length + _ + (tgS t).length ≤ _
    omega
theorem js_len (L : List Int32) (h : ∀ s ∈ L, 10 ≤ s.toInt ∧ s.toInt ≤ 50) : ∀ j, j ≤ L.length → (js L j).length ≤ 3 * j := by
  intro j
  induction j with
  | zero => intro _; exact Nat.le_refl _
  | succ j ih =>
    intro hj
    obtain ⟨s, hs⟩ := get_of (l := L) (i := j) (by omega)
    have hb := h s (List.mem_of_getElem? hs)
    obtain ⟨n, hn, e⟩ := pos_nI (x := s) (by omega)
    rw [e, nI_toInt hn] at hb
    have h2 : (numS (ix s)).length ≤ 2 := numS_2 (by rw [e, ix_nI (by omega)]; omega)
    have hj' := ih (by omega)
    show ((js L j ++ [if j = 0 then (59 : Int32) else 47]) ++ (match L[j]? with | some s => numS (ix s) | none => [])).length ≤ _
    rw [hs, List.length_append, List.length_append, List.length_singleton]
    show (js L j).length + 1 + (numS (ix s)).length ≤ _
    omega
/-- a text stands in a row: its length in a field -/
def txt (σ : St) (a k r : Nat) (L : List Int32) : Prop := sF σ a k = nI L.length ∧ ∀ (i : Nat) (c : Int32), L[i]? = some c → sA σ r i = c
theorem txt_app {σ : St} {a k r : Nat} {L : List Int32} {c : Int32} (h : txt σ a k r L) : txt (setF (setA σ r L.length c) a k (nI (L.length + 1))) a k r (L ++ [c]) := by
  refine ⟨?_, fun i x hx => ?_⟩
  · rw [sF_setF, if_pos ⟨rfl, rfl⟩, List.length_append]
    rfl
  · rw [sA_setF, sA_setA]
    rcases Nat.lt_or_ge i L.length with z | z
    · rw [List.getElem?_append_left z] at hx
      rw [if_neg (by omega)]
      exact h.2 i x hx
    · have hl := lt_of hx
      rw [List.length_append, List.length_singleton] at hl
      have hi : i = L.length := by omega
      subst hi
      rw [List.getElem?_append_right (Nat.le_refl _), Nat.sub_self] at hx
      injection hx with hx
      rw [if_pos ⟨rfl, rfl⟩, hx]
abbrev FrW (σ σ' : St) : Prop := FrX (fun c k => c = 52 ∧ k = 1) (fun c => c = 53) False σ σ'
abbrev FrU (σ σ' : St) : Prop := FrX (fun c k => c = 64 ∧ k = 12) (fun c => c = 72) False σ σ'
def chr (c : Int32) : Prop := nch c = c ∧ nch (c.toUInt32 % 65536).toInt32 = c
theorem chr_nI : ∀ n, n < 127 → chr (nI n) := by unfold chr; decide +kernel
theorem dgt_chr (n : Nat) : chr (dgt n) := chr_nI _ (by omega)
theorem dg_i2c : ∀ n, n < 127 → ((nI n).toUInt32 % 65536).toInt32 = nI n ∧ narrow .char (.int (nI n)) = .int (nI n) := by decide +kernel
section TEXT
variable {d : Nat} {σ : St} {b : Nat} {S : Sn} {L : List Int32}
theorem FrW.sc {σ σ' : St} (f : FrW σ σ') (hb : isSc b) (h : cSc σ b S) : cSc σ' b S := by
  have hl := sc_le hb
  exact h.keep (FrX.fr (D := fun c => c = 52 ∨ c = 53) f (fun x y z => Or.inl z.1) (fun x z => Or.inr z) (fun z => z.elim)) (fun c hc z => by unfold inSc at hc; omega)
theorem ct_wput {K : St → Prop} {c : Int32} (h : txt σ 52 1 53 L) (hl : L.length < 72) (hc : chr c) (k : ∀ σ', FrW σ σ' → txt σ' 52 1 53 (L ++ [c]) → K σ') : CallU (d + 1) mX4_put [.ref 52, .int c] σ K := by
  refine cgX4_put ?_
  rw [h.1, ix_nI (by omega), hc.1]
  refine br_f (nI_pos (by omega)) (br_f (nI_ge (b := 72) hl (by omega)) ⟨vp_in_nI (by omega) (by omega), ?_⟩)
  rintro _ rfl
  have e : sF (setA σ 53 L.length c) 52 1 + 1 = nI (L.length + 1) := by rw [sF_setA, h.1, nI1]
  rw [e]
  rintro _ rfl
  exact k _ (((FrX.rf (P := fun c k => c = 52 ∧ k = 1) (C := fun c => c = 53) (l := False) σ).toA rfl).toF ⟨rfl, rfl⟩) (txt_app h)
theorem ct_sets {K : St → Prop} {c : Int32} (h : txt σ 64 12 72 L) (hl : L.length < 90) (hc : chr c) (k : ∀ σ', FrU σ σ' → txt σ' 64 12 72 (L ++ [c]) → K σ') : CallU (d + 1) mX6_sets [.ref 64, .int c] σ K := by
  refine cgX6_sets ?_
  rw [h.1, ix_nI (by omega), hc.2]
  refine ⟨vp_in_nI (by omega) (by omega), ?_⟩
  rintro _ rfl
  have e : sF (setA σ 72 L.length c) 64 12 + 1 = nI (L.length + 1) := by rw [sF_setA, h.1, nI1]
  rw [e]
  rintro _ rfl
  exact k _ (((FrX.rf (P := fun c k => c = 64 ∧ k = 12) (C := fun c => c = 72) (l := False) σ).toA rfl).toF ⟨rfl, rfl⟩) (txt_app h)
theorem dg_eq {n : Nat} (hn : n < 2 ^ 31) : (48 : Int32) + irem (nI n) 10 = dgt n := by
  show (48 : Int32) + irem (nI n) (nI 10) = _
  rw [irem_nI hn (by decide) (by decide)]
  exact nI_add 48 _
theorem dv_10 {n : Nat} (hn : n < 2 ^ 31) : nI n / 10 = nI (n / 10) := pk_div (d := 10) hn (by decide) (by decide)
theorem dv_100 {n : Nat} (hn : n < 2 ^ 31) : nI n / 100 = nI (n / 100) := pk_div (d := 100) hn (by decide) (by decide)
theorem ct_digit {K : Int32 → St → Prop} {n : Nat} (hn : n < 2 ^ 31) (k : K (dgt n) σ) : CallI (d + 1) mX4_digitSign [.int (nI n)] σ K := by
  refine cgX4_digitSign ?_
  rw [dg_eq hn]
  have e := dg_i2c (48 + n % 10) (by omega)
  unfold dgt at k ⊢
  rw [e.1]
  exact ⟨e.2, k⟩
theorem ct_wnum {K : St → Prop} {n : Nat} (h : txt σ 52 1 53 L) (hn : n < 1000) (hl : L.length + (numS n).length ≤ 72) (k : ∀ σ', FrW σ σ' → txt σ' 52 1 53 (L ++ numS n) → K σ') : CallU (d + 2) mX4_writeNumber [.ref 52, .int (nI n)] σ K := by
  refine cgX4_writeNumber ?_
  rw [dv_10 (by omega), dv_100 (by omega)]
  unfold numS at hl k
  rcases Nat.lt_or_ge n 100 with c | c
  · rw [if_neg (by omega), List.nil_append] at hl k
    refine br_t (nI_lt (b := 100) c (by omega)) ?_
    rcases Nat.lt_or_ge n 10 with c2 | c2
    · rw [if_neg (by omega), List.nil_append] at hl k
      simp only [List.length_singleton] at hl
      exact br_t (nI_lt (b := 10) c2 (by omega)) (ct_digit (by omega) (ct_wput h (by omega) (dgt_chr _) k))
    · rw [if_pos c2] at hl k
      simp only [List.length_append, List.length_singleton] at hl
      refine br_f (nI_nlt (b := 10) (by omega) (by omega)) (ct_digit (by omega) (ct_wput h (by omega) (dgt_chr _) (fun s1 f1 h1 => ct_digit (by omega) (ct_wput h1 (by rw [List.length_append, List.length_singleton]; omega) (dgt_chr _) (fun s2 f2 h2 => ?_)))))
      rw [List.append_assoc] at h2
      exact k s2 (FrX.tr f1 f2) h2
  · rw [if_pos c, if_pos (show 10 ≤ n by omega)] at hl k
    simp only [List.length_append, List.length_singleton] at hl
    refine br_f (nI_nlt (b := 100) (by omega) (by omega)) (ct_digit (by omega) (ct_wput h (by omega) (dgt_chr _) (fun s1 f1 h1 => br_f (nI_nlt (b := 10) (by omega) (by omega)) (ct_digit (by omega) (ct_wput h1 (by rw [List.length_append, List.length_singleton]; omega) (dgt_chr _) (fun s2 f2 h2 => ct_digit (by omega) (ct_wput h2 (by simp only [List.length_append, List.length_singleton]; omega) (dgt_chr _) (fun s3 f3 h3 => ?_))))))))
    rw [List.append_assoc, List.append_assoc, ← List.append_assoc [dgt (n / 100)]] at h3
    exact k s3 ((FrX.tr f1 f2).tr f3) h3
theorem ct_snum {K : St → Prop} {n : Nat} (h : txt σ 64 12 72 L) (hn : n < 1000) (hl : L.length + (numS n).length ≤ 90) (k : ∀ σ', FrU σ σ' → txt σ' 64 12 72 (L ++ numS n) → K σ') : CallU (d + 2) mX6_setsNumber [.ref 64, .int (nI n)] σ K := by
  refine cgX6_setsNumber ?_
  have e100 : (48 : Int32) + nI n / 100 = dgt (n / 100) := by
    rw [dv_100 (by omega)]
    show _ = nI (48 + n / 100 % 10)
    rw [show n / 100 % 10 = n / 100 by omega]
    exact nI_add 48 _
  rw [e100, dv_10 (by omega), dg_eq (by omega), dg_eq (by omega)]
  unfold numS at hl k
  rcases Nat.lt_or_ge n 100 with c | c
  · rw [if_neg (by omega), List.nil_append] at hl k
    refine br_t (nI_le (b := 99) (by omega) (by omega)) ?_
    rcases Nat.lt_or_ge n 10 with c2 | c2
    · rw [if_neg (by omega), List.nil_append] at hl k
      simp only [List.length_singleton] at hl
      exact br_t (nI_le (b := 9) (by omega) (by omega)) (ct_sets h (by omega) (dgt_chr _) k)
    · rw [if_pos c2] at hl k
      simp only [List.length_append, List.length_singleton] at hl
      refine br_f (nI_ge (a := 9) (by omega) (by omega)) (ct_sets h (by omega) (dgt_chr _) (fun s1 f1 h1 => ct_sets h1 (by rw [List.length_append, List.length_singleton]; omega) (dgt_chr _) (fun s2 f2 h2 => ?_)))
      rw [List.append_assoc] at h2
      exact k s2 (FrX.tr f1 f2) h2
  · rw [if_pos c, if_pos (show 10 ≤ n by omega)] at hl k
    simp only [List.length_append, List.length_singleton] at hl
    refine br_f (nI_ge (a := 99) (by omega) (by omega)) (ct_sets h (by omega) (dgt_chr _) (fun s1 f1 h1 => br_f (nI_ge (a := 9) (by omega) (by omega)) (ct_sets h1 (by rw [List.length_append, List.length_singleton]; omega) (dgt_chr _) (fun s2 f2 h2 => ct_sets h2 (by simp only [List.length_append, List.length_singleton]; omega) (dgt_chr _) (fun s3 f3 h3 => ?_)))))
    rw [List.append_assoc, List.append_assoc, ← List.append_assoc [dgt (n / 100)]] at h3
    exact k s3 ((FrX.tr f1 f2).tr f3) h3
end TEXT
