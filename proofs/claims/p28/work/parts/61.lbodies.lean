/-! the law's bodies -/
def lT (σ : St) (L : List Tg) : Prop := sA σ 66 6 = nI L.length ∧ ∀ (i : Nat) (t : Tg), L[i]? = some t → sA σ 64 (4 * i) = t.1 ∧ sA σ 64 (4 * i + 1) = t.2.1 ∧ sA σ 64 (4 * i + 2) = t.2.2.1 ∧ sA σ 64 (4 * i + 3) = t.2.2.2
theorem lT.keep {σ σ' : St} {L : List Tg} (h : lT σ L) (f : FrM σ σ') : lT σ' L := by
  have e64 := (f 64 (by omega)).2
  have e66 := (f 66 (by omega)).2
  unfold lT at *
  rw [e64, e66]
  exact h
theorem ix4 (k w : Nat) : (4 : Int32) * nI k + nI w = nI (4 * k + w) := by
  rw [show (4 : Int32) = nI 4 from rfl, pk_mul, nI_add]
theorem ix40 (k : Nat) : (4 : Int32) * nI k = nI (4 * k) := pk_mul 4 k
theorem ix41 (k : Nat) : (4 : Int32) * nI k + 1 = nI (4 * k + 1) := ix4 k 1
theorem ix42 (k : Nat) : (4 : Int32) * nI k + 2 = nI (4 * k + 2) := ix4 k 2
theorem ix43 (k : Nat) : (4 : Int32) * nI k + 3 = nI (4 * k + 3) := ix4 k 3
def rowB (σ : St) (B : List Bd) : Prop := ∀ (k : Nat) (b : Bd), B[k]? = some b → sA σ 65 (3 * k) = b.1 ∧ sA σ 65 (3 * k + 1) = b.2.1 ∧ sA σ 65 (3 * k + 2) = b.2.2.1
def put3 (σ : St) (m : Nat) (x y z : Int32) : St := setA (setA (setA σ 65 (3 * m) x) 65 (3 * m + 1) y) 65 (3 * m + 2) z
theorem put3_fr (σ : St) (m : Nat) (x y z : Int32) : Fr (fun c => c = 65) σ (put3 σ m x y z) := (((Fr.rf (C := fun c => c = 65) σ).toA (a := 65) rfl).toA (a := 65) rfl).toA (a := 65) rfl
theorem put3_row {σ : St} {B : List Bd} {b : Bd} (h : rowB σ B) : rowB (put3 σ B.length b.1 b.2.1 b.2.2.1) (B ++ [b]) := by
  intro k u hu
  unfold put3
  simp only [sA_setA]
  rcases Nat.lt_or_ge k B.length with hlt | hge
  · rw [List.getElem?_append_left hlt] at hu
    have h2 := h k u hu
    rw [if_neg (by omega), if_neg (by omega), if_neg (by omega), if_neg (by omega), if_neg (by omega), if_neg (by omega), if_neg (by omega), if_neg (by omega), if_neg (by omega)]
    exact h2
  · have hlt := lt_of hu
    simp at hlt
    have e : k = B.length := by omega
    subst e
    simp at hu
    subst hu
    refine ⟨?_, ?_, ?_⟩ <;> simp
/-- ghosts, one pair of thirty-six after the other -/
def g36 (L : List Tg) : Nat → List Bd
  | 0 => []
  | k + 1 => g36 L k ++ (if k / 6 < k % 6 then ghP L (k / 6) (k % 6) else [])
theorem g36_row (L : List Tg) (i : Nat) : ∀ r, r ≤ 6 → g36 L (6 * i + r) = g36 L (6 * i) ++ ghRow L i r := by
  intro r
  induction r with
  | zero => intro _; show g36 L (6 * i) = _ ++ []; rw [List.append_nil]
  | succ r ih =>
    intro hr
    show g36 L (6 * i + r) ++ (if (6 * i + r) / 6 < (6 * i + r) % 6 then ghP L ((6 * i + r) / 6) ((6 * i + r) % 6) else []) = _
    rw [ih (by omega), show (6 * i + r) / 6 = i by omega, show (6 * i + r) % 6 = r by omega, List.append_assoc]
    rfl
theorem ghP_none {L : List Tg} {i k : Nat} (h : L.length ≤ i ∨ L.length ≤ k) : ghP L i k = [] := by
  unfold ghP
  split
  next a b ha hb =>
    have h1 := lt_of ha
    have h2 := lt_of hb
    omega
  · rfl
theorem ghRow_tail {L : List Tg} {i : Nat} : ∀ n, L.length ≤ n → ghRow L i n = ghRow L i L.length := by
  intro n
  induction n with
  | zero => intro h; rw [show L.length = 0 by omega]
  | succ n ih =>
    intro h
    rcases Nat.lt_or_ge L.length (n + 1) with z | z
    · show ghRow L i n ++ (if i < n then ghP L i n else []) = _
      rw [ih (by omega), ghP_none (Or.inr (by omega)), ite_self, List.append_nil]
    · rw [show L.length = n + 1 by omega]
theorem ghRow_none {L : List Tg} {i : Nat} (h : L.length ≤ i) : ∀ n, ghRow L i n = [] := by
  intro n
  induction n with
  | zero => rfl
  | succ n ih =>
    show ghRow L i n ++ (if i < n then ghP L i n else []) = _
    rw [ih, ghP_none (Or.inl h), ite_self]
    rfl
theorem g36_ghs {L : List Tg} (hn : L.length ≤ 6) : ∀ i, g36 L (6 * i) = ghs L i := by
  intro i
  induction i with
  | zero => rfl
  | succ i ih =>
    rw [show 6 * (i + 1) = 6 * i + 6 by omega, g36_row L i 6 (Nat.le_refl _), ih, ghRow_tail 6 hn]
    rfl
theorem ghs_tail {L : List Tg} : ∀ n, L.length ≤ n → ghs L n = ghs L L.length := by
  intro n
  induction n with
  | zero => intro h; rw [show L.length = 0 by omega]
  | succ n ih =>
    intro h
    rcases Nat.lt_or_ge L.length (n + 1) with z | z
    · show ghs L n ++ ghRow L n L.length = _
      rw [ih (by omega), ghRow_none (by omega), List.append_nil]
    · rw [show L.length = n + 1 by omega]
theorem g36_all {L : List Tg} (hn : L.length ≤ 6) : g36 L 36 = ghs L L.length := by
  rw [show 36 = 6 * 6 from rfl, g36_ghs hn 6, ghs_tail 6 hn]
theorem g36_mono (L : List Tg) {k n : Nat} (h : k ≤ n) : (g36 L k).length ≤ (g36 L n).length := by
  induction n with
  | zero => rw [show k = 0 by omega]; exact Nat.le_refl _
  | succ n ih =>
    rcases Nat.lt_or_ge k (n + 1) with hk | hk
    · refine Nat.le_trans (ih (by omega)) ?_
      show _ ≤ (g36 L n ++ _).length
      rw [List.length_append]
      omega
    · rw [show k = n + 1 by omega]; exact Nat.le_refl _
theorem two_a (a : Int32) : (2 : Int32) * a = a + a := by rw [show (2 : Int32) = 1 + 1 from rfl, Int32.add_mul, Int32.one_mul]
theorem prod_200 {a b : Int32} (ha : 1 ≤ a.toInt ∧ a.toInt ≤ 99) (hb : 1 ≤ b.toInt ∧ b.toInt ≤ 99) : (a * b < 200 ↔ a * b / 200 ≤ 0) := by
  obtain ⟨m, hm, rfl⟩ := pos_nI (x := a) (by omega)
  obtain ⟨n, hn, rfl⟩ := pos_nI (x := b) (by omega)
  rw [nI_toInt hm] at ha
  rw [nI_toInt hn] at hb
  have hmn : m * n ≤ 99 * 99 := Nat.mul_le_mul (by omega) (by omega)
  have e : nI (m * n) / 200 = nI (m * n / 200) := pk_div (d := 200) (by omega) (by omega) (by omega)
  have t : (nI (m * n)).toInt = ((m * n : Nat) : Int) := nI_toInt (by omega)
  have t2 : (nI (m * n / 200)).toInt = ((m * n / 200 : Nat) : Int) := nI_toInt (by omega)
  rw [pk_mul, e, Int32.lt_iff_toInt_lt, Int32.le_iff_toInt_le, t, t2, show (200 : Int32).toInt = 200 from by decide +kernel, k0]
  omega
section LBODIES
variable {d : Nat} {σ : St} {L : List Tg}
theorem ghB_l {i j : Nat} {t u : Tg} (h1 : t.2.2.2 = 1) (h2 : u.2.2.2 = 1) (h3 : ¬ t.2.1 * u.2.1 / 200 ≤ 0) : ghB i j t u = [(2 * (if t.1 < u.1 then u.1 else t.1) - (if u.1 < t.1 then u.1 else t.1), t.2.1 * u.2.1 / 200, 0, nI i, nI j)] := by
  unfold ghB
  rw [if_pos ⟨h1, h2, h3⟩]
theorem d_le {a b : Int32} (c : b ≤ a) : 2 * (if a < b then b else a) - (if b < a then b else a) = a + a - b := by
  rw [Int32.le_iff_toInt_le] at c
  have c1 : ¬ a < b := fun z => by rw [Int32.lt_iff_toInt_lt] at z; omega
  rw [if_neg c1, two_a]
  by_cases c2 : b < a
  · rw [if_pos c2]
  · rw [if_neg c2]
    have : a = b := Int32.toInt_inj.mp (by rw [Int32.lt_iff_toInt_lt] at c2; omega)
    rw [this]
theorem d_gt {a b : Int32} (c : ¬ b ≤ a) : 2 * (if a < b then b else a) - (if b < a then b else a) = b + b - a := by
  rw [Int32.le_iff_toInt_le] at c
  have c1 : a < b := by rw [Int32.lt_iff_toInt_lt]; omega
  have c2 : ¬ b < a := fun z => by rw [Int32.lt_iff_toInt_lt] at z; omega
  rw [if_pos c1, if_neg c2, two_a]
theorem ct_Lbodies {K : St → Prop} (hn : L.length ≤ 6) (hok : ∀ t ∈ L, okT t) (h : lT σ L) (k : ∀ σ', Fr (fun c => c = 65 ∨ c = 66) σ σ' → (∀ i, i ≠ 8 → sA σ' 66 i = sA σ 66 i) → lB σ' (bods L) → K σ') : CallU (d + 1) mL_bodies [.ref 64, .ref 65, .ref 66] σ K := by
  refine cgL_bodies ?_
  have second : ∀ s1, Fr (fun c => c = 65) σ s1 → rowB s1 (tgs L L.length) → Go mL_bodies (d + 1) 67 [.ref 64, .ref 65, .ref 66, .int (nI L.length), .int 0, .null, .null, .null, .null] [] s1 (QU K) := by
    intro s1 f1 r1
    have loop : ∀ k2 q, q + k2 = 36 → ∀ s, Fr (fun c => c = 65) σ s → rowB s (tgs L L.length ++ g36 L q) → Go mL_bodies (d + 1) 67 [.ref 64, .ref 65, .ref 66, .int (nI (tgs L L.length ++ g36 L q).length), .int (nI q), .null, .null, .null, .null] [] s (QU K) := by
      intro k2
      induction k2 with
      | zero =>
        intro q hq s f r
        refine sgL_bodies_67 (br_t (nI_le (a := 36) (by omega) (by omega)) ?_)
        rintro _ rfl
        rw [show q = 36 by omega, g36_all hn] at r ⊢
        refine k _ ((f.mono (fun c z => Or.inl z)).toA (Or.inr rfl)) (fun i hi => ?_) ⟨?_, fun kk b hb => ?_⟩
        · rw [sA_setA, if_neg (by omega), (f.1 66 (by omega)).2]
        · rw [sA_setA, if_pos ⟨rfl, rfl⟩]
          rfl
        · rw [sA_setA, sA_setA, sA_setA, if_neg (by omega), if_neg (by omega), if_neg (by omega)]
          exact r kk b hb
      | succ k2 ih =>
        intro q hq s f r
        have e64 : sA s 64 = sA σ 64 := (f.1 64 (by omega)).2
        have e66 : sA s 66 = sA σ 66 := (f.1 66 (by omega)).2
        have hskip : (if q / 6 < q % 6 then ghP L (q / 6) (q % 6) else []) = [] → Go mL_bodies (d + 1) 67 [.ref 64, .ref 65, .ref 66, .int (nI (tgs L L.length ++ g36 L q).length), .int (nI (q + 1)), .null, .null, .null, .null] [] s (QU K) := by
          intro z
          have hg : g36 L (q + 1) = g36 L q := by
            show g36 L q ++ _ = _
            rw [z, List.append_nil]
          have hk := ih (q + 1) (by omega) s f
          rw [hg] at hk
          exact hk r
        have hlay : ∀ b : Bd, (if q / 6 < q % 6 then ghP L (q / 6) (q % 6) else []) = [b] → (tgs L L.length ++ g36 L q).length < 21 ∧ Go mL_bodies (d + 1) 67 [.ref 64, .ref 65, .ref 66, .int (nI ((tgs L L.length ++ g36 L q).length + 1)), .int (nI (q + 1)), .null, .null, .null, .null] [] (put3 s (tgs L L.length ++ g36 L q).length b.1 b.2.1 b.2.2.1) (QU K) := by
          intro b z
          have hg : g36 L (q + 1) = g36 L q ++ [b] := by
            show g36 L q ++ _ = _
            rw [z]
          have hm := g36_mono L (show q + 1 ≤ 36 by omega)
          rw [g36_all hn, hg, List.length_append, List.length_singleton] at hm
          have hgl := ghs_len hn
          have htl := tgs_len L L.length (Nat.le_refl _)
          refine ⟨by rw [List.length_append]; omega, ?_⟩
          have hk := ih (q + 1) (by omega) (put3 s (tgs L L.length ++ g36 L q).length b.1 b.2.1 b.2.2.1) (f.tr (put3_fr _ _ _ _ _))
          rw [hg, ← List.append_assoc] at hk
          have hk := hk (put3_row r)
          rw [List.length_append, List.length_singleton] at hk
          exact hk
        refine sgL_bodies_67 (br_f (nI_ge (b := 36) (by omega) (by omega)) ?_)
        rw [show irem (nI q) 6 = nI (q % 6) from irem_nI (b := 6) (by omega) (by decide) (by decide), show nI q / 6 = nI (q / 6) from pk_div (d := 6) (by omega) (by decide) (by decide), e66, h.1, nI1]
        refine br_c (fun c => hskip ?_) (fun c => br_c (fun c2 => hskip ?_) (fun c2 => ?_))
        · rw [nI_leI (by omega) (by omega)] at c
          rw [if_neg (by omega)]
        · rw [nI_leI (by omega) (by omega)] at c2
          rw [ghP_none (Or.inr c2), ite_self]
        rw [nI_leI (by omega) (by omega)] at c c2
        have hij : q / 6 < q % 6 := by omega
        obtain ⟨t, ht⟩ := get_of (l := L) (i := q / 6) (by omega)
        obtain ⟨u, hu⟩ := get_of (l := L) (i := q % 6) (by omega)
        obtain ⟨t0, t1, -, t3⟩ := h.2 _ t ht
        obtain ⟨u0, u1, -, u3⟩ := h.2 _ u hu
        have okt := hok t (List.mem_of_getElem? ht)
        have oku := hok u (List.mem_of_getElem? hu)
        have hgp : (if q / 6 < q % 6 then ghP L (q / 6) (q % 6) else []) = ghB (q / 6) (q % 6) t u := by
          rw [if_pos hij]
          exact ghP_w (S := (L, [], 0, 0)) ht hu
        rw [ix43, ix43, ix41, ix41, ix40, ix40, ix31, ix32, ix30, ix_nI (show 4 * (q / 6) + 3 < 2 ^ 31 by omega), ix_nI (show 4 * (q % 6) + 3 < 2 ^ 31 by omega), ix_nI (show 4 * (q / 6) + 1 < 2 ^ 31 by omega), ix_nI (show 4 * (q % 6) + 1 < 2 ^ 31 by omega), ix_nI (show 4 * (q / 6) < 2 ^ 31 by omega), ix_nI (show 4 * (q % 6) < 2 ^ 31 by omega), e64, t0, t1, t3, u0, u1, u3]
        refine ⟨vp_in_nI (by omega) (by omega), vp_in_nI (by omega) (by omega), br_c' (fun c3 => hskip ?_) (fun c3 => ?_)⟩
        · rw [hgp]
          exact ghB_0 (fun z => c3 (by rw [z.1, z.2]; rfl))
        have hww : t.2.2.2 = 1 ∧ u.2.2.2 = 1 := by
          rcases okt.2.2.2.1 with a | a <;> rcases oku.2.2.2.1 with b | b
          · rw [a, b] at c3; exact absurd c3 (by decide)
          · rw [a, b] at c3; exact absurd c3 (by decide)
          · rw [a, b] at c3; exact absurd c3 (by decide)
          · exact ⟨a, b⟩
        refine ⟨vp_in_nI (by omega) (by omega), vp_in_nI (by omega) (by omega), br_c (fun c4 => hskip ?_) (fun c4 => ⟨vp_in_nI (by omega) (by omega), vp_in_nI (by omega) (by omega), ?_⟩)⟩
        · rw [hgp]
          unfold ghB
          rw [if_neg (fun z => z.2.2 ((prod_200 okt.2.1 oku.2.1).mp c4))]
        have h200 : ¬ t.2.1 * u.2.1 / 200 ≤ 0 := fun z => c4 ((prod_200 okt.2.1 oku.2.1).mpr z)
        rw [ghB_l hww.1 hww.2 h200] at hgp
        obtain ⟨hm21, hgo⟩ := hlay _ hgp
        have i1 : vp_in (nI (4 * (q / 6) + 1)) 24 := vp_in_nI (by omega) (by omega)
        have i2 : vp_in (nI (4 * (q % 6) + 1)) 24 := vp_in_nI (by omega) (by omega)
        generalize hM : (tgs L L.length ++ g36 L q).length = M at hm21 hgo ⊢
        have j0 : vp_in (nI (3 * M)) 63 := vp_in_nI (by omega) (by omega)
        have j1 : vp_in (nI (3 * M + 1)) 63 := vp_in_nI (by omega) (by omega)
        have j2 : vp_in (nI (3 * M + 2)) 63 := vp_in_nI (by omega) (by omega)
        have g64 : ∀ (i : Nat) (v : Int32) (j : Nat), sA (setA s 65 i v) 64 j = sA σ 64 j := fun i v j => by rw [sA_setA, if_neg (by omega), e64]
        rw [ix_nI (show 3 * M < 2 ^ 31 by omega), ix_nI (show 3 * M + 1 < 2 ^ 31 by omega), ix_nI (show 3 * M + 2 < 2 ^ 31 by omega), nI1]
        refine br_c (fun c5 => ⟨j0, ?_⟩) (fun c5 => ⟨j0, ?_⟩)
        · rintro _ rfl
          refine ⟨i1, i2, j1, ?_⟩
          rintro _ rfl
          refine ⟨j2, ?_⟩
          rintro _ rfl
          rw [g64, g64, t1, u1]
          unfold put3 at hgo
          rw [d_le c5] at hgo
          exact hgo
        · rintro _ rfl
          refine ⟨i1, i2, j1, ?_⟩
          rintro _ rfl
          refine ⟨j2, ?_⟩
          rintro _ rfl
          rw [g64, g64, t1, u1]
          unfold put3 at hgo
          rw [d_gt c5] at hgo
          exact hgo
    have h0 := loop 36 0 rfl s1 f1 (by show rowB s1 (tgs L L.length ++ []); rw [List.append_nil]; exact r1)
    rw [show (tgs L L.length ++ g36 L 0).length = L.length by
      show (tgs L L.length ++ []).length = _
      rw [List.append_nil, tgs_len L _ (Nat.le_refl _)]] at h0
    exact h0
  have first : ∀ k2 i, i + k2 = L.length → ∀ s, Fr (fun c => c = 65) σ s → rowB s (tgs L i) → Go mL_bodies (d + 1) 5 [.ref 64, .ref 65, .ref 66, .int (nI i), .int (nI i), .null, .null, .null, .null] [] s (QU K) := by
    intro k2
    induction k2 with
    | zero =>
      intro i hi s f r
      have e66 : sA s 66 = sA σ 66 := (f.1 66 (by omega)).2
      refine sgL_bodies_5 ?_
      rw [e66, h.1]
      rw [show i = L.length by omega] at r ⊢
      exact br_t (nI_le (by omega) (by omega)) (second s f r)
    | succ k2 ih =>
      intro i hi s f r
      have e64 : sA s 64 = sA σ 64 := (f.1 64 (by omega)).2
      have e66 : sA s 66 = sA σ 66 := (f.1 66 (by omega)).2
      obtain ⟨t, ht⟩ := get_of (l := L) (i := i) (by omega)
      obtain ⟨t0, t1, t2, -⟩ := h.2 _ t ht
      have hti : tgs L (i + 1) = tgs L i ++ [tgB i t] := by
        show tgs L i ++ _ = _
        rw [ht]
      have hl := tgs_len L i (by omega)
      have hr := put3_row (b := tgB i t) r
      rw [hl, ← hti] at hr
      have hgo := ih (i + 1) (by omega) _ (f.tr (put3_fr _ _ _ _ _)) hr
      have g64 : ∀ (i : Nat) (v : Int32) (j : Nat), sA (setA s 65 i v) 64 j = sA σ 64 j := fun i v j => by rw [sA_setA, if_neg (by omega), e64]
      have g64' : ∀ (i : Nat) (v : Int32) (i2 : Nat) (v2 : Int32) (j : Nat), sA (setA (setA s 65 i v) 65 i2 v2) 64 j = sA σ 64 j := fun i v i2 v2 j => by rw [sA_setA, if_neg (by omega), g64]
      refine sgL_bodies_5 ?_
      rw [e66, h.1, ix42, ix41, ix40, ix32, ix31, ix30, ix_nI (show 4 * i + 2 < 2 ^ 31 by omega), ix_nI (show 4 * i + 1 < 2 ^ 31 by omega), ix_nI (show 4 * i < 2 ^ 31 by omega), ix_nI (show 3 * i + 2 < 2 ^ 31 by omega), ix_nI (show 3 * i + 1 < 2 ^ 31 by omega), ix_nI (show 3 * i < 2 ^ 31 by omega), nI1]
      refine br_f (nI_ge (by omega) (by omega)) ⟨vp_in_nI (by omega) (by omega), vp_in_nI (by omega) (by omega), ?_⟩
      rintro _ rfl
      refine ⟨vp_in_nI (by omega) (by omega), vp_in_nI (by omega) (by omega), ?_⟩
      rintro _ rfl
      refine ⟨vp_in_nI (by omega) (by omega), vp_in_nI (by omega) (by omega), ?_⟩
      rintro _ rfl
      rw [g64', g64, e64, t0, t1, t2]
      exact hgo
  exact first L.length 0 (by omega) σ (Fr.rf σ) (fun k b hb => by cases hb)
end LBODIES
