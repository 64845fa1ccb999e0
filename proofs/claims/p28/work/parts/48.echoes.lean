/-! the echoes of all turns, counted both ways -/
theorem ush_nat {x : Int64} {y : Int32} {n : Nat} (h : (y.toInt64.toUInt64 &&& Int64.toUInt64 63).toNat = n) (hn : n < 64) : (ush x y).toBitVec.toNat = x.toBitVec.toNat / 2 ^ n := by
  show (x.toUInt64 >>> (y.toInt64.toUInt64 &&& Int64.toUInt64 63)).toNat = _
  rw [UInt64.toNat_shiftRight, h, Nat.mod_eq_of_lt hn, Nat.shiftRight_eq_div_pow]
  rfl
theorem tn_and (a b : Int64) : (a &&& b).toBitVec.toNat = a.toBitVec.toNat &&& b.toBitVec.toNat := by rw [Int64.toBitVec_and, BitVec.toNat_and]
theorem tn_add {a b : Int64} (h : a.toBitVec.toNat + b.toBitVec.toNat < 2 ^ 64) : (a + b).toBitVec.toNat = a.toBitVec.toNat + b.toBitVec.toNat := by rw [Int64.toBitVec_add, BitVec.toNat_add, Nat.mod_eq_of_lt h]
theorem tn_sub {a b : Int64} (h : b.toBitVec.toNat ≤ a.toBitVec.toNat) : (a - b).toBitVec.toNat = a.toBitVec.toNat - b.toBitVec.toNat := by
  have ha := a.toBitVec.isLt
  rw [Int64.toBitVec_sub, BitVec.toNat_sub]
  omega
theorem bcA_eq (x : Int64) : bcA x = nI (pop64 x.toBitVec.toNat) := by
  have hx := x.toBitVec.isLt
  have e1 : (bc1 x).toBitVec.toNat = x.toBitVec.toNat - (x.toBitVec.toNat / 2 &&& 6148914691236517205) := by
    have e : (ush x 1 &&& 6148914691236517205).toBitVec.toNat = x.toBitVec.toNat / 2 &&& 6148914691236517205 := by
      rw [tn_and, ush_nat (n := 1) (by decide) (by decide), Nat.pow_one]
      rfl
    have hle := (st1 8 x.toBitVec.toNat (by rw [show (256 : Nat) ^ 8 = 2 ^ 64 from by decide]; exact hx)).1
    rw [mk_85] at hle
    unfold bc1
    rw [tn_sub (by rw [e]; exact hle), e]
  generalize hx1 : bc1 x = x1 at e1
  have e2 : (bc2 x1).toBitVec.toNat = (x1.toBitVec.toNat &&& 3689348814741910323) + (x1.toBitVec.toNat / 4 &&& 3689348814741910323) := by
    have ea : (x1 &&& 3689348814741910323).toBitVec.toNat = x1.toBitVec.toNat &&& 3689348814741910323 := by rw [tn_and]; rfl
    have eb : (ush x1 2 &&& 3689348814741910323).toBitVec.toNat = x1.toBitVec.toNat / 4 &&& 3689348814741910323 := by
      rw [tn_and, ush_nat (n := 2) (by decide) (by decide)]
      rfl
    have ha : x1.toBitVec.toNat &&& 3689348814741910323 ≤ 3689348814741910323 := Nat.and_le_right
    have hb : x1.toBitVec.toNat / 4 &&& 3689348814741910323 ≤ 3689348814741910323 := Nat.and_le_right
    unfold bc2
    rw [tn_add (by rw [ea, eb]; exact Nat.lt_of_le_of_lt (Nat.add_le_add ha hb) (by decide)), ea, eb]
  have b2 : (bc2 x1).toBitVec.toNat ≤ 7378697629483820646 := by
    rw [e2]
    have ha : x1.toBitVec.toNat &&& 3689348814741910323 ≤ 3689348814741910323 := Nat.and_le_right
    have hb : x1.toBitVec.toNat / 4 &&& 3689348814741910323 ≤ 3689348814741910323 := Nat.and_le_right
    exact Nat.le_trans (Nat.add_le_add ha hb) (by decide)
  generalize hx2 : bc2 x1 = x2 at e2 b2
  have e3 : (bc3 x2).toBitVec.toNat = (x2.toBitVec.toNat + x2.toBitVec.toNat / 16) &&& 1085102592571150095 := by
    have es : (ush x2 4).toBitVec.toNat = x2.toBitVec.toNat / 16 := by rw [ush_nat (n := 4) (by decide) (by decide)]
    unfold bc3
    rw [tn_and, tn_add (by rw [es]; omega), es]
    rfl
  have b3 : (bc3 x2).toBitVec.toNat ≤ 1085102592571150095 := by
    rw [e3]
    exact Nat.and_le_right
  generalize hx3 : bc3 x2 = x3 at e3 b3
  have e4 : (bc4 x3).toBitVec.toNat = x3.toBitVec.toNat + x3.toBitVec.toNat / 256 := by
    have es : (ush x3 8).toBitVec.toNat = x3.toBitVec.toNat / 256 := by rw [ush_nat (n := 8) (by decide) (by decide)]
    unfold bc4
    rw [tn_add (by rw [es]; omega), es]
  have b4 : (bc4 x3).toBitVec.toNat ≤ 2170205185142300190 := by rw [e4]; omega
  generalize hx4 : bc4 x3 = x4 at e4 b4
  have e5 : (bc5 x4).toBitVec.toNat = x4.toBitVec.toNat + x4.toBitVec.toNat / 65536 := by
    have es : (ush x4 16).toBitVec.toNat = x4.toBitVec.toNat / 65536 := by rw [ush_nat (n := 16) (by decide) (by decide)]
    unfold bc5
    rw [tn_add (by rw [es]; omega), es]
  have b5 : (bc5 x4).toBitVec.toNat ≤ 4340410370284600380 := by rw [e5]; omega
  generalize hx5 : bc5 x4 = x5 at e5 b5
  have e6 : (bc6 x5).toBitVec.toNat = x5.toBitVec.toNat + x5.toBitVec.toNat / 4294967296 := by
    have es : (ush x5 32).toBitVec.toNat = x5.toBitVec.toNat / 4294967296 := by rw [ush_nat (n := 32) (by decide) (by decide)]
    unfold bc6
    rw [tn_add (by rw [es]; omega), es]
  have hp := (pop_chain hx e1 e2 e3 e4 e5 e6).2
  unfold bcA
  rw [hx1, hx2, hx3, hx4, hx5]
  generalize bc6 x5 = z at hp
  apply Int32.toBitVec_inj.mp
  apply BitVec.eq_of_toNat_eq
  rw [Int32.toBitVec_and, BitVec.toNat_and]
  have ez : z.toInt32.toBitVec.toNat = z.toBitVec.toNat % 2 ^ 32 := by
    show (z.toBitVec.signExtend 32).toNat = _
    rw [BitVec.signExtend_eq_setWidth_of_le _ (by decide), BitVec.toNat_setWidth]
  have e127 : (127 : Int32).toBitVec.toNat = 2 ^ 7 - 1 := by decide
  rw [ez, e127, Nat.and_two_pow_sub_one_eq_mod]
  show _ = (BitVec.ofNat 32 (pop64 x.toBitVec.toNat)).toNat
  rw [BitVec.toNat_ofNat, ← hp]
  omega
theorem sm_tail {f : Nat → Nat} {n N : Nat} (h : n ≤ N) (hz : ∀ j, n ≤ j → j < N → f j = 0) : sm f N = sm f n := by
  induction N with
  | zero => rw [show n = 0 by omega]
  | succ N ih =>
    rcases Nat.lt_or_ge n (N + 1) with z | z
    · show sm f N + f N = _
      rw [ih (by omega) (fun j h1 h2 => hz j h1 (by omega)), hz N (by omega) (by omega), Nat.add_zero]
    · rw [show n = N + 1 by omega]
section ECH
variable {d : Nat} {σ : St} {E : En} {n : Nat}
theorem hbE_50 (hE : okE E) {j q p : Nat} (hj : j < E.2.1.length) (h1 : 50 ≤ p) (h2 : p < 64) : hbE E j (pv q) (nI p) = false := by
  obtain ⟨s, hs⟩ := get_of hj
  have hsp := hE.2.2.2.1 s (List.mem_of_getElem? hs)
  rw [← spE_get hs] at hsp
  unfold hbE hb
  rw [List.any_eq_false]
  intro b _ z
  simp only [Bool.and_eq_true, decide_eq_true_eq] at z
  obtain ⟨p0, hp0, e⟩ := pl_lt (s := spE E j) (x := b.1) (v := b.2.2.1) (j := j) (by omega)
  have h3 := z.1.2
  rw [e] at h3
  have := (nI_eq (a := p0) (b := p) (by omega) (by omega)).mp h3
  omega
theorem row_pop (hE : okE E) (h : earOK σ E n) {j q : Nat} (hj : j < E.2.1.length) (hq : q < 11) : pop64 (sL σ (j * 11 + q)).toBitVec.toNat = sm (fun p => bN (hbE E j (pv q) (nI p))) 50 := by
  obtain ⟨s, hs⟩ := get_of hj
  have ht := (h.2.2.2.2.2.1 j s hs).2
  have e : pop64 (sL σ (j * 11 + q)).toBitVec.toNat = sm (fun p => bN (hbE E j (pv q) (nI p))) 64 := by
    unfold pop64
    apply sm_congr
    intro p hp
    have hb := ht q hq p hp
    rw [show 11 * j + q = j * 11 + q by omega] at hb
    unfold hbE
    rw [spE_get hs]
    exact congrArg bN hb
  rw [e]
  exact sm_tail (by decide) (fun p h1 h2 => by rw [hbE_50 hE hj h1 h2]; rfl)
theorem ech_eq (hE : okE E) (h : earOK σ E n) : sm (fun r => pop64 (sL σ r).toBitVec.toNat) (E.2.1.length * 11) = sm (echN E) 2200 := by
  have hm := hE.2.2.1
  rw [sm_split, show (2200 : Nat) = 4 * 550 from rfl, sm_split]
  have hz : ∀ j, E.2.1.length ≤ j → j < 4 → sm (fun k => echN E (j * 550 + k)) 550 = 0 := by
    intro j h1 h2
    rw [sm_congr (g := fun _ => 0) (fun k hk => ?_), sm_zero]
    unfold echN
    rw [show (j * 550 + k) / 550 = j by omega, decide_eq_false (by omega)]
    rfl
  rw [sm_tail hm hz]
  apply sm_congr
  intro j hj
  rw [show (550 : Nat) = 50 * 11 from rfl, sm_split, sm_congr (fun q hq => row_pop hE h hj hq), sm_swap]
  apply sm_congr
  intro p hp
  apply sm_congr
  intro q hq
  unfold echN
  rw [show (j * (50 * 11) + (p * 11 + q)) / 550 = j by omega, show (j * (50 * 11) + (p * 11 + q)) % 11 = q by omega, show (j * (50 * 11) + (p * 11 + q)) / 11 % 50 = p by omega, decide_eq_true hj, Bool.true_and]
theorem ct_echoCount {K : Int32 → St → Prop} (hE : okE E) (h : earOK σ E n) (k : K (nI (sm (echN E) 2200)) σ) : CallI (d + 2) mX0_echoCount [.ref 54] σ K := by
  have hm := hE.2.2.1
  have he : nI E.2.1.length * 11 = nI (E.2.1.length * 11) := pk_mul _ 11
  refine cgX0_echoCount ?_
  have loop : ∀ k2 r, r + k2 = E.2.1.length * 11 → Go mX0_echoCount (d + 2) 4 [.ref 54, .int (nI (sm (fun r => pop64 (sL σ r).toBitVec.toNat) r)), .int (nI r)] [] σ (QI K) := by
    intro k2
    induction k2 with
    | zero =>
      intro r hr
      refine sgX0_echoCount_4 ?_
      rw [h.2.2.1, he]
      refine br_t (nI_le (by omega) (by omega)) ?_
      rw [show r = E.2.1.length * 11 by omega, ech_eq hE h]
      exact k
    | succ k2 ih =>
      intro r hr
      have hk := ih (r + 1) (by omega)
      refine sgX0_echoCount_4 ?_
      rw [h.2.2.1, he, ix_nI (by omega), nI1]
      refine br_f (nI_ge (by omega) (by omega)) (br_f (nI_ge (b := 44) (by omega) (by omega)) ⟨vp_in_nI (by omega) (by omega), cgJ13 ?_⟩)
      rw [bcA_eq, nI_add]
      exact hk
  exact loop (E.2.1.length * 11) 0 (by omega)
end ECH
