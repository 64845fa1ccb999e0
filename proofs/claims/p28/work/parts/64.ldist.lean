/-! the law's distances -/
/-- how many are told before a distance and a pitch -/
def aN (E : En) (x q : Nat) : Nat := (TL E allP x).length + ((allP.take q).filter (told E (nI (x + 1)))).length
def pN (E : En) (x q : Nat) : Nat := cntT E (fun e => !isTr E e) x q
theorem aN_cnt (E : En) (x q : Nat) : aN E x q = cntT E (fun _ => true) x q := by
  unfold aN cntT
  rw [List.countP_true, List.countP_true]
theorem aN_11 (E : En) (x : Nat) : aN E x 11 = aN E (x + 1) 0 := by rw [aN_cnt, aN_cnt, cntT_11]
theorem aN_s (E : En) (x : Nat) {q : Nat} (hq : q < 11) : aN E x (q + 1) = aN E x q + (if told E (nI (x + 1)) (pv q) then 1 else 0) := by
  rw [aN_cnt, aN_cnt, cntT_s _ _ hq, Bool.and_true]
theorem aN_le (E : En) {x q : Nat} (hx : x ≤ 600) (hq : q ≤ 11) : aN E x q ≤ 6611 := by
  have h1 := TL_len_le E allP x
  rw [allP_len] at h1
  have h2 := List.length_filter_le (told E (nI (x + 1))) (allP.take q)
  have h3 := List.length_take_le q allP
  unfold aN
  omega
theorem pN_le (E : En) (x q : Nat) : pN E x q ≤ aN E x q := by
  unfold pN aN cntT
  exact Nat.add_le_add List.countP_le_length List.countP_le_length
theorem aN_0 (E : En) (x : Nat) : aN E x 0 = (TL E allP x).length := rfl
theorem pN_0 (E : En) (x : Nat) : pN E x 0 = (TL E allP x).countP (fun e => !isTr E e) := rfl
theorem aN_600 (E : En) : (tolds E).length = aN E 600 0 := by rw [aN_0]; unfold tolds; exact Eq.refl _
theorem pN_600 (E : En) : phant E = pN E 600 0 := by rw [pN_0]; unfold phant tolds; exact Eq.refl _
section LDI
variable {σ : St} {A : Ab} {E : En}
theorem lS.call {r : Int32} {m : MI} {as : List Value} (hs : lS σ A) (h : LkD A r m as) : CallI 9 m as σ (fun r' s' => r' = r ∧ lS s' A ∧ FrM σ s') := hs.step h (fun _ h f => ⟨rfl, h, f⟩)
theorem ld_215 {K : Int32 → St → Prop} {v6 : Int32} (hA : okA A) (hs : lS σ A) (k : ∀ σ', lS σ' A → FrM σ σ' → K 1 σ') : Go mL_distances 10 215 [.ref 0, .ref 65, .ref 66, .int (nI (tolds (enS A.1)).length), .int (nI (phant (enS A.1))), .int (nI (missE (enS A.1))), .int v6, .null, .null, .null] [.double (tvD (trC (enS A.1) (enS A.1).1.length) (tolds (enS A.1)).length)] σ (QI K) := by
  have h66 := tolds6600 (enS A.1)
  have hz := tv_ok (n := trC (enS A.1) (enS A.1).1.length) (m := (tolds (enS A.1)).length) (by omega)
  refine Go.dstore dL_distances_215 (by decide) rfl rfl (?_ : Go _ _ 217 [.ref 0, .ref 65, .ref 66, .int (nI (tolds (enS A.1)).length), .int (nI (phant (enS A.1))), .int (nI (missE (enS A.1))), .double (tvD (trC (enS A.1) (enS A.1).1.length) (tolds (enS A.1)).length), .null, .null, .null] _ _ _)
  generalize hD : tvD (trC (enS A.1) (enS A.1).1.length) (tolds (enS A.1)).length = D at hz ⊢
  refine Go.aload_n 0 dL_distances_217 rfl rfl (?_ : Go _ _ 218 _ _ _ _)
  refine Go.bipush dL_distances_218 k_bi_11 (?_ : Go _ _ 220 _ _ _ _)
  refine Go.callV (d := 9) (as := [.int 11]) (st := []) mk_X5_count wl_L_37 shq_0 rfl rfl (Nat.le_of_ble_eq_true rfl) dL_distances_220 (hs.call (lc_ct11 hA)) ?_
  rintro _ s1 ⟨_, rfl, rfl, hs1, f1⟩
  show Go _ _ 223 _ [.int _] _ _
  refine Go.iload_n 3 dL_distances_223 rfl rfl (?_ : Go _ _ 224 _ _ _ _)
  refine Go.icmp_ne 274 dL_distances_224 rfl ⟨fun c => absurd rfl c, fun _ => (?_ : Go _ _ 227 _ _ _ _)⟩
  refine Go.aload_n 0 dL_distances_227 rfl rfl (?_ : Go _ _ 228 _ _ _ _)
  refine Go.bipush dL_distances_228 k_bi_12 (?_ : Go _ _ 230 _ _ _ _)
  refine Go.callV (d := 9) (as := [.int 12]) (st := []) mk_X5_count wl_L_37 shq_0 rfl rfl (Nat.le_of_ble_eq_true rfl) dL_distances_230 (hs1.call (lc_ct12 hA)) ?_
  rintro _ s2 ⟨_, rfl, rfl, hs2, f2⟩
  show Go _ _ 233 _ [.int _] _ _
  refine Go.iload dL_distances_233 rfl (?_ : Go _ _ 235 _ _ _ _)
  refine Go.icmp_ne 274 dL_distances_235 rfl ⟨fun c => absurd rfl c, fun _ => (?_ : Go _ _ 238 _ _ _ _)⟩
  refine Go.aload_n 0 dL_distances_238 rfl rfl (?_ : Go _ _ 239 _ _ _ _)
  refine Go.bipush dL_distances_239 k_bi_13 (?_ : Go _ _ 241 _ _ _ _)
  refine Go.callV (d := 9) (as := [.int 13]) (st := []) mk_X5_count wl_L_37 shq_0 rfl rfl (Nat.le_of_ble_eq_true rfl) dL_distances_241 (hs2.call (lc_ct13 hA)) ?_
  rintro _ s3 ⟨_, rfl, rfl, hs3, f3⟩
  show Go _ _ 244 _ [.int _] _ _
  refine Go.iload dL_distances_244 rfl (?_ : Go _ _ 246 _ _ _ _)
  refine Go.icmp_ne 274 dL_distances_246 rfl ⟨fun c => absurd rfl c, fun _ => (?_ : Go _ _ 249 _ _ _ _)⟩
  refine Go.aload_n 0 dL_distances_249 rfl rfl (?_ : Go _ _ 250 _ _ _ _)
  refine Go.callV (d := 9) (as := []) (st := []) mk_X5_truth wl_L_51 shq_0 rfl rfl (Nat.le_of_ble_eq_true rfl) dL_distances_250 (ct_X5_truth (K := fun r s => r = D ∧ lS s A ∧ FrM s3 s) hA hs3.1 (fun s4 g4 f4 => ⟨?_, ⟨hs3.1.keep hA g4, hs3.2.1.keep f4, hs3.2.2.keep f4⟩, f4⟩)) ?_
  · exact hD
  rintro _ s4 ⟨r4, rfl, er4, hs4, f4⟩
  rw [er4]
  show Go _ _ 253 _ [.double _] _ _
  refine Go.dload dL_distances_253 rfl (?_ : Go _ _ 255 _ _ _ _)
  refine Go.dcmp dL_distances_255 (?_ : Go _ _ 256 _ _ _ _)
  rw [show Op.cmpValue (FP.dcmp D D) .l = 0 from by rw [show FP.dcmp D D = some .eq from FP.Core.dcmp_refl hz]; rfl]
  refine Go.if_ne 274 dL_distances_256 rfl ⟨fun c => absurd rfl c, fun _ => (?_ : Go _ _ 259 _ _ _ _)⟩
  refine Go.aload_n 0 dL_distances_259 rfl rfl (?_ : Go _ _ 260 _ _ _ _)
  refine Go.iload_n 3 dL_distances_260 rfl rfl (?_ : Go _ _ 261 _ _ _ _)
  refine Go.iconst dL_distances_261 k_ic_0 (?_ : Go _ _ 262 _ _ _ _)
  refine Go.callV (d := 9) (as := [.int (nI (tolds (enS A.1)).length), .int 0]) (st := []) mk_X5_told wl_L_49 shq_0 rfl rfl (Nat.le_of_ble_eq_true rfl) dL_distances_262 (hs4.call (lc_tdx hA (by omega) (List.getElem?_eq_none (Nat.le_refl _)))) ?_
  rintro _ s5 ⟨_, rfl, rfl, hs5, f5⟩
  show Go _ _ 265 _ [.int _] _ _
  refine Go.bipush dL_distances_265 k_bi_m4 (?_ : Go _ _ 267 _ _ _ _)
  refine Go.icmp_ne 274 dL_distances_267 rfl ⟨fun c => absurd rfl c, fun _ => (?_ : Go _ _ 270 _ _ _ _)⟩
  refine Go.iconst dL_distances_270 k_ic_1 (?_ : Go _ _ 271 _ _ _ _)
  refine Go.goto 275 dL_distances_271 rfl ?_
  exact Go.zret rfl rfl dL_distances_275 ⟨_, rfl, k s5 hs5 ((((f1.tr f2).tr f3).tr f4).tr f5)⟩
theorem ld_199 {K : Int32 → St → Prop} {v6 : Int32} (hA : okA A) (hs : lS σ A) (k : ∀ σ', lS σ' A → FrM σ σ' → K 1 σ') : Go mL_distances 10 199 [.ref 0, .ref 65, .ref 66, .int (nI (tolds (enS A.1)).length), .int (nI (phant (enS A.1))), .int (nI (missE (enS A.1))), .int v6, .null, .null, .null] [] σ (QI K) := by
  have h66 := tolds6600 (enS A.1)
  have hE := okE_S hA.1
  have hp := phant_eq hE
  have key := ld_215 (v6 := v6) hA hs k
  refine Go.iload_n 3 dL_distances_199 rfl rfl (?_ : Go _ _ 200 _ _ _ _)
  refine Go.if_ne 207 dL_distances_200 rfl ⟨fun c => ?_, fun c => (?_ : Go _ _ 203 _ _ _ _)⟩
  · have h0 : ¬ (tolds (enS A.1)).length = 0 := fun z => c (by rw [z]; rfl)
    unfold tvD at key
    rw [if_neg h0] at key
    refine Go.iload_n 3 dL_distances_207 rfl rfl (?_ : Go _ _ 208 _ _ _ _)
    refine Go.iload dL_distances_208 rfl (?_ : Go _ _ 210 _ _ _ _)
    refine Go.isub dL_distances_210 (?_ : Go _ _ 211 _ _ _ _)
    rw [pk_sub (show phant (enS A.1) ≤ (tolds (enS A.1)).length by omega), show (tolds (enS A.1)).length - phant (enS A.1) = trC (enS A.1) (enS A.1).1.length by omega]
    refine Go.i2d dL_distances_211 (?_ : Go _ _ 212 _ _ _ _)
    refine Go.iload_n 3 dL_distances_212 rfl rfl (?_ : Go _ _ 213 _ _ _ _)
    refine Go.i2d dL_distances_213 (?_ : Go _ _ 214 _ _ _ _)
    exact Go.ddiv dL_distances_214 (vf_of (dv_ok h0 (by omega))) key
  · have h0 : (tolds (enS A.1)).length = 0 := (nI_eq (a := (tolds (enS A.1)).length) (b := 0) (by omega) (by omega)).mp c
    unfold tvD at key
    rw [if_pos h0] at key
    refine Go.dconst1 dL_distances_203 (?_ : Go _ _ 204 _ _ _ _)
    exact Go.goto 215 dL_distances_204 rfl key
theorem ct_Ldistances {K : Int32 → St → Prop} (hA : okA A) (hs : lS σ A) (k : ∀ σ', lS σ' A → FrM σ σ' → K 1 σ') : CallI 10 mL_distances [.ref 0, .ref 65, .ref 66] σ K := by
  have hE := okE_S hA.1
  have h21 := hE.1
  have hend : ∀ s v6, lS s A → FrM σ s → Go mL_distances 10 199 [.ref 0, .ref 65, .ref 66, .int (nI (tolds (enS A.1)).length), .int (nI (phant (enS A.1))), .int (nI (missE (enS A.1))), .int v6, .null, .null, .null] [] s (QI K) := fun s v6 hs f => ld_199 hA hs (fun s' hs' f' => k s' hs' (f.tr f'))
  have hmE : missE (enS A.1) = (enS A.1).1.countP (fun b => !told (enS A.1) b.1 b.2.2.1) := rfl
  have hT600 : (tolds (enS A.1)).length = aN (enS A.1) 600 0 := aN_600 _
  have hP600 : phant (enS A.1) = pN (enS A.1) 600 0 := pN_600 _
  have hget : ∀ x q, x < 600 → q < 11 → told (enS A.1) (nI (x + 1)) (pv q) = true → (tolds (enS A.1))[aN (enS A.1) x q]? = some (nI (x + 1), pv q) := fun x q hx hq ht => TL_at allP hx (allP_get hq) ht rfl
  generalize hEE : enS A.1 = E at hE h21 hend hmE hT600 hP600 hget
  refine cgL_distances ?_
  have misses : ∀ k2 i, i + k2 = E.1.length → ∀ s, lS s A → FrM σ s → Go mL_distances 10 152 [.ref 0, .ref 65, .ref 66, .int (nI (tolds E).length), .int (nI (phant E)), .int (nI ((E.1.take i).countP (fun b => !told E b.1 b.2.2.1))), .int (nI i), .null, .null, .null] [] s (QI K) := by
    intro k2
    induction k2 with
    | zero =>
      intro i hi s hs f
      have hl := hs.2.2
      rw [hEE] at hl
      refine sgL_distances_152 ?_
      rw [hl.1.1]
      refine br_t (nI_le (by omega) (by omega)) ?_
      rw [List.take_of_length_le (by omega), ← hmE]
      exact hend s _ hs f
    | succ k2 ih =>
      intro i hi s hs f
      have hl := hs.2.2
      rw [hEE] at hl
      obtain ⟨b, hb⟩ := get_of (l := E.1) (i := i) (by omega)
      have hb' : (enS A.1).1[i]? = some b := by rw [hEE]; exact hb
      have hk := ih (i + 1) (by omega) s hs f
      rw [take_s hb, List.countP_append] at hk
      refine sgL_distances_152 ?_
      rw [hl.1.1, lb0 hA hs hb', lb2 hA hs hb', nI1 i]
      refine br_f (nI_ge (by omega) (by omega)) ⟨v30 _ (by omega), v3i _ 2 (by omega), ct_Ltold hE hl (lt_br hE (fun e => ?_) (fun e => ?_))⟩
      · rw [nI1]
        have : [b].countP (fun b => !told E b.1 b.2.2.1) = 1 := by simp [e]
        rw [this] at hk
        exact hk
      · rw [Int32.add_zero]
        have : [b].countP (fun b => !told E b.1 b.2.2.1) = 0 := by simp [e]
        rw [this, Nat.add_zero] at hk
        exact hk
  have rows : ∀ k2 x, x + k2 = 600 → ∀ s, lS s A → FrM σ s → Go mL_distances 10 11 [.ref 0, .ref 65, .ref 66, .int (nI (aN E x 0)), .int (nI (pN E x 0)), .int 0, .int (nI (x + 1)), .null, .null, .null] [] s (QI K) := by
    intro k2
    induction k2 with
    | zero =>
      intro x hx s hs f
      refine sgL_distances_11 (br_t (nI_le (a := 601) (by omega) (by omega)) ?_)
      rw [show x = 600 by omega, ← hT600, ← hP600]
      exact misses E.1.length 0 (by omega) s hs f
    | succ k2 ih =>
      intro x hx s hs f
      refine sgL_distances_11 (br_f (nI_ge (b := 601) (by omega) (by omega)) ?_)
      have inner : ∀ k4 q, q + k4 = 11 → ∀ s, lS s A → FrM σ s → Go mL_distances 10 23 [.ref 0, .ref 65, .ref 66, .int (nI (aN E x q)), .int (nI (pN E x q)), .int 0, .int (nI (x + 1)), .int (pv q), .null, .null] [] s (QI K) := by
        intro k4
        induction k4 with
        | zero =>
          intro q hq s hs f
          refine sgL_distances_23 (br_t ?_ ?_)
          · rw [Int32.le_iff_toInt_le, pv_toInt (by omega), show (6 : Int32).toInt = 6 from rfl]; omega
          · rw [nI1, show q = 11 by omega, aN_11, show pN E x 11 = pN E (x + 1) 0 from cntT_11 _ _]
            exact ih (x + 1) (by omega) s hs f
        | succ k4 ih4 =>
          intro q hq s hs f
          have hk := ih4 (q + 1) (by omega)
          have hps : pN E x (q + 1) = pN E x q + (if told E (nI (x + 1)) (pv q) && !isTr E (nI (x + 1), pv q) then 1 else 0) := cntT_s _ _ (by omega)
          rw [aN_s E x (by omega), hps] at hk
          have hl := hs.2.2
          rw [hEE] at hl
          have hle := aN_le E (x := x) (q := q) (by omega) (by omega)
          refine sgL_distances_23 (br_f ?_ (ct_Ltold hE hl (lt_br hE (fun e => ?_) (fun e => ct_LisTrue hE hl ?_))))
          · rw [Int32.le_iff_toInt_le, pv_toInt (by omega), show (6 : Int32).toInt = 6 from rfl]; omega
          · rw [e, Bool.false_and, if_neg (by decide), Nat.add_zero, Nat.add_zero] at hk
            rw [pv_s]
            exact hk s hs f
          · rw [e, Bool.true_and, if_pos rfl] at hk
            have hT := hget x q (by omega) (by omega) e
            have e' := e
            rw [← hEE] at hT e'
            have hgo : ∀ s, lS s A → FrM σ s → (bI (isTr E (nI (x + 1), pv q)) = 0 → Go mL_distances 10 23 [.ref 0, .ref 65, .ref 66, .int (nI (aN E x q) + 1), .int (nI (pN E x q) + 1), .int 0, .int (nI (x + 1)), .int (pv q + 1), .null, .null] [] s (QI K)) ∧ (¬ bI (isTr E (nI (x + 1), pv q)) = 0 → Go mL_distances 10 23 [.ref 0, .ref 65, .ref 66, .int (nI (aN E x q) + 1), .int (nI (pN E x q) + 0), .int 0, .int (nI (x + 1)), .int (pv q + 1), .null, .null] [] s (QI K)) := by
              intro s hs f
              refine bI_br (fun z => ?_) (fun z => ?_)
              · rw [z, Bool.not_false, if_pos rfl] at hk
                rw [nI1, nI1, pv_s]
                exact hk s hs f
              · rw [z, Bool.not_true, if_neg (by decide), Nat.add_zero] at hk
                rw [nI1, Int32.add_zero, pv_s]
                exact hk s hs f
            refine br_c (fun _ => hgo s hs f) (fun c => ?_)
            rw [hEE] at hT
            refine hs.step (lc_td0 hA (g := aN E x q) (by omega) (by rw [hEE]; exact hT) (by omega) (by omega)) (fun s1 hs1 f1 => brf' rfl ?_)
            refine hs1.step (lc_td1 hA (g := aN E x q) (by omega) (by rw [hEE]; exact hT) (by omega) (by omega)) (fun s2 hs2 f2 => brf' rfl ?_)
            refine hs2.step (lc_td2 hA (g := aN E x q) (by omega) (by rw [hEE]; exact hT) (by omega) (by omega)) (fun s3 hs3 f3 => ?_)
            rw [hEE]
            refine ⟨fun z => brf' z ?_, fun z => brf' (by rcases bI_01 (isTr E (nI (x + 1), pv q)) with y | y <;> first | exact absurd y z | exact y) ?_⟩
            · refine hs3.step (lc_td3 hA (g := aN E x q) (by omega) (by rw [hEE]; exact hT) (by omega) (by omega) e') (fun s4 hs4 f4 => br_t ?_ (hgo s4 hs4 ((((f.tr f1).tr f2).tr f3).tr f4)))
              rw [hEE, ltE_told e]
            · refine hs3.step (lc_td3 hA (g := aN E x q) (by omega) (by rw [hEE]; exact hT) (by omega) (by omega) e') (fun s4 hs4 f4 => br_t ?_ (hgo s4 hs4 ((((f.tr f1).tr f2).tr f3).tr f4)))
              rw [hEE, ltE_told e]
      exact inner 11 0 rfl s hs f
  exact rows 600 0 rfl σ hs (FrM.rf σ)
end LDI
