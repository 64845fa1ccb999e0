/-! both classes' call: one answer, one new state; ifTurn, ifWall -/
def Both (A : Ab) (m5 : MI) (a5 : List Value) (m6 : MI) (a6 : List Value) : Prop := ∃ (r : Int32) (A' : Ab), okA A' ∧ (∀ (σ : St) (K : Int32 → St → Prop), cR σ A → (∀ σ', FrM σ σ' → cR σ' A' → K r σ') → CallI 9 m5 a5 σ K) ∧ (∀ (σ : St) (K : Int32 → St → Prop), mR σ A → (∀ σ', Fr mod σ σ' → mR σ' A' → K r σ') → CallI 9 m6 a6 σ K)
theorem both_lk {A : Ab} {m5 m6 : MI} {a5 a6 : List Value} (hA : okA A) (h : ∃ r, LkC A r m5 a5 ∧ LkM A r m6 a6) : Both A m5 a5 m6 a6 := by
  obtain ⟨r, h5, h6⟩ := h
  exact ⟨r, A, hA, fun σ K hc k => h5 σ K hc (fun σ' f fm => k σ' fm (hc.keep hA f)), fun σ K hm k => h6 σ K hm (fun σ' f => k σ' f.1 (hm.keepN f))⟩
abbrev FrV (σ σ' : St) : Prop := FrX (fun c k => c = 64 ∧ k = 8) (fun c => c = 65 ∨ (69 ≤ c ∧ c ≤ 71)) False σ σ'
theorem FrV.fm {σ σ' : St} (f : FrV σ σ') : Fr mod σ σ' := FrX.fr f (fun x y z => by unfold mod; omega) (fun x z => by unfold mod; omega) (fun z => z.elim)
theorem FrY.V {σ σ' : St} (f : FrY σ σ') : FrV σ σ' := FrX.mono f (fun _ _ z => z) (fun _ z => Or.inr z) (fun z => z)
theorem mR.keepV {σ σ' : St} {A : Ab} (h : mR σ A) (f : FrV σ σ') (hz : mSc (sA σ' 65) A.1) : mR σ' A := by
  obtain ⟨h1, ⟨h2, h2'⟩, ⟨h3, h3'⟩, h4, h4'⟩ := h
  have e2 : sF σ' 64 2 = sF σ 64 2 := f.1 _ _ (by omega)
  have e4 : sF σ' 64 4 = sF σ 64 4 := f.1 _ _ (by omega)
  have e6 : sF σ' 64 6 = sF σ 64 6 := f.1 _ _ (by omega)
  have e66 : sA σ' 66 = sA σ 66 := f.2.1 _ (by omega)
  have e67 : sA σ' 67 = sA σ 67 := f.2.1 _ (by omega)
  have e68 : sA σ' 68 = sA σ 68 := f.2.1 _ (by omega)
  refine ⟨hz, ⟨by rw [e2]; exact h2, fun q T hq => by rw [e66]; exact h2' q T hq⟩, ⟨by rw [e4]; exact h3, fun T hT => by rw [e67]; exact h3' T hT⟩, by rw [e6]; exact h4, fun i c hc => by rw [e68]; exact h4' i c hc⟩
theorem mSc_push {z z' : Nat → Int32} {S : Sn} {x : Int32} (h : mSc z S) (hm : S.2.1.length < 4) (e1 : z' 1 = nI (S.2.1.length + 1)) (e2 : z' (2 + S.2.1.length) = x) (e : ∀ k, k ≠ 1 → k ≠ 2 + S.2.1.length → z' k = z k) : mSc z' (S.1, S.2.1 ++ [x], S.2.2) := by
  obtain ⟨h1, h2, h3, h4, h5, h6⟩ := h
  refine ⟨by rw [e 0 (by omega) (by omega)]; exact h1, by rw [e1, List.length_append]; rfl, by rw [e 6 (by omega) (by omega)]; exact h3, by rw [e 7 (by omega) (by omega)]; exact h4, fun i t ht => ?_, fun j s hs => ?_⟩
  · rw [e _ (by omega) (by omega), e _ (by omega) (by omega), e _ (by omega) (by omega), e _ (by omega) (by omega)]
    exact h5 i t ht
  · have hs' : (S.2.1 ++ [x])[j]? = some s := hs
    rcases Nat.lt_or_ge j S.2.1.length with z | z
    · rw [List.getElem?_append_left z] at hs'
      rw [e _ (by omega) (by omega)]
      exact h6 j s hs'
    · have hl := lt_of hs'
      rw [List.length_append, List.length_singleton] at hl
      have hj : j = S.2.1.length := by omega
      subst hj
      rw [List.getElem?_append_right (Nat.le_refl _), Nat.sub_self] at hs'
      injection hs' with hs'
      rw [e2]
      exact hs'
theorem mSc_pop {z z' : Nat → Int32} {S : Sn} {x : Int32} (h : mSc z (S.1, S.2.1 ++ [x], S.2.2)) (hm : S.2.1.length < 4) (e1 : z' 1 = nI S.2.1.length) (e : ∀ k, k ≠ 1 → k ≠ 2 + S.2.1.length → z' k = z k) : mSc z' S := by
  obtain ⟨h1, h2, h3, h4, h5, h6⟩ := h
  refine ⟨by rw [e 0 (by omega) (by omega)]; exact h1, e1, by rw [e 6 (by omega) (by omega)]; exact h3, by rw [e 7 (by omega) (by omega)]; exact h4, fun i t ht => ?_, fun j s hs => ?_⟩
  · rw [e _ (by omega) (by omega), e _ (by omega) (by omega), e _ (by omega) (by omega), e _ (by omega) (by omega)]
    exact h5 i t ht
  · have hl := lt_of hs
    rw [e _ (by omega) (by omega)]
    exact h6 j s (by show (S.2.1 ++ [x])[j]? = some s; rw [List.getElem?_append_left hl]; exact hs)
theorem mSc_popT {z z' : Nat → Int32} {S : Sn} {t : Tg} (h : mSc z (S.1 ++ [t], S.2)) (e1 : z' 0 = nI S.1.length) (e : ∀ k, k ≠ 0 → z' k = z k) : mSc z' S := by
  obtain ⟨h1, h2, h3, h4, h5, h6⟩ := h
  refine ⟨e1, by rw [e 1 (by omega)]; exact h2, by rw [e 6 (by omega)]; exact h3, by rw [e 7 (by omega)]; exact h4, fun i t' ht => ?_, fun j s hs => ?_⟩
  · have hl := lt_of ht
    rw [e _ (by omega), e _ (by omega), e _ (by omega), e _ (by omega)]
    exact h5 i t' (by show (S.1 ++ [t])[i]? = some t'; rw [List.getElem?_append_left hl]; exact ht)
  · rw [e _ (by omega)]
    exact h6 j s hs
theorem okS_turn {S : Sn} {x : Int32} (h : okS S) (hm : S.2.1.length < 4) (hx : isSp x = true) : okS (S.1, S.2.1 ++ [x], S.2.2) := by
  obtain ⟨h1, h2, h3, h4, h5, h6⟩ := h
  have hx' := of_decide_eq_true hx
  refine ⟨h1, h2, ?_, ?_, fun s hs => ?_, h6⟩
  · show 1 ≤ (S.2.1 ++ [x]).length
    rw [List.length_append]; omega
  · show (S.2.1 ++ [x]).length ≤ 4
    rw [List.length_append]
    show S.2.1.length + 1 ≤ 4
    omega
  · rcases List.mem_append.mp hs with z | z
    · exact h5 s z
    · rw [List.mem_singleton.mp z]; exact hx'
theorem okS_tg {S : Sn} {t : Tg} (h : okS S) (hn : S.1.length < 6) (ht : okT t) : okS (S.1 ++ [t], S.2) := by
  obtain ⟨h1, h2, h3⟩ := h
  refine ⟨?_, fun u hu => ?_, h3⟩
  · show (S.1 ++ [t]).length ≤ 6
    rw [List.length_append]
    show S.1.length + 1 ≤ 6
    omega
  · rcases List.mem_append.mp hu with z | z
    · exact h2 u z
    · rw [List.mem_singleton.mp z]; exact ht
/-- what a turn more would tell: 0 all, 1 phantoms, 2 missed -/
def wtR (E : En) : Nat → Nat
  | 0 => (tolds E).length
  | 1 => phant E
  | _ => missE E
theorem wtR0 (E : En) : wtR E 0 = (tolds E).length := rfl
theorem wtR1 (E : En) : wtR E 1 = phant E := rfl
theorem wtR2 (E : En) : wtR E 2 = missE E := rfl
section IFS
variable {d : Nat} {σ : St} {A : Ab} {S : Sn}
theorem ct_toldAll {K : Int32 → St → Prop} {E : En} (hE : okE E) (h : modOK σ E) (k : K (nI (tolds E).length) σ) : CallI (d + 4) mX6_toldMany [.ref 64, .int 0] σ K := by
  refine ct_toldMany (ph := false) hE h ?_
  rw [if_neg (by decide)]
  exact k
theorem ct_toldPh {K : Int32 → St → Prop} {E : En} (hE : okE E) (h : modOK σ E) (k : K (nI (phant E)) σ) : CallI (d + 4) mX6_toldMany [.ref 64, .int 1] σ K := by
  refine ct_toldMany (ph := true) hE h ?_
  rw [if_pos rfl]
  exact k
theorem wt_end {K : St → Prop} {x : Int32} {s : St} (hm : S.2.1.length < 4) (h : mSc (sA s 65) (S.1, S.2.1 ++ [x], S.2.2)) (k : ∀ s', FrV s s' → mSc (sA s' 65) S → K s') : ∀ s16, s16 = setA s 65 1 ((sA s 65 1) - 1) → vp_in (2 + (sA s16 65 1)) 32 ∧ ∀ s17, s17 = setA s16 65 (ix (2 + (sA s16 65 1))) 0 → K s17 := by
  rintro _ rfl
  have e1 : sA s 65 1 = nI (S.2.1.length + 1) := by
    have h2 := h.2.1
    rw [List.length_append] at h2
    exact h2
  have e2 : sA (setA s 65 1 (sA s 65 1 - 1)) 65 1 = nI S.2.1.length := by
    rw [sA_setA, if_pos ⟨rfl, rfl⟩, e1]
    exact nI_pred _
  have e3 : (2 : Int32) + nI S.2.1.length = nI (2 + S.2.1.length) := nI_add 2 _
  rw [e2, e3, ix_nI (by omega)]
  refine ⟨vp_in_nI (by omega) (by omega), ?_⟩
  rintro _ rfl
  refine k _ (((FrX.rf (P := fun c k => c = 64 ∧ k = 8) (C := fun c => c = 65 ∨ (69 ≤ c ∧ c ≤ 71)) (l := False) s).toA (Or.inl rfl)).toA (Or.inl rfl)) (mSc_pop (x := x) h hm ?_ (fun k h1 h2 => ?_))
  · rw [sA_setA, if_neg (by omega), e2]
  · rw [sA_setA, if_neg (by omega), sA_setA, if_neg (by omega)]
theorem ct_withTurn {K : Int32 → St → Prop} {x : Int32} {w : Nat} (hz : mSc (sA σ 65) S) (hok : okS S) (hm : S.2.1.length < 4) (hx : isSp x = true) (hw : w ≤ 2) (k : ∀ σ', FrV σ σ' → mSc (sA σ' 65) S → K (nI (wtR (enS (S.1, S.2.1 ++ [x], S.2.2)) w)) σ') : CallI (d + 6) mX6_withTurn [.ref 64, .int x, .int (nI w)] σ K := by
  have hok' := okS_turn hok hm hx
  have hE := okE_S hok'
  have e3 : (2 : Int32) + nI S.2.1.length = nI (2 + S.2.1.length) := nI_add 2 _
  refine cgX6_withTurn ?_
  rw [hz.2.1, e3, ix_nI (by omega)]
  refine ⟨vp_in_nI (by omega) (by omega), ?_⟩
  rintro _ rfl
  have e1 : sA (setA σ 65 (2 + S.2.1.length) x) 65 1 = nI S.2.1.length := by rw [sA_setA, if_neg (by omega)]; exact hz.2.1
  rw [e1, nI1]
  rintro _ rfl
  have f0 : FrV σ (setA (setA σ 65 (2 + S.2.1.length) x) 65 1 (nI (S.2.1.length + 1))) := ((FrX.rf (P := fun c k => c = 64 ∧ k = 8) (C := fun c => c = 65 ∨ (69 ≤ c ∧ c ≤ 71)) (l := False) σ).toA (Or.inl rfl)).toA (Or.inl rfl)
  have hz' : mSc (sA (setA (setA σ 65 (2 + S.2.1.length) x) 65 1 (nI (S.2.1.length + 1))) 65) (S.1, S.2.1 ++ [x], S.2.2) := by
    refine mSc_push hz hm ?_ ?_ (fun k h1 h2 => ?_)
    · rw [sA_setA, if_pos ⟨rfl, rfl⟩]
    · rw [sA_setA, if_neg (by omega), sA_setA, if_pos ⟨rfl, rfl⟩]
    · rw [sA_setA, if_neg (by omega), sA_setA, if_neg (by omega)]
  refine ct_mlisten hz' hok' (fun s f e => ?_)
  have hzs : mSc (sA s 65) (S.1, S.2.1 ++ [x], S.2.2) := by
    rw [f.2.1 65 (by omega)]; exact hz'
  have hend : ∀ r, (∀ σ', FrV σ σ' → mSc (sA σ' 65) S → K r σ') → ∀ s', FrV s s' → mSc (sA s' 65) S → K r s' := fun r k s' f' h' => k s' ((FrX.tr f0 f.V).tr f') h'
  rcases (show w = 0 ∨ w = 1 ∨ w = 2 by omega) with rfl | rfl | rfl
  · rw [wtR0] at k
    exact brf' rfl (ct_toldAll hE e (wt_end hm hzs (hend _ k)))
  · rw [wtR1] at k
    exact brt' (by decide) (brf' rfl (ct_toldPh hE e (wt_end hm hzs (hend _ k))))
  · rw [wtR2] at k
    exact brt' (by decide) (brt' (by decide) (ct_missed hE e (wt_end hm hzs (hend _ k))))
theorem bo_ifTurn (hA : okA A) (x w : Int32) : Both A mX5_ifTurn [.ref 0, .int x, .int w] mX6_ifTurn [.ref 64, .int x, .int w] := by
  have hok := hA.1
  have hn := hok.1
  have hm4 := hok.2.2.2.1
  cases h1 : isSp x
  · exact ⟨-1, A, hA, fun σ K h k => cgX5_ifTurn (ct_isSpacing (by rw [h1]; exact br_t rfl (k σ (FrM.rf σ) h))), fun σ K h k => cgX6_ifTurn (ct_isSpacingM (by rw [h1]; exact br_t rfl (k σ (Fr.rf σ) h)))⟩
  rcases wi_cases (n := 2) w (by decide) with h2 | ⟨m, hm, rfl, h2⟩
  · have h2' : decide ((0 : Int32).toInt ≤ w.toInt ∧ w.toInt ≤ (2 : Int32).toInt) = false := h2
    exact ⟨-1, A, hA, fun σ K h k => cgX5_ifTurn (ct_isSpacing (by rw [h1]; exact br_f one_ne (ct_isWithin (by rw [h2']; exact brf' rfl (k σ (FrM.rf σ) h))))), fun σ K h k => cgX6_ifTurn (ct_isSpacingM (by rw [h1]; exact br_f one_ne (ct_in (by rw [h2']; exact brf' rfl (k σ (Fr.rf σ) h)))))⟩
  have h2' : decide ((0 : Int32).toInt ≤ (nI m).toInt ∧ (nI m).toInt ≤ (2 : Int32).toInt) = true := h2
  rcases Nat.lt_or_ge A.1.2.1.length 4 with h3 | h3
  · have hok' := okS_turn hok h3 h1
    have hE := okE_S hok'
    refine ⟨nI (wtR (enS (A.1.1, A.1.2.1 ++ [x], A.1.2.2)) m), A, hA, fun σ K h k => cgX5_ifTurn (ct_isSpacing ?_), fun σ K h k => cgX6_ifTurn (ct_isSpacingM ?_)⟩
    · rw [h1]
      refine br_f one_ne (ct_isWithin ?_)
      rw [h2']
      refine brt' one_ne (ct_turnCount one_sc h.1 (br_t (nI_lt (b := 4) (by omega) (by omega)) (ct_become sc7 one_sc h.1 hok (fun σ1 f1 c1 => ct_addTurn sc7 c1 h3 ?_ (fun σ2 f2 c2 => ct_listen sc7 c2 hok' (fun σ3 f3 e => ?_))))))
      · have := of_decide_eq_true h1
        rw [Int32.le_iff_toInt_le, k0]; omega
      · have fs : Fr scr σ σ3 := ((f1.mono (fun c hc => by unfold inSc at hc; unfold scr; omega)).tr (f2.mono (fun c hc => by unfold inSc at hc; unfold scr; omega))).tr f3.S
        have fm : FrM σ σ3 := ((f1.M (fun c hc => by unfold inSc at hc; omega)).tr (f2.M (fun c hc => by unfold inSc at hc; omega))).tr f3.M
        have hk := k σ3 fm (h.keep hA fs)
        rcases (show m = 0 ∨ m = 1 ∨ m = 2 by omega) with rfl | rfl | rfl
        · exact br_t rfl (ct_toldCount hE e hk)
        · refine br_f (by decide) (br_t rfl (ct_toldCount hE e (ct_trueCount hE e ?_)))
          rw [sub_phant hE]; exact hk
        · exact br_f (by decide) (br_f (by decide) (ct_missedCount hE e hk))
    · rw [h1]
      refine br_f one_ne (ct_in ?_)
      rw [h2', h.1.2.1]
      exact brt' one_ne (brt' (fun c => by have := (nI_eq (a := A.1.2.1.length) (b := 4) (by omega) (by omega)).mp c; omega) (ct_withTurn h.1 hok h3 h1 hm (fun σ' f hz => k σ' f.fm (h.keepV f hz))))
  · refine ⟨-3, A, hA, fun σ K h k => cgX5_ifTurn (ct_isSpacing ?_), fun σ K h k => cgX6_ifTurn (ct_isSpacingM ?_)⟩
    · rw [h1]
      refine br_f one_ne (ct_isWithin ?_)
      rw [h2']
      exact brt' one_ne (ct_turnCount one_sc h.1 (br_f (nI_nlt (b := 4) (by omega) (by omega)) (k σ (FrM.rf σ) h)))
    · rw [h1]
      refine br_f one_ne (ct_in ?_)
      rw [h2', h.1.2.1]
      refine brt' one_ne (brf' ?_ (k σ (Fr.rf σ) h))
      rw [show A.1.2.1.length = 4 by omega]; rfl
theorem bo_ifWall (hA : okA A) (x s w : Int32) : Both A mX5_ifWall [.ref 0, .int x, .int s, .int w] mX6_ifWall [.ref 64, .int x, .int s, .int w] := by
  have hok := hA.1
  have hn := hok.1
  have hm4 := hok.2.2.2.1
  rcases wi_cases (n := 1) w (by decide) with h2 | ⟨m, hm, rfl, h2⟩
  · have h2' : decide ((0 : Int32).toInt ≤ w.toInt ∧ w.toInt ≤ (1 : Int32).toInt) = false := h2
    exact ⟨-1, A, hA, fun σ K h k => cgX5_ifWall (ct_isWithin (by rw [h2']; exact brf' rfl (k σ (FrM.rf σ) h))), fun σ K h k => cgX6_ifWall (ct_isBody (bI_br (fun _ => k σ (Fr.rf σ) h) (fun _ => ct_in (by rw [h2']; exact brf' rfl (k σ (Fr.rf σ) h)))))⟩
  have h2' : decide ((0 : Int32).toInt ≤ (nI m).toInt ∧ (nI m).toInt ≤ (1 : Int32).toInt) = true := h2
  have he : errT A.1 x s 0 1 = if okB x s 0 = true then (if A.1.1.any (isAt x 0) then -2 else if A.1.1.length < 6 then 0 else -3) else -1 := by
    unfold errT
    by_cases c : okB x s 0 = true
    · rw [if_pos ⟨c, Or.inr rfl⟩, if_pos c]
    · rw [if_neg (fun z => c z.1), if_neg c]
  have hC : ∀ r, (errT A.1 x s 0 1 ≠ 0) → r = errT A.1 x s 0 1 → ∀ (σ : St) (K : Int32 → St → Prop), cR σ A → (∀ σ', FrM σ σ' → cR σ' A → K r σ') → CallI 9 mX5_ifWall [.ref 0, .int x, .int s, .int (nI m)] σ K := by
    intro r h0 hr σ K h k
    refine cgX5_ifWall (ct_isWithin ?_)
    rw [h2']
    refine brt' one_ne (ct_comingError hok h (br_f h0 ?_))
    rw [← hr]
    exact k σ (FrM.rf σ) h
  cases h3 : okB x s 0
  · have he' : errT A.1 x s 0 1 = -1 := by rw [he, if_neg (by rw [h3]; decide)]
    exact ⟨-1, A, hA, hC _ (by rw [he']; decide) he'.symm, fun σ K h k => cgX6_ifWall (ct_isBody (by rw [h3]; exact br_t rfl (k σ (Fr.rf σ) h)))⟩
  rw [if_pos h3] at he
  cases h4 : A.1.1.any (isAt x 0)
  rotate_left
  · have he' : errT A.1 x s 0 1 = -2 := by rw [he, h4]; rfl
    refine ⟨-2, A, hA, hC _ (by rw [he']; decide) he'.symm, fun σ K h k => cgX6_ifWall (ct_isBody ?_)⟩
    rw [h3]
    refine br_f one_ne (ct_in ?_)
    rw [h2']
    refine brt' one_ne (ct_isThere h.1 hn ?_)
    rw [h4]
    exact br_f one_ne (k σ (Fr.rf σ) h)
  rw [h4, if_neg (by decide)] at he
  rcases Nat.lt_or_ge A.1.1.length 6 with h5 | h5
  rotate_left
  · rw [if_neg (by omega)] at he
    refine ⟨-3, A, hA, hC _ (by rw [he]; decide) he.symm, fun σ K h k => cgX6_ifWall (ct_isBody ?_)⟩
    rw [h3]
    refine br_f one_ne (ct_in ?_)
    rw [h2']
    refine brt' one_ne (ct_isThere h.1 hn ?_)
    rw [h4, h.1.1]
    refine br_t rfl (brf' ?_ (k σ (Fr.rf σ) h))
    rw [show A.1.1.length = 6 by omega]; rfl
  rw [if_pos h5] at he
  have hb := of_decide_eq_true h3
  have hok' := okS_tg (t := (x, s, 0, 1)) hok h5 ⟨hb.1, hb.2.1, hb.2.2, Or.inr rfl, fun _ => rfl⟩
  have hE := okE_S hok'
  have hbl := bods_len hok'.1
  refine ⟨nI (if m = 0 then (enS (A.1.1 ++ [(x, s, 0, 1)], A.1.2)).1.length - (A.1.1 ++ [((x, s, 0, 1) : Tg)]).length else (tolds (enS (A.1.1 ++ [(x, s, 0, 1)], A.1.2))).length), A, hA, fun σ K h k => cgX5_ifWall (ct_isWithin ?_), fun σ K h k => cgX6_ifWall (ct_isBody ?_)⟩
  · rw [h2']
    refine brt' one_ne (ct_comingError hok h (br_t he (ct_become sc7 one_sc h.1 hok (fun σ1 f1 c1 => ct_join (t := (x, s, 0, 1)) sc7 c1 h5 (Or.inr rfl) (fun σ2 f2 c2 => ct_listen sc7 c2 hok' (fun σ3 f3 e => ?_))))))
    have fs : Fr scr σ σ3 := ((f1.mono (fun c hc => by unfold inSc at hc; unfold scr; omega)).tr (f2.mono (fun c hc => by unfold inSc at hc; unfold scr; omega))).tr f3.S
    have fm : FrM σ σ3 := ((f1.M (fun c hc => by unfold inSc at hc; omega)).tr (f2.M (fun c hc => by unfold inSc at hc; omega))).tr f3.M
    have hk := k σ3 fm (h.keep hA fs)
    rcases (show m = 0 ∨ m = 1 by omega) with rfl | rfl
    · rw [if_pos rfl] at hk
      exact brf' rfl (ct_ghostCount hE e hbl.2 hk)
    · rw [if_neg (by decide)] at hk
      exact brt' (by decide) (ct_toldCount hE e hk)
  · rw [h3]
    refine br_f one_ne (ct_in ?_)
    rw [h2']
    refine brt' one_ne (ct_isThere h.1 hn ?_)
    rw [h4, h.1.1]
    refine br_t rfl (brt' (fun c => by have := (nI_eq (a := A.1.1.length) (b := 6) (by omega) (by omega)).mp c; omega) (ct_add (t := (x, s, 0, 1)) h.1 h5 hm4 (fun g hg => ?_)))
    have f0 : FrV σ (setR σ 65 g) := by
      refine ⟨fun _ _ _ => rfl, fun c hc => ?_, rfl, fun _ => rfl⟩
      rw [sA_setR, if_neg (by omega)]
    have hz' : mSc (sA (setR σ 65 g) 65) (A.1.1 ++ [(x, s, 0, 1)], A.1.2) := by rw [sA_setR, if_pos rfl]; exact hg
    refine ct_mlisten hz' hok' (fun s3 f e => ?_)
    have hzs : mSc (sA s3 65) (A.1.1 ++ [(x, s, 0, 1)], A.1.2) := by rw [f.2.1 65 (by omega)]; exact hz'
    have e0 : sA s3 65 0 = nI (A.1.1 ++ [((x, s, 0, 1) : Tg)]).length := hzs.1
    have hend : mSc (sA (setA s3 65 0 (sA s3 65 0 - 1)) 65) A.1 := by
      refine mSc_popT (t := (x, s, 0, 1)) hzs ?_ (fun k h1 => ?_)
      · rw [sA_setA, if_pos ⟨rfl, rfl⟩, e0, List.length_append]
        exact nI_pred _
      · rw [sA_setA, if_neg (by omega)]
    have ff : FrV σ (setA s3 65 0 (sA s3 65 0 - 1)) := (FrX.tr f0 f.V).toA (Or.inl rfl)
    have hk := k _ ff.fm (h.keepV ff hend)
    rcases (show m = 0 ∨ m = 1 by omega) with rfl | rfl
    · rw [if_pos rfl] at hk
      refine brf' rfl ?_
      rintro _ rfl
      rw [show sF s3 64 8 = nI (enS (A.1.1 ++ [(x, s, 0, 1)], A.1.2)).1.length from e.1.1]
      have hs : nI (enS (A.1.1 ++ [(x, s, 0, 1)], A.1.2)).1.length - sA s3 65 0 = nI ((enS (A.1.1 ++ [(x, s, 0, 1)], A.1.2)).1.length - (A.1.1 ++ [((x, s, 0, 1) : Tg)]).length) := by
        rw [e0]; exact pk_sub hbl.2
      rw [hs]
      exact hk
    · rw [if_neg (by decide)] at hk
      refine brt' (by decide) (ct_toldAll hE e ?_)
      rintro _ rfl
      exact hk
end IFS
