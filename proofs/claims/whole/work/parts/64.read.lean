/-! read: the component reads a pad -/
section READ
variable {e : Nat} {σ : St}
theorem ct_accepts {K : Int32 → St → Prop} {P : Ps} {s : Nat} {c : Int32} (h : rdP σ P) (hi : invP P s) (hs : s < 60) (kn : stepP P c = none → ∀ σ', FrR σ σ' → K 0 σ') (ks : ∀ P', stepP P c = some P' → ∀ σ', FrR σ σ' → rdP σ' P' → K 1 σ') : CallI (e + 4) mX2_accepts [.ref 46, .int c] σ K := by
  obtain ⟨q, w, d, n, mi, T, U⟩ := P
  obtain ⟨h1, h2, h3, h4, h5, h6⟩ := hi
  have h1' : q ≤ 9 := h1
  have h2' : 5 * T.length + (if q ≤ 5 then q else 0) ≤ s := h2
  have h4' : (q = 7 ∨ q = 8) → U.length < 4 := h4
  have h6' : (1 ≤ q ∧ q ≤ 5) → (w = 0 ∨ w = 1) := h6
  rcases (show q = 0 ∨ q = 1 ∨ q = 2 ∨ q = 3 ∨ q = 4 ∨ q = 5 ∨ q = 6 ∨ q = 7 ∨ q = 8 ∨ q = 9 by omega) with rfl | rfl | rfl | rfl | rfl | rfl | rfl | rfl | rfl | rfl
  · exact acc0 h kn ks
  · exact acc1 h kn ks
  · exact acc2 h kn ks
  · exact acc3 h kn ks
  · exact acc4 h (by simp at h2'; omega) (h6' (by decide)) kn ks
  · exact acc5 h (by simp at h2'; omega) (h6' (by decide)) kn ks
  · exact acc6 h kn ks
  · exact acc7 h kn ks
  · exact acc8 h (h4' (Or.inr rfl)) kn ks
  · exact acc9 h h5 kn ks
def P0 : Ps := (0, 0, 0, 0, 0, [], [])
theorem ct_read {K : Int32 → St → Prop} {p : List Int32} (hp : sF σ 44 1 = nI p.length) (hp2 : ∀ (i : Nat) (c : Int32), p[i]? = some c → sA σ 45 i = c) (hl : p.length ≤ 60) (hc : ∀ c ∈ p, 33 ≤ c.toInt ∧ c.toInt ≤ 126) (kl : ∀ s, runP P0 p 0 = .inl s → ∀ σ', FrR σ σ' → K (nI s) σ') (kr : ∀ r, runP P0 p 0 = .inr r → ∀ σ', FrR σ σ' → rdT σ' r.1 r.2 → K (-4) σ') : CallI (e + 5) mX2_read [.ref 46, .ref 44] σ K := by
  have loop : ∀ k2 s, s + k2 = p.length → ∀ (P : Ps) (σ1 : St), FrR σ σ1 → rdP σ1 P → invP P s → runP P (p.drop s) s = runP P0 p 0 → Go mX2_read (e + 5) 17 [.ref 46, .ref 44, .int (nI s)] [] σ1 (QI K) := by
    intro k2
    induction k2 with
    | zero =>
      intro s hs P σ1 f1 r1 i1 hr
      have e44 : sF σ1 44 1 = nI p.length := by rw [f1.1 _ _ (by omega)]; exact hp
      rw [List.drop_of_length_le (by omega)] at hr
      obtain ⟨q, w, d, n, mi, T, U⟩ := P
      have g : rdG σ1 q w d n mi := r1.1
      have t : rdT σ1 T U := r1.2
      have h1' : q ≤ 9 := i1.1
      have h2' : 5 * T.length + (if q ≤ 5 then q else 0) ≤ s := i1.2.1
      have h6' : (1 ≤ q ∧ q ≤ 5) → (w = 0 ∨ w = 1) := i1.2.2.2.2.2
      refine sgX2_read_17 (cgX1_length ?_)
      rw [e44]
      refine br_t (nI_le (by omega) (by omega)) (cgX2_isComplete ?_)
      rw [g.1]
      have bad : runP (q, w, d, n, mi, T, U) [] s = .inl s → (¬ (0 : Int32) = 0 → (¬ nI q = 4 → K (-4) σ1) ∧ (nI q = 4 → CallU (e + 4) mX2_keepTarget [.ref 46, .int (sF σ1 46 8), .int 0] σ1 (fun s8 => K (-4) s8))) ∧ ((0 : Int32) = 0 → CallI (e + 4) mX1_length [.ref 44] σ1 (fun r10 s9 => K r10 s9)) := by
        intro z
        refine brf' rfl (cgX1_length ?_)
        rw [e44, show p.length = s by omega]
        exact kl s (hr.symm.trans z) σ1 f1
      rcases (show q = 0 ∨ q = 1 ∨ q = 2 ∨ q = 3 ∨ q = 4 ∨ q = 5 ∨ q = 6 ∨ q = 7 ∨ q = 8 ∨ q = 9 by omega) with rfl | rfl | rfl | rfl | rfl | rfl | rfl | rfl | rfl | rfl
      · exact br_f (by decide) (br_f (by decide) (brt' (by decide) (bad rfl)))
      · exact br_f (by decide) (br_f (by decide) (brt' (by decide) (bad rfl)))
      · exact br_f (by decide) (br_f (by decide) (brt' (by decide) (bad rfl)))
      · exact br_f (by decide) (br_f (by decide) (brt' (by decide) (bad rfl)))
      · refine br_t rfl (brt' (by decide) (brf' rfl ?_))
        rw [g.2.2.1 (by decide)]
        refine ct_keepTarget t (by simp at h2'; omega) (by rw [g.2.1 (by decide)]; exact h6' (by decide)) (fun σ2 f2 t2 _ => ?_)
        rw [g.2.1 (by decide), g.2.2.2.1 (by decide)] at t2
        exact kr (T ++ [(d, n, 0, w)], U) hr.symm σ2 (f1.tr f2) t2
      · exact br_f (by decide) (br_f (by decide) (brt' (by decide) (bad rfl)))
      · exact br_f (by decide) (br_t rfl (brt' (by decide) (brt' (by decide) (kr (T, U) hr.symm σ1 f1 t))))
      · exact br_f (by decide) (br_f (by decide) (brt' (by decide) (bad rfl)))
      · exact br_f (by decide) (br_f (by decide) (brt' (by decide) (bad rfl)))
      · exact br_f (by decide) (br_f (by decide) (brf' rfl (brt' (by decide) (brt' (by decide) (kr (T, U) hr.symm σ1 f1 t)))))
    | succ k2 ih =>
      intro s hs P σ1 f1 r1 i1 hr
      have e44 : sF σ1 44 1 = nI p.length := by rw [f1.1 _ _ (by omega)]; exact hp
      obtain ⟨c, hcs⟩ := get_of (l := p) (i := s) (by omega)
      have hb := hc c (List.mem_of_getElem? hcs)
      obtain ⟨m, hm, ec⟩ := pos_nI (x := c) (by omega)
      rw [ec, nI_toInt hm] at hb
      rw [drop_s hcs] at hr
      refine sgX2_read_17 (cgX1_length ?_)
      rw [e44]
      refine br_f (nI_ge (by omega) (by omega)) (cgX1_signAt (br_f (nI_pos (by omega)) (br_f (nI_ge (b := 60) (by omega) (by omega)) ⟨vp_in_nI (by omega) (by omega), ?_⟩)))
      rw [ix_nI (by omega), f1.2.1 45 (by omega), hp2 s c hcs]
      refine ⟨by rw [ec]; exact (dg_i2c m (by omega)).2, ct_accepts r1 i1 (by omega) (fun z σ2 f2 => brf' rfl (kl s ?_ σ2 (f1.tr f2))) (fun P' z σ2 f2 r2 => brt' (by decide) ?_)⟩
      · rw [← hr]
        unfold runP
        rw [z]
      · rw [nI1]
        obtain ⟨q, w, d, n, mi, T, U⟩ := P
        refine ih (s + 1) (by omega) P' σ2 (f1.tr f2) r2 (inv_step i1 z) ?_
        rw [← hr]
        conv => rhs; unfold runP
        rw [z]
  refine cgX2_read ?_
  rintro _ rfl _ rfl _ rfl
  refine loop p.length 0 (by omega) P0 _ (frF (frF (frF (FrX.rf σ)))) (rdP_mk ⟨by rw [rf46, if_pos rfl]; rfl, fun z => absurd z.1 (by decide), fun z => absurd z (by decide), fun z => absurd z.1 (by decide), fun z => absurd z (by decide)⟩ ⟨?_, ?_, fun i t ht => (by cases ht), fun j u hu => (by cases hu)⟩) (inv_mk (by decide) (by decide) (fun _ => rfl) (fun z => absurd z (by decide)) (by decide) (fun z => absurd z.1 (by decide))) rfl
  · rw [rf46, if_neg (by decide), rf46, if_neg (by decide), rf46, if_pos rfl]; rfl
  · rw [rf46, if_neg (by decide), rf46, if_pos rfl]; rfl
end READ
