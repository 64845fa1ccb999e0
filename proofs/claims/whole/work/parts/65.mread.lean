/-! the model's reading: letter, figure, wants -/
def mpd (σ : St) (p : List Int32) : Prop := sF σ 64 6 = nI p.length ∧ ∀ (i : Nat) (c : Int32), p[i]? = some c → sA σ 68 i = c
def ltr (p : List Int32) (s : Nat) : Int32 := match p[s]? with
  | some c => c
  | none => -4
def fig (p : List Int32) (s : Nat) : Int32 := if inI 0 9 (ltr p s - 48) then ltr p s - 48 else -4
section MREAD
variable {d : Nat} {σ : St} {p : List Int32} {s : Nat}
theorem ct_letter {K : Int32 → St → Prop} (hp : mpd σ p) (hl : p.length ≤ 60) (hs : sF σ 64 17 = nI s) (hb : s < 2 ^ 20) (k : K (ltr p s) σ) : CallI (d + 1) mX6_letter [.ref 64] σ K := by
  refine cgX6_letter ?_
  rw [hp.1, hs, ix_nI (by omega)]
  unfold ltr at k
  rcases h : p[s]? with _ | c
  · rw [h] at k
    have := List.getElem?_eq_none_iff.mp h
    exact br_t (nI_le (by omega) (by omega)) k
  · rw [h] at k
    have := lt_of h
    rw [hp.2 s c h]
    exact br_f (nI_ge (by omega) (by omega)) ⟨vp_in_nI (by omega) (by omega), k⟩
theorem ct_figure {K : Int32 → St → Prop} (hp : mpd σ p) (hl : p.length ≤ 60) (hs : sF σ 64 17 = nI s) (hb : s < 2 ^ 20) (k : K (fig p s) σ) : CallI (d + 2) mX6_figure [.ref 64] σ K := by
  unfold fig at k
  refine cgX6_figure (ct_letter hp hl hs hb (ct_in ?_))
  show (bI (inI 0 9 (ltr p s - 48)) = 0 → _) ∧ _
  refine bI_br (fun e => ?_) (fun e => ?_)
  · rw [e, if_neg (by decide)] at k; exact k
  · rw [e, if_pos rfl] at k; exact k
/-- nothing happens any more where something was wrong -/
theorem ct_wants0 {K : St → Prop} {x : Int32} (hw : ¬ sF σ 64 18 = -4) (k : K σ) : CallU (d + 1) mX6_wants [.ref 64, .int x] σ K := cgX6_wants (brt' hw k)
theorem ct_wantsT {K : St → Prop} {x : Int32} (hw : sF σ 64 18 = -4) (hs : sF σ 64 17 = nI s) (hx : ¬ x = 0) (k : K (setF (setF σ 64 18 (-4)) 64 17 (nI (s + 1)))) : CallU (d + 1) mX6_wants [.ref 64, .int x] σ K := by
  refine cgX6_wants (brf' hw (br_f hx ?_))
  rintro _ rfl
  rw [show sF (setF σ 64 18 (-4)) 64 17 = nI s by rw [sF_setF, if_neg (by omega)]; exact hs, nI1]
  rintro _ rfl
  exact k
theorem ct_wantsF {K : St → Prop} (hw : sF σ 64 18 = -4) (hs : sF σ 64 17 = nI s) (k : K (setF (setF σ 64 18 (nI s)) 64 17 (nI (s + 1)))) : CallU (d + 1) mX6_wants [.ref 64, .int 0] σ K := by
  refine cgX6_wants (brf' hw (br_t rfl ?_))
  rintro _ rfl
  rw [hs, show sF (setF σ 64 18 (nI s)) 64 17 = nI s by rw [sF_setF, if_neg (by omega)]; exact hs, nI1]
  rintro _ rfl
  exact k
end MREAD
