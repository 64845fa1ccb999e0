theorem setR_self (σ : St) (a : Nat) : setR σ a (sA σ a) = σ := by
  unfold setR
  have : (fun x => if x = a then sA σ a else sA σ x) = sA σ := by
    funext x
    split
    · next h => rw [h]
    · rfl
  rw [this]
  rfl
theorem setR_setR (σ : St) (a : Nat) (g h : Nat → Int32) : setR (setR σ a g) a h = setR σ a h := by
  unfold setR
  have : (fun x => if x = a then h else sA (sF σ, fun x => if x = a then g else sA σ x, sL σ, sP σ) x) = (fun x => if x = a then h else sA σ x) := by
    funext x
    split
    · rfl
    · next hn => show (if x = a then g else sA σ x) = _; rw [if_neg hn]
  rw [this]
  rfl
theorem setA_setR (σ : St) (a i : Nat) (g : Nat → Int32) (v : Int32) : setA (setR σ a g) a i v = setR σ a (upd g i v) := by
  unfold setA
  rw [setR_setR, sA_setR, if_pos rfl]
theorem upd_eq (f : Nat → Int32) (i : Nat) (v : Int32) (j : Nat) : upd f i v j = if j = i then v else f j := rfl
section OPM
variable {d : Nat} {σ : St} {A : Ab}
theorem setA_R (σ : St) (a i : Nat) (v : Int32) : setA σ a i v = setR σ a (upd (sA σ a) i v) := rfl
end OPM
