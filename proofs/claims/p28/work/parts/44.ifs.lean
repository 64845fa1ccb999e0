theorem okS_turn {S : Sn} {x : Int32} (h : okS S) (hm : S.2.1.length < 4) (hx : isSp x = true) : okS (S.1, S.2.1 ++ [x], S.2.2) := by
  obtain ⟨h1, h2, h3, h4, h5, h6⟩ := h
  have hx' := of_decide_eq_true hx
  refine ⟨h1, h2, ?_, ?_, fun s hs => ?_, h6⟩
  · show 1 ≤ (S.2.1 ++ [x]).length
    rw [List.length_append]; omega
  · show (S.2.1 ++ [x]).length ≤ 4
    rw [List.length_append]
    show S.2.1.length + 1 ≤ 4
    omega
  · rcases List.mem_append.mp hs with z | z
    · exact h5 s z
    · rw [List.mem_singleton.mp z]; exact hx'
theorem okS_tg {S : Sn} {t : Tg} (h : okS S) (hn : S.1.length < 6) (ht : okT t) : okS (S.1 ++ [t], S.2) := by
  obtain ⟨h1, h2, h3⟩ := h
  refine ⟨?_, fun u hu => ?_, h3⟩
  · show (S.1 ++ [t]).length ≤ 6
    rw [List.length_append]
    show S.1.length + 1 ≤ 6
    omega
  · rcases List.mem_append.mp hu with z | z
    · exact h2 u z
    · rw [List.mem_singleton.mp z]; exact ht
/-- what a turn more would tell: 0 all, 1 phantoms, 2 missed -/
def wtR (E : En) : Nat → Nat
  | 0 => (tolds E).length
  | 1 => phant E
  | _ => missE E
theorem wtR0 (E : En) : wtR E 0 = (tolds E).length := rfl
theorem wtR1 (E : En) : wtR E 1 = phant E := rfl
theorem wtR2 (E : En) : wtR E 2 = missE E := rfl
section IFS
variable {d : Nat} {σ : St} {A : Ab} {S : Sn}
end IFS
