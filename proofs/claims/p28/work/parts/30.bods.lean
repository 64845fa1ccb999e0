/-! bodies (targets, then ghosts), places, what is heard: in lists -/
/-- distance, strength, movement, lesser wall, greater wall -/
abbrev Bd : Type := Int32 × Int32 × Int32 × Int32 × Int32
def tgB (i : Nat) (t : Tg) : Bd := (t.1, t.2.1, t.2.2.1, nI i, nI i)
def tgs (L : List Tg) : Nat → List Bd
  | 0 => []
  | n + 1 => tgs L n ++ (match L[n]? with | some t => [tgB n t] | none => [])
def ghB (i j : Nat) (a b : Tg) : List Bd := if a.2.2.2 = 1 ∧ b.2.2.2 = 1 ∧ ¬ a.2.1 * b.2.1 / 200 ≤ 0 then [(2 * (if a.1 < b.1 then b.1 else a.1) - (if b.1 < a.1 then b.1 else a.1), a.2.1 * b.2.1 / 200, 0, nI i, nI j)] else []
def ghP (L : List Tg) (i k : Nat) : List Bd := match L[i]?, L[k]? with | some a, some b => ghB i k a b | _, _ => []
def ghRow (L : List Tg) (i : Nat) : Nat → List Bd
  | 0 => []
  | k + 1 => ghRow L i k ++ (if i < k then ghP L i k else [])
def ghs (L : List Tg) : Nat → List Bd
  | 0 => []
  | i + 1 => ghs L i ++ ghRow L i L.length
def bods (L : List Tg) : List Bd := tgs L L.length ++ ghs L L.length
theorem ghB_len (i j : Nat) (a b : Tg) : (ghB i j a b).length ≤ 1 := by unfold ghB; split <;> simp
theorem ghP_len (L : List Tg) (i k : Nat) : (ghP L i k).length ≤ 1 := by
  unfold ghP
  split
  · exact ghB_len _ _ _ _
  · simp
theorem ghRow_0 (L : List Tg) (i k : Nat) (h : k ≤ i + 1) : ghRow L i k = [] := by
  induction k with
  | zero => rfl
  | succ k ih =>
    unfold ghRow
    rw [ih (by omega), if_neg (by omega)]
    rfl
theorem ghRow_len (L : List Tg) (i k : Nat) : (ghRow L i k).length ≤ k - (i + 1) := by
  induction k with
  | zero => simp [ghRow]
  | succ k ih =>
    unfold ghRow
    rw [List.length_append]
    split
    · have := ghP_len L i k
      omega
    · simp; omega
theorem ghRow_mono (L : List Tg) (i : Nat) {k n : Nat} (h : k ≤ n) : (ghRow L i k).length ≤ (ghRow L i n).length := by
  induction n with
  | zero => rw [show k = 0 by omega]; exact Nat.le_refl _
  | succ n ih =>
    rcases Nat.lt_or_ge k (n + 1) with hk | hk
    · refine Nat.le_trans (ih (by omega)) ?_
      rw [show ghRow L i (n + 1) = ghRow L i n ++ (if i < n then ghP L i n else []) from rfl, List.length_append]
      omega
    · rw [show k = n + 1 by omega]; exact Nat.le_refl _
theorem ghs_mono (L : List Tg) {k n : Nat} (h : k ≤ n) : (ghs L k).length ≤ (ghs L n).length := by
  induction n with
  | zero => rw [show k = 0 by omega]; exact Nat.le_refl _
  | succ n ih =>
    rcases Nat.lt_or_ge k (n + 1) with hk | hk
    · refine Nat.le_trans (ih (by omega)) ?_
      rw [show ghs L (n + 1) = ghs L n ++ ghRow L n L.length from rfl, List.length_append]
      omega
    · rw [show k = n + 1 by omega]; exact Nat.le_refl _
theorem tgs_len (L : List Tg) (n : Nat) (h : n ≤ L.length) : (tgs L n).length = n := by
  induction n with
  | zero => rfl
  | succ n ih =>
    obtain ⟨t, ht⟩ := get_of (l := L) (i := n) (by omega)
    unfold tgs
    rw [List.length_append, ih (by omega), ht]
    rfl
theorem ghs_len {L : List Tg} (h : L.length ≤ 6) : (ghs L L.length).length ≤ 15 := by
  have r := fun i => ghRow_len L i L.length
  generalize hn : L.length = n at r h
  have hs : ∀ i, ghs L (i + 1) = ghs L i ++ ghRow L i n := fun i => by rw [← hn]; rfl
  have h0 : ghs L 0 = [] := rfl
  have r0 := r 0
  have r1 := r 1
  have r2 := r 2
  have r3 := r 3
  have r4 := r 4
  have r5 := r 5
  rcases (show n = 0 ∨ n = 1 ∨ n = 2 ∨ n = 3 ∨ n = 4 ∨ n = 5 ∨ n = 6 by omega) with e | e | e | e | e | e | e <;> subst e <;> simp only [hs, h0, List.length_append, List.length_nil] <;> omega
theorem bods_len {L : List Tg} (h : L.length ≤ 6) : (bods L).length ≤ 21 ∧ L.length ≤ (bods L).length := by
  unfold bods
  rw [List.length_append, tgs_len L _ (Nat.le_refl _)]
  have := ghs_len h
  omega
theorem tgs_get (L : List Tg) (n : Nat) (hn : n ≤ L.length) {i : Nat} (hi : i < n) {t : Tg} (ht : L[i]? = some t) : (tgs L n)[i]? = some (tgB i t) := by
  induction n with
  | zero => omega
  | succ n ih =>
    obtain ⟨u, hu⟩ := get_of (l := L) (i := n) (by omega)
    unfold tgs
    rw [hu]
    rcases Nat.lt_or_ge i n with h | h
    · rw [List.getElem?_append_left (by rw [tgs_len L n (by omega)]; exact h)]
      exact ih (by omega) h
    · have e : i = n := by omega
      subst e
      rw [hu] at ht
      cases ht
      rw [List.getElem?_append_right (by rw [tgs_len L i (by omega)]; omega), tgs_len L i (by omega), Nat.sub_self]
      rfl
theorem bods_get {L : List Tg} {i : Nat} {t : Tg} (ht : L[i]? = some t) : (bods L)[i]? = some (tgB i t) := by
  have := lt_of ht
  unfold bods
  rw [List.getElem?_append_left (by rw [tgs_len L _ (Nat.le_refl _)]; exact this)]
  exact tgs_get L _ (Nat.le_refl _) this ht
def okBd (b : Bd) : Prop := (1 ≤ b.1.toInt ∧ b.1.toInt ≤ 600) ∧ (1 ≤ b.2.1.toInt ∧ b.2.1.toInt ≤ 99) ∧ (-5 ≤ b.2.2.1.toInt ∧ b.2.2.1.toInt ≤ 5)
theorem str_prod {a b : Int32} (ha : 1 ≤ a.toInt ∧ a.toInt ≤ 99) (hb : 1 ≤ b.toInt ∧ b.toInt ≤ 99) : ∃ q, q ≤ 49 ∧ a * b / 200 = nI q := by
  obtain ⟨m, hm, rfl⟩ := pos_nI (x := a) (by omega)
  obtain ⟨n, hn, rfl⟩ := pos_nI (x := b) (by omega)
  rw [nI_toInt hm] at ha
  rw [nI_toInt hn] at hb
  have hmn : m * n ≤ 99 * 99 := Nat.mul_le_mul (by omega) (by omega)
  refine ⟨m * n / 200, by omega, ?_⟩
  rw [pk_mul]
  exact pk_div (d := 200) (by omega) (by omega) (by omega)
theorem okB_gh {i j : Nat} {a b : Tg} (ha : okT a) (hb : okT b) : ∀ x ∈ ghB i j a b, okBd x := by
  intro x hx
  unfold ghB at hx
  split at hx
  next hc =>
    simp at hx
    subst hx
    obtain ⟨q, hq, e⟩ := str_prod ha.2.1 hb.2.1
    have h1 := ha.1
    have h2 := hb.1
    refine ⟨?_, ?_, ?_⟩
    · show 1 ≤ (2 * (if a.1 < b.1 then b.1 else a.1) - (if b.1 < a.1 then b.1 else a.1)).toInt ∧ (2 * (if a.1 < b.1 then b.1 else a.1) - (if b.1 < a.1 then b.1 else a.1)).toInt ≤ 600
      have k2 : (2 : Int32).toInt = 2 := by decide
      have key : ∀ x y : Int32, 1 ≤ x.toInt → x.toInt ≤ 300 → 1 ≤ y.toInt → y.toInt ≤ x.toInt → 1 ≤ (2 * x - y).toInt ∧ (2 * x - y).toInt ≤ 600 := by
        intro x y hx hx2 hy hxy
        have e1 : (2 * x).toInt = 2 * x.toInt := by rw [tI_mul (by rw [k2]; omega) (by rw [k2]; omega), k2]
        rw [tI_sub (by rw [e1]; omega) (by rw [e1]; omega), e1]
        omega
      by_cases c1 : a.1 < b.1
      · have c1' := Int32.lt_iff_toInt_lt.mp c1
        rw [if_pos c1, if_neg (fun z => by have := Int32.lt_iff_toInt_lt.mp z; omega)]
        exact key _ _ (by omega) (by omega) (by omega) (by omega)
      · have c1' : ¬ a.1.toInt < b.1.toInt := fun z => c1 (Int32.lt_iff_toInt_lt.mpr z)
        rw [if_neg c1]
        by_cases c2 : b.1 < a.1
        · rw [if_pos c2]; exact key _ _ (by omega) (by omega) (by omega) (by omega)
        · rw [if_neg c2]; exact key _ _ (by omega) (by omega) (by omega) (by omega)
    · show 1 ≤ (a.2.1 * b.2.1 / 200).toInt ∧ (a.2.1 * b.2.1 / 200).toInt ≤ 99
      have h3 := hc.2.2
      rw [e] at h3 ⊢
      rw [Int32.le_iff_toInt_le, nI_toInt (by omega), k0] at h3
      rw [nI_toInt (by omega)]
      omega
    · show -5 ≤ (0 : Int32).toInt ∧ (0 : Int32).toInt ≤ 5
      decide
  · cases hx
theorem ok_ghP {L : List Tg} (h : ∀ t ∈ L, okT t) (i k : Nat) : ∀ x ∈ ghP L i k, okBd x := by
  intro x hx
  unfold ghP at hx
  split at hx
  next a b ha hb => exact okB_gh (h a (List.mem_of_getElem? ha)) (h b (List.mem_of_getElem? hb)) x hx
  · cases hx
theorem ok_ghRow {L : List Tg} (h : ∀ t ∈ L, okT t) (i k : Nat) : ∀ x ∈ ghRow L i k, okBd x := by
  induction k with
  | zero => intro x hx; cases hx
  | succ k ih =>
    intro x hx
    unfold ghRow at hx
    rcases List.mem_append.mp hx with hx | hx
    · exact ih x hx
    · split at hx
      · exact ok_ghP h i k x hx
      · cases hx
theorem ok_ghs {L : List Tg} (h : ∀ t ∈ L, okT t) (i : Nat) : ∀ x ∈ ghs L i, okBd x := by
  induction i with
  | zero => intro x hx; cases hx
  | succ i ih =>
    intro x hx
    unfold ghs at hx
    rcases List.mem_append.mp hx with hx | hx
    · exact ih x hx
    · exact ok_ghRow h i _ x hx
theorem ok_tgs {L : List Tg} (h : ∀ t ∈ L, okT t) (n : Nat) : ∀ x ∈ tgs L n, okBd x := by
  induction n with
  | zero => intro x hx; cases hx
  | succ n ih =>
    intro x hx
    unfold tgs at hx
    rcases List.mem_append.mp hx with hx | hx
    · exact ih x hx
    · split at hx
      next t ht =>
        simp at hx
        subst hx
        have := h t (List.mem_of_getElem? ht)
        exact ⟨⟨this.1.1, Int.le_trans this.1.2 (by decide)⟩, this.2.1, this.2.2.1⟩
      · cases hx
theorem ok_bods {L : List Tg} (h : ∀ t ∈ L, okT t) : ∀ x ∈ bods L, okBd x := by
  intro x hx
  unfold bods at hx
  rcases List.mem_append.mp hx with hx | hx
  · exact ok_tgs h _ x hx
  · exact ok_ghs h _ x hx
/-- the place of a distance with a pitch in the turn j, its spacing s -/
def pl (s x v : Int32) (j : Nat) : Int32 := if 0 < x + v * nI j then irem (x + v * nI j) s else 0
theorem irem_nI {a b : Nat} (ha : a < 2 ^ 31) (h0 : 0 < b) (hb : b < 2 ^ 31) : irem (nI a) (nI b) = nI (a % b) := pk_rem ha h0 hb
theorem irem_0 {s : Int32} (h : 1 ≤ s.toInt) : irem 0 s = 0 := by
  obtain ⟨n, hn, rfl⟩ := pos_nI (x := s) (by omega)
  rw [nI_toInt hn] at h
  have := irem_nI (a := 0) (b := n) (by omega) (by omega) hn
  rw [Nat.zero_mod] at this
  exact this
theorem pl_lt {s x v : Int32} {j : Nat} (h : 1 ≤ s.toInt ∧ s.toInt ≤ 50) : ∃ p, p < 50 ∧ pl s x v j = nI p := by
  unfold pl
  split
  next hc =>
    obtain ⟨m, hm, e⟩ := pos_nI (x := x + v * nI j) (by rw [Int32.lt_iff_toInt_lt, k0] at hc; omega)
    rw [e]
    obtain ⟨n, hn, rfl⟩ := pos_nI (x := s) (by omega)
    rw [nI_toInt hn] at h
    exact ⟨m % n, Nat.lt_of_lt_of_le (Nat.mod_lt _ (by omega)) (by omega), irem_nI hm (by omega) hn⟩
  · exact ⟨0, by omega, rfl⟩
/-- is an echo heard at this place with this pitch -/
def hb (B : List Bd) (bl lo s : Int32) (j : Nat) (v p : Int32) : Bool := B.any (fun b => !decide (b.2.1 < lo) && decide (b.2.2.1 = v) && decide (pl s b.1 b.2.2.1 j = p) && !decide (p < bl))
