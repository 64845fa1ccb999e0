/-! one turn more: what stays open -/
def adE (E : En) (s : Int32) : En := (E.1, E.2.1 ++ [s], E.2.2)
theorem spE_ad {E : En} {s : Int32} {j : Nat} (h : j < E.2.1.length) : spE (adE E s) j = spE E j := by
  unfold spE adE
  rw [List.getD_eq_getElem?_getD, List.getD_eq_getElem?_getD, List.getElem?_append_left h]
theorem spE_adm {E : En} {s : Int32} : spE (adE E s) E.2.1.length = s := by
  unfold spE adE
  rw [List.getD_eq_getElem?_getD, List.getElem?_append_right (Nat.le_refl _), Nat.sub_self]
  rfl
theorem fitE_ad {E : En} {s x v : Int32} {j : Nat} (h : j < E.2.1.length) : fitE (adE E s) x v j = fitE E x v j := by
  unfold fitE plE hbE
  rw [spE_ad h]
  rfl
theorem nofit_ad {E : En} {s x v : Int32} : ∀ n, n ≤ E.2.1.length → nofit (adE E s) x v n = nofit E x v n := by
  intro n
  induction n with
  | zero => intro _; simp [nofit]
  | succ n ih =>
    intro hn
    rw [nofit_s, nofit_s, ih (by omega), fitE_ad (by omega)]
theorem cfit_ad {E : En} {s x v : Int32} : ∀ n, n ≤ E.2.1.length → cfit (adE E s) x v n = cfit E x v n := by
  intro n
  induction n with
  | zero => intro _; simp [cfit]
  | succ n ih =>
    intro hn
    rw [cfit_s, cfit_s, ih (by omega), fitE_ad (by omega)]
def opP (E : En) (s x v : Int32) : Bool := decide (fitE (adE E s) x v E.2.1.length = 1) || (decide (fitE (adE E s) x v E.2.1.length = 2) && decide (0 < cfit E x v E.2.1.length))
theorem told_ad {E : En} {s x v : Int32} : told (adE E s) x v = (opP E s x v && !nofit E x v E.2.1.length) := by
  have hl : (adE E s).2.1.length = E.2.1.length + 1 := by unfold adE; rw [List.length_append]; rfl
  have hle := fitE_le (adE E s) x v E.2.1.length
  unfold told opP
  rw [hl, nofit_s, cfit_s, nofit_ad _ (Nat.le_refl _), cfit_ad _ (Nat.le_refl _)]
  generalize fitE (adE E s) x v E.2.1.length = f at hle
  cases nofit E x v E.2.1.length
  · rcases (show f = 0 ∨ f = 1 ∨ f = 2 by omega) with rfl | rfl | rfl
    · simp
    · simp
    · simp
  · simp
/-- what no turn rules out -/
def OL (E : En) (V : List Int32) : Nat → List (Int32 × Int32)
  | 0 => []
  | n + 1 => OL E V n ++ (V.filter (fun v => !nofit E (nI (n + 1)) v E.2.1.length)).map (fun v => (nI (n + 1), v))
theorem OL_le (E : En) (V : List Int32) (n : Nat) : (OL E V n).length ≤ n * V.length := by
  induction n with
  | zero => simp [OL]
  | succ n ih =>
    unfold OL
    rw [List.length_append, List.length_map, Nat.succ_mul]
    have := List.length_filter_le (fun v => !nofit E (nI (n + 1)) v E.2.1.length) V
    omega
theorem OL_told (E : En) (s : Int32) (V : List Int32) (n : Nat) : (OL E V n).countP (fun p => opP E s p.1 p.2) = (TL (adE E s) V n).length := by
  induction n with
  | zero => rfl
  | succ n ih =>
    show (OL E V n ++ (V.filter (fun v => !nofit E (nI (n + 1)) v E.2.1.length)).map (fun v => (nI (n + 1), v))).countP _ = _
    rw [TL_s, List.countP_append, ih, List.countP_map, List.countP_filter, List.countP_eq_length_filter]
    congr 2
    apply List.filter_congr
    intro v _
    rw [told_ad]
    rfl
theorem OL_mem {E : En} {V : List Int32} {n : Nat} {p : Int32 × Int32} (h : p ∈ OL E V n) : ∃ x, x < n ∧ p.1 = nI (x + 1) ∧ p.2 ∈ V := by
  induction n with
  | zero => exact absurd h (by simp [OL])
  | succ n ih =>
    have h2 : p ∈ OL E V n ++ (V.filter (fun v => !nofit E (nI (n + 1)) v E.2.1.length)).map (fun v => (nI (n + 1), v)) := h
    rcases List.mem_append.mp h2 with h3 | h3
    · obtain ⟨x, hx, e⟩ := ih h3
      exact ⟨x, by omega, e⟩
    · obtain ⟨v, hv, e⟩ := List.mem_map.mp h3
      obtain ⟨h4, -⟩ := List.mem_filter.mp hv
      rw [← e]
      exact ⟨n, by omega, rfl, h4⟩
/-- a list without twins in another one is not longer -/
theorem nodup_le {l L : List Int32} (hn : l.Nodup) (h : ∀ x ∈ l, x ∈ L) : l.length ≤ L.length := by
  induction l generalizing L with
  | nil => exact Nat.zero_le _
  | cons a l ih =>
    have ha := h a List.mem_cons_self
    have hn' := List.nodup_cons.mp hn
    have h1 := ih (L := L.erase a) hn'.2 (fun x hx => (List.mem_erase_of_ne (fun z => hn'.1 (by rw [← z]; exact hx))).mpr (h x (List.mem_cons_of_mem _ hx)))
    have h2 := List.length_erase_of_mem ha
    have h3 : 0 < L.length := List.length_pos_of_mem ha
    rw [List.length_cons]
    omega
theorem allP_nodup : allP.Nodup := by decide
theorem tgs_mov {L : List Tg} : ∀ n, ∀ b ∈ tgs L n, ∃ t ∈ L, t.2.2.1 = b.2.2.1 := by
  intro n
  induction n with
  | zero => intro b hb; exact absurd hb (by simp [tgs])
  | succ n ih =>
    intro b hb
    have hb' : b ∈ tgs L n ++ (match L[n]? with | some t => [tgB n t] | none => []) := hb
    rcases List.mem_append.mp hb' with h | h
    · exact ih b h
    · rcases hL : L[n]? with _ | t
      · rw [hL] at h; exact absurd h (by simp)
      · rw [hL] at h
        have : b = tgB n t := by simpa using h
        exact ⟨t, List.mem_of_getElem? hL, by rw [this]; rfl⟩
theorem ghP_mov {L : List Tg} (hok : ∀ t ∈ L, okT t) {i k : Nat} : ∀ b ∈ ghP L i k, ∃ t ∈ L, t.2.2.1 = b.2.2.1 := by
  intro b hb
  unfold ghP at hb
  rcases h1 : L[i]? with _ | u
  · rw [h1] at hb; exact absurd hb (by simp)
  · rcases h2 : L[k]? with _ | w
    · rw [h1, h2] at hb; exact absurd hb (by simp)
    · rw [h1, h2] at hb
      have hb' : b ∈ ghB i k u w := hb
      unfold ghB at hb'
      split at hb'
      · rename_i c
        have hu := List.mem_of_getElem? h1
        refine ⟨u, hu, ?_⟩
        have : b.2.2.1 = 0 := by
          rw [List.mem_singleton.mp hb']
        rw [this]
        exact (hok u hu).2.2.2.2 c.1
      · exact absurd hb' (by simp)
theorem ghRow_mov {L : List Tg} (hok : ∀ t ∈ L, okT t) {i : Nat} : ∀ n, ∀ b ∈ ghRow L i n, ∃ t ∈ L, t.2.2.1 = b.2.2.1 := by
  intro n
  induction n with
  | zero => intro b hb; exact absurd hb (by simp [ghRow])
  | succ n ih =>
    intro b hb
    have hb' : b ∈ ghRow L i n ++ (if i < n then ghP L i n else []) := hb
    rcases List.mem_append.mp hb' with h | h
    · exact ih b h
    · split at h
      · exact ghP_mov hok b h
      · exact absurd h (by simp)
theorem ghs_mov {L : List Tg} (hok : ∀ t ∈ L, okT t) : ∀ n, ∀ b ∈ ghs L n, ∃ t ∈ L, t.2.2.1 = b.2.2.1 := by
  intro n
  induction n with
  | zero => intro b hb; exact absurd hb (by simp [ghs])
  | succ n ih =>
    intro b hb
    have hb' : b ∈ ghs L n ++ ghRow L n L.length := hb
    rcases List.mem_append.mp hb' with h | h
    · exact ih b h
    · exact ghRow_mov hok _ b h
theorem pits_6 {S : Sn} (hok : okS S) : (pits (enS S).1 (enS S).2.2.2).length ≤ 6 := by
  have h : (pits (enS S).1 (enS S).2.2.2).length ≤ (S.1.map (fun t => t.2.2.1)).length := by
    apply nodup_le
    · unfold pits
      exact allP_nodup.filter _
    · intro v hv
      unfold pits at hv
      have hs := (List.mem_filter.mp hv).2
      unfold snd at hs
      obtain ⟨b, hb, h2⟩ := List.any_eq_true.mp hs
      rw [Bool.and_eq_true] at h2
      have e := of_decide_eq_true h2.1
      have hb' : b ∈ tgs S.1 S.1.length ++ ghs S.1 S.1.length := hb
      have : ∃ t ∈ S.1, t.2.2.1 = b.2.2.1 := by
        rcases List.mem_append.mp hb' with h | h
        · exact tgs_mov _ b h
        · exact ghs_mov hok.2.1 _ b h
      obtain ⟨t, ht, et⟩ := this
      exact List.mem_map.mpr ⟨t, ht, et.trans e⟩
  rw [List.length_map] at h
  have := hok.1
  omega
