/-! numbers, pictures, frames -/
abbrev Tg : Type := Int32 × Int32 × Int32 × Int32
/-- a scene: targets (distance, strength, movement, wall), spacings, blind, loud -/
abbrev Sn : Type := List Tg × List Int32 × Int32 × Int32
def okT (t : Tg) : Prop := (1 ≤ t.1.toInt ∧ t.1.toInt ≤ 300) ∧ (1 ≤ t.2.1.toInt ∧ t.2.1.toInt ≤ 99) ∧ (-5 ≤ t.2.2.1.toInt ∧ t.2.2.1.toInt ≤ 5) ∧ (t.2.2.2 = 0 ∨ t.2.2.2 = 1) ∧ (t.2.2.2 = 1 → t.2.2.1 = 0)
def okS (S : Sn) : Prop := S.1.length ≤ 6 ∧ (∀ t ∈ S.1, okT t) ∧ 1 ≤ S.2.1.length ∧ S.2.1.length ≤ 4 ∧ (∀ s ∈ S.2.1, 10 ≤ s.toInt ∧ s.toInt ≤ 50) ∧ (0 ≤ S.2.2.1.toInt ∧ S.2.2.1.toInt ≤ 9) ∧ (1 ≤ S.2.2.2.toInt ∧ S.2.2.2.toInt ≤ 99)
/-- the rows of a scene at place i hold t -/
def rowT (σ : St) (a i : Nat) (t : Tg) : Prop := sA σ (a + 1) i = t.1 ∧ sA σ (a + 2) i = t.2.1 ∧ sA σ (a + 3) i = t.2.2.1 ∧ sA σ (a + 4) i = t.2.2.2
def cSc (σ : St) (a : Nat) (S : Sn) : Prop := sF σ a 5 = nI S.1.length ∧ sF σ a 6 = nI S.2.1.length ∧ sF σ a 7 = S.2.2.1 ∧ sF σ a 8 = S.2.2.2 ∧ (∀ (i : Nat) (t : Tg), S.1[i]? = some t → rowT σ a i t) ∧ (∀ (j : Nat) (s : Int32), S.2.1[j]? = some s → sA σ (a + 5) j = s)
theorem br_c' {c A B : Prop} (a : ¬ c → A) (b : c → B) : (¬ c → A) ∧ (c → B) := ⟨a, b⟩
def bI (b : Bool) : Int32 := if b then 1 else 0
theorem bI_t : bI true = 1 := rfl
theorem bI_f : bI false = 0 := rfl
theorem bI_01 (b : Bool) : bI b = 0 ∨ bI b = 1 := by cases b <;> simp [bI]
theorem one_ne : ¬ (1 : Int32) = 0 := by decide
theorem ix_nI {n : Nat} (h : n < 2 ^ 31) : ix (nI n) = n := nI_clamp h
theorem nar_b {x : Int32} (h : x = 0 ∨ x = 1) : narrow .boolean (.int x) = .int x := (bool_fit h).1
theorem nbo_id {x : Int32} (h : x = 0 ∨ x = 1) : nbo x = x := by rcases h with rfl | rfl <;> decide +kernel
theorem sF_setF (σ : St) (a k c j : Nat) (v : Int32) : sF (setF σ a k v) c j = if c = a ∧ j = k then v else sF σ c j := rfl
theorem sA_setF (σ : St) (a k : Nat) (v : Int32) : sA (setF σ a k v) = sA σ := rfl
theorem sL_setF (σ : St) (a k : Nat) (v : Int32) : sL (setF σ a k v) = sL σ := rfl
theorem sP_setF (σ : St) (a k : Nat) (v : Int32) : sP (setF σ a k v) = sP σ := rfl
theorem sF_setR (σ : St) (a : Nat) (g : Nat → Int32) : sF (setR σ a g) = sF σ := rfl
theorem sA_setR (σ : St) (a c : Nat) (g : Nat → Int32) : sA (setR σ a g) c = if c = a then g else sA σ c := rfl
theorem sL_setR (σ : St) (a : Nat) (g : Nat → Int32) : sL (setR σ a g) = sL σ := rfl
theorem sP_setR (σ : St) (a : Nat) (g : Nat → Int32) : sP (setR σ a g) = sP σ := rfl
theorem sF_setA (σ : St) (a i : Nat) (v : Int32) : sF (setA σ a i v) = sF σ := rfl
theorem sL_setA (σ : St) (a i : Nat) (v : Int32) : sL (setA σ a i v) = sL σ := rfl
theorem sP_setA (σ : St) (a i : Nat) (v : Int32) : sP (setA σ a i v) = sP σ := rfl
theorem sA_setA (σ : St) (a i c j : Nat) (v : Int32) : sA (setA σ a i v) c j = if c = a ∧ j = i then v else sA σ c j := by
  show (if c = a then upd (sA σ a) i v else sA σ c) j = _
  by_cases h : c = a
  · subst h
    by_cases h2 : j = i
    · simp [upd, h2]
    · simp [upd, h2]
  · simp [h]
/-- nothing changes but cells of C -/
def Fr (C : Nat → Prop) (σ σ' : St) : Prop := (∀ c, ¬ C c → sF σ' c = sF σ c ∧ sA σ' c = sA σ c) ∧ sP σ' = sP σ ∧ (¬ C 61 → sL σ' = sL σ)
theorem Fr.rf {C : Nat → Prop} (σ : St) : Fr C σ σ := ⟨fun _ _ => ⟨rfl, rfl⟩, rfl, fun _ => rfl⟩
theorem Fr.tr {C : Nat → Prop} {a b c : St} (h : Fr C a b) (k : Fr C b c) : Fr C a c := ⟨fun x hx => ⟨(k.1 x hx).1.trans (h.1 x hx).1, (k.1 x hx).2.trans (h.1 x hx).2⟩, k.2.1.trans h.2.1, fun z => (k.2.2 z).trans (h.2.2 z)⟩
theorem Fr.mono {C D : Nat → Prop} {a b : St} (h : Fr C a b) (k : ∀ x, C x → D x) : Fr D a b := ⟨fun x hx => h.1 x (fun z => hx (k x z)), h.2.1, fun z => h.2.2 (fun w => z (k _ w))⟩
theorem Fr.F {C : Nat → Prop} {σ : St} {a k : Nat} {v : Int32} (h : C a) : Fr C σ (setF σ a k v) := by
  refine ⟨fun c hc => ⟨?_, rfl⟩, rfl, fun _ => rfl⟩
  funext j
  rw [sF_setF, if_neg (fun q => hc (by rw [q.1]; exact h))]
theorem Fr.A {C : Nat → Prop} {σ : St} {a i : Nat} {v : Int32} (h : C a) : Fr C σ (setA σ a i v) := by
  refine ⟨fun c hc => ⟨rfl, ?_⟩, rfl, fun _ => rfl⟩
  funext j
  rw [sA_setA, if_neg (fun q => hc (by rw [q.1]; exact h))]
theorem Fr.R {C : Nat → Prop} {σ : St} {a : Nat} {g : Nat → Int32} (h : C a) : Fr C σ (setR σ a g) := by
  refine ⟨fun c hc => ⟨rfl, ?_⟩, rfl, fun _ => rfl⟩
  rw [sA_setR, if_neg (fun q => hc (by rw [q]; exact h))]
theorem Fr.toF {C : Nat → Prop} {σ s : St} {a k : Nat} {v : Int32} (f : Fr C σ s) (h : C a) : Fr C σ (setF s a k v) := f.tr (Fr.F h)
theorem Fr.toR {C : Nat → Prop} {σ s : St} {a : Nat} {g : Nat → Int32} (f : Fr C σ s) (h : C a) : Fr C σ (setR s a g) := f.tr (Fr.R h)
theorem Fr.toA {C : Nat → Prop} {σ s : St} {a i : Nat} {v : Int32} (f : Fr C σ s) (h : C a) : Fr C σ (setA s a i v) := f.tr (Fr.A h)
def inSc (a c : Nat) : Prop := a ≤ c ∧ c ≤ a + 5
theorem sc_apart {a b : Nat} (ha : isSc a) (hb : isSc b) : a = b ∨ a + 5 < b ∨ b + 5 < a := by
  rcases ha with rfl | rfl | rfl | rfl | rfl | rfl | rfl <;> rcases hb with rfl | rfl | rfl | rfl | rfl | rfl | rfl <;> omega
theorem sc_le {a : Nat} (ha : isSc a) : 1 ≤ a ∧ a + 5 < 44 ∧ (a < 19 → a + 5 < 19) ∧ a ≠ 19 := by
  rcases ha with rfl | rfl | rfl | rfl | rfl | rfl | rfl <;> decide
theorem cSc.keep {C : Nat → Prop} {σ σ' : St} {a : Nat} {S : Sn} (h : cSc σ a S) (f : Fr C σ σ') (hd : ∀ c, inSc a c → ¬ C c) : cSc σ' a S := by
  have e0 := (f.1 a (hd a ⟨by omega, by omega⟩)).1
  have e1 := (f.1 (a + 1) (hd _ ⟨by omega, by omega⟩)).2
  have e2 := (f.1 (a + 2) (hd _ ⟨by omega, by omega⟩)).2
  have e3 := (f.1 (a + 3) (hd _ ⟨by omega, by omega⟩)).2
  have e4 := (f.1 (a + 4) (hd _ ⟨by omega, by omega⟩)).2
  have e5 := (f.1 (a + 5) (hd _ ⟨by omega, by omega⟩)).2
  obtain ⟨h1, h2, h3, h4, h5, h6⟩ := h
  refine ⟨by rw [e0]; exact h1, by rw [e0]; exact h2, by rw [e0]; exact h3, by rw [e0]; exact h4, fun i t ht => ?_, fun j s hs => by rw [e5]; exact h6 j s hs⟩
  have := h5 i t ht
  unfold rowT at this ⊢
  rw [e1, e2, e3, e4]
  exact this
theorem take_s {α : Type} {l : List α} {i : Nat} {x : α} (h : l[i]? = some x) : l.take (i + 1) = l.take i ++ [x] := by
  rw [List.take_add_one, h]; rfl
theorem get_of {α : Type} {l : List α} {i : Nat} (h : i < l.length) : ∃ x, l[i]? = some x := ⟨l[i], List.getElem?_eq_getElem h⟩
theorem lt_of {α : Type} {l : List α} {i : Nat} {x : α} (h : l[i]? = some x) : i < l.length := (List.getElem?_eq_some_iff.mp h).1
theorem nI1 (a : Nat) : nI a + 1 = nI (a + 1) := nI_1 a
theorem zeroI : (0 : Int32) = nI 0 := rfl
theorem oneI : (1 : Int32) = nI 1 := rfl
