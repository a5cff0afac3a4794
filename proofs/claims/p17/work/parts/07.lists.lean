/-! stacks and lists held in arrays -/
def tc_sk (P : Nat → Nat × Nat → Prop) : Nat → List (Nat × Nat) → Prop
  | h, [] => h = 0
  | h, p :: s => ∃ k, h = k + 1 ∧ P k p ∧ tc_sk P k s
theorem tc_sk_congr {P P' : Nat → Nat × Nat → Prop} : ∀ (s : List (Nat × Nat)) (h : Nat), (∀ k, k < h → ∀ p, P k p → P' k p) → tc_sk P h s → tc_sk P' h s := by
  intro s
  induction s with
  | nil => intro h _ H; exact H
  | cons p s ih =>
    intro h hP ⟨k, e, hp, hs⟩
    exact ⟨k, e, hP k (by omega) p hp, ih k (fun j hj => hP j (by omega)) hs⟩
theorem tc_sk_len {P : Nat → Nat × Nat → Prop} : ∀ (s : List (Nat × Nat)) (h : Nat), tc_sk P h s → s.length = h := by
  intro s
  induction s with
  | nil => intro h H; exact H.symm
  | cons p s ih =>
    intro h ⟨k, e, hp, hs⟩
    have := ih k hs
    show s.length + 1 = h
    omega
def tc_al (a : Nat → Int32) (l : List Nat) : Prop := ∀ i, i < l.length → a i = nI (l.getD i 0)
theorem tc_al_nil (a : Nat → Int32) : tc_al a [] := fun i h => absurd h (Nat.not_lt_zero _)
theorem tc_al_snoc {a : Nat → Int32} {l : List Nat} {x : Nat} (h : tc_al a l) : tc_al (upd a l.length (nI x)) (l ++ [x]) := by
  intro i hi
  rw [List.length_append] at hi
  have hi2 : i < l.length + 1 := hi
  by_cases e : i = l.length
  · rw [e, pk_us]
    have e2 : (l ++ [x]).getD l.length 0 = x := by
      rw [List.getD_eq_getElem?_getD, List.getElem?_append_right (Nat.le_refl _), Nat.sub_self]
      rfl
    rw [e2]
  · rw [pk_un e, h i (by omega)]
    have e2 : (l ++ [x]).getD i 0 = l.getD i 0 := by
      rw [List.getD_eq_getElem?_getD, List.getD_eq_getElem?_getD, List.getElem?_append_left (by omega)]
    rw [e2]
/-- how many parts -/
def tc_ar (o : Nat) : Nat := if o < 2 then 0 else if o < 4 then 1 else 2
theorem tc_ar0 {o : Nat} (h : o < 2) : tc_ar o = 0 := if_pos h
theorem tc_ar1 {o : Nat} (h : 2 ≤ o) (h4 : o < 4) : tc_ar o = 1 := by
  unfold tc_ar
  rw [if_neg (by omega), if_pos h4]
theorem tc_ar2 {o : Nat} (h : 4 ≤ o) : tc_ar o = 2 := by
  unfold tc_ar
  rw [if_neg (by omega), if_neg (by omega)]
theorem tc_ar_ge1 {o : Nat} : 1 ≤ tc_ar o ↔ 2 ≤ o := by
  unfold tc_ar
  split
  · omega
  · split <;> omega
theorem tc_ar_eq2 {o : Nat} : tc_ar o = 2 ↔ 4 ≤ o := by
  unfold tc_ar
  split
  · omega
  · split <;> omega
/-! numbers -/
theorem tc_of {x : Int32} {n : Nat} (hn : n < 2 ^ 31) (h0 : ¬ x < 0) (h : ¬ nI n ≤ x) : ∃ j, j < n ∧ x = nI j := by
  rcases pk_ix x hn with h1 | h1 | h1
  · exact absurd h1 h0
  · exact absurd h1 h
  · exact h1
theorem tc_min {a b : Nat} {x y : Int32} {A : Int32 → Prop} (hx : x = nI a) (hy : y = nI b) (ha : a < 2 ^ 31) (hb : b < 2 ^ 31) (h : A (nI (min b a))) : (x < y → A x) ∧ (¬ x < y → A y) := by
  subst hx hy
  constructor
  · intro hl
    rw [nI_ltI ha hb] at hl
    rw [Nat.min_eq_right (by omega)] at h
    exact h
  · intro hl
    rw [nI_ltI ha hb] at hl
    rw [Nat.min_eq_left (by omega)] at h
    exact h
