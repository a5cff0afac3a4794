/-! the rules, as both sides hold them: how many, where the entries of each begin, left, cost, root entry; and of each entry its operator, first part, last part -/
abbrev tc_S := Nat × (Nat → Nat) × (Nat → Nat) × (Nat → Nat) × (Nat → Nat) × (Nat → Nat) × (Nat → Nat) × (Nat → Nat)
def tc_R (S : tc_S) : Nat := S.1
def tc_sr (S : tc_S) : Nat → Nat := S.2.1
def tc_lf (S : tc_S) : Nat → Nat := S.2.2.1
def tc_co (S : tc_S) : Nat → Nat := S.2.2.2.1
def tc_rt (S : tc_S) : Nat → Nat := S.2.2.2.2.1
def tc_eo (S : tc_S) : Nat → Nat := S.2.2.2.2.2.1
def tc_ef (S : tc_S) : Nat → Nat := S.2.2.2.2.2.2.1
def tc_el (S : tc_S) : Nat → Nat := S.2.2.2.2.2.2.2
def tc_E (S : tc_S) : Nat := tc_sr S (tc_R S)
def tc_ok (S : tc_S) : Prop :=
  tc_R S ≤ 10 ∧ tc_sr S 0 = 4 ∧
  (∀ r, r < tc_R S → tc_sr S r ≤ tc_sr S (r + 1) ∧ tc_sr S (r + 1) ≤ tc_sr S r + 7 ∧ tc_lf S r < 4 ∧ tc_co S r ≤ 9 ∧ tc_rt S r < tc_sr S (r + 1) ∧ (tc_rt S r < 4 → 1 ≤ tc_co S r)) ∧
  (∀ e, 4 ≤ e → e < tc_E S → tc_eo S e < 6 ∧ (2 ≤ tc_eo S e → tc_el S e < e) ∧ (4 ≤ tc_eo S e → tc_ef S e < e))
theorem tc_ok_sr {S : tc_S} (ok : tc_ok S) : ∀ r, r ≤ tc_R S → 4 ≤ tc_sr S r ∧ tc_sr S r ≤ 4 + 7 * r := by
  intro r
  induction r with
  | zero => intro _; have := ok.2.1; omega
  | succ r ih =>
    intro hr
    have h1 := ih (by omega)
    have h2 := ok.2.2.1 r (by omega)
    omega
theorem tc_ok_up {S : tc_S} (ok : tc_ok S) : ∀ d r, r + d = tc_R S → tc_sr S r ≤ tc_E S := by
  intro d
  induction d with
  | zero => intro r hr; have e : r = tc_R S := by omega
            rw [e]; exact Nat.le_refl _
  | succ d ih =>
    intro r hr
    have h1 := ih (r + 1) (by omega)
    have h2 := ok.2.2.1 r (by omega)
    omega
theorem tc_ok_E {S : tc_S} (ok : tc_ok S) : 4 ≤ tc_E S ∧ tc_E S ≤ 74 := by
  have h := tc_ok_sr ok (tc_R S) (Nat.le_refl _)
  have h1 := ok.1
  unfold tc_E
  omega
theorem tc_ok_r {S : tc_S} (ok : tc_ok S) {r : Nat} (hr : r < tc_R S) : tc_lf S r < 4 ∧ tc_co S r ≤ 9 ∧ tc_rt S r < tc_E S ∧ (tc_rt S r < 4 → 1 ≤ tc_co S r) := by
  have h := ok.2.2.1 r hr
  have h2 := tc_ok_up ok (tc_R S - (r + 1)) (r + 1) (by omega)
  exact ⟨h.2.2.1, h.2.2.2.1, by omega, h.2.2.2.2.2⟩
/-! one rule's turn, a round, rounds -/
def tc_st (S : tc_S) (t : Nat → Nat) (r : Nat) : Nat → Nat := fun j => if j = tc_lf S r then min (t j) (tc_co S r + t (tc_rt S r)) else t j
def tc_rd (S : tc_S) (t : Nat → Nat) : Nat → (Nat → Nat)
  | 0 => t
  | k + 1 => tc_st S (tc_rd S t k) k
def tc_it (S : tc_S) (t : Nat → Nat) : Nat → (Nat → Nat)
  | 0 => t
  | n + 1 => tc_rd S (tc_it S t n) (tc_R S)
theorem tc_st_ne {S : tc_S} {t : Nat → Nat} {r j : Nat} (h : j ≠ tc_lf S r) : tc_st S t r j = t j := if_neg h
theorem tc_st_eq {S : tc_S} {t : Nat → Nat} {r : Nat} : tc_st S t r (tc_lf S r) = min (t (tc_lf S r)) (tc_co S r + t (tc_rt S r)) := if_pos rfl
theorem tc_st_le {S : tc_S} {t : Nat → Nat} {r : Nat} (j : Nat) : tc_st S t r j ≤ t j := by
  unfold tc_st
  split
  · exact Nat.min_le_left _ _
  · exact Nat.le_refl _
theorem tc_st_no {S : tc_S} {t : Nat → Nat} {r : Nat} (h : t (tc_lf S r) ≤ tc_co S r + t (tc_rt S r)) : tc_st S t r = t := by
  funext j
  unfold tc_st
  split
  · next e => rw [e]; exact Nat.min_eq_left h
  · rfl
theorem tc_st_yes {S : tc_S} {t : Nat → Nat} {r : Nat} (h : tc_co S r + t (tc_rt S r) < t (tc_lf S r)) : tc_st S t r (tc_lf S r) = tc_co S r + t (tc_rt S r) := by
  rw [tc_st_eq]
  exact Nat.min_eq_right (by omega)
theorem tc_rd_ind {S : tc_S} {t : Nat → Nat} (P : Nat → (Nat → Nat) → Prop) (h0 : P 0 t) (hs : ∀ k, k < tc_R S → ∀ t, P k t → P (k + 1) (tc_st S t k)) : ∀ k, k ≤ tc_R S → P k (tc_rd S t k) := by
  intro k
  induction k with
  | zero => intro _; exact h0
  | succ k ih => intro hk; exact hs k (by omega) _ (ih (by omega))
theorem tc_it_inv {S : tc_S} {t : Nat → Nat} (P : (Nat → Nat) → Prop) (h0 : P t) (hs : ∀ k, k < tc_R S → ∀ t, P t → P (tc_st S t k)) : ∀ n, P (tc_it S t n) := by
  intro n
  induction n with
  | zero => exact h0
  | succ n ih => exact tc_rd_ind (fun _ t => P t) ih hs (tc_R S) (Nat.le_refl _)
theorem tc_it_ge {S : tc_S} (ok : tc_ok S) {t : Nat → Nat} {e : Nat} (he : 4 ≤ e) (n : Nat) : tc_it S t n e = t e :=
  tc_it_inv (fun u => u e = t e) rfl (fun k hk u hu => by
    have h := (tc_ok_r ok hk).1
    rw [tc_st_ne (by omega)]
    exact hu) n
/-! how many goals are cheaper -/
def tc_c (t : Nat → Nat) (h j : Nat) : Nat := if t j < t h then 1 else 0
def tc_L (t : Nat → Nat) (h : Nat) : Nat := tc_c t h 0 + tc_c t h 1 + tc_c t h 2 + tc_c t h 3
theorem tc_c_le {a b : Nat → Nat} {h g j : Nat} (H : a j < a h → b j < b g) : tc_c a h j ≤ tc_c b g j := by
  by_cases z : a j < a h
  · have e1 : tc_c a h j = 1 := if_pos z
    have e2 : tc_c b g j = 1 := if_pos (H z)
    omega
  · have e1 : tc_c a h j = 0 := if_neg z
    omega
theorem tc_c_le1 (a : Nat → Nat) (h j : Nat) : tc_c a h j ≤ 1 := by
  unfold tc_c
  split <;> omega
theorem tc_L_mono {a b : Nat → Nat} {h g : Nat} (H : ∀ j, j < 4 → a j < a h → b j < b g) : tc_L a h ≤ tc_L b g := by
  have h0 := tc_c_le (H 0 (by decide))
  have h1 := tc_c_le (H 1 (by decide))
  have h2 := tc_c_le (H 2 (by decide))
  have h3 := tc_c_le (H 3 (by decide))
  unfold tc_L
  omega
theorem tc_L_lt {a b : Nat → Nat} {h g : Nat} (hh : h < 4) (H : ∀ j, j < 4 → a j < a h → b j < b g) (H2 : b h < b g) : tc_L a h + 1 ≤ tc_L b g := by
  have h0 := tc_c_le (H 0 (by decide))
  have h1 := tc_c_le (H 1 (by decide))
  have h2 := tc_c_le (H 2 (by decide))
  have h3 := tc_c_le (H 3 (by decide))
  have e0 : tc_c a h h = 0 := if_neg (Nat.lt_irrefl _)
  have e1 : tc_c b g h = 1 := if_pos H2
  have hc : h = 0 ∨ h = 1 ∨ h = 2 ∨ h = 3 := by omega
  unfold tc_L
  rcases hc with rfl | rfl | rfl | rfl <;> omega
theorem tc_L_le3 {t : Nat → Nat} {h : Nat} (hh : h < 4) : tc_L t h ≤ 3 := by
  have h0 := tc_c_le1 t h 0
  have h1 := tc_c_le1 t h 1
  have h2 := tc_c_le1 t h 2
  have h3 := tc_c_le1 t h 3
  have e0 : tc_c t h h = 0 := if_neg (Nat.lt_irrefl _)
  have hc : h = 0 ∨ h = 1 ∨ h = 2 ∨ h = 3 := by omega
  unfold tc_L
  rcases hc with rfl | rfl | rfl | rfl <;> omega
theorem tc_L_le2 {t : Nat → Nat} {h g : Nat} (hh : h < 4) (hg : g < 4) (ne : g ≠ h) (H : ¬ t g < t h) : tc_L t h ≤ 2 := by
  have h0 := tc_c_le1 t h 0
  have h1 := tc_c_le1 t h 1
  have h2 := tc_c_le1 t h 2
  have h3 := tc_c_le1 t h 3
  have e0 : tc_c t h h = 0 := if_neg (Nat.lt_irrefl _)
  have e1 : tc_c t h g = 0 := if_neg H
  have hc : h = 0 ∨ h = 1 ∨ h = 2 ∨ h = 3 := by omega
  have hd : g = 0 ∨ g = 1 ∨ g = 2 ∨ g = 3 := by omega
  unfold tc_L
  rcases hc with rfl | rfl | rfl | rfl <;> rcases hd with rfl | rfl | rfl | rfl <;> omega
theorem tc_L_new {S : tc_S} {t : Nat → Nat} {p : Nat} (hc : tc_rt S p < 4) (h1 : 1 ≤ tc_co S p) (hlt : tc_co S p + t (tc_rt S p) < t (tc_lf S p)) : tc_L t (tc_rt S p) + 1 ≤ tc_L (tc_st S t p) (tc_lf S p) := by
  have hne : tc_rt S p ≠ tc_lf S p := by
    intro e
    rw [e] at hlt
    omega
  refine tc_L_lt hc (fun j hj hjl => ?_) ?_
  · rw [tc_st_yes hlt]
    have := tc_st_le (S := S) (t := t) (r := p) j
    omega
  · rw [tc_st_yes hlt, tc_st_ne hne]
    omega
theorem tc_L_old {S : tc_S} {t : Nat → Nat} {p j : Nat} (hj : j ≠ tc_lf S p) : tc_L t j ≤ tc_L (tc_st S t p) j :=
  tc_L_mono (fun i _ hil => by
    have := tc_st_le (S := S) (t := t) (r := p) i
    rw [tc_st_ne hj]
    omega)
/-! four rounds settle every chain -/
def tc_J (S : tc_S) (k p : Nat) (t : Nat → Nat) : Prop :=
  (∀ r, r < tc_R S → tc_rt S r < 4 → tc_co S r + t (tc_rt S r) < t (tc_lf S r) → (r < p → k ≤ tc_L t (tc_rt S r)) ∧ k ≤ tc_L t (tc_rt S r) + 1) ∧
  (∀ r, r < tc_R S → 4 ≤ tc_rt S r → (r < p ∨ 1 ≤ k) → t (tc_lf S r) ≤ tc_co S r + t (tc_rt S r))
theorem tc_J_st {S : tc_S} (ok : tc_ok S) {k p : Nat} {t : Nat → Nat} (hp : p < tc_R S) (J : tc_J S k p t) : tc_J S k (p + 1) (tc_st S t p) := by
  obtain ⟨J1, J2⟩ := J
  by_cases nv : t (tc_lf S p) ≤ tc_co S p + t (tc_rt S p)
  · rw [tc_st_no nv]
    refine ⟨fun r hr hc hv => ⟨fun hrp => ?_, (J1 r hr hc hv).2⟩, fun r hr hc hk => ?_⟩
    · by_cases e : r = p
      · rw [e] at hv
        omega
      · exact (J1 r hr hc hv).1 (by omega)
    · by_cases e : r = p
      · rw [e]
        exact nv
      · exact J2 r hr hc (by omega)
  · have hlt : tc_co S p + t (tc_rt S p) < t (tc_lf S p) := by omega
    obtain ⟨hl, _, _, hc1⟩ := tc_ok_r ok hp
    refine ⟨fun r hr hc hv => ?_, fun r hr hc hk => ?_⟩
    · by_cases eg : tc_rt S r = tc_lf S p
      · by_cases hcp : tc_rt S p < 4
        · have hk := (J1 p hp hcp hlt).2
          have hL := tc_L_new hcp (hc1 hcp) hlt
          rw [eg]
          exact ⟨fun _ => by omega, by omega⟩
        · have hk0 : k = 0 := by
            rcases Nat.eq_zero_or_pos k with h | h
            · exact h
            · have := J2 p hp (by omega) (Or.inr h)
              omega
          subst hk0
          exact ⟨fun _ => Nat.zero_le _, Nat.zero_le _⟩
      · have e1 : tc_st S t p (tc_rt S r) = t (tc_rt S r) := tc_st_ne eg
        have hl2 := tc_st_le (S := S) (t := t) (r := p) (tc_lf S r)
        have hv' : tc_co S r + t (tc_rt S r) < t (tc_lf S r) := by
          rw [e1] at hv
          omega
        have hL := tc_L_old (S := S) (t := t) (p := p) eg
        obtain ⟨a, b⟩ := J1 r hr hc hv'
        refine ⟨fun hrp => ?_, by omega⟩
        by_cases e : r = p
        · exfalso
          rw [e1] at hv
          rw [e] at hv
          rw [tc_st_yes hlt] at hv
          omega
        · have := a (by omega)
          omega
    · have e1 : tc_st S t p (tc_rt S r) = t (tc_rt S r) := tc_st_ne (by omega)
      by_cases e : r = p
      · rw [e] at e1 ⊢
        rw [e1, tc_st_yes hlt]
        exact Nat.le_refl _
      · have h1 := J2 r hr hc (by omega)
        have h2 := tc_st_le (S := S) (t := t) (r := p) (tc_lf S r)
        rw [e1]
        omega
theorem tc_J_it {S : tc_S} (ok : tc_ok S) (t : Nat → Nat) : ∀ n, tc_J S n 0 (tc_it S t n) := by
  intro n
  induction n with
  | zero => exact ⟨fun r _ _ _ => ⟨fun h => absurd h (Nat.not_lt_zero _), Nat.zero_le _⟩, fun r _ _ h => by omega⟩
  | succ n ih =>
    have h := tc_rd_ind (fun p u => tc_J S n p u) ih (fun k hk u hu => tc_J_st ok hk hu) (tc_R S) (Nat.le_refl _)
    refine ⟨fun r hr hc hv => ⟨fun h => absurd h (Nat.not_lt_zero _), ?_⟩, fun r hr hc _ => h.2 r hr hc (Or.inl hr)⟩
    have := (h.1 r hr hc hv).1 hr
    show n + 1 ≤ tc_L (tc_rd S (tc_it S t n) (tc_R S)) (tc_rt S r) + 1
    omega
theorem tc_stab {S : tc_S} (ok : tc_ok S) (t : Nat → Nat) {r : Nat} (hr : r < tc_R S) : tc_it S t 4 (tc_lf S r) ≤ tc_co S r + tc_it S t 4 (tc_rt S r) := by
  obtain ⟨J1, J2⟩ := tc_J_it ok t 4
  obtain ⟨hl, _, _, _⟩ := tc_ok_r ok hr
  by_cases hc : tc_rt S r < 4
  · by_cases hv : tc_co S r + tc_it S t 4 (tc_rt S r) < tc_it S t 4 (tc_lf S r)
    · have h1 := (J1 r hr hc hv).2
      have hne : tc_lf S r ≠ tc_rt S r := by
        intro e
        rw [e] at hv
        omega
      have h2 := tc_L_le2 (t := tc_it S t 4) hc hl hne (by omega)
      omega
    · omega
  · exact J2 r hr (by omega) (Or.inr (by decide))
theorem tc_rd_fix {S : tc_S} {t : Nat → Nat} (h : ∀ r, r < tc_R S → t (tc_lf S r) ≤ tc_co S r + t (tc_rt S r)) : ∀ k, k ≤ tc_R S → tc_rd S t k = t :=
  tc_rd_ind (fun _ u => u = t) rfl (fun k hk u hu => by rw [hu]; exact tc_st_no (h k hk))
