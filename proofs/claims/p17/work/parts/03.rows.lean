/-! bounds: a goal that covers costs at most 36 more than the dearest operator entry -/
def tc_B (S : tc_S) (K M : Nat) (t : Nat → Nat) : Prop :=
  (∀ g, g < 4 → t g = K ∨ t g ≤ M + 9 * (1 + tc_L t g)) ∧ (∀ j, t j ≤ K) ∧ (∀ j, 4 ≤ j → j < tc_E S → t j = K ∨ t j ≤ M)
theorem tc_B_st {S : tc_S} (ok : tc_ok S) {K M p : Nat} {t : Nat → Nat} (hp : p < tc_R S) (B : tc_B S K M t) : tc_B S K M (tc_st S t p) := by
  by_cases nv : t (tc_lf S p) ≤ tc_co S p + t (tc_rt S p)
  · rw [tc_st_no nv]
    exact B
  · obtain ⟨B1, B2, B3⟩ := B
    have hlt : tc_co S p + t (tc_rt S p) < t (tc_lf S p) := by omega
    obtain ⟨hl, hco, hE, hc1⟩ := tc_ok_r ok hp
    have hK := B2 (tc_lf S p)
    refine ⟨fun g hg => ?_, fun j => Nat.le_trans (tc_st_le j) (B2 j), fun j hj hjE => ?_⟩
    · by_cases e : g = tc_lf S p
      · rw [e, tc_st_yes hlt]
        right
        by_cases hcp : tc_rt S p < 4
        · have hL := tc_L_new hcp (hc1 hcp) hlt
          rcases B1 _ hcp with h | h
          · omega
          · omega
        · rcases B3 (tc_rt S p) (by omega) hE with h | h
          · omega
          · omega
      · have hL := tc_L_old (S := S) (t := t) (p := p) e
        rw [tc_st_ne e]
        rcases B1 g hg with h | h
        · exact Or.inl h
        · right
          omega
    · rw [tc_st_ne (by omega)]
      exact B3 j hj hjE
theorem tc_B_36 {S : tc_S} {K M : Nat} {t : Nat → Nat} (B : tc_B S K M t) {j : Nat} (hj : j < tc_E S) : t j = K ∨ t j ≤ M + 36 := by
  by_cases h : j < 4
  · have h3 := tc_L_le3 (t := t) h
    rcases B.1 j h with e | e
    · exact Or.inl e
    · right
      omega
  · rcases B.2.2 j (by omega) hj with e | e
    · exact Or.inl e
    · right
      omega
/-! a goal that covers has a rule that begins a least cover -/
def tc_X (S : tc_S) (K : Nat) (t : Nat → Nat) : Prop := ∀ g, g < 4 → t g = K ∨ ∃ r, r < tc_R S ∧ tc_lf S r = g ∧ tc_co S r + t (tc_rt S r) ≤ t g
theorem tc_X_st {S : tc_S} {K p : Nat} {t : Nat → Nat} (hp : p < tc_R S) (X : tc_X S K t) : tc_X S K (tc_st S t p) := by
  by_cases nv : t (tc_lf S p) ≤ tc_co S p + t (tc_rt S p)
  · rw [tc_st_no nv]
    exact X
  · have hlt : tc_co S p + t (tc_rt S p) < t (tc_lf S p) := by omega
    intro g hg
    by_cases e : g = tc_lf S p
    · right
      refine ⟨p, hp, e.symm, ?_⟩
      have := tc_st_le (S := S) (t := t) (r := p) (tc_rt S p)
      rw [e, tc_st_yes hlt]
      omega
    · rw [tc_st_ne e]
      rcases X g hg with h | ⟨r, hr, hl, h⟩
      · exact Or.inl h
      · right
        have := tc_st_le (S := S) (t := t) (r := p) (tc_rt S r)
        exact ⟨r, hr, hl, by omega⟩
/-! two rows that differ in what stands for 'none' alone -/
def tc_q (K1 K2 a b : Nat) : Prop := (a = K1 ∧ b = K2) ∨ (a = b ∧ a < K1 ∧ a < K2)
theorem tc_q_st {S : tc_S} (ok : tc_ok S) {K1 K2 M p : Nat} {t1 t2 : Nat → Nat} (hp : p < tc_R S) (B : tc_B S K1 M t1) (h1 : M + 45 < K1) (h2 : M + 45 < K2)
    (H : ∀ j, j < tc_E S → tc_q K1 K2 (t1 j) (t2 j)) : ∀ j, j < tc_E S → tc_q K1 K2 (tc_st S t1 p j) (tc_st S t2 p j) := by
  intro j hj
  by_cases e : j = tc_lf S p
  · obtain ⟨hl, hco, hE, hc1⟩ := tc_ok_r ok hp
    have q1 := H _ hE
    have q2 := H j hj
    have b1 := tc_B_36 B hE
    rw [e] at q2 ⊢
    rw [tc_st_eq, tc_st_eq]
    unfold tc_q at q1 q2 ⊢
    simp only [Nat.min_def]
    split <;> split <;> omega
  · rw [tc_st_ne e, tc_st_ne e]
    exact H j hj
/-! a row: the costs of all entries for a tree with operator o over parts with rows x and y -/
def tc_op (S : tc_S) (K o : Nat) (x y : Nat → Nat) (e : Nat) : Nat :=
  if tc_eo S e = o then (if o < 2 then 0 else if o < 4 then min K (y (tc_el S e)) else min K (x (tc_ef S e) + y (tc_el S e))) else K
def tc_i0 (S : tc_S) (K o : Nat) (x y : Nat → Nat) (e : Nat) : Nat := if e < 4 then K else tc_op S K o x y e
def tc_row (S : tc_S) (K o : Nat) (x y : Nat → Nat) : Nat → Nat := tc_it S (tc_i0 S K o x y) 4
theorem tc_row_ge {S : tc_S} (ok : tc_ok S) {K o e : Nat} {x y : Nat → Nat} (he : 4 ≤ e) : tc_row S K o x y e = tc_op S K o x y e := by
  unfold tc_row
  rw [tc_it_ge ok he]
  exact if_neg (by omega)
theorem tc_op_le {S : tc_S} {K o e : Nat} {x y : Nat → Nat} : tc_op S K o x y e ≤ K := by
  unfold tc_op
  split
  · split
    · exact Nat.zero_le _
    · split
      · exact Nat.min_le_left _ _
      · exact Nat.min_le_left _ _
  · exact Nat.le_refl _
theorem tc_i0_le {S : tc_S} {K o e : Nat} {x y : Nat → Nat} : tc_i0 S K o x y e ≤ K := by
  unfold tc_i0
  split
  · exact Nat.le_refl _
  · exact tc_op_le
theorem tc_row_congr {S : tc_S} {K o : Nat} {x y x' y' : Nat → Nat} (hy : 2 ≤ o → y = y') (hx : 4 ≤ o → x = x') : tc_row S K o x y = tc_row S K o x' y' := by
  by_cases h4 : 4 ≤ o
  · rw [hx h4, hy (by omega)]
  · by_cases h2 : 2 ≤ o
    · rw [hy h2]
      have e : tc_i0 S K o x y' = tc_i0 S K o x' y' := by
        funext e
        unfold tc_i0 tc_op
        rw [if_neg (show ¬ o < 2 by omega), if_pos (show o < 4 by omega), if_neg (show ¬ o < 2 by omega), if_pos (show o < 4 by omega)]
      unfold tc_row
      rw [e]
    · have e : tc_i0 S K o x y = tc_i0 S K o x' y' := by
        funext e
        unfold tc_i0 tc_op
        rw [if_pos (show o < 2 by omega), if_pos (show o < 2 by omega)]
      unfold tc_row
      rw [e]
/-- what a row's parts may cost -/
def tc_M (o Mx My : Nat) : Nat := if o < 2 then 0 else if o < 4 then My else Mx + My
theorem tc_row_B {S : tc_S} (ok : tc_ok S) {K o Mx My : Nat} {x y : Nat → Nat}
    (hy : 2 ≤ o → ∀ e, e < tc_E S → y e = K ∨ y e ≤ My) (hx : 4 ≤ o → ∀ e, e < tc_E S → x e = K ∨ x e ≤ Mx) : ∀ n, tc_B S K (tc_M o Mx My) (tc_it S (tc_i0 S K o x y) n) :=
  tc_it_inv _ ⟨fun g hg => Or.inl (if_pos hg), fun j => tc_i0_le, fun j hj hjE => by
    have hk := ok.2.2.2 j hj hjE
    unfold tc_i0
    rw [if_neg (show ¬ j < 4 by omega)]
    unfold tc_op tc_M
    split
    · next eo =>
      split
      · right; exact Nat.zero_le _
      · next h2 =>
        split
        · next h4 =>
          have h := hy (by omega) (tc_el S j) (by omega)
          omega
        · next h4 =>
          have h := hy (by omega) (tc_el S j) (by omega)
          have h' := hx (by omega) (tc_ef S j) (by omega)
          omega
    · exact Or.inl rfl⟩ (fun k hk t ht => tc_B_st ok hk ht)
theorem tc_row_X {S : tc_S} {K o : Nat} {x y : Nat → Nat} : ∀ n, tc_X S K (tc_it S (tc_i0 S K o x y) n) :=
  tc_it_inv _ (fun g hg => Or.inl (if_pos hg)) (fun k hk t ht => tc_X_st hk ht)
theorem tc_row_le {S : tc_S} {K o : Nat} {x y : Nat → Nat} (e : Nat) (n : Nat) : tc_it S (tc_i0 S K o x y) n e ≤ K :=
  tc_it_inv (fun t => t e ≤ K) tc_i0_le (fun k _ t ht => Nat.le_trans (tc_st_le e) ht) n
theorem tc_row_fix {S : tc_S} (ok : tc_ok S) {K o : Nat} {x y : Nat → Nat} : ∀ k, k ≤ tc_R S → tc_rd S (tc_row S K o x y) k = tc_row S K o x y :=
  tc_rd_fix (fun _ hr => tc_stab ok _ hr)
theorem tc_row_q {S : tc_S} (ok : tc_ok S) {K1 K2 o Mx My : Nat} {x1 y1 x2 y2 : Nat → Nat} (h1 : Mx + My + 45 < K1) (h2 : Mx + My + 45 < K2)
    (hy : 2 ≤ o → ∀ e, e < tc_E S → y1 e = K1 ∨ y1 e ≤ My) (hx : 4 ≤ o → ∀ e, e < tc_E S → x1 e = K1 ∨ x1 e ≤ Mx)
    (qy : 2 ≤ o → ∀ e, e < tc_E S → tc_q K1 K2 (y1 e) (y2 e)) (qx : 4 ≤ o → ∀ e, e < tc_E S → tc_q K1 K2 (x1 e) (x2 e)) :
    ∀ n e, e < tc_E S → tc_q K1 K2 (tc_it S (tc_i0 S K1 o x1 y1) n e) (tc_it S (tc_i0 S K2 o x2 y2) n e) := by
  have hM : tc_M o Mx My ≤ Mx + My := by
    unfold tc_M
    split
    · omega
    · split <;> omega
  intro n
  induction n with
  | zero =>
    intro e he
    show tc_q K1 K2 (tc_i0 S K1 o x1 y1 e) (tc_i0 S K2 o x2 y2 e)
    unfold tc_i0
    by_cases h : e < 4
    · rw [if_pos h, if_pos h]
      exact Or.inl ⟨rfl, rfl⟩
    · rw [if_neg h, if_neg h]
      have hk := ok.2.2.2 e (by omega) he
      unfold tc_op
      by_cases eo : tc_eo S e = o
      · rw [if_pos eo, if_pos eo]
        by_cases h2 : o < 2
        · rw [if_pos h2, if_pos h2]
          exact Or.inr ⟨rfl, by omega, by omega⟩
        · rw [if_neg h2, if_neg h2]
          have a1 := hy (by omega) (tc_el S e) (by omega)
          have a2 := qy (by omega) (tc_el S e) (by omega)
          unfold tc_q at a2 ⊢
          by_cases h4 : o < 4
          · rw [if_pos h4, if_pos h4]
            simp only [Nat.min_def]
            split <;> split <;> omega
          · rw [if_neg h4, if_neg h4]
            have b1 := hx (by omega) (tc_ef S e) (by omega)
            have b2 := qx (by omega) (tc_ef S e) (by omega)
            unfold tc_q at b2
            simp only [Nat.min_def]
            split <;> split <;> omega
      · rw [if_neg eo, if_neg eo]
        exact Or.inl ⟨rfl, rfl⟩
  | succ n ih =>
    have B := tc_row_B ok hy hx n
    have h := tc_rd_ind (S := S) (t := tc_it S (tc_i0 S K1 o x1 y1) n)
      (fun p u => tc_B S K1 (tc_M o Mx My) u ∧ ∀ e, e < tc_E S → tc_q K1 K2 (u e) (tc_rd S (tc_it S (tc_i0 S K2 o x2 y2) n) p e)) ⟨B, ih⟩
      (fun k hk u hu => ⟨tc_B_st ok hk hu.1, tc_q_st ok hk hu.1 (by omega) (by omega) hu.2⟩) (tc_R S) (Nat.le_refl _)
    exact h.2
