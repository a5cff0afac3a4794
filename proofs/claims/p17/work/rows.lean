section
theorem pk_us {f : Nat → Int32} {k : Nat} {x : Int32} : upd f k x k = x := if_pos rfl
theorem pk_un {f : Nat → Int32} {k j : Nat} {x : Int32} (h : j ≠ k) : upd f k x j = f j := if_neg h
theorem pk_sub {a b : Nat} (h : b ≤ a) : nI a - nI b = nI (a - b) := by
  obtain ⟨c, rfl⟩ : ∃ c, a = c + b := ⟨a - b, by omega⟩
  rw [← nI_add, Int32.add_sub_cancel, Nat.add_sub_cancel]
theorem pk_m1 (n : Nat) : nI (n + 1) + (-1) = nI n := by
  rw [← nI_1, Int32.add_assoc, show (1 : Int32) + (-1) = 0 from rfl, Int32.add_zero]
theorem pk_mul (a b : Nat) : nI a * nI b = nI (a * b) := (Int32.ofNat_mul a b).symm
theorem pk_div {a d : Nat} (ha : a < 2 ^ 31) (h0 : 0 < d) (hd : d < 2 ^ 31) : nI a / nI d = nI (a / d) := by
  apply Int32.toInt_inj.mp
  rw [lg_idiv_nonneg (by rw [nI_toInt ha]; omega) (by rw [nI_toInt hd]; omega), nI_toInt ha, nI_toInt hd, nI_toInt (Nat.lt_of_le_of_lt (Nat.div_le_self a d) ha)]
  first | rfl | exact (Int.natCast_ediv _ _).symm
theorem pk_rem {a d : Nat} (ha : a < 2 ^ 31) (h0 : 0 < d) (hd : d < 2 ^ 31) : nI a - nI a / nI d * nI d = nI (a % d) := by
  rw [pk_div ha h0 hd, pk_mul, pk_sub (Nat.div_mul_le_self a d)]
  exact congrArg nI (by have := Nat.div_add_mod' a d; omega)
theorem pk_sub_toInt {a b : Nat} (ha : a < 2 ^ 30) (hb : b < 2 ^ 30) : (nI a - nI b).toInt = (a : Int) - b := by
  rw [Int32.toInt_sub, nI_toInt (by omega), nI_toInt (by omega)]
  exact Int.bmod_eq_of_le (by omega) (by omega)
theorem pk_ix (x : Int32) {n : Nat} (hn : n < 2 ^ 31) : x < 0 ∨ nI n ≤ x ∨ ∃ j : Nat, j < n ∧ x = nI j := by
  by_cases h : x < 0
  · exact Or.inl h
  · obtain ⟨j, hj, rfl⟩ := nI_of h
    by_cases h2 : j < n
    · exact Or.inr (Or.inr ⟨j, h2, rfl⟩)
    · exact Or.inr (Or.inl (nI_le (by omega) hj))
theorem pk_le {x y : Int32} {A B : Prop} (a b : Nat) (f : a ≤ b → A) (g : b < a → B) (hx : x = nI a := by rfl) (hy : y = nI b := by rfl) (ha : a < 2 ^ 31 := by omega) (hb : b < 2 ^ 31 := by omega) : (x ≤ y → A) ∧ (¬ x ≤ y → B) := by
  subst hx hy
  rw [nI_leI ha hb]
  exact ⟨f, fun z => g (by omega)⟩
theorem pk_lt {x y : Int32} {A B : Prop} (a b : Nat) (f : a < b → A) (g : b ≤ a → B) (hx : x = nI a := by rfl) (hy : y = nI b := by rfl) (ha : a < 2 ^ 31 := by omega) (hb : b < 2 ^ 31 := by omega) : (x < y → A) ∧ (¬ x < y → B) := by
  subst hx hy
  rw [nI_ltI ha hb]
  exact ⟨f, fun z => g (by omega)⟩
theorem pk_eq {x y : Int32} {A B : Prop} (a b : Nat) (f : a = b → A) (g : a ≠ b → B) (hx : x = nI a := by rfl) (hy : y = nI b := by rfl) (ha : a < 2 ^ 31 := by omega) (hb : b < 2 ^ 31 := by omega) : (x = y → A) ∧ (¬ x = y → B) := by
  subst hx hy
  rw [nI_eq ha hb]
  exact ⟨f, g⟩
theorem pk_in {x : Int32} (n N : Nat) (h : n < N) (hx : x = nI n := by rfl) (hN : N < 2 ^ 31 := by omega) : vp_in x N := by
  subst hx
  exact vp_in_nI h hN
theorem pk_cl {x : Int32} (n : Nat) (hx : x = nI n := by rfl) (h : n < 2 ^ 31 := by omega) : x.toNatClampNeg = n := by
  subst hx
  exact nI_clamp h
theorem pk_shl (a s : Int32) (k : Nat) (hs : (s.toBitVec.smod 32).toNat = k) : (a <<< s).toBitVec.toNat = a.toBitVec.toNat * 2 ^ k % 2 ^ 32 := by
  show (a.toBitVec <<< (s.toBitVec.smod 32).toNat).toNat = _
  rw [hs, BitVec.toNat_shiftLeft, Nat.shiftLeft_eq]
theorem pk_tn {n : Nat} (h : n < 2 ^ 32) : (nI n).toBitVec.toNat = n := Nat.mod_eq_of_lt h
theorem pk_shlN {n : Nat} (s : Int32) (k : Nat) (hs : (s.toBitVec.smod 32).toNat = k) (h : n * 2 ^ k < 2 ^ 32) : nI n <<< s = nI (n * 2 ^ k) := by
  apply Int32.toBitVec_inj.mp
  apply BitVec.eq_of_toNat_eq
  have hn : n < 2 ^ 32 := Nat.lt_of_le_of_lt (Nat.le_mul_of_pos_right n (Nat.two_pow_pos k)) h
  rw [pk_shl _ _ k hs, pk_tn hn, pk_tn h, Nat.mod_eq_of_lt h]
theorem pk_loop {σ : Type} (W : Nat → Nat → σ → Prop) (I : Nat → σ → Prop) (e i0 : Nat) (s : σ) (hi : i0 ≤ e) (h0 : I i0 s) (hx : ∀ n s, I e s → W (n + 1) e s)
    (hs : ∀ n i s, i < e → I i s → (∀ s', I (i + 1) s' → W n (i + 1) s') → W (n + 1) i s) : ∃ n, W n i0 s :=
  ⟨e + 1, loop_i W I e hx hs (e + 1) i0 s hi (by omega) h0⟩
theorem pk_least (P : Nat → Prop) (h : ∃ k, P k) : ∃ k, P k ∧ ∀ j, j < k → ¬ P j := by
  obtain ⟨k, hk⟩ := h
  induction k using Nat.strongRecOn with
  | ind k ih =>
    by_cases e : ∃ j, j < k ∧ P j
    · obtain ⟨j, hj, pj⟩ := e
      exact ih j hj pj
    · exact ⟨k, hk, fun j hj pj => e ⟨j, hj, pj⟩⟩
theorem lp1 {A1 : Type} (W : Nat → A1 → Prop) (I : A1 → Prop) (μ : A1 → Nat) (hs : ∀ (n : Nat) (a1 : A1), I a1 → (∀ (b1 : A1), I b1 → μ b1 < μ a1 → W n b1) → W (n + 1) a1) (a1 : A1) (h : I a1) : ∃ n, W n a1 :=
  loop_m (σ := A1) (fun n s => W n s) (fun s => I s) (fun s => μ s) (fun n s hI hk => hs n s hI (fun b1 h9 hm => hk b1 h9 hm)) a1 h
theorem lp2 {A1 A2 : Type} (W : Nat → A1 → A2 → Prop) (I : A1 → A2 → Prop) (μ : A1 → A2 → Nat) (hs : ∀ (n : Nat) (a1 : A1) (a2 : A2), I a1 a2 → (∀ (b1 : A1) (b2 : A2), I b1 b2 → μ b1 b2 < μ a1 a2 → W n b1 b2) → W (n + 1) a1 a2) (a1 : A1) (a2 : A2) (h : I a1 a2) : ∃ n, W n a1 a2 :=
  loop_m (σ := A1 × A2) (fun n s => W n s.1 s.2) (fun s => I s.1 s.2) (fun s => μ s.1 s.2) (fun n s hI hk => hs n s.1 s.2 hI (fun b1 b2 h9 hm => hk (b1, b2) h9 hm)) (a1, a2) h
theorem lp3 {A1 A2 A3 : Type} (W : Nat → A1 → A2 → A3 → Prop) (I : A1 → A2 → A3 → Prop) (μ : A1 → A2 → A3 → Nat) (hs : ∀ (n : Nat) (a1 : A1) (a2 : A2) (a3 : A3), I a1 a2 a3 → (∀ (b1 : A1) (b2 : A2) (b3 : A3), I b1 b2 b3 → μ b1 b2 b3 < μ a1 a2 a3 → W n b1 b2 b3) → W (n + 1) a1 a2 a3) (a1 : A1) (a2 : A2) (a3 : A3) (h : I a1 a2 a3) : ∃ n, W n a1 a2 a3 :=
  loop_m (σ := A1 × A2 × A3) (fun n s => W n s.1 s.2.1 s.2.2) (fun s => I s.1 s.2.1 s.2.2) (fun s => μ s.1 s.2.1 s.2.2) (fun n s hI hk => hs n s.1 s.2.1 s.2.2 hI (fun b1 b2 b3 h9 hm => hk (b1, b2, b3) h9 hm)) (a1, a2, a3) h
theorem lp4 {A1 A2 A3 A4 : Type} (W : Nat → A1 → A2 → A3 → A4 → Prop) (I : A1 → A2 → A3 → A4 → Prop) (μ : A1 → A2 → A3 → A4 → Nat) (hs : ∀ (n : Nat) (a1 : A1) (a2 : A2) (a3 : A3) (a4 : A4), I a1 a2 a3 a4 → (∀ (b1 : A1) (b2 : A2) (b3 : A3) (b4 : A4), I b1 b2 b3 b4 → μ b1 b2 b3 b4 < μ a1 a2 a3 a4 → W n b1 b2 b3 b4) → W (n + 1) a1 a2 a3 a4) (a1 : A1) (a2 : A2) (a3 : A3) (a4 : A4) (h : I a1 a2 a3 a4) : ∃ n, W n a1 a2 a3 a4 :=
  loop_m (σ := A1 × A2 × A3 × A4) (fun n s => W n s.1 s.2.1 s.2.2.1 s.2.2.2) (fun s => I s.1 s.2.1 s.2.2.1 s.2.2.2) (fun s => μ s.1 s.2.1 s.2.2.1 s.2.2.2) (fun n s hI hk => hs n s.1 s.2.1 s.2.2.1 s.2.2.2 hI (fun b1 b2 b3 b4 h9 hm => hk (b1, b2, b3, b4) h9 hm)) (a1, a2, a3, a4) h
theorem lp5 {A1 A2 A3 A4 A5 : Type} (W : Nat → A1 → A2 → A3 → A4 → A5 → Prop) (I : A1 → A2 → A3 → A4 → A5 → Prop) (μ : A1 → A2 → A3 → A4 → A5 → Nat) (hs : ∀ (n : Nat) (a1 : A1) (a2 : A2) (a3 : A3) (a4 : A4) (a5 : A5), I a1 a2 a3 a4 a5 → (∀ (b1 : A1) (b2 : A2) (b3 : A3) (b4 : A4) (b5 : A5), I b1 b2 b3 b4 b5 → μ b1 b2 b3 b4 b5 < μ a1 a2 a3 a4 a5 → W n b1 b2 b3 b4 b5) → W (n + 1) a1 a2 a3 a4 a5) (a1 : A1) (a2 : A2) (a3 : A3) (a4 : A4) (a5 : A5) (h : I a1 a2 a3 a4 a5) : ∃ n, W n a1 a2 a3 a4 a5 :=
  loop_m (σ := A1 × A2 × A3 × A4 × A5) (fun n s => W n s.1 s.2.1 s.2.2.1 s.2.2.2.1 s.2.2.2.2) (fun s => I s.1 s.2.1 s.2.2.1 s.2.2.2.1 s.2.2.2.2) (fun s => μ s.1 s.2.1 s.2.2.1 s.2.2.2.1 s.2.2.2.2) (fun n s hI hk => hs n s.1 s.2.1 s.2.2.1 s.2.2.2.1 s.2.2.2.2 hI (fun b1 b2 b3 b4 b5 h9 hm => hk (b1, b2, b3, b4, b5) h9 hm)) (a1, a2, a3, a4, a5) h
theorem lp6 {A1 A2 A3 A4 A5 A6 : Type} (W : Nat → A1 → A2 → A3 → A4 → A5 → A6 → Prop) (I : A1 → A2 → A3 → A4 → A5 → A6 → Prop) (μ : A1 → A2 → A3 → A4 → A5 → A6 → Nat) (hs : ∀ (n : Nat) (a1 : A1) (a2 : A2) (a3 : A3) (a4 : A4) (a5 : A5) (a6 : A6), I a1 a2 a3 a4 a5 a6 → (∀ (b1 : A1) (b2 : A2) (b3 : A3) (b4 : A4) (b5 : A5) (b6 : A6), I b1 b2 b3 b4 b5 b6 → μ b1 b2 b3 b4 b5 b6 < μ a1 a2 a3 a4 a5 a6 → W n b1 b2 b3 b4 b5 b6) → W (n + 1) a1 a2 a3 a4 a5 a6) (a1 : A1) (a2 : A2) (a3 : A3) (a4 : A4) (a5 : A5) (a6 : A6) (h : I a1 a2 a3 a4 a5 a6) : ∃ n, W n a1 a2 a3 a4 a5 a6 :=
  loop_m (σ := A1 × A2 × A3 × A4 × A5 × A6) (fun n s => W n s.1 s.2.1 s.2.2.1 s.2.2.2.1 s.2.2.2.2.1 s.2.2.2.2.2) (fun s => I s.1 s.2.1 s.2.2.1 s.2.2.2.1 s.2.2.2.2.1 s.2.2.2.2.2) (fun s => μ s.1 s.2.1 s.2.2.1 s.2.2.2.1 s.2.2.2.2.1 s.2.2.2.2.2) (fun n s hI hk => hs n s.1 s.2.1 s.2.2.1 s.2.2.2.1 s.2.2.2.2.1 s.2.2.2.2.2 hI (fun b1 b2 b3 b4 b5 b6 h9 hm => hk (b1, b2, b3, b4, b5, b6) h9 hm)) (a1, a2, a3, a4, a5, a6) h
theorem lp7 {A1 A2 A3 A4 A5 A6 A7 : Type} (W : Nat → A1 → A2 → A3 → A4 → A5 → A6 → A7 → Prop) (I : A1 → A2 → A3 → A4 → A5 → A6 → A7 → Prop) (μ : A1 → A2 → A3 → A4 → A5 → A6 → A7 → Nat) (hs : ∀ (n : Nat) (a1 : A1) (a2 : A2) (a3 : A3) (a4 : A4) (a5 : A5) (a6 : A6) (a7 : A7), I a1 a2 a3 a4 a5 a6 a7 → (∀ (b1 : A1) (b2 : A2) (b3 : A3) (b4 : A4) (b5 : A5) (b6 : A6) (b7 : A7), I b1 b2 b3 b4 b5 b6 b7 → μ b1 b2 b3 b4 b5 b6 b7 < μ a1 a2 a3 a4 a5 a6 a7 → W n b1 b2 b3 b4 b5 b6 b7) → W (n + 1) a1 a2 a3 a4 a5 a6 a7) (a1 : A1) (a2 : A2) (a3 : A3) (a4 : A4) (a5 : A5) (a6 : A6) (a7 : A7) (h : I a1 a2 a3 a4 a5 a6 a7) : ∃ n, W n a1 a2 a3 a4 a5 a6 a7 :=
  loop_m (σ := A1 × A2 × A3 × A4 × A5 × A6 × A7) (fun n s => W n s.1 s.2.1 s.2.2.1 s.2.2.2.1 s.2.2.2.2.1 s.2.2.2.2.2.1 s.2.2.2.2.2.2) (fun s => I s.1 s.2.1 s.2.2.1 s.2.2.2.1 s.2.2.2.2.1 s.2.2.2.2.2.1 s.2.2.2.2.2.2) (fun s => μ s.1 s.2.1 s.2.2.1 s.2.2.2.1 s.2.2.2.2.1 s.2.2.2.2.2.1 s.2.2.2.2.2.2) (fun n s hI hk => hs n s.1 s.2.1 s.2.2.1 s.2.2.2.1 s.2.2.2.2.1 s.2.2.2.2.2.1 s.2.2.2.2.2.2 hI (fun b1 b2 b3 b4 b5 b6 b7 h9 hm => hk (b1, b2, b3, b4, b5, b6, b7) h9 hm)) (a1, a2, a3, a4, a5, a6, a7) h
theorem lp8 {A1 A2 A3 A4 A5 A6 A7 A8 : Type} (W : Nat → A1 → A2 → A3 → A4 → A5 → A6 → A7 → A8 → Prop) (I : A1 → A2 → A3 → A4 → A5 → A6 → A7 → A8 → Prop) (μ : A1 → A2 → A3 → A4 → A5 → A6 → A7 → A8 → Nat) (hs : ∀ (n : Nat) (a1 : A1) (a2 : A2) (a3 : A3) (a4 : A4) (a5 : A5) (a6 : A6) (a7 : A7) (a8 : A8), I a1 a2 a3 a4 a5 a6 a7 a8 → (∀ (b1 : A1) (b2 : A2) (b3 : A3) (b4 : A4) (b5 : A5) (b6 : A6) (b7 : A7) (b8 : A8), I b1 b2 b3 b4 b5 b6 b7 b8 → μ b1 b2 b3 b4 b5 b6 b7 b8 < μ a1 a2 a3 a4 a5 a6 a7 a8 → W n b1 b2 b3 b4 b5 b6 b7 b8) → W (n + 1) a1 a2 a3 a4 a5 a6 a7 a8) (a1 : A1) (a2 : A2) (a3 : A3) (a4 : A4) (a5 : A5) (a6 : A6) (a7 : A7) (a8 : A8) (h : I a1 a2 a3 a4 a5 a6 a7 a8) : ∃ n, W n a1 a2 a3 a4 a5 a6 a7 a8 :=
  loop_m (σ := A1 × A2 × A3 × A4 × A5 × A6 × A7 × A8) (fun n s => W n s.1 s.2.1 s.2.2.1 s.2.2.2.1 s.2.2.2.2.1 s.2.2.2.2.2.1 s.2.2.2.2.2.2.1 s.2.2.2.2.2.2.2) (fun s => I s.1 s.2.1 s.2.2.1 s.2.2.2.1 s.2.2.2.2.1 s.2.2.2.2.2.1 s.2.2.2.2.2.2.1 s.2.2.2.2.2.2.2) (fun s => μ s.1 s.2.1 s.2.2.1 s.2.2.2.1 s.2.2.2.2.1 s.2.2.2.2.2.1 s.2.2.2.2.2.2.1 s.2.2.2.2.2.2.2) (fun n s hI hk => hs n s.1 s.2.1 s.2.2.1 s.2.2.2.1 s.2.2.2.2.1 s.2.2.2.2.2.1 s.2.2.2.2.2.2.1 s.2.2.2.2.2.2.2 hI (fun b1 b2 b3 b4 b5 b6 b7 b8 h9 hm => hk (b1, b2, b3, b4, b5, b6, b7, b8) h9 hm)) (a1, a2, a3, a4, a5, a6, a7, a8) h
end
section
/-! the rules, as both sides hold them: how many, where the entries of each begin, left, cost, root entry; and of each entry its operator, first part, last part -/
abbrev tc_S := Nat × (Nat → Nat) × (Nat → Nat) × (Nat → Nat) × (Nat → Nat) × (Nat → Nat) × (Nat → Nat) × (Nat → Nat)
def tc_R (S : tc_S) : Nat := S.1
def tc_sr (S : tc_S) : Nat → Nat := S.2.1
def tc_lf (S : tc_S) : Nat → Nat := S.2.2.1
def tc_co (S : tc_S) : Nat → Nat := S.2.2.2.1
def tc_rt (S : tc_S) : Nat → Nat := S.2.2.2.2.1
def tc_eo (S : tc_S) : Nat → Nat := S.2.2.2.2.2.1
def tc_ef (S : tc_S) : Nat → Nat := S.2.2.2.2.2.2.1
def tc_el (S : tc_S) : Nat → Nat := S.2.2.2.2.2.2.2
def tc_E (S : tc_S) : Nat := tc_sr S (tc_R S)
def tc_ok (S : tc_S) : Prop :=
  tc_R S ≤ 10 ∧ tc_sr S 0 = 4 ∧
  (∀ r, r < tc_R S → tc_sr S r ≤ tc_sr S (r + 1) ∧ tc_sr S (r + 1) ≤ tc_sr S r + 7 ∧ tc_lf S r < 4 ∧ tc_co S r ≤ 9 ∧ tc_rt S r < tc_sr S (r + 1) ∧ (tc_rt S r < 4 → 1 ≤ tc_co S r)) ∧
  (∀ e, 4 ≤ e → e < tc_E S → tc_eo S e < 6 ∧ (2 ≤ tc_eo S e → tc_el S e < e) ∧ (4 ≤ tc_eo S e → tc_ef S e < e))
theorem tc_ok_sr {S : tc_S} (ok : tc_ok S) : ∀ r, r ≤ tc_R S → 4 ≤ tc_sr S r ∧ tc_sr S r ≤ 4 + 7 * r := by
  intro r
  induction r with
  | zero => intro _; have := ok.2.1; omega
  | succ r ih =>
    intro hr
    have h1 := ih (by omega)
    have h2 := ok.2.2.1 r (by omega)
    omega
theorem tc_ok_up {S : tc_S} (ok : tc_ok S) : ∀ d r, r + d = tc_R S → tc_sr S r ≤ tc_E S := by
  intro d
  induction d with
  | zero => intro r hr; have e : r = tc_R S := by omega
            rw [e]; exact Nat.le_refl _
  | succ d ih =>
    intro r hr
    have h1 := ih (r + 1) (by omega)
    have h2 := ok.2.2.1 r (by omega)
    omega
theorem tc_ok_E {S : tc_S} (ok : tc_ok S) : 4 ≤ tc_E S ∧ tc_E S ≤ 74 := by
  have h := tc_ok_sr ok (tc_R S) (Nat.le_refl _)
  have h1 := ok.1
  unfold tc_E
  omega
theorem tc_ok_r {S : tc_S} (ok : tc_ok S) {r : Nat} (hr : r < tc_R S) : tc_lf S r < 4 ∧ tc_co S r ≤ 9 ∧ tc_rt S r < tc_E S ∧ (tc_rt S r < 4 → 1 ≤ tc_co S r) := by
  have h := ok.2.2.1 r hr
  have h2 := tc_ok_up ok (tc_R S - (r + 1)) (r + 1) (by omega)
  exact ⟨h.2.2.1, h.2.2.2.1, by omega, h.2.2.2.2.2⟩
/-! one rule's turn, a round, rounds -/
def tc_st (S : tc_S) (t : Nat → Nat) (r : Nat) : Nat → Nat := fun j => if j = tc_lf S r then min (t j) (tc_co S r + t (tc_rt S r)) else t j
def tc_rd (S : tc_S) (t : Nat → Nat) : Nat → (Nat → Nat)
  | 0 => t
  | k + 1 => tc_st S (tc_rd S t k) k
def tc_it (S : tc_S) (t : Nat → Nat) : Nat → (Nat → Nat)
  | 0 => t
  | n + 1 => tc_rd S (tc_it S t n) (tc_R S)
theorem tc_st_ne {S : tc_S} {t : Nat → Nat} {r j : Nat} (h : j ≠ tc_lf S r) : tc_st S t r j = t j := if_neg h
theorem tc_st_eq {S : tc_S} {t : Nat → Nat} {r : Nat} : tc_st S t r (tc_lf S r) = min (t (tc_lf S r)) (tc_co S r + t (tc_rt S r)) := if_pos rfl
theorem tc_st_le {S : tc_S} {t : Nat → Nat} {r : Nat} (j : Nat) : tc_st S t r j ≤ t j := by
  unfold tc_st
  split
  · exact Nat.min_le_left _ _
  · exact Nat.le_refl _
theorem tc_st_no {S : tc_S} {t : Nat → Nat} {r : Nat} (h : t (tc_lf S r) ≤ tc_co S r + t (tc_rt S r)) : tc_st S t r = t := by
  funext j
  unfold tc_st
  split
  · next e => rw [e]; exact Nat.min_eq_left h
  · rfl
theorem tc_st_yes {S : tc_S} {t : Nat → Nat} {r : Nat} (h : tc_co S r + t (tc_rt S r) < t (tc_lf S r)) : tc_st S t r (tc_lf S r) = tc_co S r + t (tc_rt S r) := by
  rw [tc_st_eq]
  exact Nat.min_eq_right (by omega)
theorem tc_rd_ind {S : tc_S} {t : Nat → Nat} (P : Nat → (Nat → Nat) → Prop) (h0 : P 0 t) (hs : ∀ k, k < tc_R S → ∀ t, P k t → P (k + 1) (tc_st S t k)) : ∀ k, k ≤ tc_R S → P k (tc_rd S t k) := by
  intro k
  induction k with
  | zero => intro _; exact h0
  | succ k ih => intro hk; exact hs k (by omega) _ (ih (by omega))
theorem tc_it_inv {S : tc_S} {t : Nat → Nat} (P : (Nat → Nat) → Prop) (h0 : P t) (hs : ∀ k, k < tc_R S → ∀ t, P t → P (tc_st S t k)) : ∀ n, P (tc_it S t n) := by
  intro n
  induction n with
  | zero => exact h0
  | succ n ih => exact tc_rd_ind (fun _ t => P t) ih hs (tc_R S) (Nat.le_refl _)
theorem tc_it_ge {S : tc_S} (ok : tc_ok S) {t : Nat → Nat} {e : Nat} (he : 4 ≤ e) (n : Nat) : tc_it S t n e = t e :=
  tc_it_inv (fun u => u e = t e) rfl (fun k hk u hu => by
    have h := (tc_ok_r ok hk).1
    rw [tc_st_ne (by omega)]
    exact hu) n
/-! how many goals are cheaper -/
def tc_c (t : Nat → Nat) (h j : Nat) : Nat := if t j < t h then 1 else 0
def tc_L (t : Nat → Nat) (h : Nat) : Nat := tc_c t h 0 + tc_c t h 1 + tc_c t h 2 + tc_c t h 3
theorem tc_c_le {a b : Nat → Nat} {h g j : Nat} (H : a j < a h → b j < b g) : tc_c a h j ≤ tc_c b g j := by
  by_cases z : a j < a h
  · have e1 : tc_c a h j = 1 := if_pos z
    have e2 : tc_c b g j = 1 := if_pos (H z)
    omega
  · have e1 : tc_c a h j = 0 := if_neg z
    omega
theorem tc_c_le1 (a : Nat → Nat) (h j : Nat) : tc_c a h j ≤ 1 := by
  unfold tc_c
  split <;> omega
theorem tc_L_mono {a b : Nat → Nat} {h g : Nat} (H : ∀ j, j < 4 → a j < a h → b j < b g) : tc_L a h ≤ tc_L b g := by
  have h0 := tc_c_le (H 0 (by decide))
  have h1 := tc_c_le (H 1 (by decide))
  have h2 := tc_c_le (H 2 (by decide))
  have h3 := tc_c_le (H 3 (by decide))
  unfold tc_L
  omega
theorem tc_L_lt {a b : Nat → Nat} {h g : Nat} (hh : h < 4) (H : ∀ j, j < 4 → a j < a h → b j < b g) (H2 : b h < b g) : tc_L a h + 1 ≤ tc_L b g := by
  have h0 := tc_c_le (H 0 (by decide))
  have h1 := tc_c_le (H 1 (by decide))
  have h2 := tc_c_le (H 2 (by decide))
  have h3 := tc_c_le (H 3 (by decide))
  have e0 : tc_c a h h = 0 := if_neg (Nat.lt_irrefl _)
  have e1 : tc_c b g h = 1 := if_pos H2
  have hc : h = 0 ∨ h = 1 ∨ h = 2 ∨ h = 3 := by omega
  unfold tc_L
  rcases hc with rfl | rfl | rfl | rfl <;> omega
theorem tc_L_le3 {t : Nat → Nat} {h : Nat} (hh : h < 4) : tc_L t h ≤ 3 := by
  have h0 := tc_c_le1 t h 0
  have h1 := tc_c_le1 t h 1
  have h2 := tc_c_le1 t h 2
  have h3 := tc_c_le1 t h 3
  have e0 : tc_c t h h = 0 := if_neg (Nat.lt_irrefl _)
  have hc : h = 0 ∨ h = 1 ∨ h = 2 ∨ h = 3 := by omega
  unfold tc_L
  rcases hc with rfl | rfl | rfl | rfl <;> omega
theorem tc_L_le2 {t : Nat → Nat} {h g : Nat} (hh : h < 4) (hg : g < 4) (ne : g ≠ h) (H : ¬ t g < t h) : tc_L t h ≤ 2 := by
  have h0 := tc_c_le1 t h 0
  have h1 := tc_c_le1 t h 1
  have h2 := tc_c_le1 t h 2
  have h3 := tc_c_le1 t h 3
  have e0 : tc_c t h h = 0 := if_neg (Nat.lt_irrefl _)
  have e1 : tc_c t h g = 0 := if_neg H
  have hc : h = 0 ∨ h = 1 ∨ h = 2 ∨ h = 3 := by omega
  have hd : g = 0 ∨ g = 1 ∨ g = 2 ∨ g = 3 := by omega
  unfold tc_L
  rcases hc with rfl | rfl | rfl | rfl <;> rcases hd with rfl | rfl | rfl | rfl <;> omega
theorem tc_L_new {S : tc_S} {t : Nat → Nat} {p : Nat} (hc : tc_rt S p < 4) (h1 : 1 ≤ tc_co S p) (hlt : tc_co S p + t (tc_rt S p) < t (tc_lf S p)) : tc_L t (tc_rt S p) + 1 ≤ tc_L (tc_st S t p) (tc_lf S p) := by
  have hne : tc_rt S p ≠ tc_lf S p := by
    intro e
    rw [e] at hlt
    omega
  refine tc_L_lt hc (fun j hj hjl => ?_) ?_
  · rw [tc_st_yes hlt]
    have := tc_st_le (S := S) (t := t) (r := p) j
    omega
  · rw [tc_st_yes hlt, tc_st_ne hne]
    omega
theorem tc_L_old {S : tc_S} {t : Nat → Nat} {p j : Nat} (hj : j ≠ tc_lf S p) : tc_L t j ≤ tc_L (tc_st S t p) j :=
  tc_L_mono (fun i _ hil => by
    have := tc_st_le (S := S) (t := t) (r := p) i
    rw [tc_st_ne hj]
    omega)
/-! four rounds settle every chain -/
def tc_J (S : tc_S) (k p : Nat) (t : Nat → Nat) : Prop :=
  (∀ r, r < tc_R S → tc_rt S r < 4 → tc_co S r + t (tc_rt S r) < t (tc_lf S r) → (r < p → k ≤ tc_L t (tc_rt S r)) ∧ k ≤ tc_L t (tc_rt S r) + 1) ∧
  (∀ r, r < tc_R S → 4 ≤ tc_rt S r → (r < p ∨ 1 ≤ k) → t (tc_lf S r) ≤ tc_co S r + t (tc_rt S r))
theorem tc_J_st {S : tc_S} (ok : tc_ok S) {k p : Nat} {t : Nat → Nat} (hp : p < tc_R S) (J : tc_J S k p t) : tc_J S k (p + 1) (tc_st S t p) := by
  obtain ⟨J1, J2⟩ := J
  by_cases nv : t (tc_lf S p) ≤ tc_co S p + t (tc_rt S p)
  · rw [tc_st_no nv]
    refine ⟨fun r hr hc hv => ⟨fun hrp => ?_, (J1 r hr hc hv).2⟩, fun r hr hc hk => ?_⟩
    · by_cases e : r = p
      · rw [e] at hv
        omega
      · exact (J1 r hr hc hv).1 (by omega)
    · by_cases e : r = p
      · rw [e]
        exact nv
      · exact J2 r hr hc (by omega)
  · have hlt : tc_co S p + t (tc_rt S p) < t (tc_lf S p) := by omega
    obtain ⟨hl, _, _, hc1⟩ := tc_ok_r ok hp
    refine ⟨fun r hr hc hv => ?_, fun r hr hc hk => ?_⟩
    · by_cases eg : tc_rt S r = tc_lf S p
      · by_cases hcp : tc_rt S p < 4
        · have hk := (J1 p hp hcp hlt).2
          have hL := tc_L_new hcp (hc1 hcp) hlt
          rw [eg]
          exact ⟨fun _ => by omega, by omega⟩
        · have hk0 : k = 0 := by
            rcases Nat.eq_zero_or_pos k with h | h
            · exact h
            · have := J2 p hp (by omega) (Or.inr h)
              omega
          subst hk0
          exact ⟨fun _ => Nat.zero_le _, Nat.zero_le _⟩
      · have e1 : tc_st S t p (tc_rt S r) = t (tc_rt S r) := tc_st_ne eg
        have hl2 := tc_st_le (S := S) (t := t) (r := p) (tc_lf S r)
        have hv' : tc_co S r + t (tc_rt S r) < t (tc_lf S r) := by
          rw [e1] at hv
          omega
        have hL := tc_L_old (S := S) (t := t) (p := p) eg
        obtain ⟨a, b⟩ := J1 r hr hc hv'
        refine ⟨fun hrp => ?_, by omega⟩
        by_cases e : r = p
        · exfalso
          rw [e1] at hv
          rw [e] at hv
          rw [tc_st_yes hlt] at hv
          omega
        · have := a (by omega)
          omega
    · have e1 : tc_st S t p (tc_rt S r) = t (tc_rt S r) := tc_st_ne (by omega)
      by_cases e : r = p
      · rw [e] at e1 ⊢
        rw [e1, tc_st_yes hlt]
        exact Nat.le_refl _
      · have h1 := J2 r hr hc (by omega)
        have h2 := tc_st_le (S := S) (t := t) (r := p) (tc_lf S r)
        rw [e1]
        omega
theorem tc_J_it {S : tc_S} (ok : tc_ok S) (t : Nat → Nat) : ∀ n, tc_J S n 0 (tc_it S t n) := by
  intro n
  induction n with
  | zero => exact ⟨fun r _ _ _ => ⟨fun h => absurd h (Nat.not_lt_zero _), Nat.zero_le _⟩, fun r _ _ h => by omega⟩
  | succ n ih =>
    have h := tc_rd_ind (fun p u => tc_J S n p u) ih (fun k hk u hu => tc_J_st ok hk hu) (tc_R S) (Nat.le_refl _)
    refine ⟨fun r hr hc hv => ⟨fun h => absurd h (Nat.not_lt_zero _), ?_⟩, fun r hr hc _ => h.2 r hr hc (Or.inl hr)⟩
    have := (h.1 r hr hc hv).1 hr
    show n + 1 ≤ tc_L (tc_rd S (tc_it S t n) (tc_R S)) (tc_rt S r) + 1
    omega
theorem tc_stab {S : tc_S} (ok : tc_ok S) (t : Nat → Nat) {r : Nat} (hr : r < tc_R S) : tc_it S t 4 (tc_lf S r) ≤ tc_co S r + tc_it S t 4 (tc_rt S r) := by
  obtain ⟨J1, J2⟩ := tc_J_it ok t 4
  obtain ⟨hl, _, _, _⟩ := tc_ok_r ok hr
  by_cases hc : tc_rt S r < 4
  · by_cases hv : tc_co S r + tc_it S t 4 (tc_rt S r) < tc_it S t 4 (tc_lf S r)
    · have h1 := (J1 r hr hc hv).2
      have hne : tc_lf S r ≠ tc_rt S r := by
        intro e
        rw [e] at hv
        omega
      have h2 := tc_L_le2 (t := tc_it S t 4) hc hl hne (by omega)
      omega
    · omega
  · exact J2 r hr (by omega) (Or.inr (by decide))
theorem tc_rd_fix {S : tc_S} {t : Nat → Nat} (h : ∀ r, r < tc_R S → t (tc_lf S r) ≤ tc_co S r + t (tc_rt S r)) : ∀ k, k ≤ tc_R S → tc_rd S t k = t :=
  tc_rd_ind (fun _ u => u = t) rfl (fun k hk u hu => by rw [hu]; exact tc_st_no (h k hk))
end
section
/-! bounds: a goal that covers costs at most 36 more than the dearest operator entry -/
def tc_B (S : tc_S) (K M : Nat) (t : Nat → Nat) : Prop :=
  (∀ g, g < 4 → t g = K ∨ t g ≤ M + 9 * (1 + tc_L t g)) ∧ (∀ j, t j ≤ K) ∧ (∀ j, 4 ≤ j → j < tc_E S → t j = K ∨ t j ≤ M)
theorem tc_B_st {S : tc_S} (ok : tc_ok S) {K M p : Nat} {t : Nat → Nat} (hp : p < tc_R S) (B : tc_B S K M t) : tc_B S K M (tc_st S t p) := by
  by_cases nv : t (tc_lf S p) ≤ tc_co S p + t (tc_rt S p)
  · rw [tc_st_no nv]
    exact B
  · obtain ⟨B1, B2, B3⟩ := B
    have hlt : tc_co S p + t (tc_rt S p) < t (tc_lf S p) := by omega
    obtain ⟨hl, hco, hE, hc1⟩ := tc_ok_r ok hp
    have hK := B2 (tc_lf S p)
    refine ⟨fun g hg => ?_, fun j => Nat.le_trans (tc_st_le j) (B2 j), fun j hj hjE => ?_⟩
    · by_cases e : g = tc_lf S p
      · rw [e, tc_st_yes hlt]
        right
        by_cases hcp : tc_rt S p < 4
        · have hL := tc_L_new hcp (hc1 hcp) hlt
          rcases B1 _ hcp with h | h
          · omega
          · omega
        · rcases B3 (tc_rt S p) (by omega) hE with h | h
          · omega
          · omega
      · have hL := tc_L_old (S := S) (t := t) (p := p) e
        rw [tc_st_ne e]
        rcases B1 g hg with h | h
        · exact Or.inl h
        · right
          omega
    · rw [tc_st_ne (by omega)]
      exact B3 j hj hjE
theorem tc_B_36 {S : tc_S} {K M : Nat} {t : Nat → Nat} (B : tc_B S K M t) {j : Nat} (hj : j < tc_E S) : t j = K ∨ t j ≤ M + 36 := by
  by_cases h : j < 4
  · have h3 := tc_L_le3 (t := t) h
    rcases B.1 j h with e | e
    · exact Or.inl e
    · right
      omega
  · rcases B.2.2 j (by omega) hj with e | e
    · exact Or.inl e
    · right
      omega
/-! a goal that covers has a rule that begins a least cover -/
def tc_X (S : tc_S) (K : Nat) (t : Nat → Nat) : Prop := ∀ g, g < 4 → t g = K ∨ ∃ r, r < tc_R S ∧ tc_lf S r = g ∧ tc_co S r + t (tc_rt S r) ≤ t g
theorem tc_X_st {S : tc_S} {K p : Nat} {t : Nat → Nat} (hp : p < tc_R S) (X : tc_X S K t) : tc_X S K (tc_st S t p) := by
  by_cases nv : t (tc_lf S p) ≤ tc_co S p + t (tc_rt S p)
  · rw [tc_st_no nv]
    exact X
  · have hlt : tc_co S p + t (tc_rt S p) < t (tc_lf S p) := by omega
    intro g hg
    by_cases e : g = tc_lf S p
    · right
      refine ⟨p, hp, e.symm, ?_⟩
      have := tc_st_le (S := S) (t := t) (r := p) (tc_rt S p)
      rw [e, tc_st_yes hlt]
      omega
    · rw [tc_st_ne e]
      rcases X g hg with h | ⟨r, hr, hl, h⟩
      · exact Or.inl h
      · right
        have := tc_st_le (S := S) (t := t) (r := p) (tc_rt S r)
        exact ⟨r, hr, hl, by omega⟩
/-! two rows that differ in what stands for 'none' alone -/
def tc_q (K1 K2 a b : Nat) : Prop := (a = K1 ∧ b = K2) ∨ (a = b ∧ a < K1 ∧ a < K2)
theorem tc_q_st {S : tc_S} (ok : tc_ok S) {K1 K2 M p : Nat} {t1 t2 : Nat → Nat} (hp : p < tc_R S) (B : tc_B S K1 M t1) (h1 : M + 45 < K1) (h2 : M + 45 < K2)
    (H : ∀ j, j < tc_E S → tc_q K1 K2 (t1 j) (t2 j)) : ∀ j, j < tc_E S → tc_q K1 K2 (tc_st S t1 p j) (tc_st S t2 p j) := by
  intro j hj
  by_cases e : j = tc_lf S p
  · obtain ⟨hl, hco, hE, hc1⟩ := tc_ok_r ok hp
    have q1 := H _ hE
    have q2 := H j hj
    have b1 := tc_B_36 B hE
    rw [e] at q2 ⊢
    rw [tc_st_eq, tc_st_eq]
    unfold tc_q at q1 q2 ⊢
    simp only [Nat.min_def]
    split <;> split <;> omega
  · rw [tc_st_ne e, tc_st_ne e]
    exact H j hj
/-! a row: the costs of all entries for a tree with operator o over parts with rows x and y -/
def tc_op (S : tc_S) (K o : Nat) (x y : Nat → Nat) (e : Nat) : Nat :=
  if tc_eo S e = o then (if o < 2 then 0 else if o < 4 then min K (y (tc_el S e)) else min K (x (tc_ef S e) + y (tc_el S e))) else K
def tc_i0 (S : tc_S) (K o : Nat) (x y : Nat → Nat) (e : Nat) : Nat := if e < 4 then K else tc_op S K o x y e
def tc_row (S : tc_S) (K o : Nat) (x y : Nat → Nat) : Nat → Nat := tc_it S (tc_i0 S K o x y) 4
theorem tc_row_ge {S : tc_S} (ok : tc_ok S) {K o e : Nat} {x y : Nat → Nat} (he : 4 ≤ e) : tc_row S K o x y e = tc_op S K o x y e := by
  unfold tc_row
  rw [tc_it_ge ok he]
  exact if_neg (by omega)
theorem tc_op_le {S : tc_S} {K o e : Nat} {x y : Nat → Nat} : tc_op S K o x y e ≤ K := by
  unfold tc_op
  split
  · split
    · exact Nat.zero_le _
    · split
      · exact Nat.min_le_left _ _
      · exact Nat.min_le_left _ _
  · exact Nat.le_refl _
theorem tc_i0_le {S : tc_S} {K o e : Nat} {x y : Nat → Nat} : tc_i0 S K o x y e ≤ K := by
  unfold tc_i0
  split
  · exact Nat.le_refl _
  · exact tc_op_le
theorem tc_row_congr {S : tc_S} {K o : Nat} {x y x' y' : Nat → Nat} (hy : 2 ≤ o → y = y') (hx : 4 ≤ o → x = x') : tc_row S K o x y = tc_row S K o x' y' := by
  by_cases h4 : 4 ≤ o
  · rw [hx h4, hy (by omega)]
  · by_cases h2 : 2 ≤ o
    · rw [hy h2]
      have e : tc_i0 S K o x y' = tc_i0 S K o x' y' := by
        funext e
        unfold tc_i0 tc_op
        rw [if_neg (show ¬ o < 2 by omega), if_pos (show o < 4 by omega), if_neg (show ¬ o < 2 by omega), if_pos (show o < 4 by omega)]
      unfold tc_row
      rw [e]
    · have e : tc_i0 S K o x y = tc_i0 S K o x' y' := by
        funext e
        unfold tc_i0 tc_op
        rw [if_pos (show o < 2 by omega), if_pos (show o < 2 by omega)]
      unfold tc_row
      rw [e]
/-- what a row's parts may cost -/
def tc_M (o Mx My : Nat) : Nat := if o < 2 then 0 else if o < 4 then My else Mx + My
theorem tc_row_B {S : tc_S} (ok : tc_ok S) {K o Mx My : Nat} {x y : Nat → Nat}
    (hy : 2 ≤ o → ∀ e, e < tc_E S → y e = K ∨ y e ≤ My) (hx : 4 ≤ o → ∀ e, e < tc_E S → x e = K ∨ x e ≤ Mx) : ∀ n, tc_B S K (tc_M o Mx My) (tc_it S (tc_i0 S K o x y) n) :=
  tc_it_inv _ ⟨fun g hg => Or.inl (if_pos hg), fun j => tc_i0_le, fun j hj hjE => by
    have hk := ok.2.2.2 j hj hjE
    unfold tc_i0
    rw [if_neg (show ¬ j < 4 by omega)]
    unfold tc_op tc_M
    split
    · next eo =>
      split
      · right; exact Nat.zero_le _
      · next h2 =>
        split
        · next h4 =>
          have h := hy (by omega) (tc_el S j) (by omega)
          omega
        · next h4 =>
          have h := hy (by omega) (tc_el S j) (by omega)
          have h' := hx (by omega) (tc_ef S j) (by omega)
          omega
    · exact Or.inl rfl⟩ (fun k hk t ht => tc_B_st ok hk ht)
theorem tc_row_X {S : tc_S} {K o : Nat} {x y : Nat → Nat} : ∀ n, tc_X S K (tc_it S (tc_i0 S K o x y) n) :=
  tc_it_inv _ (fun g hg => Or.inl (if_pos hg)) (fun k hk t ht => tc_X_st hk ht)
theorem tc_row_le {S : tc_S} {K o : Nat} {x y : Nat → Nat} (e : Nat) (n : Nat) : tc_it S (tc_i0 S K o x y) n e ≤ K :=
  tc_it_inv (fun t => t e ≤ K) tc_i0_le (fun k _ t ht => Nat.le_trans (tc_st_le e) ht) n
theorem tc_row_fix {S : tc_S} (ok : tc_ok S) {K o : Nat} {x y : Nat → Nat} : ∀ k, k ≤ tc_R S → tc_rd S (tc_row S K o x y) k = tc_row S K o x y :=
  tc_rd_fix (fun _ hr => tc_stab ok _ hr)
theorem tc_row_q {S : tc_S} (ok : tc_ok S) {K1 K2 o Mx My : Nat} {x1 y1 x2 y2 : Nat → Nat} (h1 : Mx + My + 45 < K1) (h2 : Mx + My + 45 < K2)
    (hy : 2 ≤ o → ∀ e, e < tc_E S → y1 e = K1 ∨ y1 e ≤ My) (hx : 4 ≤ o → ∀ e, e < tc_E S → x1 e = K1 ∨ x1 e ≤ Mx)
    (qy : 2 ≤ o → ∀ e, e < tc_E S → tc_q K1 K2 (y1 e) (y2 e)) (qx : 4 ≤ o → ∀ e, e < tc_E S → tc_q K1 K2 (x1 e) (x2 e)) :
    ∀ n e, e < tc_E S → tc_q K1 K2 (tc_it S (tc_i0 S K1 o x1 y1) n e) (tc_it S (tc_i0 S K2 o x2 y2) n e) := by
  have hM : tc_M o Mx My ≤ Mx + My := by
    unfold tc_M
    split
    · omega
    · split <;> omega
  intro n
  induction n with
  | zero =>
    intro e he
    show tc_q K1 K2 (tc_i0 S K1 o x1 y1 e) (tc_i0 S K2 o x2 y2 e)
    unfold tc_i0
    by_cases h : e < 4
    · rw [if_pos h, if_pos h]
      exact Or.inl ⟨rfl, rfl⟩
    · rw [if_neg h, if_neg h]
      have hk := ok.2.2.2 e (by omega) he
      unfold tc_op
      by_cases eo : tc_eo S e = o
      · rw [if_pos eo, if_pos eo]
        by_cases h2 : o < 2
        · rw [if_pos h2, if_pos h2]
          exact Or.inr ⟨rfl, by omega, by omega⟩
        · rw [if_neg h2, if_neg h2]
          have a1 := hy (by omega) (tc_el S e) (by omega)
          have a2 := qy (by omega) (tc_el S e) (by omega)
          unfold tc_q at a2 ⊢
          by_cases h4 : o < 4
          · rw [if_pos h4, if_pos h4]
            simp only [Nat.min_def]
            split <;> split <;> omega
          · rw [if_neg h4, if_neg h4]
            have b1 := hx (by omega) (tc_ef S e) (by omega)
            have b2 := qx (by omega) (tc_ef S e) (by omega)
            unfold tc_q at b2
            simp only [Nat.min_def]
            split <;> split <;> omega
      · rw [if_neg eo, if_neg eo]
        exact Or.inl ⟨rfl, rfl⟩
  | succ n ih =>
    have B := tc_row_B ok hy hx n
    have h := tc_rd_ind (S := S) (t := tc_it S (tc_i0 S K1 o x1 y1) n)
      (fun p u => tc_B S K1 (tc_M o Mx My) u ∧ ∀ e, e < tc_E S → tc_q K1 K2 (u e) (tc_rd S (tc_it S (tc_i0 S K2 o x2 y2) n) p e)) ⟨B, ih⟩
      (fun k hk u hu => ⟨tc_B_st ok hk hu.1, tc_q_st ok hk hu.1 (by omega) (by omega) hu.2⟩) (tc_R S) (Nat.le_refl _)
    exact h.2
end
section
/-! forests in postfix order: symbols sy, sizes ps; the last part of node i is i - 1, the first i - 1 - ps (i - 1) -/
def tc_nd (sy ps : Nat → Nat) (i : Nat) : Prop :=
  1 ≤ ps i ∧ ps i ≤ i + 1 ∧ (2 ≤ sy i → sy i < 6 → 1 ≤ i) ∧ (4 ≤ sy i → sy i < 6 → ps (i - 1) < i) ∧
  (sy i < 2 → ps i = 1) ∧ (2 ≤ sy i → sy i < 4 → ps i = 1 + ps (i - 1)) ∧ (4 ≤ sy i → sy i < 6 → ps i = 1 + ps (i - 1) + ps (i - 1 - ps (i - 1)))
/-- a stack of trees -/
def tc_fo (nn dd : Nat) (sy ps sk : Nat → Nat) : Prop :=
  (dd = 0 → nn = 0) ∧ (∀ k, k + 1 = dd → sk k + 1 = nn) ∧ (∀ k, k + 1 < dd → sk k + ps (sk (k + 1)) = sk (k + 1)) ∧ (0 < dd → sk 0 + 1 = ps (sk 0)) ∧
  (∀ k, k < dd → sk k < nn) ∧ (∀ i, i < nn → tc_nd sy ps i)
def tc_V (S : tc_S) (K : Nat) (sy ps : Nat → Nat) : Nat → Nat → Nat → Nat
  | 0 => fun _ _ => 0
  | n + 1 => fun m => if m = n then tc_row S K (sy n) (tc_V S K sy ps n (n - 1 - ps (n - 1))) (tc_V S K sy ps n (n - 1)) else tc_V S K sy ps n m
def tc_v (S : tc_S) (K : Nat) (sy ps : Nat → Nat) (m : Nat) : Nat → Nat := tc_V S K sy ps (m + 1) m
theorem tc_V_v {S : tc_S} {K : Nat} {sy ps : Nat → Nat} {m : Nat} : ∀ n, m < n → tc_V S K sy ps n m = tc_v S K sy ps m := by
  intro n
  induction n with
  | zero => intro h; omega
  | succ n ih =>
    intro h
    by_cases e : m = n
    · rw [e]
      rfl
    · have e2 : tc_V S K sy ps (n + 1) m = tc_V S K sy ps n m := if_neg e
      rw [e2]
      exact ih (by omega)
theorem tc_v_eq {S : tc_S} {K : Nat} {sy ps : Nat → Nat} {m : Nat} (h1 : 2 ≤ sy m → 1 ≤ m) :
    tc_v S K sy ps m = tc_row S K (sy m) (tc_v S K sy ps (m - 1 - ps (m - 1))) (tc_v S K sy ps (m - 1)) := by
  have e : tc_v S K sy ps m = tc_row S K (sy m) (tc_V S K sy ps m (m - 1 - ps (m - 1))) (tc_V S K sy ps m (m - 1)) := if_pos rfl
  rw [e]
  exact tc_row_congr (fun h => tc_V_v m (by have := h1 h; omega)) (fun h => tc_V_v m (by have := h1 (by omega); omega))
/-- a tree's node -/
def tc_tn (sy ps : Nat → Nat) (N : Nat) : Prop := ∀ i, i < N → sy i < 6 ∧ tc_nd sy ps i
theorem tc_v_B {S : tc_S} (ok : tc_ok S) {K N : Nat} {sy ps : Nat → Nat} (hn : tc_tn sy ps N) : ∀ m, m < N → ∀ e, e < tc_E S → tc_v S K sy ps m e = K ∨ tc_v S K sy ps m e ≤ 36 * ps m := by
  intro m
  induction m using Nat.strongRecOn with
  | ind m ih =>
    intro hm e he
    obtain ⟨h6, n1, n2, n3, n4, n5, n6, n7⟩ := hn m hm
    rw [tc_v_eq (fun h => n3 h h6)]
    have hB := tc_row_B ok (K := K) (o := sy m) (x := tc_v S K sy ps (m - 1 - ps (m - 1))) (y := tc_v S K sy ps (m - 1)) (Mx := 36 * ps (m - 1 - ps (m - 1))) (My := 36 * ps (m - 1))
      (fun h => ih (m - 1) (by have := n3 h h6; omega) (by omega)) (fun h => ih (m - 1 - ps (m - 1)) (by have := n3 (by omega) h6; omega) (by omega)) 4
    have h := tc_B_36 hB he
    have e2 : tc_M (sy m) (36 * ps (m - 1 - ps (m - 1))) (36 * ps (m - 1)) + 36 ≤ 36 * ps m := by
      unfold tc_M
      split
      · omega
      · split
        · have := n6 (by omega) (by omega)
          omega
        · have := n7 (by omega) h6
          omega
    rcases h with h | h
    · exact Or.inl h
    · right
      exact Nat.le_trans h e2
theorem tc_v_q {S : tc_S} (ok : tc_ok S) {K1 K2 N : Nat} {sy ps : Nat → Nat} (hn : tc_tn sy ps N) (hN : N ≤ 24) (h1 : 1000 ≤ K1) (h2 : 1000 ≤ K2) :
    ∀ m, m < N → ∀ e, e < tc_E S → tc_q K1 K2 (tc_v S K1 sy ps m e) (tc_v S K2 sy ps m e) := by
  intro m
  induction m using Nat.strongRecOn with
  | ind m ih =>
    intro hm e he
    obtain ⟨h6, n1, n2, n3, n4, n5, n6, n7⟩ := hn m hm
    rw [tc_v_eq (fun h => n3 h h6), tc_v_eq (fun h => n3 h h6)]
    have e2 : 36 * (if 4 ≤ sy m then ps (m - 1 - ps (m - 1)) else 0) + 36 * (if 2 ≤ sy m then ps (m - 1) else 0) + 36 ≤ 36 * ps m := by
      by_cases h4 : 4 ≤ sy m
      · have := n7 h4 h6
        rw [if_pos h4, if_pos (by omega)]
        omega
      · by_cases h2' : 2 ≤ sy m
        · have := n6 h2' (by omega)
          rw [if_neg h4, if_pos h2']
          omega
        · rw [if_neg h4, if_neg h2']
          omega
    exact tc_row_q ok (Mx := 36 * (if 4 ≤ sy m then ps (m - 1 - ps (m - 1)) else 0)) (My := 36 * (if 2 ≤ sy m then ps (m - 1) else 0)) (by omega) (by omega)
      (fun h => by rw [if_pos h]; exact tc_v_B ok hn (m - 1) (by omega))
      (fun h => by rw [if_pos h]; exact tc_v_B ok hn (m - 1 - ps (m - 1)) (by omega))
      (fun h => ih (m - 1) (by have := n3 h h6; omega) (by omega)) (fun h => ih (m - 1 - ps (m - 1)) (by have := n3 (by omega) h6; omega) (by omega)) 4 e he
theorem tc_v_le {S : tc_S} {K : Nat} {sy ps : Nat → Nat} {m : Nat} (h1 : 2 ≤ sy m → 1 ≤ m) (e : Nat) : tc_v S K sy ps m e ≤ K := by
  rw [tc_v_eq h1]
  exact tc_row_le e 4
/-! the rules that begin a least cover, and the sums over them -/
abbrev tc_bs (S : tc_S) (K : Nat) (t : Nat → Nat) (r : Nat) : Prop := t (tc_lf S r) ≠ K ∧ t (tc_lf S r) = tc_co S r + t (tc_rt S r)
theorem tc_bs_L {S : tc_S} (ok : tc_ok S) {K r : Nat} {t : Nat → Nat} (hr : r < tc_R S) (hc : tc_rt S r < 4) (b : tc_bs S K t r) : tc_L t (tc_rt S r) < tc_L t (tc_lf S r) := by
  have h1 := (tc_ok_r ok hr).2.2.2 hc
  have h2 := b.2
  exact tc_L_lt hc (fun j _ h => by omega) (by omega)
def tc_ws (S : tc_S) (K : Nat) (t : Nat → Nat) (w : Nat → Int32) (g : Nat) : Nat → Int32
  | 0 => 0
  | k + 1 => if tc_lf S k = g ∧ tc_bs S K t k then tc_ws S K t w g k + w (tc_rt S k) else tc_ws S K t w g k
theorem tc_ws_congr {S : tc_S} {K g : Nat} {t : Nat → Nat} {w w' : Nat → Int32} (h : ∀ r, r < tc_R S → tc_lf S r = g → tc_bs S K t r → w (tc_rt S r) = w' (tc_rt S r)) :
    ∀ k, k ≤ tc_R S → tc_ws S K t w g k = tc_ws S K t w' g k := by
  intro k
  induction k with
  | zero => intro _; rfl
  | succ k ih =>
    intro hk
    unfold tc_ws
    rw [ih (by omega)]
    by_cases c : tc_lf S k = g ∧ tc_bs S K t k
    · rw [if_pos c, if_pos c, h k (by omega) c.1 c.2]
    · rw [if_neg c, if_neg c]
def tc_wf (S : tc_S) (K : Nat) (t : Nat → Nat) (wo : Nat → Int32) : Nat → Nat → Int32
  | 0 => fun e => if e < 4 then 0 else wo e
  | k + 1 => fun e => if e < 4 then tc_ws S K t (tc_wf S K t wo k) e (tc_R S) else wo e
theorem tc_wf_ge {S : tc_S} {K : Nat} {t : Nat → Nat} {wo : Nat → Int32} {e : Nat} (he : 4 ≤ e) : ∀ k, tc_wf S K t wo k e = wo e := by
  intro k
  cases k with
  | zero => exact if_neg (by omega)
  | succ k => exact if_neg (by omega)
theorem tc_wf_s {S : tc_S} {K : Nat} {t : Nat → Nat} {wo : Nat → Int32} {g : Nat} (hg : g < 4) (k : Nat) : tc_wf S K t wo (k + 1) g = tc_ws S K t (tc_wf S K t wo k) g (tc_R S) := if_pos hg
theorem tc_wf_up {S : tc_S} (ok : tc_ok S) {K : Nat} {t : Nat → Nat} {wo : Nat → Int32} : ∀ k g, g < 4 → tc_L t g < k → tc_wf S K t wo k g = tc_wf S K t wo (k + 1) g := by
  intro k
  induction k with
  | zero => intro g _ h; omega
  | succ k ih =>
    intro g hg h
    rw [tc_wf_s hg, tc_wf_s hg]
    refine tc_ws_congr (fun r hr hl hb => ?_) (tc_R S) (Nat.le_refl _)
    by_cases hc : tc_rt S r < 4
    · have := tc_bs_L ok hr hc hb
      rw [hl] at this
      exact ih _ hc (by omega)
    · rw [tc_wf_ge (by omega), tc_wf_ge (by omega)]
theorem tc_wf_fix {S : tc_S} (ok : tc_ok S) {K : Nat} {t : Nat → Nat} {wo : Nat → Int32} {g : Nat} (hg : g < 4) : tc_ws S K t (tc_wf S K t wo 4) g (tc_R S) = tc_wf S K t wo 4 g := by
  rw [tc_wf_s hg 3]
  refine tc_ws_congr (fun r hr hl hb => ?_) (tc_R S) (Nat.le_refl _)
  by_cases hc : tc_rt S r < 4
  · have h1 := tc_bs_L ok hr hc hb
    have h2 := tc_L_le3 (t := t) hg
    rw [hl] at h1
    exact (tc_wf_up ok 3 _ hc (by omega)).symm
  · rw [tc_wf_ge (by omega), tc_wf_ge (by omega)]
theorem tc_wf_settle {S : tc_S} (ok : tc_ok S) {K k g : Nat} {t : Nat → Nat} {wo w : Nat → Int32} (hw : ∀ e, 4 ≤ e → e < tc_E S → w e = wo e)
    (P : ∀ h, h < 4 → tc_L t h < k → w h = tc_wf S K t wo 4 h) (hg : g < 4) (hk : tc_L t g ≤ k) : tc_ws S K t w g (tc_R S) = tc_wf S K t wo 4 g := by
  rw [← tc_wf_fix ok hg]
  refine tc_ws_congr (fun r hr hl hb => ?_) (tc_R S) (Nat.le_refl _)
  by_cases hc : tc_rt S r < 4
  · have h1 := tc_bs_L ok hr hc hb
    rw [hl] at h1
    exact P _ hc (by omega)
  · rw [tc_wf_ge (by omega)]
    exact hw _ (by omega) (tc_ok_r ok hr).2.2.1
theorem tc_ws_none {S : tc_S} {K g : Nat} {t : Nat → Nat} {w : Nat → Int32} (h : t g = K) : ∀ k, tc_ws S K t w g k = 0 := by
  intro k
  induction k with
  | zero => rfl
  | succ k ih =>
    unfold tc_ws
    rw [if_neg (fun c => c.2.1 (by rw [c.1]; exact h))]
    exact ih
/-! ways of a node -/
def tc_wo (S : tc_S) (K : Nat) (t : Nat → Nat) (o : Nat) (x y : Nat → Int32) (e : Nat) : Int32 :=
  if t e = K then 0 else if o < 2 then 1 else if o < 4 then y (tc_el S e) else x (tc_ef S e) * y (tc_el S e)
def tc_wr (S : tc_S) (K : Nat) (t : Nat → Nat) (o : Nat) (x y : Nat → Int32) : Nat → Int32 := tc_wf S K t (tc_wo S K t o x y) 4
def tc_W (S : tc_S) (K : Nat) (sy ps : Nat → Nat) : Nat → Nat → Nat → Int32
  | 0 => fun _ _ => 0
  | n + 1 => fun m => if m = n then tc_wr S K (tc_v S K sy ps n) (sy n) (tc_W S K sy ps n (n - 1 - ps (n - 1))) (tc_W S K sy ps n (n - 1)) else tc_W S K sy ps n m
def tc_w (S : tc_S) (K : Nat) (sy ps : Nat → Nat) (m : Nat) : Nat → Int32 := tc_W S K sy ps (m + 1) m
theorem tc_W_w {S : tc_S} {K : Nat} {sy ps : Nat → Nat} {m : Nat} : ∀ n, m < n → tc_W S K sy ps n m = tc_w S K sy ps m := by
  intro n
  induction n with
  | zero => intro h; omega
  | succ n ih =>
    intro h
    by_cases e : m = n
    · rw [e]
      rfl
    · have e2 : tc_W S K sy ps (n + 1) m = tc_W S K sy ps n m := if_neg e
      rw [e2]
      exact ih (by omega)
theorem tc_wo_congr {S : tc_S} {K o : Nat} {t : Nat → Nat} {x y x' y' : Nat → Int32} (hy : 2 ≤ o → y = y') (hx : 4 ≤ o → x = x') : tc_wo S K t o x y = tc_wo S K t o x' y' := by
  funext e
  unfold tc_wo
  by_cases h4 : 4 ≤ o
  · rw [hx h4, hy (by omega)]
  · by_cases h2 : 2 ≤ o
    · rw [hy h2, if_neg (show ¬ o < 2 by omega), if_pos (show o < 4 by omega), if_neg (show ¬ o < 2 by omega), if_pos (show o < 4 by omega)]
    · rw [if_pos (show o < 2 by omega), if_pos (show o < 2 by omega)]
theorem tc_w_eq {S : tc_S} {K : Nat} {sy ps : Nat → Nat} {m : Nat} (h1 : 2 ≤ sy m → 1 ≤ m) :
    tc_w S K sy ps m = tc_wr S K (tc_v S K sy ps m) (sy m) (tc_w S K sy ps (m - 1 - ps (m - 1))) (tc_w S K sy ps (m - 1)) := by
  have e : tc_w S K sy ps m = tc_wr S K (tc_v S K sy ps m) (sy m) (tc_W S K sy ps m (m - 1 - ps (m - 1))) (tc_W S K sy ps m (m - 1)) := if_pos rfl
  rw [e]
  unfold tc_wr
  rw [tc_wo_congr (fun h => tc_W_w m (by have := h1 h; omega)) (fun h => tc_W_w m (by have := h1 (by omega); omega))]
theorem tc_w_0 {S : tc_S} {K : Nat} {sy ps : Nat → Nat} {m e : Nat} (h1 : 2 ≤ sy m → 1 ≤ m) (h : tc_v S K sy ps m e = K) : tc_w S K sy ps m e = 0 := by
  rw [tc_w_eq h1]
  unfold tc_wr
  by_cases c : e < 4
  · rw [tc_wf_s c 3]
    exact tc_ws_none h _
  · rw [tc_wf_ge (by omega)]
    exact if_pos h
/-- an operator entry that covers has the tree's operator, and its parts cover -/
theorem tc_v_op {S : tc_S} (ok : tc_ok S) {K e : Nat} {sy ps : Nat → Nat} {m : Nat} (h1 : 2 ≤ sy m → 1 ≤ m) (he : 4 ≤ e) (h : tc_v S K sy ps m e ≠ K) :
    tc_eo S e = sy m ∧ (2 ≤ sy m → tc_v S K sy ps (m - 1) (tc_el S e) < K) ∧ (4 ≤ sy m → tc_v S K sy ps (m - 1 - ps (m - 1)) (tc_ef S e) < K) := by
  rw [tc_v_eq h1, tc_row_ge ok he] at h
  unfold tc_op at h
  by_cases eo : tc_eo S e = sy m
  · rw [if_pos eo] at h
    refine ⟨eo, fun h2 => ?_, fun h4 => ?_⟩
    · rw [if_neg (show ¬ sy m < 2 by omega)] at h
      by_cases h4 : sy m < 4
      · rw [if_pos h4] at h
        omega
      · rw [if_neg h4] at h
        omega
    · rw [if_neg (show ¬ sy m < 2 by omega), if_neg (show ¬ sy m < 4 by omega)] at h
      omega
  · rw [if_neg eo] at h
    exact absurd rfl h
theorem tc_ws_q {S : tc_S} (ok : tc_ok S) {K1 K2 g : Nat} {t1 t2 : Nat → Nat} {w1 w2 : Nat → Int32} (q : ∀ e, e < tc_E S → tc_q K1 K2 (t1 e) (t2 e)) (hw : ∀ e, e < tc_E S → w1 e = w2 e) :
    ∀ k, k ≤ tc_R S → tc_ws S K1 t1 w1 g k = tc_ws S K2 t2 w2 g k := by
  intro k
  induction k with
  | zero => intro _; rfl
  | succ k ih =>
    intro hk
    obtain ⟨a, b, c, d⟩ := tc_ok_r ok (show k < tc_R S by omega)
    have q1 := q (tc_lf S k) (by have := tc_ok_E ok; omega)
    have q2 := q (tc_rt S k) c
    unfold tc_ws
    rw [ih (by omega), hw _ c]
    have e : (tc_lf S k = g ∧ tc_bs S K1 t1 k) ↔ (tc_lf S k = g ∧ tc_bs S K2 t2 k) := by
      unfold tc_q at q1 q2
      constructor
      · intro ⟨h1, h2, h3⟩
        exact ⟨h1, by omega, by omega⟩
      · intro ⟨h1, h2, h3⟩
        exact ⟨h1, by omega, by omega⟩
    by_cases z : tc_lf S k = g ∧ tc_bs S K1 t1 k
    · rw [if_pos z, if_pos (e.mp z)]
    · rw [if_neg z, if_neg (fun y => z (e.mpr y))]
theorem tc_wf_q {S : tc_S} (ok : tc_ok S) {K1 K2 : Nat} {t1 t2 : Nat → Nat} {w1 w2 : Nat → Int32} (q : ∀ e, e < tc_E S → tc_q K1 K2 (t1 e) (t2 e)) (hw : ∀ e, 4 ≤ e → e < tc_E S → w1 e = w2 e) :
    ∀ k e, e < tc_E S → tc_wf S K1 t1 w1 k e = tc_wf S K2 t2 w2 k e := by
  intro k
  induction k with
  | zero =>
    intro e he
    by_cases c : e < 4
    · have e1 : tc_wf S K1 t1 w1 0 e = 0 := if_pos c
      have e2 : tc_wf S K2 t2 w2 0 e = 0 := if_pos c
      rw [e1, e2]
    · rw [tc_wf_ge (by omega), tc_wf_ge (by omega)]
      exact hw e (by omega) he
  | succ k ih =>
    intro e he
    by_cases c : e < 4
    · rw [tc_wf_s c, tc_wf_s c]
      exact tc_ws_q ok q ih _ (Nat.le_refl _)
    · rw [tc_wf_ge (by omega), tc_wf_ge (by omega)]
      exact hw e (by omega) he
theorem tc_w_q {S : tc_S} (ok : tc_ok S) {K1 K2 N : Nat} {sy ps : Nat → Nat} (hn : tc_tn sy ps N) (hN : N ≤ 24) (h1 : 1000 ≤ K1) (h2 : 1000 ≤ K2) :
    ∀ m, m < N → ∀ e, e < tc_E S → tc_w S K1 sy ps m e = tc_w S K2 sy ps m e := by
  intro m
  induction m using Nat.strongRecOn with
  | ind m ih =>
    intro hm e he
    obtain ⟨h6, n1, n2, n3, n4, n5, n6, n7⟩ := hn m hm
    rw [tc_w_eq (fun h => n3 h h6), tc_w_eq (fun h => n3 h h6)]
    refine tc_wf_q ok (tc_v_q ok hn hN h1 h2 m hm) (fun e he hE => ?_) 4 e he
    have q := tc_v_q ok hn hN h1 h2 m hm e hE
    unfold tc_wo
    by_cases z : tc_v S K1 sy ps m e = K1
    · have z2 : tc_v S K2 sy ps m e = K2 := by
        unfold tc_q at q
        omega
      rw [if_pos z, if_pos z2]
    · have z2 : tc_v S K2 sy ps m e ≠ K2 := by
        unfold tc_q at q
        omega
      obtain ⟨eo, _, _⟩ := tc_v_op ok (fun h => n3 h h6) he z
      have hk := ok.2.2.2 e he hE
      rw [if_neg z, if_neg z2]
      by_cases c2 : sy m < 2
      · rw [if_pos c2, if_pos c2]
      · rw [if_neg c2, if_neg c2, ih (m - 1) (by have := n3 (by omega) h6; omega) (by omega) (tc_el S e) (by omega)]
        by_cases c4 : sy m < 4
        · rw [if_pos c4, if_pos c4]
        · rw [if_neg c4, if_neg c4, ih (m - 1 - ps (m - 1)) (by have := n3 (by omega) h6; omega) (by omega) (tc_ef S e) (by omega)]
end
section
/-! the lowest rule that begins a least cover -/
def tc_fd (p : Nat → Bool) : Nat → Nat → Nat
  | 0, _ => 0
  | n + 1, i => if p i = true then i else tc_fd p n (i + 1)
theorem tc_fd_eq {p : Nat → Bool} {r : Nat} (hp : p r = true) (hm : ∀ j, j < r → p j = false) : ∀ n i, i ≤ r → r < i + n → tc_fd p n i = r := by
  intro n
  induction n with
  | zero => intro i h1 h2; omega
  | succ n ih =>
    intro i h1 h2
    by_cases e : i = r
    · rw [e]
      exact if_pos hp
    · have e2 : tc_fd p (n + 1) i = tc_fd p n (i + 1) := if_neg (by rw [hm i (by omega)]; exact Bool.false_ne_true)
      rw [e2]
      exact ih (i + 1) (by omega) (by omega)
theorem tc_fd_congr {p p' : Nat → Bool} : ∀ n i, (∀ j, j < i + n → p j = p' j) → tc_fd p n i = tc_fd p' n i := by
  intro n
  induction n with
  | zero => intro i _; rfl
  | succ n ih =>
    intro i h
    unfold tc_fd
    rw [h i (by omega), ih (i + 1) (fun j hj => h j (by omega))]
abbrev tc_pb (S : tc_S) (K : Nat) (t : Nat → Nat) (g r : Nat) : Prop := tc_lf S r = g ∧ tc_bs S K t r
def tc_lo (S : tc_S) (K : Nat) (t : Nat → Nat) (g : Nat) : Nat := tc_fd (fun r => decide (tc_pb S K t g r)) (tc_R S) 0
theorem tc_lo_eq {S : tc_S} {K g r : Nat} {t : Nat → Nat} (hr : r < tc_R S) (hp : tc_pb S K t g r) (hm : ∀ j, j < r → ¬ tc_pb S K t g j) : tc_lo S K t g = r :=
  tc_fd_eq (decide_eq_true hp) (fun j hj => decide_eq_false (hm j hj)) (tc_R S) 0 (Nat.zero_le _) (by omega)
theorem tc_lo_ex {S : tc_S} {K g : Nat} {t : Nat → Nat} (h : ∃ r, r < tc_R S ∧ tc_pb S K t g r) : tc_lo S K t g < tc_R S ∧ tc_pb S K t g (tc_lo S K t g) ∧ ∀ j, j < tc_lo S K t g → ¬ tc_pb S K t g j := by
  obtain ⟨r, ⟨hr, hp⟩, hm⟩ := pk_least (fun r => r < tc_R S ∧ tc_pb S K t g r) h
  have e := tc_lo_eq hr hp (fun j hj hb => hm j hj ⟨by omega, hb⟩)
  rw [e]
  exact ⟨hr, hp, fun j hj hb => hm j hj ⟨by omega, hb⟩⟩
theorem tc_v_ex {S : tc_S} (ok : tc_ok S) {K g m : Nat} {sy ps : Nat → Nat} (h1 : 2 ≤ sy m → 1 ≤ m) (hg : g < 4) (h : tc_v S K sy ps m g ≠ K) : ∃ r, r < tc_R S ∧ tc_pb S K (tc_v S K sy ps m) g r := by
  rw [tc_v_eq h1] at h ⊢
  rcases tc_row_X (S := S) (K := K) (o := sy m) (x := tc_v S K sy ps (m - 1 - ps (m - 1))) (y := tc_v S K sy ps (m - 1)) 4 g hg with e | ⟨r, hr, hl, hc⟩
  · exact absurd e h
  · have hs := tc_stab ok (tc_i0 S K (sy m) (tc_v S K sy ps (m - 1 - ps (m - 1))) (tc_v S K sy ps (m - 1))) hr
    refine ⟨r, hr, hl, by rw [hl]; exact h, ?_⟩
    unfold tc_row
    rw [hl] at hs ⊢
    omega
/-! the first least cover, by a stack of what is still to be covered -/
def tc_gd (S : tc_S) (K : Nat) (sy ps : Nat → Nat) (N n e : Nat) : Prop := n < N ∧ e < tc_E S ∧ tc_v S K sy ps n e ≠ K
def tc_m1 (S : tc_S) (K : Nat) (sy ps : Nat → Nat) (n e : Nat) : Nat := 10 * ps n + (if e < 4 then tc_L (tc_v S K sy ps n) e + 1 else 0)
def tc_mu (S : tc_S) (K : Nat) (sy ps : Nat → Nat) : List (Nat × Nat) → Nat
  | [] => 0
  | p :: s => tc_m1 S K sy ps p.1 p.2 + tc_mu S K sy ps s
def tc_ou (S : tc_S) (K : Nat) (sy ps : Nat → Nat) (n e : Nat) : List Nat := if e < 4 then [tc_lo S K (tc_v S K sy ps n) e] else []
def tc_nx (S : tc_S) (K : Nat) (sy ps : Nat → Nat) (n e : Nat) : List (Nat × Nat) :=
  if e < 4 then [(n, tc_rt S (tc_lo S K (tc_v S K sy ps n) e))] else if sy n < 2 then [] else if sy n < 4 then [(n - 1, tc_el S e)] else [(n - 1 - ps (n - 1), tc_ef S e), (n - 1, tc_el S e)]
def tc_run (S : tc_S) (K : Nat) (sy ps : Nat → Nat) : Nat → List (Nat × Nat) → List Nat
  | 0, _ => []
  | _ + 1, [] => []
  | f + 1, p :: s => tc_ou S K sy ps p.1 p.2 ++ tc_run S K sy ps f (tc_nx S K sy ps p.1 p.2 ++ s)
def tc_cv (S : tc_S) (K : Nat) (sy ps : Nat → Nat) (s : List (Nat × Nat)) : List Nat := tc_run S K sy ps (tc_mu S K sy ps s) s
theorem tc_mu_app {S : tc_S} {K : Nat} {sy ps : Nat → Nat} : ∀ a b : List (Nat × Nat), tc_mu S K sy ps (a ++ b) = tc_mu S K sy ps a + tc_mu S K sy ps b := by
  intro a b
  induction a with
  | nil => show tc_mu S K sy ps b = 0 + tc_mu S K sy ps b; omega
  | cons p a ih =>
    show tc_m1 S K sy ps p.1 p.2 + tc_mu S K sy ps (a ++ b) = tc_m1 S K sy ps p.1 p.2 + tc_mu S K sy ps a + tc_mu S K sy ps b
    omega
section
variable {S : tc_S} {K N : Nat} {sy ps : Nat → Nat}
theorem tc_gd_lo {n e : Nat} (ok : tc_ok S) (hn : tc_tn sy ps N) (h : tc_gd S K sy ps N n e) (he : e < 4) :
    tc_lo S K (tc_v S K sy ps n) e < tc_R S ∧ tc_pb S K (tc_v S K sy ps n) e (tc_lo S K (tc_v S K sy ps n) e) ∧ (∀ j, j < tc_lo S K (tc_v S K sy ps n) e → ¬ tc_pb S K (tc_v S K sy ps n) e j) ∧
    tc_gd S K sy ps N n (tc_rt S (tc_lo S K (tc_v S K sy ps n) e)) := by
  obtain ⟨h6, hd⟩ := hn n h.1
  have h1 : 2 ≤ sy n → 1 ≤ n := fun h => hd.2.2.1 h h6
  obtain ⟨a, b, c⟩ := tc_lo_ex (tc_v_ex ok h1 he h.2.2)
  refine ⟨a, b, c, h.1, (tc_ok_r ok a).2.2.1, ?_⟩
  have h3 := b.2.1
  have h2 := b.2.2
  have hle := tc_v_le (S := S) (K := K) (ps := ps) h1 (tc_lf S (tc_lo S K (tc_v S K sy ps n) e))
  omega
theorem tc_gd_op {n e : Nat} (ok : tc_ok S) (hn : tc_tn sy ps N) (h : tc_gd S K sy ps N n e) (he : ¬ e < 4) :
    tc_eo S e = sy n ∧ (2 ≤ sy n → 1 ≤ n ∧ tc_gd S K sy ps N (n - 1) (tc_el S e)) ∧ (4 ≤ sy n → ps (n - 1) < n ∧ tc_gd S K sy ps N (n - 1 - ps (n - 1)) (tc_ef S e)) := by
  obtain ⟨h6, hd⟩ := hn n h.1
  have h1 : 2 ≤ sy n → 1 ≤ n := fun h => hd.2.2.1 h h6
  obtain ⟨a, b, c⟩ := tc_v_op ok h1 (by omega) h.2.2
  have hk := ok.2.2.2 e (by omega) h.2.1
  have hN := h.1
  have hE := h.2.1
  refine ⟨a, fun h2 => ⟨h1 h2, by have := h1 h2; omega, by omega, ?_⟩, fun h4 => ⟨hd.2.2.2.1 h4 h6, by have := h1 (by omega); omega, by omega, ?_⟩⟩
  · have := b h2
    omega
  · have := c h4
    omega
theorem tc_gd_nx {n e : Nat} (ok : tc_ok S) (hn : tc_tn sy ps N) (h : tc_gd S K sy ps N n e) :
    (∀ p, p ∈ tc_nx S K sy ps n e → tc_gd S K sy ps N p.1 p.2) ∧ tc_mu S K sy ps (tc_nx S K sy ps n e) < tc_m1 S K sy ps n e := by
  obtain ⟨h6, d1, d2, d3, d4, d5, d6, d7⟩ := hn n h.1
  by_cases he : e < 4
  · obtain ⟨a, b, c, d⟩ := tc_gd_lo ok hn h he
    have e1 : tc_nx S K sy ps n e = [(n, tc_rt S (tc_lo S K (tc_v S K sy ps n) e))] := if_pos he
    rw [e1]
    refine ⟨fun p hp => ?_, ?_⟩
    · rw [List.mem_singleton] at hp
      rw [hp]
      exact d
    · show tc_m1 S K sy ps n (tc_rt S (tc_lo S K (tc_v S K sy ps n) e)) + 0 < tc_m1 S K sy ps n e
      unfold tc_m1
      rw [if_pos he]
      by_cases hc : tc_rt S (tc_lo S K (tc_v S K sy ps n) e) < 4
      · have hL := tc_bs_L ok a hc b.2
        rw [b.1] at hL
        rw [if_pos hc]
        omega
      · rw [if_neg hc]
        omega
  · obtain ⟨a, b, c⟩ := tc_gd_op ok hn h he
    have hm : tc_m1 S K sy ps n e = 10 * ps n := by
      unfold tc_m1
      rw [if_neg he]
      rfl
    have hm5 : ∀ m f, tc_m1 S K sy ps m f ≤ 10 * ps m + 4 := by
      intro m f
      unfold tc_m1
      split
      · next z =>
        have := tc_L_le3 (t := tc_v S K sy ps m) z
        omega
      · omega
    rw [hm]
    by_cases h2 : sy n < 2
    · have e1 : tc_nx S K sy ps n e = [] := by
        unfold tc_nx
        rw [if_neg he, if_pos h2]
      rw [e1]
      refine ⟨fun p hp => absurd hp List.not_mem_nil, ?_⟩
      show 0 < 10 * ps n
      omega
    · by_cases h4 : sy n < 4
      · have e1 : tc_nx S K sy ps n e = [(n - 1, tc_el S e)] := by
          unfold tc_nx
          rw [if_neg he, if_neg h2, if_pos h4]
        rw [e1]
        refine ⟨fun p hp => ?_, ?_⟩
        · rw [List.mem_singleton] at hp
          rw [hp]
          exact (b (by omega)).2
        · show tc_m1 S K sy ps (n - 1) (tc_el S e) + 0 < 10 * ps n
          have := hm5 (n - 1) (tc_el S e)
          have := d6 (by omega) h4
          omega
      · have e1 : tc_nx S K sy ps n e = [(n - 1 - ps (n - 1), tc_ef S e), (n - 1, tc_el S e)] := by
          unfold tc_nx
          rw [if_neg he, if_neg h2, if_neg h4]
        rw [e1]
        refine ⟨fun p hp => ?_, ?_⟩
        · rcases List.mem_cons.mp hp with hp | hp
          · rw [hp]
            exact (c (by omega)).2
          · rw [List.mem_singleton] at hp
            rw [hp]
            exact (b (by omega)).2
        · show tc_m1 S K sy ps (n - 1 - ps (n - 1)) (tc_ef S e) + (tc_m1 S K sy ps (n - 1) (tc_el S e) + 0) < 10 * ps n
          have := hm5 (n - 1) (tc_el S e)
          have := hm5 (n - 1 - ps (n - 1)) (tc_ef S e)
          have := d7 (by omega) h6
          omega
theorem tc_run_ir (ok : tc_ok S) (hn : tc_tn sy ps N) : ∀ f f' s, (∀ p, p ∈ s → tc_gd S K sy ps N p.1 p.2) → tc_mu S K sy ps s ≤ f → tc_mu S K sy ps s ≤ f' → tc_run S K sy ps f s = tc_run S K sy ps f' s := by
  intro f
  induction f with
  | zero =>
    intro f' s hs h1 h2
    cases s with
    | nil =>
      cases f' with
      | zero => rfl
      | succ f' => rfl
    | cons p s =>
      have h3 := (tc_gd_nx ok hn (hs p List.mem_cons_self)).2
      have h4 : tc_mu S K sy ps (p :: s) = tc_m1 S K sy ps p.1 p.2 + tc_mu S K sy ps s := rfl
      omega
  | succ f ih =>
    intro f' s hs h1 h2
    cases s with
    | nil =>
      cases f' with
      | zero => rfl
      | succ f' => rfl
    | cons p s =>
      obtain ⟨hg, h3⟩ := tc_gd_nx ok hn (hs p List.mem_cons_self)
      have h4 : tc_mu S K sy ps (p :: s) = tc_m1 S K sy ps p.1 p.2 + tc_mu S K sy ps s := rfl
      cases f' with
      | zero => omega
      | succ f' =>
        show tc_ou S K sy ps p.1 p.2 ++ tc_run S K sy ps f (tc_nx S K sy ps p.1 p.2 ++ s) = tc_ou S K sy ps p.1 p.2 ++ tc_run S K sy ps f' (tc_nx S K sy ps p.1 p.2 ++ s)
        have h5 := tc_mu_app (S := S) (K := K) (sy := sy) (ps := ps) (tc_nx S K sy ps p.1 p.2) s
        rw [ih f' (tc_nx S K sy ps p.1 p.2 ++ s) (fun q hq => by
          rcases List.mem_append.mp hq with h | h
          · exact hg q h
          · exact hs q (List.mem_cons_of_mem _ h)) (by omega) (by omega)]
theorem tc_cv_cons (ok : tc_ok S) (hn : tc_tn sy ps N) {n e : Nat} {s : List (Nat × Nat)} (hs : ∀ p, p ∈ (n, e) :: s → tc_gd S K sy ps N p.1 p.2) :
    tc_cv S K sy ps ((n, e) :: s) = tc_ou S K sy ps n e ++ tc_cv S K sy ps (tc_nx S K sy ps n e ++ s) := by
  obtain ⟨hg, h3⟩ := tc_gd_nx ok hn (hs (n, e) List.mem_cons_self)
  have h4 : tc_mu S K sy ps ((n, e) :: s) = tc_m1 S K sy ps n e + tc_mu S K sy ps s := rfl
  have h5 := tc_mu_app (S := S) (K := K) (sy := sy) (ps := ps) (tc_nx S K sy ps n e) s
  dsimp only at hg h3
  have hs2 : ∀ p, p ∈ tc_nx S K sy ps n e ++ s → tc_gd S K sy ps N p.1 p.2 := fun q hq => by
    rcases List.mem_append.mp hq with h | h
    · exact hg q h
    · exact hs q (List.mem_cons_of_mem _ h)
  obtain ⟨k, hk⟩ : ∃ k, tc_mu S K sy ps ((n, e) :: s) = k + 1 := ⟨tc_mu S K sy ps ((n, e) :: s) - 1, by omega⟩
  have e1 : tc_cv S K sy ps ((n, e) :: s) = tc_run S K sy ps (k + 1) ((n, e) :: s) := by
    unfold tc_cv
    rw [hk]
  rw [e1]
  show tc_ou S K sy ps n e ++ tc_run S K sy ps k (tc_nx S K sy ps n e ++ s) = _
  rw [tc_run_ir ok hn k (tc_mu S K sy ps (tc_nx S K sy ps n e ++ s)) _ hs2 (by omega) (Nat.le_refl _)]
  rfl
end
theorem tc_run_len {S : tc_S} {K : Nat} {sy ps : Nat → Nat} : ∀ f s, (tc_run S K sy ps f s).length ≤ f := by
  intro f
  induction f with
  | zero => intro s; exact Nat.le_refl _
  | succ f ih =>
    intro s
    cases s with
    | nil => exact Nat.zero_le _
    | cons p s =>
      show (tc_ou S K sy ps p.1 p.2 ++ tc_run S K sy ps f (tc_nx S K sy ps p.1 p.2 ++ s)).length ≤ f + 1
      rw [List.length_append]
      have h1 := ih (tc_nx S K sy ps p.1 p.2 ++ s)
      have h2 : (tc_ou S K sy ps p.1 p.2).length ≤ 1 := by
        unfold tc_ou
        split
        · exact Nat.le_refl _
        · exact Nat.zero_le _
      omega
theorem tc_L_q {S : tc_S} {K1 K2 h : Nat} {t1 t2 : Nat → Nat} (h4 : 4 ≤ tc_E S) (hh : h < 4) (q : ∀ e, e < tc_E S → tc_q K1 K2 (t1 e) (t2 e)) : tc_L t1 h = tc_L t2 h := by
  have qh := q h (by omega)
  refine Nat.le_antisymm (tc_L_mono (fun j hj hl => ?_)) (tc_L_mono (fun j hj hl => ?_))
  · have qj := q j (by omega)
    unfold tc_q at qj qh
    omega
  · have qj := q j (by omega)
    unfold tc_q at qj qh
    omega
theorem tc_lo_q {S : tc_S} (ok : tc_ok S) {K1 K2 g : Nat} {t1 t2 : Nat → Nat} (q : ∀ e, e < tc_E S → tc_q K1 K2 (t1 e) (t2 e)) : tc_lo S K1 t1 g = tc_lo S K2 t2 g := by
  refine tc_fd_congr _ _ (fun k hk => ?_)
  obtain ⟨a, b, c, d⟩ := tc_ok_r ok (show k < tc_R S by omega)
  have q1 := q (tc_lf S k) (by have := tc_ok_E ok; omega)
  have q2 := q (tc_rt S k) c
  have e : tc_pb S K1 t1 g k ↔ tc_pb S K2 t2 g k := by
    unfold tc_q at q1 q2
    constructor
    · intro ⟨h1, h2, h3⟩
      exact ⟨h1, by omega, by omega⟩
    · intro ⟨h1, h2, h3⟩
      exact ⟨h1, by omega, by omega⟩
  exact decide_eq_decide.mpr e
theorem tc_cv_q {S : tc_S} (ok : tc_ok S) {K1 K2 N : Nat} {sy ps : Nat → Nat} (hn : tc_tn sy ps N) (hN : N ≤ 24) (h1 : 1000 ≤ K1) (h2 : 1000 ≤ K2) {s : List (Nat × Nat)}
    (hs : ∀ p, p ∈ s → tc_gd S K1 sy ps N p.1 p.2) : tc_cv S K1 sy ps s = tc_cv S K2 sy ps s := by
  have hE := (tc_ok_E ok).1
  have hmu : ∀ s : List (Nat × Nat), (∀ p, p ∈ s → tc_gd S K1 sy ps N p.1 p.2) → tc_mu S K1 sy ps s = tc_mu S K2 sy ps s := by
    intro s
    induction s with
    | nil => intro _; rfl
    | cons p s ih =>
      intro hs
      show tc_m1 S K1 sy ps p.1 p.2 + tc_mu S K1 sy ps s = tc_m1 S K2 sy ps p.1 p.2 + tc_mu S K2 sy ps s
      rw [ih (fun q hq => hs q (List.mem_cons_of_mem _ hq))]
      unfold tc_m1
      by_cases c : p.2 < 4
      · rw [if_pos c, if_pos c, tc_L_q hE c (tc_v_q ok hn hN h1 h2 p.1 (hs p List.mem_cons_self).1)]
      · rw [if_neg c, if_neg c]
  have hrun : ∀ f (s : List (Nat × Nat)), (∀ p, p ∈ s → tc_gd S K1 sy ps N p.1 p.2) → tc_run S K1 sy ps f s = tc_run S K2 sy ps f s := by
    intro f
    induction f with
    | zero => intro s _; rfl
    | succ f ih =>
      intro s hs
      cases s with
      | nil => rfl
      | cons p s =>
        have hp := hs p List.mem_cons_self
        have e0 := tc_lo_q ok (g := p.2) (tc_v_q ok hn hN h1 h2 p.1 hp.1)
        have e1 : tc_ou S K1 sy ps p.1 p.2 = tc_ou S K2 sy ps p.1 p.2 := by
          unfold tc_ou
          rw [e0]
        have e2 : tc_nx S K1 sy ps p.1 p.2 = tc_nx S K2 sy ps p.1 p.2 := by
          unfold tc_nx
          rw [e0]
        show tc_ou S K1 sy ps p.1 p.2 ++ tc_run S K1 sy ps f (tc_nx S K1 sy ps p.1 p.2 ++ s) = tc_ou S K2 sy ps p.1 p.2 ++ tc_run S K2 sy ps f (tc_nx S K2 sy ps p.1 p.2 ++ s)
        rw [← e1, ← e2, ih _ (fun q hq => by
          rcases List.mem_append.mp hq with h | h
          · exact (tc_gd_nx ok hn hp).1 q h
          · exact hs q (List.mem_cons_of_mem _ h))]
  unfold tc_cv
  rw [hmu s hs, hrun _ s hs]
/-! the state of a tree -/
def tc_lw (K : Nat) (t : Nat → Nat) : Nat → Nat
  | 0 => K
  | e + 1 => min (tc_lw K t e) (t e)
theorem tc_lw_le {K : Nat} {t : Nat → Nat} : ∀ E, tc_lw K t E ≤ K ∧ ∀ e, e < E → tc_lw K t E ≤ t e := by
  intro E
  induction E with
  | zero => exact ⟨Nat.le_refl _, fun e h => by omega⟩
  | succ E ih =>
    have h1 : tc_lw K t (E + 1) ≤ tc_lw K t E := Nat.min_le_left _ _
    have h2 : tc_lw K t (E + 1) ≤ t E := Nat.min_le_right _ _
    refine ⟨by omega, fun e he => ?_⟩
    by_cases c : e = E
    · rw [c]
      exact h2
    · have := ih.2 e (by omega)
      omega
theorem tc_lw_ex {K : Nat} {t : Nat → Nat} : ∀ E, tc_lw K t E = K ∨ ∃ e, e < E ∧ tc_lw K t E = t e := by
  intro E
  induction E with
  | zero => exact Or.inl rfl
  | succ E ih =>
    by_cases c : tc_lw K t E ≤ t E
    · have e : tc_lw K t (E + 1) = tc_lw K t E := Nat.min_eq_left c
      rw [e]
      rcases ih with h | ⟨e, he, h⟩
      · exact Or.inl h
      · exact Or.inr ⟨e, by omega, h⟩
    · have e : tc_lw K t (E + 1) = t E := Nat.min_eq_right (by omega)
      exact Or.inr ⟨E, by omega, e⟩
theorem tc_lw_uq {K E x : Nat} {t : Nat → Nat} (h1 : ∀ e, e < E → x ≤ t e) (h2 : x ≤ K) (h3 : x = K ∨ ∃ e, e < E ∧ x = t e) : x = tc_lw K t E := by
  obtain ⟨a, b⟩ := tc_lw_le (K := K) (t := t) E
  refine Nat.le_antisymm ?_ ?_
  · rcases tc_lw_ex (K := K) (t := t) E with h | ⟨e, he, h⟩
    · omega
    · have := h1 e he
      omega
  · rcases h3 with h | ⟨e, he, h⟩
    · omega
    · have := b e he
      omega
theorem tc_lw_q {K1 K2 E : Nat} {t1 t2 : Nat → Nat} (q : ∀ e, e < E → tc_q K1 K2 (t1 e) (t2 e)) : ∀ n, n ≤ E → tc_q K1 K2 (tc_lw K1 t1 n) (tc_lw K2 t2 n) := by
  intro n
  induction n with
  | zero => intro _; exact Or.inl ⟨rfl, rfl⟩
  | succ n ih =>
    intro hn
    have q1 := ih (by omega)
    have q2 := q n (by omega)
    show tc_q K1 K2 (min (tc_lw K1 t1 n) (t1 n)) (min (tc_lw K2 t2 n) (t2 n))
    unfold tc_q at q1 q2 ⊢
    simp only [Nat.min_def]
    split <;> split <;> omega
def tc_sa (K E : Nat) (t u : Nat → Nat) : Prop := ∀ e, e < E → ((t e = K ↔ u e = K) ∧ (t e ≠ K → t e + tc_lw K u E = u e + tc_lw K t E))
theorem tc_sa_q {K1 K2 E : Nat} {t1 t2 u1 u2 : Nat → Nat} (q : ∀ e, e < E → tc_q K1 K2 (t1 e) (t2 e)) (p : ∀ e, e < E → tc_q K1 K2 (u1 e) (u2 e)) : tc_sa K1 E t1 u1 ↔ tc_sa K2 E t2 u2 := by
  have a := tc_lw_q q E (Nat.le_refl _)
  have b := tc_lw_q p E (Nat.le_refl _)
  have a1 := (tc_lw_le (K := K1) (t := t1) E).2
  have b1 := (tc_lw_le (K := K1) (t := u1) E).2
  have a2 := (tc_lw_le (K := K2) (t := t2) E).2
  have b2 := (tc_lw_le (K := K2) (t := u2) E).2
  unfold tc_q at a b
  constructor
  · intro h e he
    have h1 := h e he
    have q1 := q e he
    have p1 := p e he
    have := a1 e he
    have := b1 e he
    unfold tc_q at q1 p1
    omega
  · intro h e he
    have h1 := h e he
    have q1 := q e he
    have p1 := p e he
    have := a2 e he
    have := b2 e he
    unfold tc_q at q1 p1
    omega
end
section
/-! pushing a node on a stack of trees -/
def tc_un (f : Nat → Nat) (k x : Nat) : Nat → Nat := fun j => if j = k then x else f j
theorem tc_us {f : Nat → Nat} {k x : Nat} : tc_un f k x k = x := if_pos rfl
theorem tc_ne {f : Nat → Nat} {k x j : Nat} (h : j ≠ k) : tc_un f k x j = f j := if_neg h
theorem tc_nd_congr {sy ps sy' ps' : Nat → Nat} {i : Nat} (h : ∀ j, j ≤ i → sy' j = sy j ∧ ps' j = ps j) (H : tc_nd sy ps i) : tc_nd sy' ps' i := by
  have a := h i (Nat.le_refl _)
  have b := h (i - 1) (by omega)
  have c := h (i - 1 - ps (i - 1)) (by omega)
  unfold tc_nd at H ⊢
  rw [b.2, c.2, a.1, a.2]
  exact H
theorem tc_fo_gen {nn dd d sy ps sk s sz} (F : tc_fo nn dd sy ps sk) (hd : d ≤ dd) (h1 : ∀ k, k + 1 = d → sk k + sz = nn) (h2 : d = 0 → nn + 1 = sz)
    (hn : tc_nd (tc_un sy nn s) (tc_un ps nn sz) nn) : tc_fo (nn + 1) (d + 1) (tc_un sy nn s) (tc_un ps nn sz) (tc_un sk d nn) := by
  obtain ⟨F1, F2, F3, F4, F5, F6⟩ := F
  refine ⟨fun h => by omega, fun k hk => ?_, fun k hk => ?_, fun _ => ?_, fun k hk => ?_, fun i hi => ?_⟩
  · have e : k = d := by omega
    rw [e, tc_us]
  · have hkd : k ≠ d := by omega
    by_cases e : k + 1 = d
    · rw [e, tc_us, tc_us, tc_ne hkd]
      exact h1 k e
    · rw [tc_ne hkd, tc_ne e]
      have hb := F5 (k + 1) (by omega)
      rw [tc_ne (by omega)]
      exact F3 k (by omega)
  · by_cases e : d = 0
    · rw [e, tc_us, tc_us]
      exact h2 e
    · have hb := F5 0 (by omega)
      rw [tc_ne (by omega), tc_ne (by omega)]
      exact F4 (by omega)
  · by_cases e : k = d
    · rw [e, tc_us]
      omega
    · have hb := F5 k (by omega)
      rw [tc_ne e]
      omega
  · by_cases e : i = nn
    · rw [e]
      exact hn
    · exact tc_nd_congr (fun j hj => ⟨tc_ne (by omega), tc_ne (by omega)⟩) (F6 i (by omega))
theorem tc_fo_t1 {nn dd sy ps sk} (F : tc_fo nn dd sy ps sk) (h : 1 ≤ dd) : 1 ≤ nn ∧ sk (dd - 1) = nn - 1 := by
  have h1 := F.2.1 (dd - 1) (by omega)
  omega
theorem tc_fo_t2 {nn dd sy ps sk} (F : tc_fo nn dd sy ps sk) (h : 2 ≤ dd) : ps (nn - 1) < nn ∧ sk (dd - 2) = nn - 1 - ps (nn - 1) := by
  have h1 := tc_fo_t1 F (by omega)
  have h2 := F.2.2.1 (dd - 2) (by omega)
  have e : dd - 2 + 1 = dd - 1 := by omega
  rw [e, h1.2] at h2
  omega
theorem tc_fo_0 {nn dd sy ps sk s} (F : tc_fo nn dd sy ps sk) (hs : s < 2 ∨ 6 ≤ s) : tc_fo (nn + 1) (dd + 1) (tc_un sy nn s) (tc_un ps nn 1) (tc_un sk dd nn) := by
  refine tc_fo_gen F (Nat.le_refl _) (fun k hk => F.2.1 k hk) (fun h => by have := F.1 h; omega) ?_
  unfold tc_nd
  rw [tc_us, tc_us]
  exact ⟨by omega, by omega, by omega, by omega, by omega, by omega, by omega⟩
theorem tc_fo_1 {nn dd sy ps sk s} (F : tc_fo nn dd sy ps sk) (hd : 1 ≤ dd) (hs : 2 ≤ s) (hs4 : s < 4) : tc_fo (nn + 1) dd (tc_un sy nn s) (tc_un ps nn (1 + ps (nn - 1))) (tc_un sk (dd - 1) nn) := by
  obtain ⟨hn1, ht⟩ := tc_fo_t1 F hd
  have h1 : ∀ k, k + 1 = dd - 1 → sk k + (1 + ps (nn - 1)) = nn := fun k hk => by
    have h := F.2.2.1 k (by omega)
    rw [hk, ht] at h
    omega
  have h2 : dd - 1 = 0 → nn + 1 = 1 + ps (nn - 1) := fun h => by
    have h4 := F.2.2.2.1 (by omega)
    rw [← h, ht] at h4
    omega
  have hz : 1 + ps (nn - 1) ≤ nn + 1 := by
    rcases Nat.eq_zero_or_pos (dd - 1) with h | h
    · have := h2 h
      omega
    · have := h1 (dd - 1 - 1) (by omega)
      omega
  have key := tc_fo_gen (s := s) F (show dd - 1 ≤ dd by omega) h1 h2 (by
    unfold tc_nd
    rw [tc_us, tc_us, tc_ne (show nn - 1 ≠ nn by omega)]
    exact ⟨by omega, by omega, by omega, by omega, by omega, by omega, by omega⟩)
  have e : dd - 1 + 1 = dd := by omega
  rw [e] at key
  exact key
theorem tc_fo_2 {nn dd sy ps sk s} (F : tc_fo nn dd sy ps sk) (hd : 2 ≤ dd) (hs : 4 ≤ s) (hs6 : s < 6) :
    tc_fo (nn + 1) (dd - 1) (tc_un sy nn s) (tc_un ps nn (1 + ps (nn - 1) + ps (nn - 1 - ps (nn - 1)))) (tc_un sk (dd - 2) nn) := by
  obtain ⟨hn1, ht⟩ := tc_fo_t1 F (by omega)
  obtain ⟨hp, ht2⟩ := tc_fo_t2 F hd
  have h1 : ∀ k, k + 1 = dd - 2 → sk k + (1 + ps (nn - 1) + ps (nn - 1 - ps (nn - 1))) = nn := fun k hk => by
    have h := F.2.2.1 k (by omega)
    rw [hk, ht2] at h
    omega
  have h2 : dd - 2 = 0 → nn + 1 = 1 + ps (nn - 1) + ps (nn - 1 - ps (nn - 1)) := fun h => by
    have h4 := F.2.2.2.1 (by omega)
    rw [← h, ht2] at h4
    omega
  have hz : 1 + ps (nn - 1) + ps (nn - 1 - ps (nn - 1)) ≤ nn + 1 := by
    rcases Nat.eq_zero_or_pos (dd - 2) with h | h
    · have := h2 h
      omega
    · have := h1 (dd - 2 - 1) (by omega)
      omega
  have key := tc_fo_gen (s := s) F (show dd - 2 ≤ dd by omega) h1 h2 (by
    unfold tc_nd
    rw [tc_us, tc_us, tc_ne (show nn - 1 ≠ nn by omega), tc_ne (show nn - 1 - ps (nn - 1) ≠ nn by omega)]
    exact ⟨by omega, by omega, by omega, by omega, by omega, by omega, by omega⟩)
  have e : dd - 2 + 1 = dd - 1 := by omega
  rw [e] at key
  exact key
theorem tc_fo_nil (sy ps sk : Nat → Nat) : tc_fo 0 0 sy ps sk :=
  ⟨fun _ => rfl, fun k h => by omega, fun k h => by omega, fun h => by omega, fun k h => by omega, fun i h => by omega⟩
/-! the entries of a new rule -/
def tc_cn (py : Nat → Nat) : Nat → Nat
  | 0 => 0
  | i + 1 => tc_cn py i + (if py i < 6 then 1 else 0)
def tc_pe (E : Nat) (py : Nat → Nat) (i : Nat) : Nat := if py i < 6 then E + tc_cn py i else py i - 6
theorem tc_cn_y {py : Nat → Nat} {i : Nat} (h : py i < 6) : tc_cn py (i + 1) = tc_cn py i + 1 := by
  show tc_cn py i + (if py i < 6 then 1 else 0) = _
  rw [if_pos h]
theorem tc_cn_n {py : Nat → Nat} {i : Nat} (h : ¬ py i < 6) : tc_cn py (i + 1) = tc_cn py i := by
  show tc_cn py i + (if py i < 6 then 1 else 0) = _
  rw [if_neg h]
  rfl
theorem tc_cn_le {py : Nat → Nat} : ∀ i, tc_cn py i ≤ i := by
  intro i
  induction i with
  | zero => exact Nat.le_refl _
  | succ i ih =>
    by_cases h : py i < 6
    · rw [tc_cn_y h]
      omega
    · rw [tc_cn_n h]
      omega
theorem tc_cn_mono {py : Nat → Nat} {i : Nat} : ∀ d, tc_cn py i ≤ tc_cn py (i + d) := by
  intro d
  induction d with
  | zero => exact Nat.le_refl _
  | succ d ih =>
    show tc_cn py i ≤ tc_cn py (i + d + 1)
    by_cases h : py (i + d) < 6
    · rw [tc_cn_y h]
      omega
    · rw [tc_cn_n h]
      exact ih
theorem tc_cn_lt {py : Nat → Nat} {i j : Nat} (h : py i < 6) (hj : i < j) : tc_cn py i < tc_cn py j := by
  have h1 := tc_cn_mono (py := py) (i := i + 1) (j - (i + 1))
  rw [tc_cn_y h, show i + 1 + (j - (i + 1)) = j by omega] at h1
  omega
theorem tc_cn_su {py : Nat → Nat} {c : Nat} : ∀ n, c < tc_cn py n → ∃ i, i < n ∧ py i < 6 ∧ tc_cn py i = c := by
  intro n
  induction n with
  | zero => intro h; exact absurd h (Nat.not_lt_zero _)
  | succ n ih =>
    intro h
    by_cases hp : py n < 6
    · rw [tc_cn_y hp] at h
      by_cases e : c = tc_cn py n
      · exact ⟨n, by omega, hp, e.symm⟩
      · obtain ⟨i, a, b, d⟩ := ih (by omega)
        exact ⟨i, by omega, b, d⟩
    · rw [tc_cn_n hp] at h
      obtain ⟨i, a, b, d⟩ := ih h
      exact ⟨i, by omega, b, d⟩
theorem tc_pe_lt {E i n : Nat} {py : Nat → Nat} (hE : 4 ≤ E) (h10 : py i < 10) (hi : i < n) : tc_pe E py i < E + tc_cn py n := by
  unfold tc_pe
  by_cases h : py i < 6
  · have := tc_cn_lt h hi
    rw [if_pos h]
    omega
  · rw [if_neg h]
    omega
end
section
/-! stacks and lists held in arrays -/
def tc_sk (P : Nat → Nat × Nat → Prop) : Nat → List (Nat × Nat) → Prop
  | h, [] => h = 0
  | h, p :: s => ∃ k, h = k + 1 ∧ P k p ∧ tc_sk P k s
theorem tc_sk_congr {P P' : Nat → Nat × Nat → Prop} : ∀ (s : List (Nat × Nat)) (h : Nat), (∀ k, k < h → ∀ p, P k p → P' k p) → tc_sk P h s → tc_sk P' h s := by
  intro s
  induction s with
  | nil => intro h _ H; exact H
  | cons p s ih =>
    intro h hP ⟨k, e, hp, hs⟩
    exact ⟨k, e, hP k (by omega) p hp, ih k (fun j hj => hP j (by omega)) hs⟩
theorem tc_sk_len {P : Nat → Nat × Nat → Prop} : ∀ (s : List (Nat × Nat)) (h : Nat), tc_sk P h s → s.length = h := by
  intro s
  induction s with
  | nil => intro h H; exact H.symm
  | cons p s ih =>
    intro h ⟨k, e, hp, hs⟩
    have := ih k hs
    show s.length + 1 = h
    omega
def tc_al (a : Nat → Int32) (l : List Nat) : Prop := ∀ i, i < l.length → a i = nI (l.getD i 0)
theorem tc_al_nil (a : Nat → Int32) : tc_al a [] := fun i h => absurd h (Nat.not_lt_zero _)
theorem tc_al_snoc {a : Nat → Int32} {l : List Nat} {x : Nat} (h : tc_al a l) : tc_al (upd a l.length (nI x)) (l ++ [x]) := by
  intro i hi
  rw [List.length_append] at hi
  have hi2 : i < l.length + 1 := hi
  by_cases e : i = l.length
  · rw [e, pk_us]
    have e2 : (l ++ [x]).getD l.length 0 = x := by
      rw [List.getD_eq_getElem?_getD, List.getElem?_append_right (Nat.le_refl _), Nat.sub_self]
      rfl
    rw [e2]
  · rw [pk_un e, h i (by omega)]
    have e2 : (l ++ [x]).getD i 0 = l.getD i 0 := by
      rw [List.getD_eq_getElem?_getD, List.getD_eq_getElem?_getD, List.getElem?_append_left (by omega)]
    rw [e2]
/-- how many parts -/
def tc_ar (o : Nat) : Nat := if o < 2 then 0 else if o < 4 then 1 else 2
theorem tc_ar0 {o : Nat} (h : o < 2) : tc_ar o = 0 := if_pos h
theorem tc_ar1 {o : Nat} (h : 2 ≤ o) (h4 : o < 4) : tc_ar o = 1 := by
  unfold tc_ar
  rw [if_neg (by omega), if_pos h4]
theorem tc_ar2 {o : Nat} (h : 4 ≤ o) : tc_ar o = 2 := by
  unfold tc_ar
  rw [if_neg (by omega), if_neg (by omega)]
theorem tc_ar_ge1 {o : Nat} : 1 ≤ tc_ar o ↔ 2 ≤ o := by
  unfold tc_ar
  split
  · omega
  · split <;> omega
theorem tc_ar_eq2 {o : Nat} : tc_ar o = 2 ↔ 4 ≤ o := by
  unfold tc_ar
  split
  · omega
  · split <;> omega
/-! numbers -/
theorem tc_of {x : Int32} {n : Nat} (hn : n < 2 ^ 31) (h0 : ¬ x < 0) (h : ¬ nI n ≤ x) : ∃ j, j < n ∧ x = nI j := by
  rcases pk_ix x hn with h1 | h1 | h1
  · exact absurd h1 h0
  · exact absurd h1 h
  · exact h1
theorem tc_min {a b : Nat} {x y : Int32} {A : Int32 → Prop} (hx : x = nI a) (hy : y = nI b) (ha : a < 2 ^ 31) (hb : b < 2 ^ 31) (h : A (nI (min b a))) : (x < y → A x) ∧ (¬ x < y → A y) := by
  subst hx hy
  constructor
  · intro hl
    rw [nI_ltI ha hb] at hl
    rw [Nat.min_eq_right (by omega)] at h
    exact h
  · intro hl
    rw [nI_ltI ha hb] at hl
    rw [Nat.min_eq_left (by omega)] at h
    exact h
end
section
/-! X's arrays hold the ghosts -/
def tc_xr (S : tc_S) (rc ec : Int32) (rl ro re rs eo ef el : Nat → Int32) : Prop :=
  rc = nI (tc_R S) ∧ ec = nI (tc_E S) ∧ (∀ r, r < tc_R S → rl r = nI (tc_lf S r) ∧ ro r = nI (tc_co S r) ∧ re r = nI (tc_rt S r) ∧ rs r = nI (tc_sr S r)) ∧
  (∀ e, 4 ≤ e → e < tc_E S → eo e = nI (tc_eo S e) ∧ (2 ≤ tc_eo S e → el e = nI (tc_el S e)) ∧ (4 ≤ tc_eo S e → ef e = nI (tc_ef S e)))
/-- a row of a table -/
def tc_tr (a : Nat → Int32) (b E : Nat) (t : Nat → Nat) : Prop := ∀ e, e < E → a (b + e) = nI (t e)
/-- nothing but the row at b has changed -/
def tc_fr (a a' : Nat → Int32) (b : Nat) : Prop := ∀ j, (j < b ∨ b + 74 ≤ j) → a' j = a j
theorem tc_fr_refl (a : Nat → Int32) (b : Nat) : tc_fr a a b := fun _ _ => rfl
theorem tc_fr_trans {a a' a'' : Nat → Int32} {b : Nat} (h : tc_fr a a' b) (h' : tc_fr a' a'' b) : tc_fr a a'' b := fun j hj => (h' j hj).trans (h j hj)
theorem tc_fr_upd {a : Nat → Int32} {b e : Nat} {x : Int32} (he : e < 74) : tc_fr a (upd a (b + e) x) b := fun j hj => pk_un (by omega)
theorem tc_tr_upd {a : Nat → Int32} {b E e : Nat} {t : Nat → Nat} {x : Nat} (h : tc_tr a b E t) : tc_tr (upd a (b + e) (nI x)) b E (tc_un t e x) := fun j hj => by
  by_cases c : j = e
  · rw [c, pk_us, tc_us]
  · rw [pk_un (by omega), tc_ne c]
    exact h j hj
theorem tc_rd_le {S : tc_S} {t : Nat → Nat} {k : Nat} (hk : k ≤ tc_R S) (e : Nat) : tc_rd S t k e ≤ t e :=
  tc_rd_ind (fun _ u => u e ≤ t e) (Nat.le_refl _) (fun _ _ u hu => Nat.le_trans (tc_st_le e) hu) k hk
theorem tc_st_un {S : tc_S} {t : Nat → Nat} {r : Nat} (h : tc_co S r + t (tc_rt S r) < t (tc_lf S r)) : tc_un t (tc_lf S r) (tc_co S r + t (tc_rt S r)) = tc_st S t r := by
  funext j
  by_cases c : j = tc_lf S r
  · rw [c, tc_us, tc_st_yes h]
  · rw [tc_ne c, tc_st_ne c]
theorem xm_parts {post : Int32 → Prop} {o : Nat} (ho : o < 2 ^ 31) (h : post (nI (tc_ar o))) : wpX_partsOf post (nI o) := by
  refine pk_lt o 4 (fun h4 => pk_lt o 2 (fun h2 => ?_) (fun h2 => ?_)) (fun h4 => ?_)
  · rw [tc_ar0 h2] at h
    exact h
  · rw [tc_ar1 h2 h4] at h
    exact h
  · rw [tc_ar2 h4] at h
    exact h
theorem tc_subeq {a b c d : Nat} (ha : a < 2 ^ 30) (hb : b < 2 ^ 30) (hc : c < 2 ^ 30) (hd : d < 2 ^ 30) : nI a - nI b = nI c - nI d ↔ a + d = c + b := by
  rw [← Int32.toInt_inj, pk_sub_toInt ha hb, pk_sub_toInt hc hd]
  omega
theorem tc_lw_s {K : Nat} {t : Nat → Nat} (e : Nat) : tc_lw K t (e + 1) = min (tc_lw K t e) (t e) := rfl
/-- the condition at one entry -/
def tc_sc (K E : Nat) (t u : Nat → Nat) (e : Nat) : Prop := (t e = K ↔ u e = K) ∧ (t e ≠ K → t e + tc_lw K u E = u e + tc_lw K t E)
end
section
section
variable {S : tc_S} {post : SX → Prop}
theorem xtc_a_lp (ok : tc_ok S) {b : Nat} (hb : b + 74 ≤ 1776) {f_patternDepth : Int32} {f_patternNodes : Int32} {f_ruleCount : Int32} {f_entryCount : Int32} {f_treeDepth : Int32} {f_treeNodes : Int32} {f_stateCount : Int32} {f_coverLength : Int32} {f_pendingCount : Int32} {a_patternStack : Nat → Int32} {a_patternSymbol : Nat → Int32} {a_patternFirst : Nat → Int32} {a_patternLast : Nat → Int32} {a_patternEntry : Nat → Int32} {a_ruleLeft : Nat → Int32} {a_ruleCost : Nat → Int32} {a_ruleEntry : Nat → Int32} {a_ruleStart : Nat → Int32} {a_entryOperator : Nat → Int32} {a_entryFirst : Nat → Int32} {a_entryLast : Nat → Int32} {a_treeStack : Nat → Int32} {a_treeOperator : Nat → Int32} {a_treeFirst : Nat → Int32} {a_treeLast : Nat → Int32} {a_treeSize : Nat → Int32} {a_treeWays : Nat → Int32} {a_stateCosts : Nat → Int32} {a_cover : Nat → Int32} {a_pendingEntry : Nat → Int32} {a_pendingNode : Nat → Int32} (hx : tc_xr S f_ruleCount f_entryCount a_ruleLeft a_ruleCost a_ruleEntry a_ruleStart a_entryOperator a_entryFirst a_entryLast)
    {t : Nat → Nat} (hK : ∀ e, t e ≤ 536870912) : ∀ (d r : Nat), r + d = tc_R S → ∀ a_treeCosts : Nat → Int32, tc_tr a_treeCosts b (tc_E S) (tc_rd S t r) →
    (∀ a', tc_fr a_treeCosts a' b → tc_tr a' b (tc_E S) (tc_rd S t (tc_R S)) → post (f_patternDepth, f_patternNodes, f_ruleCount, f_entryCount, f_treeDepth, f_treeNodes, f_stateCount, f_coverLength, f_pendingCount, a_patternStack, a_patternSymbol, a_patternFirst, a_patternLast, a_patternEntry, a_ruleLeft, a_ruleCost, a_ruleEntry, a_ruleStart, a_entryOperator, a_entryFirst, a_entryLast, a_treeStack, a_treeOperator, a_treeFirst, a_treeLast, a_treeSize, a', a_treeWays, a_stateCosts, a_cover, a_pendingEntry, a_pendingNode)) → ∀ m, d < m → wX_applyRules__treeCosts_2 post (nI b) f_patternDepth f_patternNodes f_ruleCount f_entryCount f_treeDepth f_treeNodes f_stateCount f_coverLength f_pendingCount m (nI r) a_patternStack a_patternSymbol a_patternFirst a_patternLast a_patternEntry a_ruleLeft a_ruleCost a_ruleEntry a_ruleStart a_entryOperator a_entryFirst a_entryLast a_treeStack a_treeOperator a_treeFirst a_treeLast a_treeSize a_treeCosts a_treeWays a_stateCosts a_cover a_pendingEntry a_pendingNode := by
  obtain ⟨rfl, rfl, hx3, hx4⟩ := hx
  have hE := tc_ok_E ok
  have hR := ok.1
  intro d
  induction d with
  | zero =>
    intro r hr a_treeCosts ht hp m hm
    obtain ⟨m', rfl⟩ : ∃ m', m = m' + 1 := ⟨m - 1, by omega⟩
    have e : r = tc_R S := by omega
    subst e
    exact br_t (nI_le (Nat.le_refl _) (by omega)) (hp _ (tc_fr_refl _ _) ht)
  | succ d ih =>
    intro r hr a_treeCosts ht hp m hm
    obtain ⟨m', rfl⟩ : ∃ m', m = m' + 1 := ⟨m - 1, by omega⟩
    have hr' : r < tc_R S := by omega
    obtain ⟨l1, l2, l3, l4⟩ := tc_ok_r ok hr'
    obtain ⟨x1, x2, x3, _⟩ := hx3 r hr'
    have c : (nI r).toNatClampNeg = r := nI_clamp (by omega)
    have q1 := Nat.le_trans (tc_rd_le (S := S) (t := t) (k := r) (by omega) (tc_rt S r)) (hK _)
    have q2 := Nat.le_trans (tc_rd_le (S := S) (t := t) (k := r) (by omega) (tc_lf S r)) (hK _)
    have hl := ht (tc_lf S r) (by omega)
    refine br_f (nI_ge hr' (by omega)) ⟨vp_in_nI (by omega) (by decide), vp_in_nI (by omega) (by decide), ?_, ?_⟩
    · rw [c, x3, nI_add]
      exact vp_in_nI (by omega) (by decide)
    · refine nm_r (e' := nI (tc_co S r + tc_rd S t r (tc_rt S r))) (by rw [c, x2, x3, nI_add, nI_clamp (by omega), ht _ l3, nI_add]) ⟨vp_in_nI (by omega) (by decide), ?_⟩
      refine nm_r (e' := nI (b + tc_lf S r)) (by rw [c, x1, nI_add]) ⟨vp_in_nI (by omega) (by decide), ?_⟩
      refine pk_le (tc_rd S t r (tc_lf S r)) (tc_co S r + tc_rd S t r (tc_rt S r)) (fun h => ?_) (fun h => ?_) (by rw [nI_clamp (by omega)]; exact hl) rfl (by omega) (by omega)
      · refine nm_r (nI_1 r) ?_
        have e1 : tc_rd S t (r + 1) = tc_rd S t r := tc_st_no h
        exact ih (r + 1) (by omega) a_treeCosts (by rw [e1]; exact ht) hp m' (by omega)
      · refine ⟨vp_in_nI (by omega) (by decide), nm_r (e' := upd a_treeCosts (b + tc_lf S r) (nI (tc_co S r + tc_rd S t r (tc_rt S r)))) (by rw [nI_clamp (by omega)]) (nm_r (nI_1 r) ?_)⟩
        have e1 : tc_rd S t (r + 1) = tc_un (tc_rd S t r) (tc_lf S r) (tc_co S r + tc_rd S t r (tc_rt S r)) := (tc_st_un h).symm
        exact ih (r + 1) (by omega) _ (by rw [e1]; exact tc_tr_upd ht) (fun a' hf hr => hp a' (tc_fr_trans (tc_fr_upd (by omega)) hf) hr) m' (by omega)
theorem xtc_a_wp (ok : tc_ok S) {b : Nat} (hb : b + 74 ≤ 1776) {f_patternDepth : Int32} {f_patternNodes : Int32} {f_ruleCount : Int32} {f_entryCount : Int32} {f_treeDepth : Int32} {f_treeNodes : Int32} {f_stateCount : Int32} {f_coverLength : Int32} {f_pendingCount : Int32} {a_patternStack : Nat → Int32} {a_patternSymbol : Nat → Int32} {a_patternFirst : Nat → Int32} {a_patternLast : Nat → Int32} {a_patternEntry : Nat → Int32} {a_ruleLeft : Nat → Int32} {a_ruleCost : Nat → Int32} {a_ruleEntry : Nat → Int32} {a_ruleStart : Nat → Int32} {a_entryOperator : Nat → Int32} {a_entryFirst : Nat → Int32} {a_entryLast : Nat → Int32} {a_treeStack : Nat → Int32} {a_treeOperator : Nat → Int32} {a_treeFirst : Nat → Int32} {a_treeLast : Nat → Int32} {a_treeSize : Nat → Int32} {a_treeCosts : Nat → Int32} {a_treeWays : Nat → Int32} {a_stateCosts : Nat → Int32} {a_cover : Nat → Int32} {a_pendingEntry : Nat → Int32} {a_pendingNode : Nat → Int32} (hx : tc_xr S f_ruleCount f_entryCount a_ruleLeft a_ruleCost a_ruleEntry a_ruleStart a_entryOperator a_entryFirst a_entryLast)
    {t : Nat → Nat} (hK : ∀ e, t e ≤ 536870912) (ht : tc_tr a_treeCosts b (tc_E S) t) (hp : ∀ a', tc_fr a_treeCosts a' b → tc_tr a' b (tc_E S) (tc_rd S t (tc_R S)) → post (f_patternDepth, f_patternNodes, f_ruleCount, f_entryCount, f_treeDepth, f_treeNodes, f_stateCount, f_coverLength, f_pendingCount, a_patternStack, a_patternSymbol, a_patternFirst, a_patternLast, a_patternEntry, a_ruleLeft, a_ruleCost, a_ruleEntry, a_ruleStart, a_entryOperator, a_entryFirst, a_entryLast, a_treeStack, a_treeOperator, a_treeFirst, a_treeLast, a_treeSize, a', a_treeWays, a_stateCosts, a_cover, a_pendingEntry, a_pendingNode)) :
    wpX_applyRules__treeCosts post (f_patternDepth, f_patternNodes, f_ruleCount, f_entryCount, f_treeDepth, f_treeNodes, f_stateCount, f_coverLength, f_pendingCount, a_patternStack, a_patternSymbol, a_patternFirst, a_patternLast, a_patternEntry, a_ruleLeft, a_ruleCost, a_ruleEntry, a_ruleStart, a_entryOperator, a_entryFirst, a_entryLast, a_treeStack, a_treeOperator, a_treeFirst, a_treeLast, a_treeSize, a_treeCosts, a_treeWays, a_stateCosts, a_cover, a_pendingEntry, a_pendingNode) (nI b) :=
  ⟨tc_R S + 1, xtc_a_lp ok hb hx hK (tc_R S) 0 (by omega) a_treeCosts ht hp _ (by omega)⟩
theorem xtc_f_96 (ok : tc_ok S) {b : Nat} (hb : b + 74 ≤ 1776) {f_patternDepth : Int32} {f_patternNodes : Int32} {f_ruleCount : Int32} {f_entryCount : Int32} {f_treeDepth : Int32} {f_treeNodes : Int32} {f_stateCount : Int32} {f_coverLength : Int32} {f_pendingCount : Int32} {a_patternStack : Nat → Int32} {a_patternSymbol : Nat → Int32} {a_patternFirst : Nat → Int32} {a_patternLast : Nat → Int32} {a_patternEntry : Nat → Int32} {a_ruleLeft : Nat → Int32} {a_ruleCost : Nat → Int32} {a_ruleEntry : Nat → Int32} {a_ruleStart : Nat → Int32} {a_entryOperator : Nat → Int32} {a_entryFirst : Nat → Int32} {a_entryLast : Nat → Int32} {a_treeStack : Nat → Int32} {a_treeOperator : Nat → Int32} {a_treeFirst : Nat → Int32} {a_treeLast : Nat → Int32} {a_treeSize : Nat → Int32} {a_treeWays : Nat → Int32} {a_stateCosts : Nat → Int32} {a_cover : Nat → Int32} {a_pendingEntry : Nat → Int32} {a_pendingNode : Nat → Int32} (hx : tc_xr S f_ruleCount f_entryCount a_ruleLeft a_ruleCost a_ruleEntry a_ruleStart a_entryOperator a_entryFirst a_entryLast)
    {t : Nat → Nat} (hK : ∀ n e, tc_it S t n e ≤ 536870912) : ∀ (d k : Nat), k + d = 4 → ∀ a_treeCosts : Nat → Int32, tc_tr a_treeCosts b (tc_E S) (tc_it S t k) →
    (∀ a', tc_fr a_treeCosts a' b → tc_tr a' b (tc_E S) (tc_it S t 4) → post (f_patternDepth, f_patternNodes, f_ruleCount, f_entryCount, f_treeDepth, f_treeNodes, f_stateCount, f_coverLength, f_pendingCount, a_patternStack, a_patternSymbol, a_patternFirst, a_patternLast, a_patternEntry, a_ruleLeft, a_ruleCost, a_ruleEntry, a_ruleStart, a_entryOperator, a_entryFirst, a_entryLast, a_treeStack, a_treeOperator, a_treeFirst, a_treeLast, a_treeSize, a', a_treeWays, a_stateCosts, a_cover, a_pendingEntry, a_pendingNode)) → ∀ m, d < m → wX_fillCosts__treeCosts_96 post (nI b) m (nI k) f_patternDepth f_patternNodes f_ruleCount f_entryCount f_treeDepth f_treeNodes f_stateCount f_coverLength f_pendingCount a_patternStack a_patternSymbol a_patternFirst a_patternLast a_patternEntry a_ruleLeft a_ruleCost a_ruleEntry a_ruleStart a_entryOperator a_entryFirst a_entryLast a_treeStack a_treeOperator a_treeFirst a_treeLast a_treeSize a_treeCosts a_treeWays a_stateCosts a_cover a_pendingEntry a_pendingNode := by
  intro d
  induction d with
  | zero =>
    intro k hk a_treeCosts ht hp m hm
    obtain ⟨m', rfl⟩ : ∃ m', m = m' + 1 := ⟨m - 1, by omega⟩
    have e : k = 4 := by omega
    subst e
    exact br_t (nI_le (a := 4) (Nat.le_refl _) (by decide)) (hp _ (tc_fr_refl _ _) ht)
  | succ d ih =>
    intro k hk a_treeCosts ht hp m hm
    obtain ⟨m', rfl⟩ : ∃ m', m = m' + 1 := ⟨m - 1, by omega⟩
    refine br_f (nI_ge (b := 4) (by omega) (by decide)) ?_
    refine xtc_a_wp ok hb hx (hK k) ht (fun a' hf hr => ?_)
    exact nm_r (nI_1 k) (ih (k + 1) (by omega) a' hr (fun a'' hf' hr' => hp a'' (tc_fr_trans hf hf') hr') m' (by omega))
theorem xtc_c_wp (ok : tc_ok S) {post : Int32 → Prop} {f_patternDepth : Int32} {f_patternNodes : Int32} {f_ruleCount : Int32} {f_entryCount : Int32} {f_treeDepth : Int32} {f_treeNodes : Int32} {f_stateCount : Int32} {f_coverLength : Int32} {f_pendingCount : Int32} {a_patternStack : Nat → Int32} {a_patternSymbol : Nat → Int32} {a_patternFirst : Nat → Int32} {a_patternLast : Nat → Int32} {a_patternEntry : Nat → Int32} {a_ruleLeft : Nat → Int32} {a_ruleCost : Nat → Int32} {a_ruleEntry : Nat → Int32} {a_ruleStart : Nat → Int32} {a_entryOperator : Nat → Int32} {a_entryFirst : Nat → Int32} {a_entryLast : Nat → Int32} {a_treeStack : Nat → Int32} {a_treeOperator : Nat → Int32} {a_treeFirst : Nat → Int32} {a_treeLast : Nat → Int32} {a_treeSize : Nat → Int32} {a_treeCosts : Nat → Int32} {a_treeWays : Nat → Int32} {a_stateCosts : Nat → Int32} {a_cover : Nat → Int32} {a_pendingEntry : Nat → Int32} {a_pendingNode : Nat → Int32} (hx : tc_xr S f_ruleCount f_entryCount a_ruleLeft a_ruleCost a_ruleEntry a_ruleStart a_entryOperator a_entryFirst a_entryLast)
    {e o : Nat} {fi la : Int32} {x y : Nat → Nat} (he : 4 ≤ e) (hE : e < tc_E S) (ho : o < 6) (heo : tc_eo S e = o)
    (hy : 2 ≤ o → ∃ l, la = nI l ∧ l < 24 ∧ ∀ e, e < tc_E S → a_treeCosts (l * 74 + e) = nI (y e) ∧ y e ≤ 536870912)
    (hf : 4 ≤ o → ∃ l, fi = nI l ∧ l < 24 ∧ ∀ e, e < tc_E S → a_treeCosts (l * 74 + e) = nI (x e) ∧ x e ≤ 536870912)
    (h : post (nI (tc_op S 536870912 o x y e))) : wpX_costOfParts__treeCosts post (f_patternDepth, f_patternNodes, f_ruleCount, f_entryCount, f_treeDepth, f_treeNodes, f_stateCount, f_coverLength, f_pendingCount, a_patternStack, a_patternSymbol, a_patternFirst, a_patternLast, a_patternEntry, a_ruleLeft, a_ruleCost, a_ruleEntry, a_ruleStart, a_entryOperator, a_entryFirst, a_entryLast, a_treeStack, a_treeOperator, a_treeFirst, a_treeLast, a_treeSize, a_treeCosts, a_treeWays, a_stateCosts, a_cover, a_pendingEntry, a_pendingNode) (nI e) (nI (tc_ar o)) fi la := by
  obtain ⟨_, _, _, hx4⟩ := hx
  have hE2 := tc_ok_E ok
  have hk := ok.2.2.2 e he hE
  have c : (nI e).toNatClampNeg = e := nI_clamp (by omega)
  have k51 : ∀ s, s ≤ 1073741824 → post (nI (min 536870912 s)) → wX_costOfParts__treeCosts_51 post (nI s) f_patternDepth f_patternNodes f_ruleCount f_entryCount f_treeDepth f_treeNodes f_stateCount f_coverLength f_pendingCount a_patternStack a_patternSymbol a_patternFirst a_patternLast a_patternEntry a_ruleLeft a_ruleCost a_ruleEntry a_ruleStart a_entryOperator a_entryFirst a_entryLast a_treeStack a_treeOperator a_treeFirst a_treeLast a_treeSize a_treeCosts a_treeWays a_stateCosts a_cover a_pendingEntry a_pendingNode := fun s hs hp => by
    refine pk_le 536870912 s (fun hh => ?_) (fun hh => ?_)
    · rw [Nat.min_eq_left hh] at hp
      exact hp
    · rw [Nat.min_eq_right (by omega)] at hp
      exact hp
  unfold tc_op at h
  rw [if_pos heo] at h
  by_cases h2 : o < 2
  · rw [if_pos h2] at h
    rw [tc_ar0 h2]
    refine br_t (nI_lt (a := 0) (b := 1) (by decide) (by decide)) (br_f (by decide) ?_)
    exact k51 0 (by decide) h
  · obtain ⟨l, rfl, hl, hv⟩ := hy (by omega)
    obtain ⟨v1, v2⟩ := hv (tc_el S e) (by omega)
    have x5 := (hx4 e he hE).2.1 (by omega)
    rw [if_neg h2] at h
    have w1 : nI l * 74 + a_entryLast (nI e).toNatClampNeg = nI (l * 74 + tc_el S e) := by
      rw [c, x5, show (74 : Int32) = nI 74 from rfl, pk_mul, nI_add]
    have w2 : (0 : Int32) + a_treeCosts (nI l * 74 + a_entryLast (nI e).toNatClampNeg).toNatClampNeg = nI (y (tc_el S e)) := by
      rw [w1, nI_clamp (by omega), v1, ← nI_0, nI_add, Nat.zero_add]
    by_cases h4 : o < 4
    · rw [if_pos h4] at h
      rw [tc_ar1 (by omega) h4]
      refine br_f (by decide) ⟨vp_in_nI (by omega) (by decide), ?_, ?_⟩
      · rw [w1]
        exact vp_in_nI (by omega) (by decide)
      · refine nm_r w2 (br_f (by decide) ?_)
        exact k51 _ (by omega) h
    · rw [if_neg h4] at h
      rw [tc_ar2 (by omega)]
      obtain ⟨l', rfl, hl', hv'⟩ := hf (by omega)
      obtain ⟨u1, u2⟩ := hv' (tc_ef S e) (by omega)
      have x6 := (hx4 e he hE).2.2 (by omega)
      have w3 : nI l' * 74 + a_entryFirst (nI e).toNatClampNeg = nI (l' * 74 + tc_ef S e) := by
        rw [c, x6, show (74 : Int32) = nI 74 from rfl, pk_mul, nI_add]
      refine br_f (by decide) ⟨vp_in_nI (by omega) (by decide), ?_, ?_⟩
      · rw [w1]
        exact vp_in_nI (by omega) (by decide)
      · refine nm_r w2 (br_t rfl ⟨vp_in_nI (by omega) (by decide), ?_, ?_⟩)
        · rw [w3]
          exact vp_in_nI (by omega) (by decide)
        · refine nm_r (e' := nI (x (tc_ef S e) + y (tc_el S e))) (by rw [w3, nI_clamp (by omega), u1, nI_add, Nat.add_comm]) ?_
          exact k51 _ (by omega) h
theorem xtc_f_39 (ok : tc_ok S) {ro o : Nat} (hb : ro < 24) (ho : o < 6) {fi la : Int32} {x y : Nat → Nat} {f_patternDepth : Int32} {f_patternNodes : Int32} {f_ruleCount : Int32} {f_entryCount : Int32} {f_treeDepth : Int32} {f_treeNodes : Int32} {f_stateCount : Int32} {f_coverLength : Int32} {f_pendingCount : Int32} {a_patternStack : Nat → Int32} {a_patternSymbol : Nat → Int32} {a_patternFirst : Nat → Int32} {a_patternLast : Nat → Int32} {a_patternEntry : Nat → Int32} {a_ruleLeft : Nat → Int32} {a_ruleCost : Nat → Int32} {a_ruleEntry : Nat → Int32} {a_ruleStart : Nat → Int32} {a_entryOperator : Nat → Int32} {a_entryFirst : Nat → Int32} {a_entryLast : Nat → Int32} {a_treeStack : Nat → Int32} {a_treeOperator : Nat → Int32} {a_treeFirst : Nat → Int32} {a_treeLast : Nat → Int32} {a_treeSize : Nat → Int32} {a_treeWays : Nat → Int32} {a_stateCosts : Nat → Int32} {a_cover : Nat → Int32} {a_pendingEntry : Nat → Int32} {a_pendingNode : Nat → Int32} (hx : tc_xr S f_ruleCount f_entryCount a_ruleLeft a_ruleCost a_ruleEntry a_ruleStart a_entryOperator a_entryFirst a_entryLast) :
    ∀ (d e : Nat), e + d = tc_E S → 4 ≤ e → ∀ a_treeCosts : Nat → Int32, tc_tr a_treeCosts (ro * 74) e (tc_i0 S 536870912 o x y) →
    (2 ≤ o → ∃ l, la = nI l ∧ l < 24 ∧ l ≠ ro ∧ ∀ e, e < tc_E S → a_treeCosts (l * 74 + e) = nI (y e) ∧ y e ≤ 536870912) →
    (4 ≤ o → ∃ l, fi = nI l ∧ l < 24 ∧ l ≠ ro ∧ ∀ e, e < tc_E S → a_treeCosts (l * 74 + e) = nI (x e) ∧ x e ≤ 536870912) →
    (∀ a', tc_fr a_treeCosts a' (ro * 74) → tc_tr a' (ro * 74) (tc_E S) (tc_row S 536870912 o x y) → post (f_patternDepth, f_patternNodes, f_ruleCount, f_entryCount, f_treeDepth, f_treeNodes, f_stateCount, f_coverLength, f_pendingCount, a_patternStack, a_patternSymbol, a_patternFirst, a_patternLast, a_patternEntry, a_ruleLeft, a_ruleCost, a_ruleEntry, a_ruleStart, a_entryOperator, a_entryFirst, a_entryLast, a_treeStack, a_treeOperator, a_treeFirst, a_treeLast, a_treeSize, a', a_treeWays, a_stateCosts, a_cover, a_pendingEntry, a_pendingNode)) →
    ∀ m, d < m → wX_fillCosts__treeCosts_39 post (nI o) fi la (nI (tc_ar o)) (nI (ro * 74)) f_patternDepth f_patternNodes f_ruleCount f_entryCount f_treeDepth f_treeNodes f_stateCount f_coverLength f_pendingCount m (nI e) a_patternStack a_patternSymbol a_patternFirst a_patternLast a_patternEntry a_ruleLeft a_ruleCost a_ruleEntry a_ruleStart a_entryOperator a_entryFirst a_entryLast a_treeStack a_treeOperator a_treeFirst a_treeLast a_treeSize a_treeCosts a_treeWays a_stateCosts a_cover a_pendingEntry a_pendingNode := by
  have hE := tc_ok_E ok
  intro d
  induction d with
  | zero =>
    intro e hr he a_treeCosts ht hy hf hp m hm
    obtain ⟨m', rfl⟩ : ∃ m', m = m' + 1 := ⟨m - 1, by omega⟩
    have e1 : e = tc_E S := by omega
    subst e1
    refine br_t (by rw [hx.2.1]; exact nI_le (Nat.le_refl _) (by omega)) ⟨5, ?_⟩
    exact xtc_f_96 ok (by omega) hx (fun n e => tc_row_le e n) 4 0 (by omega) a_treeCosts ht hp 5 (by omega)
  | succ d ih =>
    intro e hr he a_treeCosts ht hy hf hp m hm
    obtain ⟨m', rfl⟩ : ∃ m', m = m' + 1 := ⟨m - 1, by omega⟩
    have heE : e < tc_E S := by omega
    have c : (nI e).toNatClampNeg = e := nI_clamp (by omega)
    have x7 := (hx.2.2.2 e he heE).1
    have hk := ok.2.2.2 e he heE
    have key : ∀ z : Int32, z = nI (tc_op S 536870912 o x y e) → wX_fillCosts__treeCosts_78 post (wX_fillCosts__treeCosts_39 post (nI o) fi la (nI (tc_ar o)) (nI (ro * 74)) f_patternDepth f_patternNodes f_ruleCount f_entryCount f_treeDepth f_treeNodes f_stateCount f_coverLength f_pendingCount m') (nI o) fi la (nI (tc_ar o)) (nI (ro * 74)) (nI e) z f_patternDepth f_patternNodes f_ruleCount f_entryCount f_treeDepth f_treeNodes f_stateCount f_coverLength f_pendingCount a_patternStack a_patternSymbol a_patternFirst a_patternLast a_patternEntry a_ruleLeft a_ruleCost a_ruleEntry a_ruleStart a_entryOperator a_entryFirst a_entryLast a_treeStack a_treeOperator a_treeFirst a_treeLast a_treeSize a_treeCosts a_treeWays a_stateCosts a_cover a_pendingEntry a_pendingNode := fun z hz => by
      have w : (nI (ro * 74) + nI e) = nI (ro * 74 + e) := nI_add _ _
      refine ⟨by rw [w]; exact vp_in_nI (by omega) (by decide), nm_r (e' := upd a_treeCosts (ro * 74 + e) (nI (tc_op S 536870912 o x y e))) (by rw [w, nI_clamp (by omega), hz]) (nm_r (nI_1 e) ?_)⟩
      refine ih (e + 1) (by omega) (by omega) _ ?_ (fun h2 => ?_) (fun h4 => ?_) (fun a' hfa hra => hp a' (tc_fr_trans (tc_fr_upd (by omega)) hfa) hra) m' (by omega)
      · intro j hj
        by_cases cj : j = e
        · rw [cj, pk_us]
          unfold tc_i0
          rw [if_neg (by omega)]
        · rw [pk_un (by omega)]
          exact ht j (by omega)
      · obtain ⟨l, a1, a2, a3, a4⟩ := hy h2
        refine ⟨l, a1, a2, a3, fun j hj => ?_⟩
        rw [pk_un (by omega)]
        exact a4 j hj
      · obtain ⟨l, a1, a2, a3, a4⟩ := hf h4
        refine ⟨l, a1, a2, a3, fun j hj => ?_⟩
        rw [pk_un (by omega)]
        exact a4 j hj
    refine br_f (by rw [hx.2.1]; exact nI_ge heE (by omega)) ⟨vp_in_nI (by omega) (by decide), ?_⟩
    refine pk_eq (tc_eo S e) o (fun h => ?_) (fun h => ?_) (by rw [c]; exact x7) rfl (by omega) (by omega)
    · refine xtc_c_wp ok hx he heE ho h (fun h2 => ?_) (fun h4 => ?_) (key _ rfl)
      · obtain ⟨l, a1, a2, a3, a4⟩ := hy h2
        exact ⟨l, a1, a2, a4⟩
      · obtain ⟨l, a1, a2, a3, a4⟩ := hf h4
        exact ⟨l, a1, a2, a4⟩
    · refine key _ ?_
      unfold tc_op
      rw [if_neg h]
      rfl
theorem xtc_f_15 (ok : tc_ok S) {ro o : Nat} (hb : ro < 24) (ho : o < 6) {fi la : Int32} {x y : Nat → Nat} {f_patternDepth : Int32} {f_patternNodes : Int32} {f_ruleCount : Int32} {f_entryCount : Int32} {f_treeDepth : Int32} {f_treeNodes : Int32} {f_stateCount : Int32} {f_coverLength : Int32} {f_pendingCount : Int32} {a_patternStack : Nat → Int32} {a_patternSymbol : Nat → Int32} {a_patternFirst : Nat → Int32} {a_patternLast : Nat → Int32} {a_patternEntry : Nat → Int32} {a_ruleLeft : Nat → Int32} {a_ruleCost : Nat → Int32} {a_ruleEntry : Nat → Int32} {a_ruleStart : Nat → Int32} {a_entryOperator : Nat → Int32} {a_entryFirst : Nat → Int32} {a_entryLast : Nat → Int32} {a_treeStack : Nat → Int32} {a_treeOperator : Nat → Int32} {a_treeFirst : Nat → Int32} {a_treeLast : Nat → Int32} {a_treeSize : Nat → Int32} {a_treeWays : Nat → Int32} {a_stateCosts : Nat → Int32} {a_cover : Nat → Int32} {a_pendingEntry : Nat → Int32} {a_pendingNode : Nat → Int32} (hx : tc_xr S f_ruleCount f_entryCount a_ruleLeft a_ruleCost a_ruleEntry a_ruleStart a_entryOperator a_entryFirst a_entryLast) :
    ∀ (d e : Nat), e + d = 4 → ∀ a_treeCosts : Nat → Int32, tc_tr a_treeCosts (ro * 74) e (tc_i0 S 536870912 o x y) →
    (2 ≤ o → ∃ l, la = nI l ∧ l < 24 ∧ l ≠ ro ∧ ∀ e, e < tc_E S → a_treeCosts (l * 74 + e) = nI (y e) ∧ y e ≤ 536870912) →
    (4 ≤ o → ∃ l, fi = nI l ∧ l < 24 ∧ l ≠ ro ∧ ∀ e, e < tc_E S → a_treeCosts (l * 74 + e) = nI (x e) ∧ x e ≤ 536870912) →
    (∀ a', tc_fr a_treeCosts a' (ro * 74) → tc_tr a' (ro * 74) (tc_E S) (tc_row S 536870912 o x y) → post (f_patternDepth, f_patternNodes, f_ruleCount, f_entryCount, f_treeDepth, f_treeNodes, f_stateCount, f_coverLength, f_pendingCount, a_patternStack, a_patternSymbol, a_patternFirst, a_patternLast, a_patternEntry, a_ruleLeft, a_ruleCost, a_ruleEntry, a_ruleStart, a_entryOperator, a_entryFirst, a_entryLast, a_treeStack, a_treeOperator, a_treeFirst, a_treeLast, a_treeSize, a', a_treeWays, a_stateCosts, a_cover, a_pendingEntry, a_pendingNode)) →
    ∀ m, d < m → wX_fillCosts__treeCosts_15 post (nI o) fi la (nI (tc_ar o)) (nI (ro * 74)) f_patternDepth f_patternNodes f_ruleCount f_entryCount f_treeDepth f_treeNodes f_stateCount f_coverLength f_pendingCount m (nI e) a_patternStack a_patternSymbol a_patternFirst a_patternLast a_patternEntry a_ruleLeft a_ruleCost a_ruleEntry a_ruleStart a_entryOperator a_entryFirst a_entryLast a_treeStack a_treeOperator a_treeFirst a_treeLast a_treeSize a_treeCosts a_treeWays a_stateCosts a_cover a_pendingEntry a_pendingNode := by
  have hE := tc_ok_E ok
  intro d
  induction d with
  | zero =>
    intro e hr a_treeCosts ht hy hf hp m hm
    obtain ⟨m', rfl⟩ : ∃ m', m = m' + 1 := ⟨m - 1, by omega⟩
    have e1 : e = 4 := by omega
    subst e1
    refine br_t (nI_le (a := 4) (Nat.le_refl _) (by decide)) ⟨tc_E S + 1, ?_⟩
    exact xtc_f_39 ok hb ho hx (tc_E S - 4) 4 (by omega) (Nat.le_refl _) a_treeCosts ht hy hf hp _ (by omega)
  | succ d ih =>
    intro e hr a_treeCosts ht hy hf hp m hm
    obtain ⟨m', rfl⟩ : ∃ m', m = m' + 1 := ⟨m - 1, by omega⟩
    have w : (nI (ro * 74) + nI e) = nI (ro * 74 + e) := nI_add _ _
    refine br_f (nI_ge (b := 4) (by omega) (by decide)) ⟨by rw [w]; exact vp_in_nI (by omega) (by decide), nm_r (e' := upd a_treeCosts (ro * 74 + e) (nI 536870912)) (by rw [w, nI_clamp (by omega)]; rfl) (nm_r (nI_1 e) ?_)⟩
    refine ih (e + 1) (by omega) _ ?_ (fun h2 => ?_) (fun h4 => ?_) (fun a' hfa hra => hp a' (tc_fr_trans (tc_fr_upd (by omega)) hfa) hra) m' (by omega)
    · intro j hj
      by_cases cj : j = e
      · rw [cj, pk_us]
        unfold tc_i0
        rw [if_pos (by omega)]
      · rw [pk_un (by omega)]
        exact ht j (by omega)
    · obtain ⟨l, a1, a2, a3, a4⟩ := hy h2
      refine ⟨l, a1, a2, a3, fun j hj => ?_⟩
      rw [pk_un (by omega)]
      exact a4 j hj
    · obtain ⟨l, a1, a2, a3, a4⟩ := hf h4
      refine ⟨l, a1, a2, a3, fun j hj => ?_⟩
      rw [pk_un (by omega)]
      exact a4 j hj
theorem xtc_f_wp (ok : tc_ok S) {ro o : Nat} (hb : ro < 24) (ho : o < 6) {fi la : Int32} {x y : Nat → Nat} {f_patternDepth : Int32} {f_patternNodes : Int32} {f_ruleCount : Int32} {f_entryCount : Int32} {f_treeDepth : Int32} {f_treeNodes : Int32} {f_stateCount : Int32} {f_coverLength : Int32} {f_pendingCount : Int32} {a_patternStack : Nat → Int32} {a_patternSymbol : Nat → Int32} {a_patternFirst : Nat → Int32} {a_patternLast : Nat → Int32} {a_patternEntry : Nat → Int32} {a_ruleLeft : Nat → Int32} {a_ruleCost : Nat → Int32} {a_ruleEntry : Nat → Int32} {a_ruleStart : Nat → Int32} {a_entryOperator : Nat → Int32} {a_entryFirst : Nat → Int32} {a_entryLast : Nat → Int32} {a_treeStack : Nat → Int32} {a_treeOperator : Nat → Int32} {a_treeFirst : Nat → Int32} {a_treeLast : Nat → Int32} {a_treeSize : Nat → Int32} {a_treeCosts : Nat → Int32} {a_treeWays : Nat → Int32} {a_stateCosts : Nat → Int32} {a_cover : Nat → Int32} {a_pendingEntry : Nat → Int32} {a_pendingNode : Nat → Int32} (hx : tc_xr S f_ruleCount f_entryCount a_ruleLeft a_ruleCost a_ruleEntry a_ruleStart a_entryOperator a_entryFirst a_entryLast)
    (hy : 2 ≤ o → ∃ l, la = nI l ∧ l < 24 ∧ l ≠ ro ∧ ∀ e, e < tc_E S → a_treeCosts (l * 74 + e) = nI (y e) ∧ y e ≤ 536870912)
    (hf : 4 ≤ o → ∃ l, fi = nI l ∧ l < 24 ∧ l ≠ ro ∧ ∀ e, e < tc_E S → a_treeCosts (l * 74 + e) = nI (x e) ∧ x e ≤ 536870912)
    (hp : ∀ a', tc_fr a_treeCosts a' (ro * 74) → tc_tr a' (ro * 74) (tc_E S) (tc_row S 536870912 o x y) → post (f_patternDepth, f_patternNodes, f_ruleCount, f_entryCount, f_treeDepth, f_treeNodes, f_stateCount, f_coverLength, f_pendingCount, a_patternStack, a_patternSymbol, a_patternFirst, a_patternLast, a_patternEntry, a_ruleLeft, a_ruleCost, a_ruleEntry, a_ruleStart, a_entryOperator, a_entryFirst, a_entryLast, a_treeStack, a_treeOperator, a_treeFirst, a_treeLast, a_treeSize, a', a_treeWays, a_stateCosts, a_cover, a_pendingEntry, a_pendingNode)) :
    wpX_fillCosts__treeCosts post (f_patternDepth, f_patternNodes, f_ruleCount, f_entryCount, f_treeDepth, f_treeNodes, f_stateCount, f_coverLength, f_pendingCount, a_patternStack, a_patternSymbol, a_patternFirst, a_patternLast, a_patternEntry, a_ruleLeft, a_ruleCost, a_ruleEntry, a_ruleStart, a_entryOperator, a_entryFirst, a_entryLast, a_treeStack, a_treeOperator, a_treeFirst, a_treeLast, a_treeSize, a_treeCosts, a_treeWays, a_stateCosts, a_cover, a_pendingEntry, a_pendingNode) (nI ro) (nI o) fi la := by
  unfold wpX_fillCosts__treeCosts
  refine xm_parts (o := o) (by omega) ?_
  refine nm_r (e' := nI (ro * 74)) (by rw [show (74 : Int32) = nI 74 from rfl, pk_mul]) ⟨5, ?_⟩
  exact xtc_f_15 ok hb ho hx 4 0 (by omega) a_treeCosts (fun j hj => absurd hj (Nat.not_lt_zero _)) hy hf hp 5 (by omega)
end
end
section
section
variable {S : tc_S} {post : SX → Prop}
theorem xsc_a_lp (ok : tc_ok S) {b : Nat} (hb : b + 74 ≤ 1554) {f_patternDepth : Int32} {f_patternNodes : Int32} {f_ruleCount : Int32} {f_entryCount : Int32} {f_treeDepth : Int32} {f_treeNodes : Int32} {f_stateCount : Int32} {f_coverLength : Int32} {f_pendingCount : Int32} {a_patternStack : Nat → Int32} {a_patternSymbol : Nat → Int32} {a_patternFirst : Nat → Int32} {a_patternLast : Nat → Int32} {a_patternEntry : Nat → Int32} {a_ruleLeft : Nat → Int32} {a_ruleCost : Nat → Int32} {a_ruleEntry : Nat → Int32} {a_ruleStart : Nat → Int32} {a_entryOperator : Nat → Int32} {a_entryFirst : Nat → Int32} {a_entryLast : Nat → Int32} {a_treeStack : Nat → Int32} {a_treeOperator : Nat → Int32} {a_treeFirst : Nat → Int32} {a_treeLast : Nat → Int32} {a_treeSize : Nat → Int32} {a_treeCosts : Nat → Int32} {a_treeWays : Nat → Int32} {a_cover : Nat → Int32} {a_pendingEntry : Nat → Int32} {a_pendingNode : Nat → Int32} (hx : tc_xr S f_ruleCount f_entryCount a_ruleLeft a_ruleCost a_ruleEntry a_ruleStart a_entryOperator a_entryFirst a_entryLast)
    {t : Nat → Nat} (hK : ∀ e, t e ≤ 536870912) : ∀ (d r : Nat), r + d = tc_R S → ∀ a_stateCosts : Nat → Int32, tc_tr a_stateCosts b (tc_E S) (tc_rd S t r) →
    (∀ a', tc_fr a_stateCosts a' b → tc_tr a' b (tc_E S) (tc_rd S t (tc_R S)) → post (f_patternDepth, f_patternNodes, f_ruleCount, f_entryCount, f_treeDepth, f_treeNodes, f_stateCount, f_coverLength, f_pendingCount, a_patternStack, a_patternSymbol, a_patternFirst, a_patternLast, a_patternEntry, a_ruleLeft, a_ruleCost, a_ruleEntry, a_ruleStart, a_entryOperator, a_entryFirst, a_entryLast, a_treeStack, a_treeOperator, a_treeFirst, a_treeLast, a_treeSize, a_treeCosts, a_treeWays, a', a_cover, a_pendingEntry, a_pendingNode)) → ∀ m, d < m → wX_applyRules__stateCosts_2 post (nI b) f_patternDepth f_patternNodes f_ruleCount f_entryCount f_treeDepth f_treeNodes f_stateCount f_coverLength f_pendingCount m (nI r) a_patternStack a_patternSymbol a_patternFirst a_patternLast a_patternEntry a_ruleLeft a_ruleCost a_ruleEntry a_ruleStart a_entryOperator a_entryFirst a_entryLast a_treeStack a_treeOperator a_treeFirst a_treeLast a_treeSize a_treeCosts a_treeWays a_stateCosts a_cover a_pendingEntry a_pendingNode := by
  obtain ⟨rfl, rfl, hx3, hx4⟩ := hx
  have hE := tc_ok_E ok
  have hR := ok.1
  intro d
  induction d with
  | zero =>
    intro r hr a_stateCosts ht hp m hm
    obtain ⟨m', rfl⟩ : ∃ m', m = m' + 1 := ⟨m - 1, by omega⟩
    have e : r = tc_R S := by omega
    subst e
    exact br_t (nI_le (Nat.le_refl _) (by omega)) (hp _ (tc_fr_refl _ _) ht)
  | succ d ih =>
    intro r hr a_stateCosts ht hp m hm
    obtain ⟨m', rfl⟩ : ∃ m', m = m' + 1 := ⟨m - 1, by omega⟩
    have hr' : r < tc_R S := by omega
    obtain ⟨l1, l2, l3, l4⟩ := tc_ok_r ok hr'
    obtain ⟨x1, x2, x3, _⟩ := hx3 r hr'
    have c : (nI r).toNatClampNeg = r := nI_clamp (by omega)
    have q1 := Nat.le_trans (tc_rd_le (S := S) (t := t) (k := r) (by omega) (tc_rt S r)) (hK _)
    have q2 := Nat.le_trans (tc_rd_le (S := S) (t := t) (k := r) (by omega) (tc_lf S r)) (hK _)
    have hl := ht (tc_lf S r) (by omega)
    refine br_f (nI_ge hr' (by omega)) ⟨vp_in_nI (by omega) (by decide), vp_in_nI (by omega) (by decide), ?_, ?_⟩
    · rw [c, x3, nI_add]
      exact vp_in_nI (by omega) (by decide)
    · refine nm_r (e' := nI (tc_co S r + tc_rd S t r (tc_rt S r))) (by rw [c, x2, x3, nI_add, nI_clamp (by omega), ht _ l3, nI_add]) ⟨vp_in_nI (by omega) (by decide), ?_⟩
      refine nm_r (e' := nI (b + tc_lf S r)) (by rw [c, x1, nI_add]) ⟨vp_in_nI (by omega) (by decide), ?_⟩
      refine pk_le (tc_rd S t r (tc_lf S r)) (tc_co S r + tc_rd S t r (tc_rt S r)) (fun h => ?_) (fun h => ?_) (by rw [nI_clamp (by omega)]; exact hl) rfl (by omega) (by omega)
      · refine nm_r (nI_1 r) ?_
        have e1 : tc_rd S t (r + 1) = tc_rd S t r := tc_st_no h
        exact ih (r + 1) (by omega) a_stateCosts (by rw [e1]; exact ht) hp m' (by omega)
      · refine ⟨vp_in_nI (by omega) (by decide), nm_r (e' := upd a_stateCosts (b + tc_lf S r) (nI (tc_co S r + tc_rd S t r (tc_rt S r)))) (by rw [nI_clamp (by omega)]) (nm_r (nI_1 r) ?_)⟩
        have e1 : tc_rd S t (r + 1) = tc_un (tc_rd S t r) (tc_lf S r) (tc_co S r + tc_rd S t r (tc_rt S r)) := (tc_st_un h).symm
        exact ih (r + 1) (by omega) _ (by rw [e1]; exact tc_tr_upd ht) (fun a' hf hr => hp a' (tc_fr_trans (tc_fr_upd (by omega)) hf) hr) m' (by omega)
theorem xsc_a_wp (ok : tc_ok S) {b : Nat} (hb : b + 74 ≤ 1554) {f_patternDepth : Int32} {f_patternNodes : Int32} {f_ruleCount : Int32} {f_entryCount : Int32} {f_treeDepth : Int32} {f_treeNodes : Int32} {f_stateCount : Int32} {f_coverLength : Int32} {f_pendingCount : Int32} {a_patternStack : Nat → Int32} {a_patternSymbol : Nat → Int32} {a_patternFirst : Nat → Int32} {a_patternLast : Nat → Int32} {a_patternEntry : Nat → Int32} {a_ruleLeft : Nat → Int32} {a_ruleCost : Nat → Int32} {a_ruleEntry : Nat → Int32} {a_ruleStart : Nat → Int32} {a_entryOperator : Nat → Int32} {a_entryFirst : Nat → Int32} {a_entryLast : Nat → Int32} {a_treeStack : Nat → Int32} {a_treeOperator : Nat → Int32} {a_treeFirst : Nat → Int32} {a_treeLast : Nat → Int32} {a_treeSize : Nat → Int32} {a_treeCosts : Nat → Int32} {a_treeWays : Nat → Int32} {a_stateCosts : Nat → Int32} {a_cover : Nat → Int32} {a_pendingEntry : Nat → Int32} {a_pendingNode : Nat → Int32} (hx : tc_xr S f_ruleCount f_entryCount a_ruleLeft a_ruleCost a_ruleEntry a_ruleStart a_entryOperator a_entryFirst a_entryLast)
    {t : Nat → Nat} (hK : ∀ e, t e ≤ 536870912) (ht : tc_tr a_stateCosts b (tc_E S) t) (hp : ∀ a', tc_fr a_stateCosts a' b → tc_tr a' b (tc_E S) (tc_rd S t (tc_R S)) → post (f_patternDepth, f_patternNodes, f_ruleCount, f_entryCount, f_treeDepth, f_treeNodes, f_stateCount, f_coverLength, f_pendingCount, a_patternStack, a_patternSymbol, a_patternFirst, a_patternLast, a_patternEntry, a_ruleLeft, a_ruleCost, a_ruleEntry, a_ruleStart, a_entryOperator, a_entryFirst, a_entryLast, a_treeStack, a_treeOperator, a_treeFirst, a_treeLast, a_treeSize, a_treeCosts, a_treeWays, a', a_cover, a_pendingEntry, a_pendingNode)) :
    wpX_applyRules__stateCosts post (f_patternDepth, f_patternNodes, f_ruleCount, f_entryCount, f_treeDepth, f_treeNodes, f_stateCount, f_coverLength, f_pendingCount, a_patternStack, a_patternSymbol, a_patternFirst, a_patternLast, a_patternEntry, a_ruleLeft, a_ruleCost, a_ruleEntry, a_ruleStart, a_entryOperator, a_entryFirst, a_entryLast, a_treeStack, a_treeOperator, a_treeFirst, a_treeLast, a_treeSize, a_treeCosts, a_treeWays, a_stateCosts, a_cover, a_pendingEntry, a_pendingNode) (nI b) :=
  ⟨tc_R S + 1, xsc_a_lp ok hb hx hK (tc_R S) 0 (by omega) a_stateCosts ht hp _ (by omega)⟩
theorem xsc_f_96 (ok : tc_ok S) {b : Nat} (hb : b + 74 ≤ 1554) {f_patternDepth : Int32} {f_patternNodes : Int32} {f_ruleCount : Int32} {f_entryCount : Int32} {f_treeDepth : Int32} {f_treeNodes : Int32} {f_stateCount : Int32} {f_coverLength : Int32} {f_pendingCount : Int32} {a_patternStack : Nat → Int32} {a_patternSymbol : Nat → Int32} {a_patternFirst : Nat → Int32} {a_patternLast : Nat → Int32} {a_patternEntry : Nat → Int32} {a_ruleLeft : Nat → Int32} {a_ruleCost : Nat → Int32} {a_ruleEntry : Nat → Int32} {a_ruleStart : Nat → Int32} {a_entryOperator : Nat → Int32} {a_entryFirst : Nat → Int32} {a_entryLast : Nat → Int32} {a_treeStack : Nat → Int32} {a_treeOperator : Nat → Int32} {a_treeFirst : Nat → Int32} {a_treeLast : Nat → Int32} {a_treeSize : Nat → Int32} {a_treeCosts : Nat → Int32} {a_treeWays : Nat → Int32} {a_cover : Nat → Int32} {a_pendingEntry : Nat → Int32} {a_pendingNode : Nat → Int32} (hx : tc_xr S f_ruleCount f_entryCount a_ruleLeft a_ruleCost a_ruleEntry a_ruleStart a_entryOperator a_entryFirst a_entryLast)
    {t : Nat → Nat} (hK : ∀ n e, tc_it S t n e ≤ 536870912) : ∀ (d k : Nat), k + d = 4 → ∀ a_stateCosts : Nat → Int32, tc_tr a_stateCosts b (tc_E S) (tc_it S t k) →
    (∀ a', tc_fr a_stateCosts a' b → tc_tr a' b (tc_E S) (tc_it S t 4) → post (f_patternDepth, f_patternNodes, f_ruleCount, f_entryCount, f_treeDepth, f_treeNodes, f_stateCount, f_coverLength, f_pendingCount, a_patternStack, a_patternSymbol, a_patternFirst, a_patternLast, a_patternEntry, a_ruleLeft, a_ruleCost, a_ruleEntry, a_ruleStart, a_entryOperator, a_entryFirst, a_entryLast, a_treeStack, a_treeOperator, a_treeFirst, a_treeLast, a_treeSize, a_treeCosts, a_treeWays, a', a_cover, a_pendingEntry, a_pendingNode)) → ∀ m, d < m → wX_fillCosts__stateCosts_96 post (nI b) m (nI k) f_patternDepth f_patternNodes f_ruleCount f_entryCount f_treeDepth f_treeNodes f_stateCount f_coverLength f_pendingCount a_patternStack a_patternSymbol a_patternFirst a_patternLast a_patternEntry a_ruleLeft a_ruleCost a_ruleEntry a_ruleStart a_entryOperator a_entryFirst a_entryLast a_treeStack a_treeOperator a_treeFirst a_treeLast a_treeSize a_treeCosts a_treeWays a_stateCosts a_cover a_pendingEntry a_pendingNode := by
  intro d
  induction d with
  | zero =>
    intro k hk a_stateCosts ht hp m hm
    obtain ⟨m', rfl⟩ : ∃ m', m = m' + 1 := ⟨m - 1, by omega⟩
    have e : k = 4 := by omega
    subst e
    exact br_t (nI_le (a := 4) (Nat.le_refl _) (by decide)) (hp _ (tc_fr_refl _ _) ht)
  | succ d ih =>
    intro k hk a_stateCosts ht hp m hm
    obtain ⟨m', rfl⟩ : ∃ m', m = m' + 1 := ⟨m - 1, by omega⟩
    refine br_f (nI_ge (b := 4) (by omega) (by decide)) ?_
    refine xsc_a_wp ok hb hx (hK k) ht (fun a' hf hr => ?_)
    exact nm_r (nI_1 k) (ih (k + 1) (by omega) a' hr (fun a'' hf' hr' => hp a'' (tc_fr_trans hf hf') hr') m' (by omega))
theorem xsc_c_wp (ok : tc_ok S) {post : Int32 → Prop} {f_patternDepth : Int32} {f_patternNodes : Int32} {f_ruleCount : Int32} {f_entryCount : Int32} {f_treeDepth : Int32} {f_treeNodes : Int32} {f_stateCount : Int32} {f_coverLength : Int32} {f_pendingCount : Int32} {a_patternStack : Nat → Int32} {a_patternSymbol : Nat → Int32} {a_patternFirst : Nat → Int32} {a_patternLast : Nat → Int32} {a_patternEntry : Nat → Int32} {a_ruleLeft : Nat → Int32} {a_ruleCost : Nat → Int32} {a_ruleEntry : Nat → Int32} {a_ruleStart : Nat → Int32} {a_entryOperator : Nat → Int32} {a_entryFirst : Nat → Int32} {a_entryLast : Nat → Int32} {a_treeStack : Nat → Int32} {a_treeOperator : Nat → Int32} {a_treeFirst : Nat → Int32} {a_treeLast : Nat → Int32} {a_treeSize : Nat → Int32} {a_treeCosts : Nat → Int32} {a_treeWays : Nat → Int32} {a_stateCosts : Nat → Int32} {a_cover : Nat → Int32} {a_pendingEntry : Nat → Int32} {a_pendingNode : Nat → Int32} (hx : tc_xr S f_ruleCount f_entryCount a_ruleLeft a_ruleCost a_ruleEntry a_ruleStart a_entryOperator a_entryFirst a_entryLast)
    {e o : Nat} {fi la : Int32} {x y : Nat → Nat} (he : 4 ≤ e) (hE : e < tc_E S) (ho : o < 6) (heo : tc_eo S e = o)
    (hy : 2 ≤ o → ∃ l, la = nI l ∧ l < 21 ∧ ∀ e, e < tc_E S → a_stateCosts (l * 74 + e) = nI (y e) ∧ y e ≤ 536870912)
    (hf : 4 ≤ o → ∃ l, fi = nI l ∧ l < 21 ∧ ∀ e, e < tc_E S → a_stateCosts (l * 74 + e) = nI (x e) ∧ x e ≤ 536870912)
    (h : post (nI (tc_op S 536870912 o x y e))) : wpX_costOfParts__stateCosts post (f_patternDepth, f_patternNodes, f_ruleCount, f_entryCount, f_treeDepth, f_treeNodes, f_stateCount, f_coverLength, f_pendingCount, a_patternStack, a_patternSymbol, a_patternFirst, a_patternLast, a_patternEntry, a_ruleLeft, a_ruleCost, a_ruleEntry, a_ruleStart, a_entryOperator, a_entryFirst, a_entryLast, a_treeStack, a_treeOperator, a_treeFirst, a_treeLast, a_treeSize, a_treeCosts, a_treeWays, a_stateCosts, a_cover, a_pendingEntry, a_pendingNode) (nI e) (nI (tc_ar o)) fi la := by
  obtain ⟨_, _, _, hx4⟩ := hx
  have hE2 := tc_ok_E ok
  have hk := ok.2.2.2 e he hE
  have c : (nI e).toNatClampNeg = e := nI_clamp (by omega)
  have k51 : ∀ s, s ≤ 1073741824 → post (nI (min 536870912 s)) → wX_costOfParts__stateCosts_51 post (nI s) f_patternDepth f_patternNodes f_ruleCount f_entryCount f_treeDepth f_treeNodes f_stateCount f_coverLength f_pendingCount a_patternStack a_patternSymbol a_patternFirst a_patternLast a_patternEntry a_ruleLeft a_ruleCost a_ruleEntry a_ruleStart a_entryOperator a_entryFirst a_entryLast a_treeStack a_treeOperator a_treeFirst a_treeLast a_treeSize a_treeCosts a_treeWays a_stateCosts a_cover a_pendingEntry a_pendingNode := fun s hs hp => by
    refine pk_le 536870912 s (fun hh => ?_) (fun hh => ?_)
    · rw [Nat.min_eq_left hh] at hp
      exact hp
    · rw [Nat.min_eq_right (by omega)] at hp
      exact hp
  unfold tc_op at h
  rw [if_pos heo] at h
  by_cases h2 : o < 2
  · rw [if_pos h2] at h
    rw [tc_ar0 h2]
    refine br_t (nI_lt (a := 0) (b := 1) (by decide) (by decide)) (br_f (by decide) ?_)
    exact k51 0 (by decide) h
  · obtain ⟨l, rfl, hl, hv⟩ := hy (by omega)
    obtain ⟨v1, v2⟩ := hv (tc_el S e) (by omega)
    have x5 := (hx4 e he hE).2.1 (by omega)
    rw [if_neg h2] at h
    have w1 : nI l * 74 + a_entryLast (nI e).toNatClampNeg = nI (l * 74 + tc_el S e) := by
      rw [c, x5, show (74 : Int32) = nI 74 from rfl, pk_mul, nI_add]
    have w2 : (0 : Int32) + a_stateCosts (nI l * 74 + a_entryLast (nI e).toNatClampNeg).toNatClampNeg = nI (y (tc_el S e)) := by
      rw [w1, nI_clamp (by omega), v1, ← nI_0, nI_add, Nat.zero_add]
    by_cases h4 : o < 4
    · rw [if_pos h4] at h
      rw [tc_ar1 (by omega) h4]
      refine br_f (by decide) ⟨vp_in_nI (by omega) (by decide), ?_, ?_⟩
      · rw [w1]
        exact vp_in_nI (by omega) (by decide)
      · refine nm_r w2 (br_f (by decide) ?_)
        exact k51 _ (by omega) h
    · rw [if_neg h4] at h
      rw [tc_ar2 (by omega)]
      obtain ⟨l', rfl, hl', hv'⟩ := hf (by omega)
      obtain ⟨u1, u2⟩ := hv' (tc_ef S e) (by omega)
      have x6 := (hx4 e he hE).2.2 (by omega)
      have w3 : nI l' * 74 + a_entryFirst (nI e).toNatClampNeg = nI (l' * 74 + tc_ef S e) := by
        rw [c, x6, show (74 : Int32) = nI 74 from rfl, pk_mul, nI_add]
      refine br_f (by decide) ⟨vp_in_nI (by omega) (by decide), ?_, ?_⟩
      · rw [w1]
        exact vp_in_nI (by omega) (by decide)
      · refine nm_r w2 (br_t rfl ⟨vp_in_nI (by omega) (by decide), ?_, ?_⟩)
        · rw [w3]
          exact vp_in_nI (by omega) (by decide)
        · refine nm_r (e' := nI (x (tc_ef S e) + y (tc_el S e))) (by rw [w3, nI_clamp (by omega), u1, nI_add, Nat.add_comm]) ?_
          exact k51 _ (by omega) h
theorem xsc_f_39 (ok : tc_ok S) {ro o : Nat} (hb : ro < 21) (ho : o < 6) {fi la : Int32} {x y : Nat → Nat} {f_patternDepth : Int32} {f_patternNodes : Int32} {f_ruleCount : Int32} {f_entryCount : Int32} {f_treeDepth : Int32} {f_treeNodes : Int32} {f_stateCount : Int32} {f_coverLength : Int32} {f_pendingCount : Int32} {a_patternStack : Nat → Int32} {a_patternSymbol : Nat → Int32} {a_patternFirst : Nat → Int32} {a_patternLast : Nat → Int32} {a_patternEntry : Nat → Int32} {a_ruleLeft : Nat → Int32} {a_ruleCost : Nat → Int32} {a_ruleEntry : Nat → Int32} {a_ruleStart : Nat → Int32} {a_entryOperator : Nat → Int32} {a_entryFirst : Nat → Int32} {a_entryLast : Nat → Int32} {a_treeStack : Nat → Int32} {a_treeOperator : Nat → Int32} {a_treeFirst : Nat → Int32} {a_treeLast : Nat → Int32} {a_treeSize : Nat → Int32} {a_treeCosts : Nat → Int32} {a_treeWays : Nat → Int32} {a_cover : Nat → Int32} {a_pendingEntry : Nat → Int32} {a_pendingNode : Nat → Int32} (hx : tc_xr S f_ruleCount f_entryCount a_ruleLeft a_ruleCost a_ruleEntry a_ruleStart a_entryOperator a_entryFirst a_entryLast) :
    ∀ (d e : Nat), e + d = tc_E S → 4 ≤ e → ∀ a_stateCosts : Nat → Int32, tc_tr a_stateCosts (ro * 74) e (tc_i0 S 536870912 o x y) →
    (2 ≤ o → ∃ l, la = nI l ∧ l < 21 ∧ l ≠ ro ∧ ∀ e, e < tc_E S → a_stateCosts (l * 74 + e) = nI (y e) ∧ y e ≤ 536870912) →
    (4 ≤ o → ∃ l, fi = nI l ∧ l < 21 ∧ l ≠ ro ∧ ∀ e, e < tc_E S → a_stateCosts (l * 74 + e) = nI (x e) ∧ x e ≤ 536870912) →
    (∀ a', tc_fr a_stateCosts a' (ro * 74) → tc_tr a' (ro * 74) (tc_E S) (tc_row S 536870912 o x y) → post (f_patternDepth, f_patternNodes, f_ruleCount, f_entryCount, f_treeDepth, f_treeNodes, f_stateCount, f_coverLength, f_pendingCount, a_patternStack, a_patternSymbol, a_patternFirst, a_patternLast, a_patternEntry, a_ruleLeft, a_ruleCost, a_ruleEntry, a_ruleStart, a_entryOperator, a_entryFirst, a_entryLast, a_treeStack, a_treeOperator, a_treeFirst, a_treeLast, a_treeSize, a_treeCosts, a_treeWays, a', a_cover, a_pendingEntry, a_pendingNode)) →
    ∀ m, d < m → wX_fillCosts__stateCosts_39 post (nI o) fi la (nI (tc_ar o)) (nI (ro * 74)) f_patternDepth f_patternNodes f_ruleCount f_entryCount f_treeDepth f_treeNodes f_stateCount f_coverLength f_pendingCount m (nI e) a_patternStack a_patternSymbol a_patternFirst a_patternLast a_patternEntry a_ruleLeft a_ruleCost a_ruleEntry a_ruleStart a_entryOperator a_entryFirst a_entryLast a_treeStack a_treeOperator a_treeFirst a_treeLast a_treeSize a_treeCosts a_treeWays a_stateCosts a_cover a_pendingEntry a_pendingNode := by
  have hE := tc_ok_E ok
  intro d
  induction d with
  | zero =>
    intro e hr he a_stateCosts ht hy hf hp m hm
    obtain ⟨m', rfl⟩ : ∃ m', m = m' + 1 := ⟨m - 1, by omega⟩
    have e1 : e = tc_E S := by omega
    subst e1
    refine br_t (by rw [hx.2.1]; exact nI_le (Nat.le_refl _) (by omega)) ⟨5, ?_⟩
    exact xsc_f_96 ok (by omega) hx (fun n e => tc_row_le e n) 4 0 (by omega) a_stateCosts ht hp 5 (by omega)
  | succ d ih =>
    intro e hr he a_stateCosts ht hy hf hp m hm
    obtain ⟨m', rfl⟩ : ∃ m', m = m' + 1 := ⟨m - 1, by omega⟩
    have heE : e < tc_E S := by omega
    have c : (nI e).toNatClampNeg = e := nI_clamp (by omega)
    have x7 := (hx.2.2.2 e he heE).1
    have hk := ok.2.2.2 e he heE
    have key : ∀ z : Int32, z = nI (tc_op S 536870912 o x y e) → wX_fillCosts__stateCosts_78 post (wX_fillCosts__stateCosts_39 post (nI o) fi la (nI (tc_ar o)) (nI (ro * 74)) f_patternDepth f_patternNodes f_ruleCount f_entryCount f_treeDepth f_treeNodes f_stateCount f_coverLength f_pendingCount m') (nI o) fi la (nI (tc_ar o)) (nI (ro * 74)) (nI e) z f_patternDepth f_patternNodes f_ruleCount f_entryCount f_treeDepth f_treeNodes f_stateCount f_coverLength f_pendingCount a_patternStack a_patternSymbol a_patternFirst a_patternLast a_patternEntry a_ruleLeft a_ruleCost a_ruleEntry a_ruleStart a_entryOperator a_entryFirst a_entryLast a_treeStack a_treeOperator a_treeFirst a_treeLast a_treeSize a_treeCosts a_treeWays a_stateCosts a_cover a_pendingEntry a_pendingNode := fun z hz => by
      have w : (nI (ro * 74) + nI e) = nI (ro * 74 + e) := nI_add _ _
      refine ⟨by rw [w]; exact vp_in_nI (by omega) (by decide), nm_r (e' := upd a_stateCosts (ro * 74 + e) (nI (tc_op S 536870912 o x y e))) (by rw [w, nI_clamp (by omega), hz]) (nm_r (nI_1 e) ?_)⟩
      refine ih (e + 1) (by omega) (by omega) _ ?_ (fun h2 => ?_) (fun h4 => ?_) (fun a' hfa hra => hp a' (tc_fr_trans (tc_fr_upd (by omega)) hfa) hra) m' (by omega)
      · intro j hj
        by_cases cj : j = e
        · rw [cj, pk_us]
          unfold tc_i0
          rw [if_neg (by omega)]
        · rw [pk_un (by omega)]
          exact ht j (by omega)
      · obtain ⟨l, a1, a2, a3, a4⟩ := hy h2
        refine ⟨l, a1, a2, a3, fun j hj => ?_⟩
        rw [pk_un (by omega)]
        exact a4 j hj
      · obtain ⟨l, a1, a2, a3, a4⟩ := hf h4
        refine ⟨l, a1, a2, a3, fun j hj => ?_⟩
        rw [pk_un (by omega)]
        exact a4 j hj
    refine br_f (by rw [hx.2.1]; exact nI_ge heE (by omega)) ⟨vp_in_nI (by omega) (by decide), ?_⟩
    refine pk_eq (tc_eo S e) o (fun h => ?_) (fun h => ?_) (by rw [c]; exact x7) rfl (by omega) (by omega)
    · refine xsc_c_wp ok hx he heE ho h (fun h2 => ?_) (fun h4 => ?_) (key _ rfl)
      · obtain ⟨l, a1, a2, a3, a4⟩ := hy h2
        exact ⟨l, a1, a2, a4⟩
      · obtain ⟨l, a1, a2, a3, a4⟩ := hf h4
        exact ⟨l, a1, a2, a4⟩
    · refine key _ ?_
      unfold tc_op
      rw [if_neg h]
      rfl
theorem xsc_f_15 (ok : tc_ok S) {ro o : Nat} (hb : ro < 21) (ho : o < 6) {fi la : Int32} {x y : Nat → Nat} {f_patternDepth : Int32} {f_patternNodes : Int32} {f_ruleCount : Int32} {f_entryCount : Int32} {f_treeDepth : Int32} {f_treeNodes : Int32} {f_stateCount : Int32} {f_coverLength : Int32} {f_pendingCount : Int32} {a_patternStack : Nat → Int32} {a_patternSymbol : Nat → Int32} {a_patternFirst : Nat → Int32} {a_patternLast : Nat → Int32} {a_patternEntry : Nat → Int32} {a_ruleLeft : Nat → Int32} {a_ruleCost : Nat → Int32} {a_ruleEntry : Nat → Int32} {a_ruleStart : Nat → Int32} {a_entryOperator : Nat → Int32} {a_entryFirst : Nat → Int32} {a_entryLast : Nat → Int32} {a_treeStack : Nat → Int32} {a_treeOperator : Nat → Int32} {a_treeFirst : Nat → Int32} {a_treeLast : Nat → Int32} {a_treeSize : Nat → Int32} {a_treeCosts : Nat → Int32} {a_treeWays : Nat → Int32} {a_cover : Nat → Int32} {a_pendingEntry : Nat → Int32} {a_pendingNode : Nat → Int32} (hx : tc_xr S f_ruleCount f_entryCount a_ruleLeft a_ruleCost a_ruleEntry a_ruleStart a_entryOperator a_entryFirst a_entryLast) :
    ∀ (d e : Nat), e + d = 4 → ∀ a_stateCosts : Nat → Int32, tc_tr a_stateCosts (ro * 74) e (tc_i0 S 536870912 o x y) →
    (2 ≤ o → ∃ l, la = nI l ∧ l < 21 ∧ l ≠ ro ∧ ∀ e, e < tc_E S → a_stateCosts (l * 74 + e) = nI (y e) ∧ y e ≤ 536870912) →
    (4 ≤ o → ∃ l, fi = nI l ∧ l < 21 ∧ l ≠ ro ∧ ∀ e, e < tc_E S → a_stateCosts (l * 74 + e) = nI (x e) ∧ x e ≤ 536870912) →
    (∀ a', tc_fr a_stateCosts a' (ro * 74) → tc_tr a' (ro * 74) (tc_E S) (tc_row S 536870912 o x y) → post (f_patternDepth, f_patternNodes, f_ruleCount, f_entryCount, f_treeDepth, f_treeNodes, f_stateCount, f_coverLength, f_pendingCount, a_patternStack, a_patternSymbol, a_patternFirst, a_patternLast, a_patternEntry, a_ruleLeft, a_ruleCost, a_ruleEntry, a_ruleStart, a_entryOperator, a_entryFirst, a_entryLast, a_treeStack, a_treeOperator, a_treeFirst, a_treeLast, a_treeSize, a_treeCosts, a_treeWays, a', a_cover, a_pendingEntry, a_pendingNode)) →
    ∀ m, d < m → wX_fillCosts__stateCosts_15 post (nI o) fi la (nI (tc_ar o)) (nI (ro * 74)) f_patternDepth f_patternNodes f_ruleCount f_entryCount f_treeDepth f_treeNodes f_stateCount f_coverLength f_pendingCount m (nI e) a_patternStack a_patternSymbol a_patternFirst a_patternLast a_patternEntry a_ruleLeft a_ruleCost a_ruleEntry a_ruleStart a_entryOperator a_entryFirst a_entryLast a_treeStack a_treeOperator a_treeFirst a_treeLast a_treeSize a_treeCosts a_treeWays a_stateCosts a_cover a_pendingEntry a_pendingNode := by
  have hE := tc_ok_E ok
  intro d
  induction d with
  | zero =>
    intro e hr a_stateCosts ht hy hf hp m hm
    obtain ⟨m', rfl⟩ : ∃ m', m = m' + 1 := ⟨m - 1, by omega⟩
    have e1 : e = 4 := by omega
    subst e1
    refine br_t (nI_le (a := 4) (Nat.le_refl _) (by decide)) ⟨tc_E S + 1, ?_⟩
    exact xsc_f_39 ok hb ho hx (tc_E S - 4) 4 (by omega) (Nat.le_refl _) a_stateCosts ht hy hf hp _ (by omega)
  | succ d ih =>
    intro e hr a_stateCosts ht hy hf hp m hm
    obtain ⟨m', rfl⟩ : ∃ m', m = m' + 1 := ⟨m - 1, by omega⟩
    have w : (nI (ro * 74) + nI e) = nI (ro * 74 + e) := nI_add _ _
    refine br_f (nI_ge (b := 4) (by omega) (by decide)) ⟨by rw [w]; exact vp_in_nI (by omega) (by decide), nm_r (e' := upd a_stateCosts (ro * 74 + e) (nI 536870912)) (by rw [w, nI_clamp (by omega)]; rfl) (nm_r (nI_1 e) ?_)⟩
    refine ih (e + 1) (by omega) _ ?_ (fun h2 => ?_) (fun h4 => ?_) (fun a' hfa hra => hp a' (tc_fr_trans (tc_fr_upd (by omega)) hfa) hra) m' (by omega)
    · intro j hj
      by_cases cj : j = e
      · rw [cj, pk_us]
        unfold tc_i0
        rw [if_pos (by omega)]
      · rw [pk_un (by omega)]
        exact ht j (by omega)
    · obtain ⟨l, a1, a2, a3, a4⟩ := hy h2
      refine ⟨l, a1, a2, a3, fun j hj => ?_⟩
      rw [pk_un (by omega)]
      exact a4 j hj
    · obtain ⟨l, a1, a2, a3, a4⟩ := hf h4
      refine ⟨l, a1, a2, a3, fun j hj => ?_⟩
      rw [pk_un (by omega)]
      exact a4 j hj
theorem xsc_f_wp (ok : tc_ok S) {ro o : Nat} (hb : ro < 21) (ho : o < 6) {fi la : Int32} {x y : Nat → Nat} {f_patternDepth : Int32} {f_patternNodes : Int32} {f_ruleCount : Int32} {f_entryCount : Int32} {f_treeDepth : Int32} {f_treeNodes : Int32} {f_stateCount : Int32} {f_coverLength : Int32} {f_pendingCount : Int32} {a_patternStack : Nat → Int32} {a_patternSymbol : Nat → Int32} {a_patternFirst : Nat → Int32} {a_patternLast : Nat → Int32} {a_patternEntry : Nat → Int32} {a_ruleLeft : Nat → Int32} {a_ruleCost : Nat → Int32} {a_ruleEntry : Nat → Int32} {a_ruleStart : Nat → Int32} {a_entryOperator : Nat → Int32} {a_entryFirst : Nat → Int32} {a_entryLast : Nat → Int32} {a_treeStack : Nat → Int32} {a_treeOperator : Nat → Int32} {a_treeFirst : Nat → Int32} {a_treeLast : Nat → Int32} {a_treeSize : Nat → Int32} {a_treeCosts : Nat → Int32} {a_treeWays : Nat → Int32} {a_stateCosts : Nat → Int32} {a_cover : Nat → Int32} {a_pendingEntry : Nat → Int32} {a_pendingNode : Nat → Int32} (hx : tc_xr S f_ruleCount f_entryCount a_ruleLeft a_ruleCost a_ruleEntry a_ruleStart a_entryOperator a_entryFirst a_entryLast)
    (hy : 2 ≤ o → ∃ l, la = nI l ∧ l < 21 ∧ l ≠ ro ∧ ∀ e, e < tc_E S → a_stateCosts (l * 74 + e) = nI (y e) ∧ y e ≤ 536870912)
    (hf : 4 ≤ o → ∃ l, fi = nI l ∧ l < 21 ∧ l ≠ ro ∧ ∀ e, e < tc_E S → a_stateCosts (l * 74 + e) = nI (x e) ∧ x e ≤ 536870912)
    (hp : ∀ a', tc_fr a_stateCosts a' (ro * 74) → tc_tr a' (ro * 74) (tc_E S) (tc_row S 536870912 o x y) → post (f_patternDepth, f_patternNodes, f_ruleCount, f_entryCount, f_treeDepth, f_treeNodes, f_stateCount, f_coverLength, f_pendingCount, a_patternStack, a_patternSymbol, a_patternFirst, a_patternLast, a_patternEntry, a_ruleLeft, a_ruleCost, a_ruleEntry, a_ruleStart, a_entryOperator, a_entryFirst, a_entryLast, a_treeStack, a_treeOperator, a_treeFirst, a_treeLast, a_treeSize, a_treeCosts, a_treeWays, a', a_cover, a_pendingEntry, a_pendingNode)) :
    wpX_fillCosts__stateCosts post (f_patternDepth, f_patternNodes, f_ruleCount, f_entryCount, f_treeDepth, f_treeNodes, f_stateCount, f_coverLength, f_pendingCount, a_patternStack, a_patternSymbol, a_patternFirst, a_patternLast, a_patternEntry, a_ruleLeft, a_ruleCost, a_ruleEntry, a_ruleStart, a_entryOperator, a_entryFirst, a_entryLast, a_treeStack, a_treeOperator, a_treeFirst, a_treeLast, a_treeSize, a_treeCosts, a_treeWays, a_stateCosts, a_cover, a_pendingEntry, a_pendingNode) (nI ro) (nI o) fi la := by
  unfold wpX_fillCosts__stateCosts
  refine xm_parts (o := o) (by omega) ?_
  refine nm_r (e' := nI (ro * 74)) (by rw [show (74 : Int32) = nI 74 from rfl, pk_mul]) ⟨5, ?_⟩
  exact xsc_f_15 ok hb ho hx 4 0 (by omega) a_stateCosts (fun j hj => absurd hj (Nat.not_lt_zero _)) hy hf hp 5 (by omega)
end
end
section
section
variable {S : tc_S} {post : Int32 → Prop}
theorem xtc_l_6 (ok : tc_ok S) {ro : Nat} (hb : ro < 24) {f_patternDepth : Int32} {f_patternNodes : Int32} {f_ruleCount : Int32} {f_entryCount : Int32} {f_treeDepth : Int32} {f_treeNodes : Int32} {f_stateCount : Int32} {f_coverLength : Int32} {f_pendingCount : Int32} {a_patternStack : Nat → Int32} {a_patternSymbol : Nat → Int32} {a_patternFirst : Nat → Int32} {a_patternLast : Nat → Int32} {a_patternEntry : Nat → Int32} {a_ruleLeft : Nat → Int32} {a_ruleCost : Nat → Int32} {a_ruleEntry : Nat → Int32} {a_ruleStart : Nat → Int32} {a_entryOperator : Nat → Int32} {a_entryFirst : Nat → Int32} {a_entryLast : Nat → Int32} {a_treeStack : Nat → Int32} {a_treeOperator : Nat → Int32} {a_treeFirst : Nat → Int32} {a_treeLast : Nat → Int32} {a_treeSize : Nat → Int32} {a_treeCosts : Nat → Int32} {a_treeWays : Nat → Int32} {a_stateCosts : Nat → Int32} {a_cover : Nat → Int32} {a_pendingEntry : Nat → Int32} {a_pendingNode : Nat → Int32} (hE : f_entryCount = nI (tc_E S)) {t : Nat → Nat} (hK : ∀ e, t e ≤ 536870912) (ht : tc_tr a_treeCosts (ro * 74) (tc_E S) t) (hp : post (nI (tc_lw 536870912 t (tc_E S)))) :
    ∀ (d e : Nat), e + d = tc_E S → ∀ m, d < m → wX_leastOfRow__treeCosts_6 post (nI ro) f_patternDepth f_patternNodes f_ruleCount f_entryCount f_treeDepth f_treeNodes f_stateCount f_coverLength f_pendingCount a_patternStack a_patternSymbol a_patternFirst a_patternLast a_patternEntry a_ruleLeft a_ruleCost a_ruleEntry a_ruleStart a_entryOperator a_entryFirst a_entryLast a_treeStack a_treeOperator a_treeFirst a_treeLast a_treeSize a_treeCosts a_treeWays a_stateCosts a_cover a_pendingEntry a_pendingNode m (nI (tc_lw 536870912 t e)) (nI e) := by
  subst hE
  have hE2 := tc_ok_E ok
  intro d
  induction d with
  | zero =>
    intro e hr m hm
    obtain ⟨m', rfl⟩ : ∃ m', m = m' + 1 := ⟨m - 1, by omega⟩
    have e1 : e = tc_E S := by omega
    subst e1
    exact br_t (nI_le (Nat.le_refl _) (by omega)) hp
  | succ d ih =>
    intro e hr m hm
    obtain ⟨m', rfl⟩ : ∃ m', m = m' + 1 := ⟨m - 1, by omega⟩
    have heE : e < tc_E S := by omega
    have w : nI ro * 74 + nI e = nI (ro * 74 + e) := by rw [show (74 : Int32) = nI 74 from rfl, pk_mul, nI_add]
    have h1 := (tc_lw_le (K := 536870912) (t := t) e).1
    have h2 := hK e
    refine br_f (nI_ge heE (by omega)) ⟨by rw [w]; exact vp_in_nI (by omega) (by decide), nm_r (e' := nI (t e)) (by rw [w, nI_clamp (by omega)]; exact ht e heE) ?_⟩
    refine pk_le (tc_lw 536870912 t e) (t e) (fun h => nm_r (nI_1 e) ?_) (fun h => nm_r (nI_1 e) ?_) rfl rfl (by omega) (by omega)
    · have k := ih (e + 1) (by omega) m' (by omega)
      rw [tc_lw_s, Nat.min_eq_left h] at k
      exact k
    · have k := ih (e + 1) (by omega) m' (by omega)
      rw [tc_lw_s, Nat.min_eq_right (by omega)] at k
      exact k
theorem xtc_l_wp (ok : tc_ok S) {ro : Nat} (hb : ro < 24) {f_patternDepth : Int32} {f_patternNodes : Int32} {f_ruleCount : Int32} {f_entryCount : Int32} {f_treeDepth : Int32} {f_treeNodes : Int32} {f_stateCount : Int32} {f_coverLength : Int32} {f_pendingCount : Int32} {a_patternStack : Nat → Int32} {a_patternSymbol : Nat → Int32} {a_patternFirst : Nat → Int32} {a_patternLast : Nat → Int32} {a_patternEntry : Nat → Int32} {a_ruleLeft : Nat → Int32} {a_ruleCost : Nat → Int32} {a_ruleEntry : Nat → Int32} {a_ruleStart : Nat → Int32} {a_entryOperator : Nat → Int32} {a_entryFirst : Nat → Int32} {a_entryLast : Nat → Int32} {a_treeStack : Nat → Int32} {a_treeOperator : Nat → Int32} {a_treeFirst : Nat → Int32} {a_treeLast : Nat → Int32} {a_treeSize : Nat → Int32} {a_treeCosts : Nat → Int32} {a_treeWays : Nat → Int32} {a_stateCosts : Nat → Int32} {a_cover : Nat → Int32} {a_pendingEntry : Nat → Int32} {a_pendingNode : Nat → Int32} (hE : f_entryCount = nI (tc_E S)) {t : Nat → Nat} (hK : ∀ e, t e ≤ 536870912) (ht : tc_tr a_treeCosts (ro * 74) (tc_E S) t) (hp : post (nI (tc_lw 536870912 t (tc_E S)))) :
    wpX_leastOfRow__treeCosts post (f_patternDepth, f_patternNodes, f_ruleCount, f_entryCount, f_treeDepth, f_treeNodes, f_stateCount, f_coverLength, f_pendingCount, a_patternStack, a_patternSymbol, a_patternFirst, a_patternLast, a_patternEntry, a_ruleLeft, a_ruleCost, a_ruleEntry, a_ruleStart, a_entryOperator, a_entryFirst, a_entryLast, a_treeStack, a_treeOperator, a_treeFirst, a_treeLast, a_treeSize, a_treeCosts, a_treeWays, a_stateCosts, a_cover, a_pendingEntry, a_pendingNode) (nI ro) :=
  ⟨tc_E S + 1, xtc_l_6 ok hb hE hK ht hp (tc_E S) 0 (by omega) _ (by omega)⟩
theorem xtc_s_19 (ok : tc_ok S) {r1 r2 : Nat} (hb1 : r1 < 24) (hb2 : r2 < 24) {f_patternDepth : Int32} {f_patternNodes : Int32} {f_ruleCount : Int32} {f_entryCount : Int32} {f_treeDepth : Int32} {f_treeNodes : Int32} {f_stateCount : Int32} {f_coverLength : Int32} {f_pendingCount : Int32} {a_patternStack : Nat → Int32} {a_patternSymbol : Nat → Int32} {a_patternFirst : Nat → Int32} {a_patternLast : Nat → Int32} {a_patternEntry : Nat → Int32} {a_ruleLeft : Nat → Int32} {a_ruleCost : Nat → Int32} {a_ruleEntry : Nat → Int32} {a_ruleStart : Nat → Int32} {a_entryOperator : Nat → Int32} {a_entryFirst : Nat → Int32} {a_entryLast : Nat → Int32} {a_treeStack : Nat → Int32} {a_treeOperator : Nat → Int32} {a_treeFirst : Nat → Int32} {a_treeLast : Nat → Int32} {a_treeSize : Nat → Int32} {a_treeCosts : Nat → Int32} {a_treeWays : Nat → Int32} {a_stateCosts : Nat → Int32} {a_cover : Nat → Int32} {a_pendingEntry : Nat → Int32} {a_pendingNode : Nat → Int32} (hE : f_entryCount = nI (tc_E S)) {t u : Nat → Nat} (hK : ∀ e, t e ≤ 536870912) (hL : ∀ e, u e ≤ 536870912)
    (ht : tc_tr a_treeCosts (r1 * 74) (tc_E S) t) (hu : tc_tr a_treeCosts (r2 * 74) (tc_E S) u)
    (hp1 : tc_sa 536870912 (tc_E S) t u → post 1) (hp0 : ¬ tc_sa 536870912 (tc_E S) t u → post 0) :
    ∀ (d e : Nat), e + d = tc_E S → (∀ j, j < e → tc_sc 536870912 (tc_E S) t u j) → ∀ m, d < m →
    wX_sameState__treeCosts_19 post (nI r1) (nI r2) (nI (tc_lw 536870912 t (tc_E S))) (nI (tc_lw 536870912 u (tc_E S))) f_patternDepth f_patternNodes f_ruleCount f_entryCount f_treeDepth f_treeNodes f_stateCount f_coverLength f_pendingCount a_patternStack a_patternSymbol a_patternFirst a_patternLast a_patternEntry a_ruleLeft a_ruleCost a_ruleEntry a_ruleStart a_entryOperator a_entryFirst a_entryLast a_treeStack a_treeOperator a_treeFirst a_treeLast a_treeSize a_treeCosts a_treeWays a_stateCosts a_cover a_pendingEntry a_pendingNode m (nI e) := by
  subst hE
  have hE2 := tc_ok_E ok
  have b1 := (tc_lw_le (K := 536870912) (t := t) (tc_E S)).1
  have b2 := (tc_lw_le (K := 536870912) (t := u) (tc_E S)).1
  intro d
  induction d with
  | zero =>
    intro e hr hc m hm
    obtain ⟨m', rfl⟩ : ∃ m', m = m' + 1 := ⟨m - 1, by omega⟩
    have e1 : e = tc_E S := by omega
    subst e1
    exact br_t (nI_le (Nat.le_refl _) (by omega)) (hp1 hc)
  | succ d ih =>
    intro e hr hc m hm
    obtain ⟨m', rfl⟩ : ∃ m', m = m' + 1 := ⟨m - 1, by omega⟩
    have heE : e < tc_E S := by omega
    have w1 : nI r1 * 74 + nI e = nI (r1 * 74 + e) := by rw [show (74 : Int32) = nI 74 from rfl, pk_mul, nI_add]
    have w2 : nI r2 * 74 + nI e = nI (r2 * 74 + e) := by rw [show (74 : Int32) = nI 74 from rfl, pk_mul, nI_add]
    have h1 := hK e
    have h2 := hL e
    have go : tc_sc 536870912 (tc_E S) t u e → wX_sameState__treeCosts_19 post (nI r1) (nI r2) (nI (tc_lw 536870912 t (tc_E S))) (nI (tc_lw 536870912 u (tc_E S))) f_patternDepth f_patternNodes f_ruleCount (nI (tc_E S)) f_treeDepth f_treeNodes f_stateCount f_coverLength f_pendingCount a_patternStack a_patternSymbol a_patternFirst a_patternLast a_patternEntry a_ruleLeft a_ruleCost a_ruleEntry a_ruleStart a_entryOperator a_entryFirst a_entryLast a_treeStack a_treeOperator a_treeFirst a_treeLast a_treeSize a_treeCosts a_treeWays a_stateCosts a_cover a_pendingEntry a_pendingNode m' (nI (e + 1)) := fun hh =>
      ih (e + 1) (by omega) (fun j hj => by
        by_cases cj : j = e
        · rw [cj]; exact hh
        · exact hc j (by omega)) m' (by omega)
    have no : ¬ tc_sc 536870912 (tc_E S) t u e → post 0 := fun hh => hp0 (fun z => hh (z e heE))
    refine br_f (nI_ge heE (by omega)) ⟨by rw [w1]; exact vp_in_nI (by omega) (by decide), nm_r (e' := nI (t e)) (by rw [w1, nI_clamp (by omega)]; exact ht e heE) ⟨by rw [w2]; exact vp_in_nI (by omega) (by decide), nm_r (e' := nI (u e)) (by rw [w2, nI_clamp (by omega)]; exact hu e heE) ?_⟩⟩
    refine pk_eq (t e) 536870912 (fun ht1 => ?_) (fun ht1 => ?_) rfl rfl (by omega) (by omega)
    · refine pk_eq (u e) 536870912 (fun hu1 => ?_) (fun hu1 => ?_) rfl rfl (by omega) (by omega)
      · refine br_t rfl (br_t (by rw [ht1]; rfl) (nm_r (nI_1 e) (go ⟨⟨fun _ => hu1, fun _ => ht1⟩, fun h => absurd ht1 h⟩)))
      · exact br_f (by decide) (no (fun z => hu1 (z.1.mp ht1)))
    · refine pk_eq (u e) 536870912 (fun hu1 => ?_) (fun hu1 => ?_) rfl rfl (by omega) (by omega)
      · exact br_f (by decide) (no (fun z => ht1 (z.1.mpr hu1)))
      · refine br_t rfl (br_f (fun z => ht1 ((nI_eq (by omega) (by omega)).mp z)) ?_)
        by_cases q : t e + tc_lw 536870912 u (tc_E S) = u e + tc_lw 536870912 t (tc_E S)
        · exact br_t ((tc_subeq (by omega) (by omega) (by omega) (by omega)).mpr q) (nm_r (nI_1 e) (go ⟨⟨fun h => absurd h ht1, fun h => absurd h hu1⟩, fun _ => q⟩))
        · exact br_f (fun z => q ((tc_subeq (by omega) (by omega) (by omega) (by omega)).mp z)) (no (fun z => q (z.2 ht1)))
theorem xtc_s_wp (ok : tc_ok S) {r1 r2 : Nat} (hb1 : r1 < 24) (hb2 : r2 < 24) {f_patternDepth : Int32} {f_patternNodes : Int32} {f_ruleCount : Int32} {f_entryCount : Int32} {f_treeDepth : Int32} {f_treeNodes : Int32} {f_stateCount : Int32} {f_coverLength : Int32} {f_pendingCount : Int32} {a_patternStack : Nat → Int32} {a_patternSymbol : Nat → Int32} {a_patternFirst : Nat → Int32} {a_patternLast : Nat → Int32} {a_patternEntry : Nat → Int32} {a_ruleLeft : Nat → Int32} {a_ruleCost : Nat → Int32} {a_ruleEntry : Nat → Int32} {a_ruleStart : Nat → Int32} {a_entryOperator : Nat → Int32} {a_entryFirst : Nat → Int32} {a_entryLast : Nat → Int32} {a_treeStack : Nat → Int32} {a_treeOperator : Nat → Int32} {a_treeFirst : Nat → Int32} {a_treeLast : Nat → Int32} {a_treeSize : Nat → Int32} {a_treeCosts : Nat → Int32} {a_treeWays : Nat → Int32} {a_stateCosts : Nat → Int32} {a_cover : Nat → Int32} {a_pendingEntry : Nat → Int32} {a_pendingNode : Nat → Int32} (hE : f_entryCount = nI (tc_E S)) {t u : Nat → Nat} (hK : ∀ e, t e ≤ 536870912) (hL : ∀ e, u e ≤ 536870912)
    (ht : tc_tr a_treeCosts (r1 * 74) (tc_E S) t) (hu : tc_tr a_treeCosts (r2 * 74) (tc_E S) u)
    (hp1 : tc_sa 536870912 (tc_E S) t u → post 1) (hp0 : ¬ tc_sa 536870912 (tc_E S) t u → post 0) : wpX_sameState__treeCosts post (f_patternDepth, f_patternNodes, f_ruleCount, f_entryCount, f_treeDepth, f_treeNodes, f_stateCount, f_coverLength, f_pendingCount, a_patternStack, a_patternSymbol, a_patternFirst, a_patternLast, a_patternEntry, a_ruleLeft, a_ruleCost, a_ruleEntry, a_ruleStart, a_entryOperator, a_entryFirst, a_entryLast, a_treeStack, a_treeOperator, a_treeFirst, a_treeLast, a_treeSize, a_treeCosts, a_treeWays, a_stateCosts, a_cover, a_pendingEntry, a_pendingNode) (nI r1) (nI r2) := by
  unfold wpX_sameState__treeCosts
  refine xtc_l_wp ok hb1 hE hK ht ?_
  refine xtc_l_wp ok hb2 hE hL hu ?_
  exact ⟨tc_E S + 1, xtc_s_19 ok hb1 hb2 hE hK hL ht hu hp1 hp0 (tc_E S) 0 (by omega) (fun j hj => absurd hj (Nat.not_lt_zero _)) _ (by omega)⟩
end
end
section
section
variable {S : tc_S} {post : Int32 → Prop}
theorem xsc_l_6 (ok : tc_ok S) {ro : Nat} (hb : ro < 21) {f_patternDepth : Int32} {f_patternNodes : Int32} {f_ruleCount : Int32} {f_entryCount : Int32} {f_treeDepth : Int32} {f_treeNodes : Int32} {f_stateCount : Int32} {f_coverLength : Int32} {f_pendingCount : Int32} {a_patternStack : Nat → Int32} {a_patternSymbol : Nat → Int32} {a_patternFirst : Nat → Int32} {a_patternLast : Nat → Int32} {a_patternEntry : Nat → Int32} {a_ruleLeft : Nat → Int32} {a_ruleCost : Nat → Int32} {a_ruleEntry : Nat → Int32} {a_ruleStart : Nat → Int32} {a_entryOperator : Nat → Int32} {a_entryFirst : Nat → Int32} {a_entryLast : Nat → Int32} {a_treeStack : Nat → Int32} {a_treeOperator : Nat → Int32} {a_treeFirst : Nat → Int32} {a_treeLast : Nat → Int32} {a_treeSize : Nat → Int32} {a_treeCosts : Nat → Int32} {a_treeWays : Nat → Int32} {a_stateCosts : Nat → Int32} {a_cover : Nat → Int32} {a_pendingEntry : Nat → Int32} {a_pendingNode : Nat → Int32} (hE : f_entryCount = nI (tc_E S)) {t : Nat → Nat} (hK : ∀ e, t e ≤ 536870912) (ht : tc_tr a_stateCosts (ro * 74) (tc_E S) t) (hp : post (nI (tc_lw 536870912 t (tc_E S)))) :
    ∀ (d e : Nat), e + d = tc_E S → ∀ m, d < m → wX_leastOfRow__stateCosts_6 post (nI ro) f_patternDepth f_patternNodes f_ruleCount f_entryCount f_treeDepth f_treeNodes f_stateCount f_coverLength f_pendingCount a_patternStack a_patternSymbol a_patternFirst a_patternLast a_patternEntry a_ruleLeft a_ruleCost a_ruleEntry a_ruleStart a_entryOperator a_entryFirst a_entryLast a_treeStack a_treeOperator a_treeFirst a_treeLast a_treeSize a_treeCosts a_treeWays a_stateCosts a_cover a_pendingEntry a_pendingNode m (nI (tc_lw 536870912 t e)) (nI e) := by
  subst hE
  have hE2 := tc_ok_E ok
  intro d
  induction d with
  | zero =>
    intro e hr m hm
    obtain ⟨m', rfl⟩ : ∃ m', m = m' + 1 := ⟨m - 1, by omega⟩
    have e1 : e = tc_E S := by omega
    subst e1
    exact br_t (nI_le (Nat.le_refl _) (by omega)) hp
  | succ d ih =>
    intro e hr m hm
    obtain ⟨m', rfl⟩ : ∃ m', m = m' + 1 := ⟨m - 1, by omega⟩
    have heE : e < tc_E S := by omega
    have w : nI ro * 74 + nI e = nI (ro * 74 + e) := by rw [show (74 : Int32) = nI 74 from rfl, pk_mul, nI_add]
    have h1 := (tc_lw_le (K := 536870912) (t := t) e).1
    have h2 := hK e
    refine br_f (nI_ge heE (by omega)) ⟨by rw [w]; exact vp_in_nI (by omega) (by decide), nm_r (e' := nI (t e)) (by rw [w, nI_clamp (by omega)]; exact ht e heE) ?_⟩
    refine pk_le (tc_lw 536870912 t e) (t e) (fun h => nm_r (nI_1 e) ?_) (fun h => nm_r (nI_1 e) ?_) rfl rfl (by omega) (by omega)
    · have k := ih (e + 1) (by omega) m' (by omega)
      rw [tc_lw_s, Nat.min_eq_left h] at k
      exact k
    · have k := ih (e + 1) (by omega) m' (by omega)
      rw [tc_lw_s, Nat.min_eq_right (by omega)] at k
      exact k
theorem xsc_l_wp (ok : tc_ok S) {ro : Nat} (hb : ro < 21) {f_patternDepth : Int32} {f_patternNodes : Int32} {f_ruleCount : Int32} {f_entryCount : Int32} {f_treeDepth : Int32} {f_treeNodes : Int32} {f_stateCount : Int32} {f_coverLength : Int32} {f_pendingCount : Int32} {a_patternStack : Nat → Int32} {a_patternSymbol : Nat → Int32} {a_patternFirst : Nat → Int32} {a_patternLast : Nat → Int32} {a_patternEntry : Nat → Int32} {a_ruleLeft : Nat → Int32} {a_ruleCost : Nat → Int32} {a_ruleEntry : Nat → Int32} {a_ruleStart : Nat → Int32} {a_entryOperator : Nat → Int32} {a_entryFirst : Nat → Int32} {a_entryLast : Nat → Int32} {a_treeStack : Nat → Int32} {a_treeOperator : Nat → Int32} {a_treeFirst : Nat → Int32} {a_treeLast : Nat → Int32} {a_treeSize : Nat → Int32} {a_treeCosts : Nat → Int32} {a_treeWays : Nat → Int32} {a_stateCosts : Nat → Int32} {a_cover : Nat → Int32} {a_pendingEntry : Nat → Int32} {a_pendingNode : Nat → Int32} (hE : f_entryCount = nI (tc_E S)) {t : Nat → Nat} (hK : ∀ e, t e ≤ 536870912) (ht : tc_tr a_stateCosts (ro * 74) (tc_E S) t) (hp : post (nI (tc_lw 536870912 t (tc_E S)))) :
    wpX_leastOfRow__stateCosts post (f_patternDepth, f_patternNodes, f_ruleCount, f_entryCount, f_treeDepth, f_treeNodes, f_stateCount, f_coverLength, f_pendingCount, a_patternStack, a_patternSymbol, a_patternFirst, a_patternLast, a_patternEntry, a_ruleLeft, a_ruleCost, a_ruleEntry, a_ruleStart, a_entryOperator, a_entryFirst, a_entryLast, a_treeStack, a_treeOperator, a_treeFirst, a_treeLast, a_treeSize, a_treeCosts, a_treeWays, a_stateCosts, a_cover, a_pendingEntry, a_pendingNode) (nI ro) :=
  ⟨tc_E S + 1, xsc_l_6 ok hb hE hK ht hp (tc_E S) 0 (by omega) _ (by omega)⟩
theorem xsc_s_19 (ok : tc_ok S) {r1 r2 : Nat} (hb1 : r1 < 21) (hb2 : r2 < 21) {f_patternDepth : Int32} {f_patternNodes : Int32} {f_ruleCount : Int32} {f_entryCount : Int32} {f_treeDepth : Int32} {f_treeNodes : Int32} {f_stateCount : Int32} {f_coverLength : Int32} {f_pendingCount : Int32} {a_patternStack : Nat → Int32} {a_patternSymbol : Nat → Int32} {a_patternFirst : Nat → Int32} {a_patternLast : Nat → Int32} {a_patternEntry : Nat → Int32} {a_ruleLeft : Nat → Int32} {a_ruleCost : Nat → Int32} {a_ruleEntry : Nat → Int32} {a_ruleStart : Nat → Int32} {a_entryOperator : Nat → Int32} {a_entryFirst : Nat → Int32} {a_entryLast : Nat → Int32} {a_treeStack : Nat → Int32} {a_treeOperator : Nat → Int32} {a_treeFirst : Nat → Int32} {a_treeLast : Nat → Int32} {a_treeSize : Nat → Int32} {a_treeCosts : Nat → Int32} {a_treeWays : Nat → Int32} {a_stateCosts : Nat → Int32} {a_cover : Nat → Int32} {a_pendingEntry : Nat → Int32} {a_pendingNode : Nat → Int32} (hE : f_entryCount = nI (tc_E S)) {t u : Nat → Nat} (hK : ∀ e, t e ≤ 536870912) (hL : ∀ e, u e ≤ 536870912)
    (ht : tc_tr a_stateCosts (r1 * 74) (tc_E S) t) (hu : tc_tr a_stateCosts (r2 * 74) (tc_E S) u)
    (hp1 : tc_sa 536870912 (tc_E S) t u → post 1) (hp0 : ¬ tc_sa 536870912 (tc_E S) t u → post 0) :
    ∀ (d e : Nat), e + d = tc_E S → (∀ j, j < e → tc_sc 536870912 (tc_E S) t u j) → ∀ m, d < m →
    wX_sameState__stateCosts_19 post (nI r1) (nI r2) (nI (tc_lw 536870912 t (tc_E S))) (nI (tc_lw 536870912 u (tc_E S))) f_patternDepth f_patternNodes f_ruleCount f_entryCount f_treeDepth f_treeNodes f_stateCount f_coverLength f_pendingCount a_patternStack a_patternSymbol a_patternFirst a_patternLast a_patternEntry a_ruleLeft a_ruleCost a_ruleEntry a_ruleStart a_entryOperator a_entryFirst a_entryLast a_treeStack a_treeOperator a_treeFirst a_treeLast a_treeSize a_treeCosts a_treeWays a_stateCosts a_cover a_pendingEntry a_pendingNode m (nI e) := by
  subst hE
  have hE2 := tc_ok_E ok
  have b1 := (tc_lw_le (K := 536870912) (t := t) (tc_E S)).1
  have b2 := (tc_lw_le (K := 536870912) (t := u) (tc_E S)).1
  intro d
  induction d with
  | zero =>
    intro e hr hc m hm
    obtain ⟨m', rfl⟩ : ∃ m', m = m' + 1 := ⟨m - 1, by omega⟩
    have e1 : e = tc_E S := by omega
    subst e1
    exact br_t (nI_le (Nat.le_refl _) (by omega)) (hp1 hc)
  | succ d ih =>
    intro e hr hc m hm
    obtain ⟨m', rfl⟩ : ∃ m', m = m' + 1 := ⟨m - 1, by omega⟩
    have heE : e < tc_E S := by omega
    have w1 : nI r1 * 74 + nI e = nI (r1 * 74 + e) := by rw [show (74 : Int32) = nI 74 from rfl, pk_mul, nI_add]
    have w2 : nI r2 * 74 + nI e = nI (r2 * 74 + e) := by rw [show (74 : Int32) = nI 74 from rfl, pk_mul, nI_add]
    have h1 := hK e
    have h2 := hL e
    have go : tc_sc 536870912 (tc_E S) t u e → wX_sameState__stateCosts_19 post (nI r1) (nI r2) (nI (tc_lw 536870912 t (tc_E S))) (nI (tc_lw 536870912 u (tc_E S))) f_patternDepth f_patternNodes f_ruleCount (nI (tc_E S)) f_treeDepth f_treeNodes f_stateCount f_coverLength f_pendingCount a_patternStack a_patternSymbol a_patternFirst a_patternLast a_patternEntry a_ruleLeft a_ruleCost a_ruleEntry a_ruleStart a_entryOperator a_entryFirst a_entryLast a_treeStack a_treeOperator a_treeFirst a_treeLast a_treeSize a_treeCosts a_treeWays a_stateCosts a_cover a_pendingEntry a_pendingNode m' (nI (e + 1)) := fun hh =>
      ih (e + 1) (by omega) (fun j hj => by
        by_cases cj : j = e
        · rw [cj]; exact hh
        · exact hc j (by omega)) m' (by omega)
    have no : ¬ tc_sc 536870912 (tc_E S) t u e → post 0 := fun hh => hp0 (fun z => hh (z e heE))
    refine br_f (nI_ge heE (by omega)) ⟨by rw [w1]; exact vp_in_nI (by omega) (by decide), nm_r (e' := nI (t e)) (by rw [w1, nI_clamp (by omega)]; exact ht e heE) ⟨by rw [w2]; exact vp_in_nI (by omega) (by decide), nm_r (e' := nI (u e)) (by rw [w2, nI_clamp (by omega)]; exact hu e heE) ?_⟩⟩
    refine pk_eq (t e) 536870912 (fun ht1 => ?_) (fun ht1 => ?_) rfl rfl (by omega) (by omega)
    · refine pk_eq (u e) 536870912 (fun hu1 => ?_) (fun hu1 => ?_) rfl rfl (by omega) (by omega)
      · refine br_t rfl (br_t (by rw [ht1]; rfl) (nm_r (nI_1 e) (go ⟨⟨fun _ => hu1, fun _ => ht1⟩, fun h => absurd ht1 h⟩)))
      · exact br_f (by decide) (no (fun z => hu1 (z.1.mp ht1)))
    · refine pk_eq (u e) 536870912 (fun hu1 => ?_) (fun hu1 => ?_) rfl rfl (by omega) (by omega)
      · exact br_f (by decide) (no (fun z => ht1 (z.1.mpr hu1)))
      · refine br_t rfl (br_f (fun z => ht1 ((nI_eq (by omega) (by omega)).mp z)) ?_)
        by_cases q : t e + tc_lw 536870912 u (tc_E S) = u e + tc_lw 536870912 t (tc_E S)
        · exact br_t ((tc_subeq (by omega) (by omega) (by omega) (by omega)).mpr q) (nm_r (nI_1 e) (go ⟨⟨fun h => absurd h ht1, fun h => absurd h hu1⟩, fun _ => q⟩))
        · exact br_f (fun z => q ((tc_subeq (by omega) (by omega) (by omega) (by omega)).mp z)) (no (fun z => q (z.2 ht1)))
theorem xsc_s_wp (ok : tc_ok S) {r1 r2 : Nat} (hb1 : r1 < 21) (hb2 : r2 < 21) {f_patternDepth : Int32} {f_patternNodes : Int32} {f_ruleCount : Int32} {f_entryCount : Int32} {f_treeDepth : Int32} {f_treeNodes : Int32} {f_stateCount : Int32} {f_coverLength : Int32} {f_pendingCount : Int32} {a_patternStack : Nat → Int32} {a_patternSymbol : Nat → Int32} {a_patternFirst : Nat → Int32} {a_patternLast : Nat → Int32} {a_patternEntry : Nat → Int32} {a_ruleLeft : Nat → Int32} {a_ruleCost : Nat → Int32} {a_ruleEntry : Nat → Int32} {a_ruleStart : Nat → Int32} {a_entryOperator : Nat → Int32} {a_entryFirst : Nat → Int32} {a_entryLast : Nat → Int32} {a_treeStack : Nat → Int32} {a_treeOperator : Nat → Int32} {a_treeFirst : Nat → Int32} {a_treeLast : Nat → Int32} {a_treeSize : Nat → Int32} {a_treeCosts : Nat → Int32} {a_treeWays : Nat → Int32} {a_stateCosts : Nat → Int32} {a_cover : Nat → Int32} {a_pendingEntry : Nat → Int32} {a_pendingNode : Nat → Int32} (hE : f_entryCount = nI (tc_E S)) {t u : Nat → Nat} (hK : ∀ e, t e ≤ 536870912) (hL : ∀ e, u e ≤ 536870912)
    (ht : tc_tr a_stateCosts (r1 * 74) (tc_E S) t) (hu : tc_tr a_stateCosts (r2 * 74) (tc_E S) u)
    (hp1 : tc_sa 536870912 (tc_E S) t u → post 1) (hp0 : ¬ tc_sa 536870912 (tc_E S) t u → post 0) : wpX_sameState__stateCosts post (f_patternDepth, f_patternNodes, f_ruleCount, f_entryCount, f_treeDepth, f_treeNodes, f_stateCount, f_coverLength, f_pendingCount, a_patternStack, a_patternSymbol, a_patternFirst, a_patternLast, a_patternEntry, a_ruleLeft, a_ruleCost, a_ruleEntry, a_ruleStart, a_entryOperator, a_entryFirst, a_entryLast, a_treeStack, a_treeOperator, a_treeFirst, a_treeLast, a_treeSize, a_treeCosts, a_treeWays, a_stateCosts, a_cover, a_pendingEntry, a_pendingNode) (nI r1) (nI r2) := by
  unfold wpX_sameState__stateCosts
  refine xsc_l_wp ok hb1 hE hK ht ?_
  refine xsc_l_wp ok hb2 hE hL hu ?_
  exact ⟨tc_E S + 1, xsc_s_19 ok hb1 hb2 hE hK hL ht hu hp1 hp0 (tc_E S) 0 (by omega) (fun j hj => absurd hj (Nat.not_lt_zero _)) _ (by omega)⟩
end
end
section
/-! X's trees -/
def tc_xt (tn td : Nat) (ty tz tk : Nat → Nat) (d n : Int32) (st op fi la sz : Nat → Int32) : Prop :=
  d = nI td ∧ n = nI tn ∧ (∀ k, k < td → st k = nI (tk k)) ∧
  ∀ i, i < tn → op i = nI (ty i) ∧ sz i = nI (tz i) ∧ (2 ≤ ty i → la i = nI (i - 1)) ∧ (4 ≤ ty i → fi i = nI (i - 1 - tz (i - 1)))
/-- the rows of all trees -/
def tc_rows (S : tc_S) (K : Nat) (ty tz : Nat → Nat) (a : Nat → Int32) (n : Nat) : Prop := ∀ m, m < n → tc_tr a (m * 74) (tc_E S) (tc_v S K ty tz m)
/-- what is asked for the top tree -/
def tc_tp (S : tc_S) (K : Nat) (ty tz : Nat → Nat) (tn td g : Nat) : Nat := if td = 0 then K else tc_v S K ty tz (tn - 1) g
section
variable {S : tc_S} {tn td : Nat} {ty tz tk : Nat → Nat}
theorem xq_ft_2 (ok : tc_ok S) (hn : tc_tn ty tz tn) (hN : tn ≤ 24) {post : SX → Prop} {f_patternDepth : Int32} {f_patternNodes : Int32} {f_ruleCount : Int32} {f_entryCount : Int32} {f_treeDepth : Int32} {f_treeNodes : Int32} {f_stateCount : Int32} {f_coverLength : Int32} {f_pendingCount : Int32} {a_patternStack : Nat → Int32} {a_patternSymbol : Nat → Int32} {a_patternFirst : Nat → Int32} {a_patternLast : Nat → Int32} {a_patternEntry : Nat → Int32} {a_ruleLeft : Nat → Int32} {a_ruleCost : Nat → Int32} {a_ruleEntry : Nat → Int32} {a_ruleStart : Nat → Int32} {a_entryOperator : Nat → Int32} {a_entryFirst : Nat → Int32} {a_entryLast : Nat → Int32} {a_treeStack : Nat → Int32} {a_treeOperator : Nat → Int32} {a_treeFirst : Nat → Int32} {a_treeLast : Nat → Int32} {a_treeSize : Nat → Int32} {a_treeWays : Nat → Int32} {a_stateCosts : Nat → Int32} {a_cover : Nat → Int32} {a_pendingEntry : Nat → Int32} {a_pendingNode : Nat → Int32} (hx : tc_xr S f_ruleCount f_entryCount a_ruleLeft a_ruleCost a_ruleEntry a_ruleStart a_entryOperator a_entryFirst a_entryLast)
    (ht : tc_xt tn td ty tz tk f_treeDepth f_treeNodes a_treeStack a_treeOperator a_treeFirst a_treeLast a_treeSize) :
    ∀ (d i : Nat), i + d = tn → ∀ a_treeCosts : Nat → Int32, tc_rows S 536870912 ty tz a_treeCosts i → (∀ a', tc_rows S 536870912 ty tz a' tn → post (f_patternDepth, f_patternNodes, f_ruleCount, f_entryCount, f_treeDepth, f_treeNodes, f_stateCount, f_coverLength, f_pendingCount, a_patternStack, a_patternSymbol, a_patternFirst, a_patternLast, a_patternEntry, a_ruleLeft, a_ruleCost, a_ruleEntry, a_ruleStart, a_entryOperator, a_entryFirst, a_entryLast, a_treeStack, a_treeOperator, a_treeFirst, a_treeLast, a_treeSize, a', a_treeWays, a_stateCosts, a_cover, a_pendingEntry, a_pendingNode)) →
    ∀ m, d < m → wX_fillTreeCosts_2 post m (nI i) f_patternDepth f_patternNodes f_ruleCount f_entryCount f_treeDepth f_treeNodes f_stateCount f_coverLength f_pendingCount a_patternStack a_patternSymbol a_patternFirst a_patternLast a_patternEntry a_ruleLeft a_ruleCost a_ruleEntry a_ruleStart a_entryOperator a_entryFirst a_entryLast a_treeStack a_treeOperator a_treeFirst a_treeLast a_treeSize a_treeCosts a_treeWays a_stateCosts a_cover a_pendingEntry a_pendingNode := by
  have hE := tc_ok_E ok
  intro d
  induction d with
  | zero =>
    intro i hi a_treeCosts hr hp m hm
    obtain ⟨m', rfl⟩ : ∃ m', m = m' + 1 := ⟨m - 1, by omega⟩
    have e : i = tn := by omega
    subst e
    exact br_t (by rw [ht.2.1]; exact nI_le (Nat.le_refl _) (by omega)) (hp _ hr)
  | succ d ih =>
    intro i hi a_treeCosts hr hp m hm
    obtain ⟨m', rfl⟩ : ∃ m', m = m' + 1 := ⟨m - 1, by omega⟩
    have hit : i < tn := by omega
    obtain ⟨h6, n1, n2, n3, n4, n5, n6, n7⟩ := hn i hit
    obtain ⟨t1, t2, t3, t4⟩ := ht.2.2.2 i hit
    have c : (nI i).toNatClampNeg = i := nI_clamp (by omega)
    refine br_f (by rw [ht.2.1]; exact nI_ge hit (by omega)) ⟨vp_in_nI (by omega) (by decide), vp_in_nI (by omega) (by decide), vp_in_nI (by omega) (by decide), ?_⟩
    rw [c, t1]
    refine xtc_f_wp ok (by omega) h6 (x := tc_v S 536870912 ty tz (i - 1 - tz (i - 1))) (y := tc_v S 536870912 ty tz (i - 1)) hx (fun h2 => ?_) (fun h4 => ?_) (fun a' hf hra => ?_)
    · have hi1 := n3 h2 h6
      refine ⟨i - 1, t3 h2, by omega, by omega, fun e he => ⟨hr (i - 1) (by omega) e he, tc_v_le (fun h => (hn (i - 1) (by omega)).2.2.2.1 h (hn (i - 1) (by omega)).1) e⟩⟩
    · have hi1 := n3 (by omega) h6
      have hi2 := n4 h4 h6
      refine ⟨i - 1 - tz (i - 1), t4 h4, by omega, by omega, fun e he => ⟨hr (i - 1 - tz (i - 1)) (by omega) e he, tc_v_le (fun h => (hn (i - 1 - tz (i - 1)) (by omega)).2.2.2.1 h (hn (i - 1 - tz (i - 1)) (by omega)).1) e⟩⟩
    · refine nm_r (nI_1 i) (ih (i + 1) (by omega) a' (fun k hk => ?_) hp m' (by omega))
      by_cases e : k = i
      · rw [e, tc_v_eq (fun h => n3 h h6)]
        exact hra
      · intro j hj
        rw [hf _ (by omega)]
        exact hr k (by omega) j hj
theorem xq_ft (ok : tc_ok S) (hn : tc_tn ty tz tn) (hN : tn ≤ 24) {post : SX → Prop} {f_patternDepth : Int32} {f_patternNodes : Int32} {f_ruleCount : Int32} {f_entryCount : Int32} {f_treeDepth : Int32} {f_treeNodes : Int32} {f_stateCount : Int32} {f_coverLength : Int32} {f_pendingCount : Int32} {a_patternStack : Nat → Int32} {a_patternSymbol : Nat → Int32} {a_patternFirst : Nat → Int32} {a_patternLast : Nat → Int32} {a_patternEntry : Nat → Int32} {a_ruleLeft : Nat → Int32} {a_ruleCost : Nat → Int32} {a_ruleEntry : Nat → Int32} {a_ruleStart : Nat → Int32} {a_entryOperator : Nat → Int32} {a_entryFirst : Nat → Int32} {a_entryLast : Nat → Int32} {a_treeStack : Nat → Int32} {a_treeOperator : Nat → Int32} {a_treeFirst : Nat → Int32} {a_treeLast : Nat → Int32} {a_treeSize : Nat → Int32} {a_treeCosts : Nat → Int32} {a_treeWays : Nat → Int32} {a_stateCosts : Nat → Int32} {a_cover : Nat → Int32} {a_pendingEntry : Nat → Int32} {a_pendingNode : Nat → Int32} (hx : tc_xr S f_ruleCount f_entryCount a_ruleLeft a_ruleCost a_ruleEntry a_ruleStart a_entryOperator a_entryFirst a_entryLast)
    (ht : tc_xt tn td ty tz tk f_treeDepth f_treeNodes a_treeStack a_treeOperator a_treeFirst a_treeLast a_treeSize)
    (hp : ∀ a', tc_rows S 536870912 ty tz a' tn → post (f_patternDepth, f_patternNodes, f_ruleCount, f_entryCount, f_treeDepth, f_treeNodes, f_stateCount, f_coverLength, f_pendingCount, a_patternStack, a_patternSymbol, a_patternFirst, a_patternLast, a_patternEntry, a_ruleLeft, a_ruleCost, a_ruleEntry, a_ruleStart, a_entryOperator, a_entryFirst, a_entryLast, a_treeStack, a_treeOperator, a_treeFirst, a_treeLast, a_treeSize, a', a_treeWays, a_stateCosts, a_cover, a_pendingEntry, a_pendingNode)) : wpX_fillTreeCosts post (f_patternDepth, f_patternNodes, f_ruleCount, f_entryCount, f_treeDepth, f_treeNodes, f_stateCount, f_coverLength, f_pendingCount, a_patternStack, a_patternSymbol, a_patternFirst, a_patternLast, a_patternEntry, a_ruleLeft, a_ruleCost, a_ruleEntry, a_ruleStart, a_entryOperator, a_entryFirst, a_entryLast, a_treeStack, a_treeOperator, a_treeFirst, a_treeLast, a_treeSize, a_treeCosts, a_treeWays, a_stateCosts, a_cover, a_pendingEntry, a_pendingNode) :=
  ⟨tn + 1, xq_ft_2 ok hn hN hx ht tn 0 (by omega) a_treeCosts (fun m hm => absurd hm (Nat.not_lt_zero _)) hp _ (by omega)⟩
theorem xq_top (ok : tc_ok S) (hF : tc_fo tn td ty tz tk) (h6 : ∀ i, i < tn → ty i < 6) (hN : tn ≤ 24) (hD : td ≤ 8) {g : Nat} (hg : g < 4) {post : Int32 → SX → Prop} {f_patternDepth : Int32} {f_patternNodes : Int32} {f_ruleCount : Int32} {f_entryCount : Int32} {f_treeDepth : Int32} {f_treeNodes : Int32} {f_stateCount : Int32} {f_coverLength : Int32} {f_pendingCount : Int32} {a_patternStack : Nat → Int32} {a_patternSymbol : Nat → Int32} {a_patternFirst : Nat → Int32} {a_patternLast : Nat → Int32} {a_patternEntry : Nat → Int32} {a_ruleLeft : Nat → Int32} {a_ruleCost : Nat → Int32} {a_ruleEntry : Nat → Int32} {a_ruleStart : Nat → Int32} {a_entryOperator : Nat → Int32} {a_entryFirst : Nat → Int32} {a_entryLast : Nat → Int32} {a_treeStack : Nat → Int32} {a_treeOperator : Nat → Int32} {a_treeFirst : Nat → Int32} {a_treeLast : Nat → Int32} {a_treeSize : Nat → Int32} {a_treeCosts : Nat → Int32} {a_treeWays : Nat → Int32} {a_stateCosts : Nat → Int32} {a_cover : Nat → Int32} {a_pendingEntry : Nat → Int32} {a_pendingNode : Nat → Int32}
    (hx : tc_xr S f_ruleCount f_entryCount a_ruleLeft a_ruleCost a_ruleEntry a_ruleStart a_entryOperator a_entryFirst a_entryLast)
    (ht : tc_xt tn td ty tz tk f_treeDepth f_treeNodes a_treeStack a_treeOperator a_treeFirst a_treeLast a_treeSize)
    (hp : ∀ a', (0 < td → tc_rows S 536870912 ty tz a' tn) → post (nI (tc_tp S 536870912 ty tz tn td g)) (f_patternDepth, f_patternNodes, f_ruleCount, f_entryCount, f_treeDepth, f_treeNodes, f_stateCount, f_coverLength, f_pendingCount, a_patternStack, a_patternSymbol, a_patternFirst, a_patternLast, a_patternEntry, a_ruleLeft, a_ruleCost, a_ruleEntry, a_ruleStart, a_entryOperator, a_entryFirst, a_entryLast, a_treeStack, a_treeOperator, a_treeFirst, a_treeLast, a_treeSize, a', a_treeWays, a_stateCosts, a_cover, a_pendingEntry, a_pendingNode)) : wpX_leastForTop post (f_patternDepth, f_patternNodes, f_ruleCount, f_entryCount, f_treeDepth, f_treeNodes, f_stateCount, f_coverLength, f_pendingCount, a_patternStack, a_patternSymbol, a_patternFirst, a_patternLast, a_patternEntry, a_ruleLeft, a_ruleCost, a_ruleEntry, a_ruleStart, a_entryOperator, a_entryFirst, a_entryLast, a_treeStack, a_treeOperator, a_treeFirst, a_treeLast, a_treeSize, a_treeCosts, a_treeWays, a_stateCosts, a_cover, a_pendingEntry, a_pendingNode) (nI g) := by
  have hn : tc_tn ty tz tn := fun i hi => ⟨h6 i hi, hF.2.2.2.2.2 i hi⟩
  have hE := tc_ok_E ok
  refine pk_eq td 0 (fun h => ?_) (fun h => ?_) ht.1 rfl (by omega) (by omega)
  · have k := hp a_treeCosts (fun z => by omega)
    unfold tc_tp at k
    rw [if_pos h] at k
    exact k
  · obtain ⟨s1, s2⟩ := tc_fo_t1 hF (by omega)
    refine xq_ft ok hn hN hx ht (fun a' ha => ?_)
    have w : f_treeDepth - 1 = nI (td - 1) := by rw [ht.1, show (1 : Int32) = nI 1 from rfl, pk_sub (by omega)]
    have w2 : a_treeStack (f_treeDepth - 1).toNatClampNeg * 74 + nI g = nI ((tn - 1) * 74 + g) := by
      rw [w, nI_clamp (by omega), ht.2.2.1 (td - 1) (by omega), s2, show (74 : Int32) = nI 74 from rfl, pk_mul, nI_add]
    have k := hp a' (fun _ => ha)
    unfold tc_tp at k
    rw [if_neg h] at k
    refine ⟨by rw [w]; exact vp_in_nI (by omega) (by decide), by rw [w2]; exact vp_in_nI (by omega) (by decide), ?_⟩
    rw [w2, nI_clamp (by omega), ha (tn - 1) (by omega) g (by omega)]
    exact k
end
theorem xm_goal_lo {post : Int32 → Prop} {g : Int32} (h : g < 0) (hp : post 0) : wpX_isGoal post g := br_t h hp
theorem xm_goal_hi {post : Int32 → Prop} {g : Int32} (h : nI 4 ≤ g) (hp : post 0) : wpX_isGoal post g := br_f (fun z => by
  have h2 : (0 : Int32) < 4 := by decide
  exact absurd (Int32.lt_of_lt_of_le h2 (Int32.le_trans h (Int32.le_of_lt z))) (by decide)) (br_t h hp)
theorem xm_goal_ok {post : Int32 → Prop} {g : Nat} (h : g < 4) (hp : post 1) : wpX_isGoal post (nI g) := br_f (nI_pos (by omega)) (br_f (nI_ge (b := 4) h (by decide)) hp)
theorem xm_oper_lo {post : Int32 → Prop} {g : Int32} (h : g < 0) (hp : post 0) : wpX_isOperator post g := br_t h hp
theorem xm_oper_hi {post : Int32 → Prop} {g : Int32} (h : nI 6 ≤ g) (hp : post 0) : wpX_isOperator post g := br_f (fun z => by
  have h2 : (0 : Int32) < 6 := by decide
  exact absurd (Int32.lt_of_lt_of_le h2 (Int32.le_trans h (Int32.le_of_lt z))) (by decide)) (br_t h hp)
theorem xm_oper_ok {post : Int32 → Prop} {g : Nat} (h : g < 6) (hp : post 1) : wpX_isOperator post (nI g) := br_f (nI_pos (by omega)) (br_f (nI_ge (b := 6) h (by decide)) hp)
end
section
/-! Y's arrays hold the ghosts: len r nodes in rule r, ent r i the entry of its node i -/
def tc_ym (S : tc_S) (ent : Nat → Nat → Nat) (mk sz : Nat → Int32) (r i : Nat) : Prop :=
  (∃ g, g < 4 ∧ mk (7 * r + i) = nI (10 + g) ∧ ent r i = g) ∨
  (∃ o, o < 6 ∧ mk (7 * r + i) = nI o ∧ 4 ≤ ent r i ∧ ent r i < tc_sr S (r + 1) ∧ tc_eo S (ent r i) = o ∧ (2 ≤ o → 1 ≤ i ∧ tc_el S (ent r i) = ent r (i - 1)) ∧
    (4 ≤ o → ∃ s, sz (7 * r + i - 1) = nI s ∧ 1 ≤ s ∧ s < i ∧ tc_ef S (ent r i) = ent r (i - 1 - s)))
def tc_yr (S : tc_S) (len : Nat → Nat) (ent : Nat → Nat → Nat) (ru : Int32) (le co ln mk sz : Nat → Int32) : Prop :=
  ru = nI (tc_R S) ∧ (∀ r, r < tc_R S → le r = nI (tc_lf S r) ∧ co r = nI (tc_co S r) ∧ ln r = nI (len r) ∧ 1 ≤ len r ∧ len r ≤ 7 ∧ ent r (len r - 1) = tc_rt S r ∧ ∀ i, i < len r → tc_ym S ent mk sz r i) ∧
  (∀ r e, r < tc_R S → tc_sr S r ≤ e → e < tc_sr S (r + 1) → ∃ i, i < len r ∧ ent r i = e)
/-- a row of least -/
def tc_yw (S : tc_S) (len : Nat → Nat) (ent : Nat → Nat → Nat) (a : Nat → Int32) (n : Nat) (t : Nat → Nat) : Prop :=
  (∀ g, g < 4 → a (74 * n + g) = nI (t g)) ∧ ∀ r, r < tc_R S → ∀ i, i < len r → a (74 * n + 4 + 7 * r + i) = nI (t (ent r i))
theorem tc_yr_ent {S : tc_S} {len : Nat → Nat} {ent : Nat → Nat → Nat} {ru : Int32} {le co ln mk sz : Nat → Int32} (ok : tc_ok S) (h : tc_yr S len ent ru le co ln mk sz) {r i : Nat} (hr : r < tc_R S) (hi : i < len r) : ent r i < tc_E S := by
  have hE := tc_ok_E ok
  have h2 := tc_ok_up ok (tc_R S - (r + 1)) (r + 1) (by omega)
  rcases (h.2.1 r hr).2.2.2.2.2.2 i hi with ⟨g, a, b, c⟩ | ⟨o, a, b, c, d, e⟩
  · omega
  · omega
theorem tc_yw_fr {S : tc_S} {len : Nat → Nat} {ent : Nat → Nat → Nat} {ru : Int32} {le co ln mk sz : Nat → Int32} (ok : tc_ok S) (h : tc_yr S len ent ru le co ln mk sz) {a a' : Nat → Int32} {n x : Nat} {t : Nat → Nat}
    (hf : tc_fr a a' (74 * n)) (hx : x ≠ n) (hw : tc_yw S len ent a x t) : tc_yw S len ent a' x t := by
  have hR := ok.1
  refine ⟨fun g hg => ?_, fun r hr i hi => ?_⟩
  · rw [hf _ (by omega)]
    exact hw.1 g hg
  · have hl := (h.2.1 r hr).2.2.2.2.1
    rw [hf _ (by omega)]
    exact hw.2 r hr i hi
section
variable {S : tc_S} {len : Nat → Nat} {ent : Nat → Nat → Nat}
theorem yc_pc (ok : tc_ok S) {post : Int32 → Prop} {f_noted : Int32} {f_depth : Int32} {f_rules : Int32} {f_planted : Int32} {f_trees : Int32} {f_stateCount : Int32} {f_known : Int32} {f_listed : Int32} {a_marks : Nat → Int32} {a_sizes : Nat → Int32} {a_lefts : Nat → Int32} {a_costs : Nat → Int32} {a_lengths : Nat → Int32} {a_operators : Nat → Int32} {a_spans : Nat → Int32} {a_least : Nat → Int32} {a_ways : Nat → Int32} {a_tasks : Nat → Int32} {a_list : Nat → Int32} (hy : tc_yr S len ent f_rules a_lefts a_costs a_lengths a_marks a_sizes)
    {n o x y r i : Nat} (hn : n < 46) (ho : o < 6) (hx : x < 46) (hyy : y < 46) (hr : r < tc_R S) (hi : i < len r) (hxy : o < 4 → x = y) {u xr yr : Nat → Nat}
    (hu : ∀ e, u e ≤ 1000000) (hxr : ∀ e, xr e ≤ 1000000) (hyr : ∀ e, yr e ≤ 1000000)
    (hg : ∀ g, g < 4 → a_least (74 * n + g) = nI (u g)) (h4 : ∀ e, 4 ≤ e → e < tc_E S → u e = tc_op S 1000000 o xr yr e)
    (rx : 4 ≤ o → tc_yw S len ent a_least x xr) (ry : 2 ≤ o → tc_yw S len ent a_least y yr)
    (hp : ∀ c, min 1000000 c = u (ent r i) → c ≤ 2000000 → post (nI c)) : wpY_patternCost post (f_noted, f_depth, f_rules, f_planted, f_trees, f_stateCount, f_known, f_listed, a_marks, a_sizes, a_lefts, a_costs, a_lengths, a_operators, a_spans, a_least, a_ways, a_tasks, a_list) (nI n) (nI o) (nI x) (nI y) (nI r) (nI i) := by
  have hR := ok.1
  obtain ⟨l1, l2, l3, l4, l5, l6, l7⟩ := hy.2.1 r hr
  have hent := tc_yr_ent ok hy hr hi
  have w : (7 : Int32) * nI r + nI i = nI (7 * r + i) := by rw [show (7 : Int32) = nI 7 from rfl, pk_mul, nI_add]
  refine ⟨by rw [w]; exact vp_in_nI (by omega) (by decide), ?_⟩
  rcases l7 i hi with ⟨g, hg4, e1, e2⟩ | ⟨m, hm6, e1, e2, e3, e4, e5, e6⟩
  · refine nm_r (e' := nI (10 + g)) (by rw [w, nI_clamp (by omega), e1]) ?_
    refine br_f (nI_ge (a := 9) (b := 10 + g) (by omega) (by omega)) ?_
    have w2 : (74 : Int32) * nI n + nI (10 + g) - 10 = nI (74 * n + g) := by
      rw [show (74 : Int32) = nI 74 from rfl, pk_mul, nI_add, show (10 : Int32) = nI 10 from rfl, pk_sub (by omega)]
      exact congrArg nI (by omega)
    refine ⟨by rw [w2]; exact vp_in_nI (by omega) (by decide), ?_⟩
    rw [w2, nI_clamp (by omega), hg g hg4]
    have := hu g
    exact hp _ (by rw [e2]; omega) (by omega)
  · have h4' := h4 (ent r i) e2 hent
    refine nm_r (e' := nI m) (by rw [w, nI_clamp (by omega), e1]) ?_
    refine br_t (nI_le (b := 9) (by omega) (by decide)) ?_
    unfold tc_op at h4'
    refine pk_eq m o (fun h => ?_) (fun h => ?_) rfl rfl (by omega) (by omega)
    · rw [if_pos (by omega)] at h4'
      subst h
      have hl : (4 : Int32) + 7 * nI r + nI i - 1 = nI (4 + 7 * r + i - 1) := by
        rw [show (7 : Int32) = nI 7 from rfl, show (4 : Int32) = nI 4 from rfl, show (1 : Int32) = nI 1 from rfl, pk_mul, nI_add, nI_add, pk_sub (by omega)]
      refine nm_r hl ?_
      refine pk_le 2 m (fun h2 => ?_) (fun h2 => ?_)
      · obtain ⟨f1, f2⟩ := e5 h2
        rw [if_neg (by omega)] at h4'
        refine pk_le 4 m (fun h4m => ?_) (fun h4m => ?_)
        · obtain ⟨s, s1, s2, s3, s4⟩ := e6 h4m
          rw [if_neg (by omega)] at h4'
          have w3 : (7 : Int32) * nI r + nI i - 1 = nI (7 * r + i - 1) := by
            rw [w, show (1 : Int32) = nI 1 from rfl, pk_sub (by omega)]
          refine ⟨by rw [w3]; exact vp_in_nI (by omega) (by decide), ?_⟩
          refine nm_r (e' := nI (4 + 7 * r + (i - 1 - s))) (by
            rw [w3, nI_clamp (by omega), s1, pk_sub (by omega)]
            exact congrArg nI (by omega)) ?_
          have w4 : (74 : Int32) * nI x + nI (4 + 7 * r + (i - 1 - s)) = nI (74 * x + 4 + 7 * r + (i - 1 - s)) := by
            rw [show (74 : Int32) = nI 74 from rfl, pk_mul, nI_add]
            exact congrArg nI (by omega)
          have w5 : (74 : Int32) * nI y + nI (4 + 7 * r + i - 1) = nI (74 * y + 4 + 7 * r + (i - 1)) := by
            rw [show (74 : Int32) = nI 74 from rfl, pk_mul, nI_add]
            exact congrArg nI (by omega)
          refine ⟨by rw [w4]; exact vp_in_nI (by omega) (by decide), by rw [w5]; exact vp_in_nI (by omega) (by decide), ?_⟩
          rw [w4, w5, nI_clamp (by omega), nI_clamp (by omega), (rx h4m).2 r hr (i - 1 - s) (by omega), (ry h2).2 r hr (i - 1) (by omega), nI_add]
          have a1 := hxr (ent r (i - 1 - s))
          have a2 := hyr (ent r (i - 1))
          rw [s4, f2] at h4'
          exact hp _ (by omega) (by omega)
        · rw [if_pos (by omega)] at h4'
          have w5 : (74 : Int32) * nI x + nI (4 + 7 * r + i - 1) = nI (74 * y + 4 + 7 * r + (i - 1)) := by
            rw [show (74 : Int32) = nI 74 from rfl, pk_mul, nI_add, hxy (by omega)]
            exact congrArg nI (by omega)
          refine ⟨by rw [w5]; exact vp_in_nI (by omega) (by decide), ?_⟩
          rw [w5, nI_clamp (by omega), (ry h2).2 r hr (i - 1) (by omega)]
          have a2 := hyr (ent r (i - 1))
          rw [f2] at h4'
          exact hp _ (by omega) (by omega)
      · rw [if_pos (by omega)] at h4'
        exact hp 0 (by omega) (by omega)
    · rw [if_neg (by omega)] at h4'
      exact hp 1000000 (by omega) (by omega)
/-- one rule's turn: goals at n as after the turn, the rule's own entries as the row was -/
theorem yc_wr_7 (ok : tc_ok S) {post : SY → Prop} {f_noted : Int32} {f_depth : Int32} {f_rules : Int32} {f_planted : Int32} {f_trees : Int32} {f_stateCount : Int32} {f_known : Int32} {f_listed : Int32} {a_marks : Nat → Int32} {a_sizes : Nat → Int32} {a_lefts : Nat → Int32} {a_costs : Nat → Int32} {a_lengths : Nat → Int32} {a_operators : Nat → Int32} {a_spans : Nat → Int32} {a_ways : Nat → Int32} {a_tasks : Nat → Int32} {a_list : Nat → Int32} (hy : tc_yr S len ent f_rules a_lefts a_costs a_lengths a_marks a_sizes)
    {n o x y r : Nat} (hn : n < 46) (ho : o < 6) (hx : x < 46) (hyy : y < 46) (hr : r < tc_R S) (hxy : o < 4 → x = y) (hxn : 4 ≤ o → x ≠ n) (hyn : 2 ≤ o → y ≠ n) {u xr yr : Nat → Nat}
    (hu : ∀ e, u e ≤ 1000000) (hxr : ∀ e, xr e ≤ 1000000) (hyr : ∀ e, yr e ≤ 1000000) (h4 : ∀ e, 4 ≤ e → e < tc_E S → u e = tc_op S 1000000 o xr yr e) :
    ∀ (d i : Nat), i + d = len r → ∀ (a_least : Nat → Int32) (z : Int32), (0 < i → z = nI (u (ent r (i - 1)))) →
    (∀ g, g < 4 → a_least (74 * n + g) = nI (u g)) → (∀ j, j < i → a_least (74 * n + 4 + 7 * r + j) = nI (u (ent r j))) →
    (4 ≤ o → tc_yw S len ent a_least x xr) → (2 ≤ o → tc_yw S len ent a_least y yr) →
    (∀ a', (∀ g, g < 4 → a' (74 * n + g) = nI (tc_st S u r g)) → (∀ j, j < len r → a' (74 * n + 4 + 7 * r + j) = nI (u (ent r j))) →
      (∀ j, (j < 74 * n ∨ 74 * n + 4 ≤ j) → (j < 74 * n + 4 + 7 * r ∨ 74 * n + 4 + 7 * r + 7 ≤ j) → a' j = a_least j) → post (f_noted, f_depth, f_rules, f_planted, f_trees, f_stateCount, f_known, f_listed, a_marks, a_sizes, a_lefts, a_costs, a_lengths, a_operators, a_spans, a', a_ways, a_tasks, a_list)) →
    ∀ m, d < m → wY_workRule_7 post (nI n) (nI o) (nI x) (nI y) (nI r) f_noted f_depth f_rules f_planted f_trees f_stateCount f_known f_listed m z (nI i) a_marks a_sizes a_lefts a_costs a_lengths a_operators a_spans a_least a_ways a_tasks a_list := by
  have hR := ok.1
  have hE := tc_ok_E ok
  obtain ⟨l1, l2, l3, l4, l5, l6, l7⟩ := hy.2.1 r hr
  obtain ⟨k1, k2, k3, k4⟩ := tc_ok_r ok hr
  have c : (nI r).toNatClampNeg = r := nI_clamp (by omega)
  intro d
  induction d with
  | zero =>
    intro i hi a_least z hz hg he rx ry hp m hm
    obtain ⟨m', rfl⟩ : ∃ m', m = m' + 1 := ⟨m - 1, by omega⟩
    have e : i = len r := by omega
    subst e
    have hz' : z = nI (u (tc_rt S r)) := by rw [hz (by omega), l6]
    have q1 := hu (tc_rt S r)
    have q2 := hu (tc_lf S r)
    refine ⟨vp_in_nI (by omega) (by decide), br_t (by rw [c, l3]; exact nI_le (Nat.le_refl _) (by omega)) ⟨vp_in_nI (by omega) (by decide), ?_⟩⟩
    refine nm_r (e' := nI (tc_co S r + u (tc_rt S r))) (by rw [c, hz', l2, nI_add, Nat.add_comm]) ⟨vp_in_nI (by omega) (by decide), ?_⟩
    refine nm_r (e' := nI (74 * n + tc_lf S r)) (by rw [c, l1, show (74 : Int32) = nI 74 from rfl, pk_mul, nI_add]) ⟨vp_in_nI (by omega) (by decide), ?_⟩
    have fin : ∀ v, v = tc_st S u r (tc_lf S r) → post (f_noted, f_depth, f_rules, f_planted, f_trees, f_stateCount, f_known, f_listed, a_marks, a_sizes, a_lefts, a_costs, a_lengths, a_operators, a_spans, upd a_least (74 * n + tc_lf S r) (nI v), a_ways, a_tasks, a_list) := fun v hv => by
      refine hp _ (fun g hg4 => ?_) (fun j hj => ?_) (fun j hj1 hj2 => ?_)
      · by_cases cg : g = tc_lf S r
        · rw [cg, pk_us, hv]
        · rw [pk_un (by omega), tc_st_ne cg]
          exact hg g hg4
      · rw [pk_un (by omega)]
        exact he j hj
      · rw [pk_un (by omega)]
    refine pk_le (u (tc_lf S r)) (tc_co S r + u (tc_rt S r)) (fun h => ?_) (fun h => ?_) (by rw [nI_clamp (by omega)]; exact hg _ k1) rfl (by omega) (by omega)
    · refine ⟨vp_in_nI (by omega) (by decide), vp_in_nI (by omega) (by decide), nm_r (e' := upd a_least (74 * n + tc_lf S r) (nI (u (tc_lf S r)))) (by rw [nI_clamp (by omega), hg _ k1]) ?_⟩
      exact fin _ (by rw [tc_st_eq]; omega)
    · refine ⟨vp_in_nI (by omega) (by decide), nm_r (e' := upd a_least (74 * n + tc_lf S r) (nI (tc_co S r + u (tc_rt S r)))) (by rw [nI_clamp (by omega)]) ?_⟩
      exact fin _ (by rw [tc_st_eq]; omega)
  | succ d ih =>
    intro i hi a_least z hz hg he rx ry hp m hm
    obtain ⟨m', rfl⟩ : ∃ m', m = m' + 1 := ⟨m - 1, by omega⟩
    refine ⟨vp_in_nI (by omega) (by decide), br_f (by rw [c, l3]; exact nI_ge (by omega) (by omega)) ?_⟩
    refine yc_pc ok hy hn ho hx hyy hr (by omega) hxy hu hxr hyr hg h4 rx ry (fun v hv hv2 => ?_)
    have w : (74 : Int32) * nI n + 4 + 7 * nI r + nI i = nI (74 * n + 4 + 7 * r + i) := by
      rw [show (74 : Int32) = nI 74 from rfl, show (7 : Int32) = nI 7 from rfl, show (4 : Int32) = nI 4 from rfl, pk_mul, pk_mul, nI_add, nI_add, nI_add]
    have key : ∀ z : Int32, z = nI (u (ent r i)) → wY_workRule_48 post (wY_workRule_7 post (nI n) (nI o) (nI x) (nI y) (nI r) f_noted f_depth f_rules f_planted f_trees f_stateCount f_known f_listed m') (nI n) (nI o) (nI x) (nI y) (nI r) (nI i) z f_noted f_depth f_rules f_planted f_trees f_stateCount f_known f_listed a_marks a_sizes a_lefts a_costs a_lengths a_operators a_spans a_least a_ways a_tasks a_list := fun z hz => by
      refine ⟨by rw [w]; exact vp_in_nI (by omega) (by decide), nm_r (e' := upd a_least (74 * n + 4 + 7 * r + i) z) (by rw [w, nI_clamp (by omega)]) (nm_r (nI_1 i) ?_)⟩
      have hfr : tc_fr a_least (upd a_least (74 * n + 4 + 7 * r + i) z) (74 * n) := fun j hj => pk_un (by omega)
      refine ih (i + 1) (by omega) _ z (fun _ => hz) (fun g hg4 => ?_) (fun j hj => ?_) (fun h => tc_yw_fr ok hy hfr (hxn h) (rx h)) (fun h => tc_yw_fr ok hy hfr (hyn h) (ry h)) (fun a' p1 p2 p3 => hp a' p1 p2 (fun j hj1 hj2 => ?_)) m' (by omega)
      · rw [pk_un (by omega)]
        exact hg g hg4
      · by_cases cj : j = i
        · rw [cj, pk_us]
          exact hz
        · rw [pk_un (by omega)]
          exact he j (by omega)
      · rw [p3 j hj1 hj2, pk_un (by omega)]
    refine pk_le v 1000000 (fun h => ?_) (fun h => ?_) rfl rfl (by omega) (by omega)
    · exact key _ (by rw [← hv]; exact congrArg nI (by omega))
    · exact key _ (by rw [← hv, Nat.min_eq_left (by omega)]; rfl)
theorem yc_wr (ok : tc_ok S) {post : SY → Prop} {f_noted : Int32} {f_depth : Int32} {f_rules : Int32} {f_planted : Int32} {f_trees : Int32} {f_stateCount : Int32} {f_known : Int32} {f_listed : Int32} {a_marks : Nat → Int32} {a_sizes : Nat → Int32} {a_lefts : Nat → Int32} {a_costs : Nat → Int32} {a_lengths : Nat → Int32} {a_operators : Nat → Int32} {a_spans : Nat → Int32} {a_least : Nat → Int32} {a_ways : Nat → Int32} {a_tasks : Nat → Int32} {a_list : Nat → Int32} (hy : tc_yr S len ent f_rules a_lefts a_costs a_lengths a_marks a_sizes)
    {n o x y r : Nat} (hn : n < 46) (ho : o < 6) (hx : x < 46) (hyy : y < 46) (hr : r < tc_R S) (hxy : o < 4 → x = y) (hxn : 4 ≤ o → x ≠ n) (hyn : 2 ≤ o → y ≠ n) {u xr yr : Nat → Nat}
    (hu : ∀ e, u e ≤ 1000000) (hxr : ∀ e, xr e ≤ 1000000) (hyr : ∀ e, yr e ≤ 1000000) (h4 : ∀ e, 4 ≤ e → e < tc_E S → u e = tc_op S 1000000 o xr yr e)
    (hg : ∀ g, g < 4 → a_least (74 * n + g) = nI (u g)) (rx : 4 ≤ o → tc_yw S len ent a_least x xr) (ry : 2 ≤ o → tc_yw S len ent a_least y yr)
    (hp : ∀ a', (∀ g, g < 4 → a' (74 * n + g) = nI (tc_st S u r g)) → (∀ j, j < len r → a' (74 * n + 4 + 7 * r + j) = nI (u (ent r j))) →
      (∀ j, (j < 74 * n ∨ 74 * n + 4 ≤ j) → (j < 74 * n + 4 + 7 * r ∨ 74 * n + 4 + 7 * r + 7 ≤ j) → a' j = a_least j) → post (f_noted, f_depth, f_rules, f_planted, f_trees, f_stateCount, f_known, f_listed, a_marks, a_sizes, a_lefts, a_costs, a_lengths, a_operators, a_spans, a', a_ways, a_tasks, a_list)) :
    wpY_workRule post (f_noted, f_depth, f_rules, f_planted, f_trees, f_stateCount, f_known, f_listed, a_marks, a_sizes, a_lefts, a_costs, a_lengths, a_operators, a_spans, a_least, a_ways, a_tasks, a_list) (nI n) (nI o) (nI x) (nI y) (nI r) :=
  ⟨len r + 1, yc_wr_7 ok hy hn ho hx hyy hr hxy hxn hyn hu hxr hyr h4 (len r) 0 (by omega) a_least _ (fun h => absurd h (Nat.lt_irrefl _)) hg (fun j hj => absurd hj (Nat.not_lt_zero _)) rx ry hp _ (by omega)⟩
end
end
section
theorem tc_rd_ge {S : tc_S} (ok : tc_ok S) {t : Nat → Nat} {e : Nat} (he : 4 ≤ e) {k : Nat} (hk : k ≤ tc_R S) : tc_rd S t k e = t e :=
  tc_rd_ind (fun _ u => u e = t e) rfl (fun j hj u hu => by
    have h := (tc_ok_r ok hj).1
    rw [tc_st_ne (by omega)]
    exact hu) k hk
section
variable {S : tc_S} {len : Nat → Nat} {ent : Nat → Nat → Nat}
theorem yc_wo_41 (ok : tc_ok S) {post : SY → Prop} {J : Int32 → Int32 → Int32 → Int32 → Int32 → Int32 → Int32 → Int32 → Int32 → (Nat → Int32) → (Nat → Int32) → (Nat → Int32) → (Nat → Int32) → (Nat → Int32) → (Nat → Int32) → (Nat → Int32) → (Nat → Int32) → (Nat → Int32) → (Nat → Int32) → (Nat → Int32) → Prop} {f_noted : Int32} {f_depth : Int32} {f_rules : Int32} {f_planted : Int32} {f_trees : Int32} {f_stateCount : Int32} {f_known : Int32} {f_listed : Int32} {a_marks : Nat → Int32} {a_sizes : Nat → Int32} {a_lefts : Nat → Int32} {a_costs : Nat → Int32} {a_lengths : Nat → Int32} {a_operators : Nat → Int32} {a_spans : Nat → Int32} {a_ways : Nat → Int32} {a_tasks : Nat → Int32} {a_list : Nat → Int32} (hy : tc_yr S len ent f_rules a_lefts a_costs a_lengths a_marks a_sizes)
    {n o x y p : Nat} (hn : n < 46) (ho : o < 6) (hx : x < 46) (hyy : y < 46) (hxy : o < 4 → x = y) (hxn : 4 ≤ o → x ≠ n) (hyn : 2 ≤ o → y ≠ n) {w xr yr : Nat → Nat}
    (hu : ∀ e, w e ≤ 1000000) (hxr : ∀ e, xr e ≤ 1000000) (hyr : ∀ e, yr e ≤ 1000000) (h4 : ∀ e, 4 ≤ e → e < tc_E S → w e = tc_op S 1000000 o xr yr e) :
    ∀ (d r : Nat), r + d = tc_R S → ∀ a_least : Nat → Int32,
    (∀ g, g < 4 → a_least (74 * n + g) = nI (tc_rd S w r g)) → ((∀ k, k ≤ tc_R S → tc_rd S w k = w) → ∀ r', r' < r → ∀ i, i < len r' → a_least (74 * n + 4 + 7 * r' + i) = nI (w (ent r' i))) →
    (4 ≤ o → tc_yw S len ent a_least x xr) → (2 ≤ o → tc_yw S len ent a_least y yr) →
    (∀ a', tc_fr a_least a' (74 * n) → (∀ g, g < 4 → a' (74 * n + g) = nI (tc_rd S w (tc_R S) g)) →
      ((∀ k, k ≤ tc_R S → tc_rd S w k = w) → ∀ r', r' < tc_R S → ∀ i, i < len r' → a' (74 * n + 4 + 7 * r' + i) = nI (w (ent r' i))) → J (nI (p + 1)) f_noted f_depth f_rules f_planted f_trees f_stateCount f_known f_listed a_marks a_sizes a_lefts a_costs a_lengths a_operators a_spans a' a_ways a_tasks a_list) →
    ∀ m, d < m → wY_workOut_41 post J (nI n) (nI o) (nI x) (nI y) (nI p) m (nI r) f_noted f_depth f_rules f_planted f_trees f_stateCount f_known f_listed a_marks a_sizes a_lefts a_costs a_lengths a_operators a_spans a_least a_ways a_tasks a_list := by
  have hR := ok.1
  intro d
  induction d with
  | zero =>
    intro r hr a_least hg he rx ry hp m hm
    obtain ⟨m', rfl⟩ : ∃ m', m = m' + 1 := ⟨m - 1, by omega⟩
    have e : r = tc_R S := by omega
    subst e
    exact br_t (by rw [hy.1]; exact nI_le (Nat.le_refl _) (by omega)) (nm_r (nI_1 p) (hp _ (tc_fr_refl _ _) hg he))
  | succ d ih =>
    intro r hr a_least hg he rx ry hp m hm
    obtain ⟨m', rfl⟩ : ∃ m', m = m' + 1 := ⟨m - 1, by omega⟩
    have hr' : r < tc_R S := by omega
    have hl7 := (hy.2.1 r hr').2.2.2.2.1
    refine br_f (by rw [hy.1]; exact nI_ge hr' (by omega)) ?_
    refine yc_wr ok hy hn ho hx hyy hr' hxy hxn hyn (u := tc_rd S w r) (fun e => Nat.le_trans (tc_rd_le (by omega) e) (hu e)) hxr hyr (fun e h1 h2 => by rw [tc_rd_ge ok h1 (by omega)]; exact h4 e h1 h2) hg rx ry (fun a' p1 p2 p3 => ?_)
    have hfr : tc_fr a_least a' (74 * n) := fun j hj => p3 j (by omega) (by omega)
    refine nm_r (nI_1 r) (ih (r + 1) (by omega) a' p1 (fun hfx r1 hr1 i hi => ?_) (fun h => tc_yw_fr ok hy hfr (hxn h) (rx h)) (fun h => tc_yw_fr ok hy hfr (hyn h) (ry h)) (fun a2 q1 q2 q3 => hp a2 (tc_fr_trans hfr q1) q2 q3) m' (by omega))
    by_cases cr : r1 = r
    · subst cr
      rw [p2 i hi, hfx r1 (by omega)]
    · have hl71 := (hy.2.1 r1 (by omega)).2.2.2.2.1
      rw [p3 _ (by omega) (by omega)]
      exact he hfx r1 (by omega) i hi
theorem yc_wo_32 (ok : tc_ok S) {post : SY → Prop} {f_noted : Int32} {f_depth : Int32} {f_rules : Int32} {f_planted : Int32} {f_trees : Int32} {f_stateCount : Int32} {f_known : Int32} {f_listed : Int32} {a_marks : Nat → Int32} {a_sizes : Nat → Int32} {a_lefts : Nat → Int32} {a_costs : Nat → Int32} {a_lengths : Nat → Int32} {a_operators : Nat → Int32} {a_spans : Nat → Int32} {a_ways : Nat → Int32} {a_tasks : Nat → Int32} {a_list : Nat → Int32} (hy : tc_yr S len ent f_rules a_lefts a_costs a_lengths a_marks a_sizes)
    {n o x y : Nat} (hn : n < 46) (ho : o < 6) (hx : x < 46) (hyy : y < 46) (hxy : o < 4 → x = y) (hxn : 4 ≤ o → x ≠ n) (hyn : 2 ≤ o → y ≠ n) {xr yr : Nat → Nat}
    (hxr : ∀ e, xr e ≤ 1000000) (hyr : ∀ e, yr e ≤ 1000000) :
    ∀ (d p : Nat), p + d = 5 → ∀ a_least : Nat → Int32,
    (∀ g, g < 4 → a_least (74 * n + g) = nI (tc_it S (tc_i0 S 1000000 o xr yr) p g)) →
    (p = 5 → ∀ r', r' < tc_R S → ∀ i, i < len r' → a_least (74 * n + 4 + 7 * r' + i) = nI (tc_row S 1000000 o xr yr (ent r' i))) →
    (4 ≤ o → tc_yw S len ent a_least x xr) → (2 ≤ o → tc_yw S len ent a_least y yr) →
    (∀ a', tc_fr a_least a' (74 * n) → tc_yw S len ent a' n (tc_row S 1000000 o xr yr) → post (f_noted, f_depth, f_rules, f_planted, f_trees, f_stateCount, f_known, f_listed, a_marks, a_sizes, a_lefts, a_costs, a_lengths, a_operators, a_spans, a', a_ways, a_tasks, a_list)) →
    ∀ m, d < m → wY_workOut_32 post (nI n) (nI o) (nI x) (nI y) m (nI p) f_noted f_depth f_rules f_planted f_trees f_stateCount f_known f_listed a_marks a_sizes a_lefts a_costs a_lengths a_operators a_spans a_least a_ways a_tasks a_list := by
  intro d
  induction d with
  | zero =>
    intro p hpp a_least hg he rx ry hp m hm
    obtain ⟨m', rfl⟩ : ∃ m', m = m' + 1 := ⟨m - 1, by omega⟩
    have e : p = 5 := by omega
    subst e
    refine br_t (nI_le (a := 5) (Nat.le_refl _) (by decide)) (hp _ (tc_fr_refl _ _) ⟨fun g hg4 => ?_, he rfl⟩)
    rw [hg g hg4]
    have e1 : tc_it S (tc_i0 S 1000000 o xr yr) 5 = tc_row S 1000000 o xr yr := tc_row_fix ok (tc_R S) (Nat.le_refl _)
    rw [e1]
  | succ d ih =>
    intro p hpp a_least hg he rx ry hp m hm
    obtain ⟨m', rfl⟩ : ∃ m', m = m' + 1 := ⟨m - 1, by omega⟩
    refine br_f (nI_ge (b := 5) (by omega) (by decide)) ⟨tc_R S + 1, ?_⟩
    refine yc_wo_41 ok hy hn ho hx hyy hxy hxn hyn (w := tc_it S (tc_i0 S 1000000 o xr yr) p) (fun e => tc_row_le e p) hxr hyr (fun e h1 h2 => by
      rw [tc_it_ge ok h1]
      exact if_neg (by omega)) (tc_R S) 0 (by omega) a_least hg (fun _ r' hr' => absurd hr' (Nat.not_lt_zero _)) rx ry (fun a' q1 q2 q3 => ?_) _ (by omega)
    refine ih (p + 1) (by omega) a' q2 (fun h5 => ?_) (fun h => tc_yw_fr ok hy q1 (hxn h) (rx h)) (fun h => tc_yw_fr ok hy q1 (hyn h) (ry h)) (fun a2 s1 s2 => hp a2 (tc_fr_trans q1 s1) s2) m' (by omega)
    have e4 : p = 4 := by omega
    subst e4
    exact q3 (tc_row_fix ok)
theorem yc_wo_3 (ok : tc_ok S) {post : SY → Prop} {f_noted : Int32} {f_depth : Int32} {f_rules : Int32} {f_planted : Int32} {f_trees : Int32} {f_stateCount : Int32} {f_known : Int32} {f_listed : Int32} {a_marks : Nat → Int32} {a_sizes : Nat → Int32} {a_lefts : Nat → Int32} {a_costs : Nat → Int32} {a_lengths : Nat → Int32} {a_operators : Nat → Int32} {a_spans : Nat → Int32} {a_ways : Nat → Int32} {a_tasks : Nat → Int32} {a_list : Nat → Int32} (hy : tc_yr S len ent f_rules a_lefts a_costs a_lengths a_marks a_sizes)
    {n o x y : Nat} (hn : n < 46) (ho : o < 6) (hx : x < 46) (hyy : y < 46) (hxy : o < 4 → x = y) (hxn : 4 ≤ o → x ≠ n) (hyn : 2 ≤ o → y ≠ n) {xr yr : Nat → Nat}
    (hxr : ∀ e, xr e ≤ 1000000) (hyr : ∀ e, yr e ≤ 1000000) :
    ∀ (d g : Nat), g + d = 4 → ∀ a_least : Nat → Int32, (∀ h, h < g → a_least (74 * n + h) = nI 1000000) →
    (4 ≤ o → tc_yw S len ent a_least x xr) → (2 ≤ o → tc_yw S len ent a_least y yr) →
    (∀ a', tc_fr a_least a' (74 * n) → tc_yw S len ent a' n (tc_row S 1000000 o xr yr) → post (f_noted, f_depth, f_rules, f_planted, f_trees, f_stateCount, f_known, f_listed, a_marks, a_sizes, a_lefts, a_costs, a_lengths, a_operators, a_spans, a', a_ways, a_tasks, a_list)) →
    ∀ m, d < m → wY_workOut_3 post (nI n) (nI o) (nI x) (nI y) f_noted f_depth f_rules f_planted f_trees f_stateCount f_known f_listed m (nI g) a_marks a_sizes a_lefts a_costs a_lengths a_operators a_spans a_least a_ways a_tasks a_list := by
  intro d
  induction d with
  | zero =>
    intro g hgg a_least hg rx ry hp m hm
    obtain ⟨m', rfl⟩ : ∃ m', m = m' + 1 := ⟨m - 1, by omega⟩
    have e : g = 4 := by omega
    subst e
    refine br_t (nI_le (a := 4) (Nat.le_refl _) (by decide)) ⟨6, ?_⟩
    refine yc_wo_32 ok hy hn ho hx hyy hxy hxn hyn hxr hyr 5 0 (by omega) a_least (fun h hh => ?_) (fun h => absurd h (by decide)) rx ry hp 6 (by omega)
    rw [hg h hh]
    show nI 1000000 = nI (tc_i0 S 1000000 o xr yr h)
    unfold tc_i0
    rw [if_pos hh]
  | succ d ih =>
    intro g hgg a_least hg rx ry hp m hm
    obtain ⟨m', rfl⟩ : ∃ m', m = m' + 1 := ⟨m - 1, by omega⟩
    have w : (74 : Int32) * nI n + nI g = nI (74 * n + g) := by rw [show (74 : Int32) = nI 74 from rfl, pk_mul, nI_add]
    refine br_f (nI_ge (b := 4) (by omega) (by decide)) ⟨by rw [w]; exact vp_in_nI (by omega) (by decide), nm_r (e' := upd a_least (74 * n + g) (nI 1000000)) (by rw [w, nI_clamp (by omega)]; rfl) (nm_r (nI_1 g) ?_)⟩
    have hfr : tc_fr a_least (upd a_least (74 * n + g) (nI 1000000)) (74 * n) := tc_fr_upd (by omega)
    refine ih (g + 1) (by omega) _ (fun h hh => ?_) (fun h => tc_yw_fr ok hy hfr (hxn h) (rx h)) (fun h => tc_yw_fr ok hy hfr (hyn h) (ry h)) (fun a2 s1 s2 => hp a2 (tc_fr_trans hfr s1) s2) m' (by omega)
    by_cases c : h = g
    · rw [c, pk_us]
    · rw [pk_un (by omega)]
      exact hg h (by omega)
theorem yc_wo (ok : tc_ok S) {post : SY → Prop} {f_noted : Int32} {f_depth : Int32} {f_rules : Int32} {f_planted : Int32} {f_trees : Int32} {f_stateCount : Int32} {f_known : Int32} {f_listed : Int32} {a_marks : Nat → Int32} {a_sizes : Nat → Int32} {a_lefts : Nat → Int32} {a_costs : Nat → Int32} {a_lengths : Nat → Int32} {a_operators : Nat → Int32} {a_spans : Nat → Int32} {a_least : Nat → Int32} {a_ways : Nat → Int32} {a_tasks : Nat → Int32} {a_list : Nat → Int32} (hy : tc_yr S len ent f_rules a_lefts a_costs a_lengths a_marks a_sizes)
    {n o x y : Nat} (hn : n < 46) (ho : o < 6) (hx : x < 46) (hyy : y < 46) (hxy : o < 4 → x = y) (hxn : 4 ≤ o → x ≠ n) (hyn : 2 ≤ o → y ≠ n) {xr yr : Nat → Nat}
    (hxr : ∀ e, xr e ≤ 1000000) (hyr : ∀ e, yr e ≤ 1000000) (rx : 4 ≤ o → tc_yw S len ent a_least x xr) (ry : 2 ≤ o → tc_yw S len ent a_least y yr)
    (hp : ∀ a', tc_fr a_least a' (74 * n) → tc_yw S len ent a' n (tc_row S 1000000 o xr yr) → post (f_noted, f_depth, f_rules, f_planted, f_trees, f_stateCount, f_known, f_listed, a_marks, a_sizes, a_lefts, a_costs, a_lengths, a_operators, a_spans, a', a_ways, a_tasks, a_list)) :
    wpY_workOut post (f_noted, f_depth, f_rules, f_planted, f_trees, f_stateCount, f_known, f_listed, a_marks, a_sizes, a_lefts, a_costs, a_lengths, a_operators, a_spans, a_least, a_ways, a_tasks, a_list) (nI n) (nI o) (nI x) (nI y) :=
  ⟨5, yc_wo_3 ok hy hn ho hx hyy hxy hxn hyn hxr hyr 4 0 (by omega) a_least (fun h hh => absurd hh (Nat.not_lt_zero _)) rx ry hp 5 (by omega)⟩
end
/-! Y's trees -/
def tc_yt (tn td : Nat) (ty tz : Nat → Nat) (pl tr : Int32) (op sp : Nat → Int32) : Prop := pl = nI tn ∧ tr = nI td ∧ ∀ i, i < tn → op i = nI (ty i) ∧ sp i = nI (tz i)
def tc_yrows (S : tc_S) (K : Nat) (len : Nat → Nat) (ent : Nat → Nat → Nat) (ty tz : Nat → Nat) (a : Nat → Int32) (n : Nat) : Prop := ∀ m, m < n → tc_yw S len ent a m (tc_v S K ty tz m)
section
variable {S : tc_S} {len : Nat → Nat} {ent : Nat → Nat → Nat} {tn td : Nat} {ty tz tk : Nat → Nat}
theorem yq_wt_2 (ok : tc_ok S) (hn : tc_tn ty tz tn) (hN : tn ≤ 24) (hD : td ≤ 8) {post : Int32 → SY → Prop} {f_noted : Int32} {f_depth : Int32} {f_rules : Int32} {f_planted : Int32} {f_trees : Int32} {f_stateCount : Int32} {f_known : Int32} {f_listed : Int32} {a_marks : Nat → Int32} {a_sizes : Nat → Int32} {a_lefts : Nat → Int32} {a_costs : Nat → Int32} {a_lengths : Nat → Int32} {a_operators : Nat → Int32} {a_spans : Nat → Int32} {a_ways : Nat → Int32} {a_tasks : Nat → Int32} {a_list : Nat → Int32} (hy : tc_yr S len ent f_rules a_lefts a_costs a_lengths a_marks a_sizes)
    (ht : tc_yt tn td ty tz f_planted f_trees a_operators a_spans) :
    ∀ (d i : Nat), i + d = tn → ∀ a_least : Nat → Int32, tc_yrows S 1000000 len ent ty tz a_least i →
    (∀ a', tc_yrows S 1000000 len ent ty tz a' tn → (∀ j, 74 * tn ≤ j → a' j = a_least j) → post (if td = 0 then 0 else 1) (f_noted, f_depth, f_rules, f_planted, f_trees, f_stateCount, f_known, f_listed, a_marks, a_sizes, a_lefts, a_costs, a_lengths, a_operators, a_spans, a', a_ways, a_tasks, a_list)) →
    ∀ m, d < m → wY_workTrees_2 post m (nI i) f_noted f_depth f_rules f_planted f_trees f_stateCount f_known f_listed a_marks a_sizes a_lefts a_costs a_lengths a_operators a_spans a_least a_ways a_tasks a_list := by
  have hE := tc_ok_E ok
  intro d
  induction d with
  | zero =>
    intro i hi a_least hr hp m hm
    obtain ⟨m', rfl⟩ : ∃ m', m = m' + 1 := ⟨m - 1, by omega⟩
    have e : i = tn := by omega
    subst e
    have k := hp a_least hr (fun _ _ => rfl)
    refine br_t (by rw [ht.1]; exact nI_le (Nat.le_refl _) (by omega)) ?_
    refine pk_le td 0 (fun h => ?_) (fun h => ?_) ht.2.1 rfl (by omega) (by omega)
    · rw [if_pos (by omega)] at k
      exact k
    · rw [if_neg (by omega)] at k
      exact k
  | succ d ih =>
    intro i hi a_least hr hp m hm
    obtain ⟨m', rfl⟩ : ∃ m', m = m' + 1 := ⟨m - 1, by omega⟩
    have hit : i < tn := by omega
    obtain ⟨h6, n1, n2, n3, n4, n5, n6, n7⟩ := hn i hit
    obtain ⟨t1, t2⟩ := ht.2.2 i hit
    have c : (nI i).toNatClampNeg = i := nI_clamp (by omega)
    have vle : ∀ m, m < tn → ∀ e, tc_v S 1000000 ty tz m e ≤ 1000000 := fun m hm e => tc_v_le (fun h => (hn m hm).2.2.2.1 h (hn m hm).1) e
    have key : ∀ x y : Nat, x < 46 → y < 46 → (ty i < 4 → x = y) → (4 ≤ ty i → x = i - 1 - tz (i - 1)) → (2 ≤ ty i → y = i - 1) →
        wY_workTrees_47 post (wY_workTrees_2 post m') (nI i) (nI (ty i)) (nI y) (nI x) f_noted f_depth f_rules f_planted f_trees f_stateCount f_known f_listed a_marks a_sizes a_lefts a_costs a_lengths a_operators a_spans a_least a_ways a_tasks a_list := fun x y hx hyy hxy ex ey => by
      refine yc_wo ok hy (by omega) h6 hx hyy hxy (fun h => by have := n3 (by omega) h6; have := ex h; omega) (fun h => by have := n3 h h6; have := ey h; omega)
        (xr := fun e => if 4 ≤ ty i then tc_v S 1000000 ty tz (i - 1 - tz (i - 1)) e else 0) (yr := fun e => if 2 ≤ ty i then tc_v S 1000000 ty tz (i - 1) e else 0) (fun e => ?_) (fun e => ?_) (fun h => ?_) (fun h => ?_) (fun a' hf hra => ?_)
      · show (if 4 ≤ ty i then tc_v S 1000000 ty tz (i - 1 - tz (i - 1)) e else 0) ≤ 1000000
        split
        · exact vle _ (by omega) e
        · omega
      · show (if 2 ≤ ty i then tc_v S 1000000 ty tz (i - 1) e else 0) ≤ 1000000
        split
        · exact vle _ (by omega) e
        · omega
      · have e1 : (fun e => if 4 ≤ ty i then tc_v S 1000000 ty tz (i - 1 - tz (i - 1)) e else 0) = tc_v S 1000000 ty tz (i - 1 - tz (i - 1)) := by
          funext e
          exact if_pos h
        have := n3 (by omega) h6
        rw [e1, ex h]
        exact hr _ (by omega)
      · have e1 : (fun e => if 2 ≤ ty i then tc_v S 1000000 ty tz (i - 1) e else 0) = tc_v S 1000000 ty tz (i - 1) := by
          funext e
          exact if_pos h
        have := n3 h h6
        rw [e1, ey h]
        exact hr _ (by omega)
      · have e2 : tc_row S 1000000 (ty i) (fun e => if 4 ≤ ty i then tc_v S 1000000 ty tz (i - 1 - tz (i - 1)) e else 0) (fun e => if 2 ≤ ty i then tc_v S 1000000 ty tz (i - 1) e else 0) = tc_v S 1000000 ty tz i := by
          rw [tc_v_eq (fun h => n3 h h6)]
          exact tc_row_congr (fun h => by funext e; exact if_pos h) (fun h => by funext e; exact if_pos h)
        rw [e2] at hra
        refine nm_r (nI_1 i) (ih (i + 1) (by omega) a' (fun k hk => ?_) (fun a2 r2 f2 => hp a2 r2 (fun j hj => (f2 j hj).trans (hf j (by omega)))) m' (by omega))
        by_cases e : k = i
        · rw [e]
          exact hra
        · exact tc_yw_fr ok hy hf e (hr k (by omega))
    refine br_f (by rw [ht.1]; exact nI_ge hit (by omega)) ⟨vp_in_nI (by omega) (by decide), nm_r (e' := nI (ty i)) (by rw [c, t1]) ?_⟩
    refine pk_le 2 (ty i) (fun h2 => ?_) (fun h2 => ?_) rfl rfl (by omega) (by omega)
    · have hi1 := n3 h2 h6
      have w : nI i - 1 = nI (i - 1) := by rw [show (1 : Int32) = nI 1 from rfl, pk_sub (by omega)]
      rw [w]
      refine pk_le 4 (ty i) (fun h4 => ?_) (fun h4 => ?_) rfl rfl (by omega) (by omega)
      · have hi2 := n4 h4 h6
        refine ⟨vp_in_nI (by omega) (by decide), ?_⟩
        rw [nI_clamp (by omega), (ht.2.2 (i - 1) (by omega)).2, pk_sub (by omega)]
        exact key (i - 1 - tz (i - 1)) (i - 1) (by omega) (by omega) (fun h => by omega) (fun _ => rfl) (fun _ => rfl)
      · exact key (i - 1) (i - 1) (by omega) (by omega) (fun _ => rfl) (fun h => by omega) (fun _ => rfl)
    · refine br_f (nI_ge (b := 4) (by omega) (by decide)) ?_
      exact key i i (by omega) (by omega) (fun _ => rfl) (fun h => by omega) (fun h => by omega)
theorem yq_wt (ok : tc_ok S) (hn : tc_tn ty tz tn) (hN : tn ≤ 24) (hD : td ≤ 8) {post : Int32 → SY → Prop} {f_noted : Int32} {f_depth : Int32} {f_rules : Int32} {f_planted : Int32} {f_trees : Int32} {f_stateCount : Int32} {f_known : Int32} {f_listed : Int32} {a_marks : Nat → Int32} {a_sizes : Nat → Int32} {a_lefts : Nat → Int32} {a_costs : Nat → Int32} {a_lengths : Nat → Int32} {a_operators : Nat → Int32} {a_spans : Nat → Int32} {a_least : Nat → Int32} {a_ways : Nat → Int32} {a_tasks : Nat → Int32} {a_list : Nat → Int32} (hy : tc_yr S len ent f_rules a_lefts a_costs a_lengths a_marks a_sizes)
    (ht : tc_yt tn td ty tz f_planted f_trees a_operators a_spans)
    (hp : ∀ a', tc_yrows S 1000000 len ent ty tz a' tn → (∀ j, 74 * tn ≤ j → a' j = a_least j) → post (if td = 0 then 0 else 1) (f_noted, f_depth, f_rules, f_planted, f_trees, f_stateCount, f_known, f_listed, a_marks, a_sizes, a_lefts, a_costs, a_lengths, a_operators, a_spans, a', a_ways, a_tasks, a_list)) : wpY_workTrees post (f_noted, f_depth, f_rules, f_planted, f_trees, f_stateCount, f_known, f_listed, a_marks, a_sizes, a_lefts, a_costs, a_lengths, a_operators, a_spans, a_least, a_ways, a_tasks, a_list) :=
  ⟨tn + 1, yq_wt_2 ok hn hN hD hy ht tn 0 (by omega) a_least (fun m hm => absurd hm (Nat.not_lt_zero _)) hp _ (by omega)⟩
theorem yq_top (ok : tc_ok S) (hF : tc_fo tn td ty tz tk) (h6 : ∀ i, i < tn → ty i < 6) (hN : tn ≤ 24) (hD : td ≤ 8) {g : Nat} (hg : g < 4) {post : Int32 → SY → Prop} {f_noted : Int32} {f_depth : Int32} {f_rules : Int32} {f_planted : Int32} {f_trees : Int32} {f_stateCount : Int32} {f_known : Int32} {f_listed : Int32} {a_marks : Nat → Int32} {a_sizes : Nat → Int32} {a_lefts : Nat → Int32} {a_costs : Nat → Int32} {a_lengths : Nat → Int32} {a_operators : Nat → Int32} {a_spans : Nat → Int32} {a_least : Nat → Int32} {a_ways : Nat → Int32} {a_tasks : Nat → Int32} {a_list : Nat → Int32}
    (hy : tc_yr S len ent f_rules a_lefts a_costs a_lengths a_marks a_sizes) (ht : tc_yt tn td ty tz f_planted f_trees a_operators a_spans)
    (hp : ∀ a', tc_yrows S 1000000 len ent ty tz a' tn → (∀ j, 74 * tn ≤ j → a' j = a_least j) → post (nI (tc_tp S 1000000 ty tz tn td g)) (f_noted, f_depth, f_rules, f_planted, f_trees, f_stateCount, f_known, f_listed, a_marks, a_sizes, a_lefts, a_costs, a_lengths, a_operators, a_spans, a', a_ways, a_tasks, a_list)) : wpY_topCost post (f_noted, f_depth, f_rules, f_planted, f_trees, f_stateCount, f_known, f_listed, a_marks, a_sizes, a_lefts, a_costs, a_lengths, a_operators, a_spans, a_least, a_ways, a_tasks, a_list) (nI g) := by
  have hn : tc_tn ty tz tn := fun i hi => ⟨h6 i hi, hF.2.2.2.2.2 i hi⟩
  unfold wpY_topCost
  refine yq_wt ok hn hN hD hy ht (fun a' ha hfa => ?_)
  have k := hp a' ha hfa
  unfold tc_tp at k
  by_cases h : td = 0
  · rw [if_pos h] at k ⊢
    exact br_t rfl k
  · rw [if_neg h] at k ⊢
    obtain ⟨s1, s2⟩ := tc_fo_t1 hF (by omega)
    have w : (74 : Int32) * (f_planted - 1) + nI g = nI (74 * (tn - 1) + g) := by
      rw [ht.1, show (1 : Int32) = nI 1 from rfl, pk_sub (by omega), show (74 : Int32) = nI 74 from rfl, pk_mul, nI_add]
    refine br_f (by decide) ⟨by rw [w]; exact vp_in_nI (by omega) (by decide), ?_⟩
    rw [w, nI_clamp (by omega), (ha (tn - 1) (by omega)).1 g hg]
    exact k
end
end
section
/-! Y's entries e and the entries x that they stand for -/
def tc_mp (S : tc_S) (len : Nat → Nat) (ent : Nat → Nat → Nat) (e x : Nat) : Prop := (e < 4 ∧ x = e) ∨ ∃ r i, r < tc_R S ∧ i < len r ∧ e = 4 + 7 * r + i ∧ x = ent r i
theorem tc_sr_fi {S : tc_S} (ok : tc_ok S) {x : Nat} (hx : 4 ≤ x) : ∀ n, n ≤ tc_R S → x < tc_sr S n → ∃ r, r < n ∧ tc_sr S r ≤ x ∧ x < tc_sr S (r + 1) := by
  intro n
  induction n with
  | zero => intro _ h; have := ok.2.1; omega
  | succ n ih =>
    intro hn h
    by_cases c : x < tc_sr S n
    · obtain ⟨r, a, b, d⟩ := ih (by omega) c
      exact ⟨r, by omega, b, d⟩
    · exact ⟨n, by omega, by omega, h⟩
section
variable {S : tc_S} {len : Nat → Nat} {ent : Nat → Nat → Nat}
theorem tc_mp_ex {ru : Int32} {le co ln mk sz : Nat → Int32} (ok : tc_ok S) (h : tc_yr S len ent ru le co ln mk sz) {x : Nat} (hx : x < tc_E S) : ∃ e, e < 74 ∧ tc_mp S len ent e x := by
  have hR := ok.1
  by_cases c : x < 4
  · exact ⟨x, by omega, Or.inl ⟨c, rfl⟩⟩
  · obtain ⟨r, hr, a, b⟩ := tc_sr_fi ok (show 4 ≤ x by omega) (tc_R S) (Nat.le_refl _) hx
    obtain ⟨i, hi, e⟩ := h.2.2 r x hr a b
    have hl := (h.2.1 r hr).2.2.2.2.1
    exact ⟨4 + 7 * r + i, by omega, Or.inr ⟨r, i, hr, hi, rfl, e.symm⟩⟩
theorem tc_mp_val {ru : Int32} {le co ln mk sz : Nat → Int32} (ok : tc_ok S) (h : tc_yr S len ent ru le co ln mk sz) {a : Nat → Int32} {n e x : Nat} {t : Nat → Nat} (hw : tc_yw S len ent a n t) (hm : tc_mp S len ent e x) : a (74 * n + e) = nI (t x) ∧ x < tc_E S := by
  have hE := tc_ok_E ok
  rcases hm with ⟨h1, h2⟩ | ⟨r, i, hr, hi, h1, h2⟩
  · rw [h2]
    exact ⟨hw.1 e h1, by omega⟩
  · rw [h1, h2, ← Nat.add_assoc, ← Nat.add_assoc]
    exact ⟨hw.2 r hr i hi, tc_yr_ent ok h hr hi⟩
theorem ym_used (ok : tc_ok S) {post : Int32 → Prop} {f_noted : Int32} {f_depth : Int32} {f_rules : Int32} {f_planted : Int32} {f_trees : Int32} {f_stateCount : Int32} {f_known : Int32} {f_listed : Int32} {a_marks : Nat → Int32} {a_sizes : Nat → Int32} {a_lefts : Nat → Int32} {a_costs : Nat → Int32} {a_lengths : Nat → Int32} {a_operators : Nat → Int32} {a_spans : Nat → Int32} {a_least : Nat → Int32} {a_ways : Nat → Int32} {a_tasks : Nat → Int32} {a_list : Nat → Int32} (hy : tc_yr S len ent f_rules a_lefts a_costs a_lengths a_marks a_sizes) {e : Nat} (he : e < 74)
    (h1 : ∀ x, tc_mp S len ent e x → post 1) (h0 : (¬ ∃ x, tc_mp S len ent e x) → post 0) : wpY_isUsed post (f_noted, f_depth, f_rules, f_planted, f_trees, f_stateCount, f_known, f_listed, a_marks, a_sizes, a_lefts, a_costs, a_lengths, a_operators, a_spans, a_least, a_ways, a_tasks, a_list) (nI e) := by
  have hR := ok.1
  refine pk_lt e 4 (fun h => h1 e (Or.inl ⟨h, rfl⟩)) (fun h => ?_)
  have w : (nI e - 4) / 7 = nI ((e - 4) / 7) := by
    rw [show (4 : Int32) = nI 4 from rfl, pk_sub h, show (7 : Int32) = nI 7 from rfl, pk_div (by omega) (by decide) (by decide)]
  have w2 : nI e - 4 - (nI e - 4) / 7 * 7 = nI ((e - 4) % 7) := by
    rw [show (4 : Int32) = nI 4 from rfl, pk_sub h, show (7 : Int32) = nI 7 from rfl, pk_rem (by omega) (by decide) (by decide)]
  refine ⟨by decide, ?_⟩
  refine pk_le (tc_R S) ((e - 4) / 7) (fun hr => ?_) (fun hr => ?_) hy.1 w (by omega) (by omega)
  · refine h0 (fun ⟨x, hx⟩ => ?_)
    rcases hx with ⟨a, _⟩ | ⟨r, i, hr2, hi, a, _⟩
    · omega
    · have hl := (hy.2.1 r hr2).2.2.2.2.1
      omega
  · obtain ⟨l1, l2, l3, l4, l5, l6, l7⟩ := hy.2.1 _ hr
    refine ⟨by decide, by decide, by rw [w]; exact vp_in_nI (by omega) (by decide), ?_⟩
    refine pk_le (len ((e - 4) / 7)) ((e - 4) % 7) (fun hl => ?_) (fun hl => ?_) (by rw [w, nI_clamp (by omega), l3]) w2 (by omega) (by omega)
    · refine h0 (fun ⟨x, hx⟩ => ?_)
      rcases hx with ⟨a, _⟩ | ⟨r, i, hr2, hi, a, _⟩
      · omega
      · have hl7 := (hy.2.1 r hr2).2.2.2.2.1
        have e1 : (e - 4) / 7 = r := by omega
        rw [e1] at hl
        omega
    · exact h1 (ent ((e - 4) / 7) ((e - 4) % 7)) (Or.inr ⟨(e - 4) / 7, (e - 4) % 7, hr, hl, by omega, rfl⟩)
theorem ym_lowest_5 (ok : tc_ok S) {post : Int32 → Prop} {f_noted : Int32} {f_depth : Int32} {f_rules : Int32} {f_planted : Int32} {f_trees : Int32} {f_stateCount : Int32} {f_known : Int32} {f_listed : Int32} {a_marks : Nat → Int32} {a_sizes : Nat → Int32} {a_lefts : Nat → Int32} {a_costs : Nat → Int32} {a_lengths : Nat → Int32} {a_operators : Nat → Int32} {a_spans : Nat → Int32} {a_least : Nat → Int32} {a_ways : Nat → Int32} {a_tasks : Nat → Int32} {a_list : Nat → Int32} (hy : tc_yr S len ent f_rules a_lefts a_costs a_lengths a_marks a_sizes) {n : Nat} (hn : n < 46) {t : Nat → Nat} (hK : ∀ e, t e ≤ 1000000)
    (hw : tc_yw S len ent a_least n t) (hp : post (nI (tc_lw 1000000 t (tc_E S)))) : ∀ (d e : Nat), e + d = 74 → ∀ l : Nat, l ≤ 1000000 → (∀ j x, j < e → tc_mp S len ent j x → l ≤ t x) →
    (l = 1000000 ∨ ∃ x, x < tc_E S ∧ l = t x) → ∀ m, d < m → wY_lowest_5 post (nI n) f_noted f_depth f_rules f_planted f_trees f_stateCount f_known f_listed a_marks a_sizes a_lefts a_costs a_lengths a_operators a_spans a_least a_ways a_tasks a_list m (nI l) (nI e) := by
  intro d
  induction d with
  | zero =>
    intro e he l hl hm1 hm2 m hm
    obtain ⟨m', rfl⟩ : ∃ m', m = m' + 1 := ⟨m - 1, by omega⟩
    have e1 : e = 74 := by omega
    subst e1
    refine br_t (nI_le (a := 74) (Nat.le_refl _) (by decide)) ?_
    have e2 : l = tc_lw 1000000 t (tc_E S) := tc_lw_uq (fun x hx => by
      obtain ⟨j, hj, hmp⟩ := tc_mp_ex ok hy hx
      exact hm1 j x hj hmp) hl hm2
    rw [e2]
    exact hp
  | succ d ih =>
    intro e he l hl hm1 hm2 m hm
    obtain ⟨m', rfl⟩ : ∃ m', m = m' + 1 := ⟨m - 1, by omega⟩
    have w : (74 : Int32) * nI n + nI e = nI (74 * n + e) := by rw [show (74 : Int32) = nI 74 from rfl, pk_mul, nI_add]
    refine br_f (nI_ge (b := 74) (by omega) (by decide)) ?_
    refine ym_used ok hy (by omega) (fun x hx => ?_) (fun hx => ?_)
    · obtain ⟨v1, v2⟩ := tc_mp_val ok hy hw hx
      have v3 := hK x
      have uq : ∀ x', tc_mp S len ent e x' → t x' = t x := fun x' hx' => by
        obtain ⟨u1, u2⟩ := tc_mp_val ok hy hw hx'
        have u3 := hK x'
        rw [v1] at u1
        exact ((nI_eq (by omega) (by omega)).mp u1).symm
      refine br_f (by decide) ⟨by rw [w]; exact vp_in_nI (by omega) (by decide), ?_⟩
      refine pk_le l (t x) (fun h => nm_r (nI_1 e) ?_) (fun h => ?_) rfl (by rw [w, nI_clamp (by omega)]; exact v1) (by omega) (by omega)
      · refine ih (e + 1) (by omega) l hl (fun j x' hj hmp => ?_) hm2 m' (by omega)
        by_cases c : j = e
        · rw [c] at hmp
          rw [uq x' hmp]
          exact h
        · exact hm1 j x' (by omega) hmp
      · refine ⟨by rw [w]; exact vp_in_nI (by omega) (by decide), nm_r (e' := nI (t x)) (by rw [w, nI_clamp (by omega)]; exact v1) (nm_r (nI_1 e) ?_)⟩
        refine ih (e + 1) (by omega) (t x) v3 (fun j x' hj hmp => ?_) (Or.inr ⟨x, v2, rfl⟩) m' (by omega)
        by_cases c : j = e
        · rw [c] at hmp
          rw [uq x' hmp]
          exact Nat.le_refl _
        · have := hm1 j x' (by omega) hmp
          omega
    · refine br_t rfl (nm_r (nI_1 e) (ih (e + 1) (by omega) l hl (fun j x' hj hmp => ?_) hm2 m' (by omega)))
      by_cases c : j = e
      · rw [c] at hmp
        exact absurd ⟨x', hmp⟩ hx
      · exact hm1 j x' (by omega) hmp
theorem ym_lowest (ok : tc_ok S) {post : Int32 → Prop} {f_noted : Int32} {f_depth : Int32} {f_rules : Int32} {f_planted : Int32} {f_trees : Int32} {f_stateCount : Int32} {f_known : Int32} {f_listed : Int32} {a_marks : Nat → Int32} {a_sizes : Nat → Int32} {a_lefts : Nat → Int32} {a_costs : Nat → Int32} {a_lengths : Nat → Int32} {a_operators : Nat → Int32} {a_spans : Nat → Int32} {a_least : Nat → Int32} {a_ways : Nat → Int32} {a_tasks : Nat → Int32} {a_list : Nat → Int32} (hy : tc_yr S len ent f_rules a_lefts a_costs a_lengths a_marks a_sizes) {n : Nat} (hn : n < 46) {t : Nat → Nat} (hK : ∀ e, t e ≤ 1000000)
    (hw : tc_yw S len ent a_least n t) (hp : post (nI (tc_lw 1000000 t (tc_E S)))) : wpY_lowest post (f_noted, f_depth, f_rules, f_planted, f_trees, f_stateCount, f_known, f_listed, a_marks, a_sizes, a_lefts, a_costs, a_lengths, a_operators, a_spans, a_least, a_ways, a_tasks, a_list) (nI n) :=
  ⟨75, ym_lowest_5 ok hy hn hK hw hp 74 0 (by omega) 1000000 (Nat.le_refl _) (fun j x hj => absurd hj (Nat.not_lt_zero _)) (Or.inl rfl) 75 (by omega)⟩
theorem ym_same_16 (ok : tc_ok S) {post : Int32 → Prop} {f_noted : Int32} {f_depth : Int32} {f_rules : Int32} {f_planted : Int32} {f_trees : Int32} {f_stateCount : Int32} {f_known : Int32} {f_listed : Int32} {a_marks : Nat → Int32} {a_sizes : Nat → Int32} {a_lefts : Nat → Int32} {a_costs : Nat → Int32} {a_lengths : Nat → Int32} {a_operators : Nat → Int32} {a_spans : Nat → Int32} {a_least : Nat → Int32} {a_ways : Nat → Int32} {a_tasks : Nat → Int32} {a_list : Nat → Int32} (hy : tc_yr S len ent f_rules a_lefts a_costs a_lengths a_marks a_sizes) {n k : Nat} (hn : n < 46) (hk : k < 46) {t u : Nat → Nat} (hK : ∀ e, t e ≤ 1000000) (hL : ∀ e, u e ≤ 1000000)
    (hw : tc_yw S len ent a_least n t) (hv : tc_yw S len ent a_least k u) (hp1 : tc_sa 1000000 (tc_E S) t u → post 1) (hp0 : ¬ tc_sa 1000000 (tc_E S) t u → post 0) :
    ∀ (d e : Nat), e + d = 74 → (∀ j x, j < e → tc_mp S len ent j x → tc_sc 1000000 (tc_E S) t u x) →
    ∀ m, d < m → wY_isSameState_16 post (nI n) (nI k) (nI (tc_lw 1000000 t (tc_E S))) (nI (tc_lw 1000000 u (tc_E S))) f_noted f_depth f_rules f_planted f_trees f_stateCount f_known f_listed a_marks a_sizes a_lefts a_costs a_lengths a_operators a_spans a_least a_ways a_tasks a_list m (nI e) := by
  have b1 := (tc_lw_le (K := 1000000) (t := t) (tc_E S)).1
  have b2 := (tc_lw_le (K := 1000000) (t := u) (tc_E S)).1
  intro d
  induction d with
  | zero =>
    intro e he hc m hm
    obtain ⟨m', rfl⟩ : ∃ m', m = m' + 1 := ⟨m - 1, by omega⟩
    have e1 : e = 74 := by omega
    subst e1
    refine br_t (nI_le (a := 74) (Nat.le_refl _) (by decide)) (hp1 (fun x hx => ?_))
    obtain ⟨j, hj, hmp⟩ := tc_mp_ex ok hy hx
    exact hc j x hj hmp
  | succ d ih =>
    intro e he hc m hm
    obtain ⟨m', rfl⟩ : ∃ m', m = m' + 1 := ⟨m - 1, by omega⟩
    have w1 : (74 : Int32) * nI n + nI e = nI (74 * n + e) := by rw [show (74 : Int32) = nI 74 from rfl, pk_mul, nI_add]
    have w2 : (74 : Int32) * nI k + nI e = nI (74 * k + e) := by rw [show (74 : Int32) = nI 74 from rfl, pk_mul, nI_add]
    have go : (∀ x, tc_mp S len ent e x → tc_sc 1000000 (tc_E S) t u x) → wY_isSameState_16 post (nI n) (nI k) (nI (tc_lw 1000000 t (tc_E S))) (nI (tc_lw 1000000 u (tc_E S))) f_noted f_depth f_rules f_planted f_trees f_stateCount f_known f_listed a_marks a_sizes a_lefts a_costs a_lengths a_operators a_spans a_least a_ways a_tasks a_list m' (nI (e + 1)) := fun hh =>
      ih (e + 1) (by omega) (fun j x hj hmp => by
        by_cases c : j = e
        · rw [c] at hmp
          exact hh x hmp
        · exact hc j x (by omega) hmp) m' (by omega)
    refine br_f (nI_ge (b := 74) (by omega) (by decide)) ⟨by rw [w1]; exact vp_in_nI (by omega) (by decide), nm_r (e' := a_least (74 * n + e)) (by rw [w1, nI_clamp (by omega)]) ⟨by rw [w2]; exact vp_in_nI (by omega) (by decide), nm_r (e' := a_least (74 * k + e)) (by rw [w2, nI_clamp (by omega)]) ?_⟩⟩
    by_cases hu : ∃ x, tc_mp S len ent e x
    · obtain ⟨x, hx⟩ := hu
      obtain ⟨v1, v2⟩ := tc_mp_val ok hy hw hx
      obtain ⟨u1, u2⟩ := tc_mp_val ok hy hv hx
      have v3 := hK x
      have u3 := hL x
      have go2 : tc_sc 1000000 (tc_E S) t u x → wY_isSameState_16 post (nI n) (nI k) (nI (tc_lw 1000000 t (tc_E S))) (nI (tc_lw 1000000 u (tc_E S))) f_noted f_depth f_rules f_planted f_trees f_stateCount f_known f_listed a_marks a_sizes a_lefts a_costs a_lengths a_operators a_spans a_least a_ways a_tasks a_list m' (nI (e + 1)) := fun hh => go (fun x' hx' => by
        obtain ⟨y1, y2⟩ := tc_mp_val ok hy hw hx'
        obtain ⟨z1, z2⟩ := tc_mp_val ok hy hv hx'
        have y3 := hK x'
        have z3 := hL x'
        rw [v1] at y1
        rw [u1] at z1
        have e1 : t x = t x' := (nI_eq (by omega) (by omega)).mp y1
        have e2 : u x = u x' := (nI_eq (by omega) (by omega)).mp z1
        unfold tc_sc at hh ⊢
        rw [← e1, ← e2]
        exact hh)
      have no : ¬ tc_sc 1000000 (tc_E S) t u x → post 0 := fun hh => hp0 (fun z => hh (z x v2))
      rw [v1, u1]
      have key : ∀ z : Int32, (z = 0 → ¬ (t x = 1000000 ∧ u x = 1000000)) → (¬ z = 0 → t x = 1000000 ∧ u x = 1000000) →
          wY_isSameState_70 post (wY_isSameState_16 post (nI n) (nI k) (nI (tc_lw 1000000 t (tc_E S))) (nI (tc_lw 1000000 u (tc_E S))) f_noted f_depth f_rules f_planted f_trees f_stateCount f_known f_listed a_marks a_sizes a_lefts a_costs a_lengths a_operators a_spans a_least a_ways a_tasks a_list m') (nI n) (nI k) (nI (tc_lw 1000000 t (tc_E S))) (nI (tc_lw 1000000 u (tc_E S))) (nI e) (nI (t x)) (nI (u x)) z f_noted f_depth f_rules f_planted f_trees f_stateCount f_known f_listed a_marks a_sizes a_lefts a_costs a_lengths a_operators a_spans a_least a_ways a_tasks a_list := fun z hz0 hz1 => by
        unfold wY_isSameState_70
        refine ym_used ok hy (by omega) (fun x' hx' => ?_) (fun hn => absurd ⟨x, hx⟩ hn)
        refine br_f (by decide) (br_c (fun z0 => ?_) (fun z1 => nm_r (nI_1 e) (go2 ?_)))
        · have hz := hz0 z0
          refine pk_le 1000000 (t x) (fun h => no (fun hh => hz ⟨by omega, hh.1.mp (by omega)⟩)) (fun h => ?_) rfl rfl (by omega) (by omega)
          refine pk_le 1000000 (u x) (fun h' => no (fun hh => hz ⟨hh.1.mpr (by omega), by omega⟩)) (fun h' => ?_) rfl rfl (by omega) (by omega)
          by_cases q : t x + tc_lw 1000000 u (tc_E S) = u x + tc_lw 1000000 t (tc_E S)
          · exact br_t ((tc_subeq (by omega) (by omega) (by omega) (by omega)).mpr q) (nm_r (nI_1 e) (go2 ⟨⟨fun h => by omega, fun h => by omega⟩, fun _ => q⟩))
          · exact br_f (fun z => q ((tc_subeq (by omega) (by omega) (by omega) (by omega)).mp z)) (no (fun z => q (z.2 (by omega))))
        · have hz := hz1 z1
          exact ⟨⟨fun _ => hz.2, fun _ => hz.1⟩, fun h => absurd hz.1 h⟩
      refine pk_lt (t x) 1000000 (fun h => ?_) (fun h => ?_) rfl rfl (by omega) (by omega)
      · exact key 0 (fun _ hh => by omega) (fun hh => absurd rfl hh)
      · refine pk_lt (u x) 1000000 (fun h' => ?_) (fun h' => ?_) rfl rfl (by omega) (by omega)
        · exact key 0 (fun _ hh => by omega) (fun hh => absurd rfl hh)
        · exact key 1 (fun hh => absurd hh (by decide)) (fun _ => ⟨by omega, by omega⟩)
    · have key : ∀ x y z : Int32, wY_isSameState_70 post (wY_isSameState_16 post (nI n) (nI k) (nI (tc_lw 1000000 t (tc_E S))) (nI (tc_lw 1000000 u (tc_E S))) f_noted f_depth f_rules f_planted f_trees f_stateCount f_known f_listed a_marks a_sizes a_lefts a_costs a_lengths a_operators a_spans a_least a_ways a_tasks a_list m') (nI n) (nI k) (nI (tc_lw 1000000 t (tc_E S))) (nI (tc_lw 1000000 u (tc_E S))) (nI e) x y z f_noted f_depth f_rules f_planted f_trees f_stateCount f_known f_listed a_marks a_sizes a_lefts a_costs a_lengths a_operators a_spans a_least a_ways a_tasks a_list := fun x y z => by
        unfold wY_isSameState_70
        refine ym_used ok hy (by omega) (fun x' hx' => absurd ⟨x', hx'⟩ hu) (fun hn => br_t rfl (nm_r (nI_1 e) (go (fun x' hx' => absurd ⟨x', hx'⟩ hn))))
      exact br_c (fun _ => key _ _ 0) (fun _ => br_c (fun _ => key _ _ 0) (fun _ => key _ _ 1))
theorem ym_same (ok : tc_ok S) {post : Int32 → Prop} {f_noted : Int32} {f_depth : Int32} {f_rules : Int32} {f_planted : Int32} {f_trees : Int32} {f_stateCount : Int32} {f_known : Int32} {f_listed : Int32} {a_marks : Nat → Int32} {a_sizes : Nat → Int32} {a_lefts : Nat → Int32} {a_costs : Nat → Int32} {a_lengths : Nat → Int32} {a_operators : Nat → Int32} {a_spans : Nat → Int32} {a_least : Nat → Int32} {a_ways : Nat → Int32} {a_tasks : Nat → Int32} {a_list : Nat → Int32} (hy : tc_yr S len ent f_rules a_lefts a_costs a_lengths a_marks a_sizes) {n k : Nat} (hn : n < 46) (hk : k < 46) {t u : Nat → Nat} (hK : ∀ e, t e ≤ 1000000) (hL : ∀ e, u e ≤ 1000000)
    (hw : tc_yw S len ent a_least n t) (hv : tc_yw S len ent a_least k u) (hp1 : tc_sa 1000000 (tc_E S) t u → post 1) (hp0 : ¬ tc_sa 1000000 (tc_E S) t u → post 0) :
    wpY_isSameState post (f_noted, f_depth, f_rules, f_planted, f_trees, f_stateCount, f_known, f_listed, a_marks, a_sizes, a_lefts, a_costs, a_lengths, a_operators, a_spans, a_least, a_ways, a_tasks, a_list) (nI n) (nI k) := by
  unfold wpY_isSameState
  refine ym_lowest ok hy hn hK hw ?_
  refine ym_lowest ok hy hk hL hv ?_
  exact ⟨75, ym_same_16 ok hy hn hk hK hL hw hv hp1 hp0 74 0 (by omega) (fun j x hj => absurd hj (Nat.not_lt_zero _)) 75 (by omega)⟩
end
end
section
section
variable {S : tc_S} {tn td : Nat} {ty tz tk : Nat → Nat}
theorem xm_least (ok : tc_ok S) {post : Int32 → Prop} {f_patternDepth : Int32} {f_patternNodes : Int32} {f_ruleCount : Int32} {f_entryCount : Int32} {f_treeDepth : Int32} {f_treeNodes : Int32} {f_stateCount : Int32} {f_coverLength : Int32} {f_pendingCount : Int32} {a_patternStack : Nat → Int32} {a_patternSymbol : Nat → Int32} {a_patternFirst : Nat → Int32} {a_patternLast : Nat → Int32} {a_patternEntry : Nat → Int32} {a_ruleLeft : Nat → Int32} {a_ruleCost : Nat → Int32} {a_ruleEntry : Nat → Int32} {a_ruleStart : Nat → Int32} {a_entryOperator : Nat → Int32} {a_entryFirst : Nat → Int32} {a_entryLast : Nat → Int32} {a_treeStack : Nat → Int32} {a_treeOperator : Nat → Int32} {a_treeFirst : Nat → Int32} {a_treeLast : Nat → Int32} {a_treeSize : Nat → Int32} {a_treeCosts : Nat → Int32} {a_treeWays : Nat → Int32} {a_stateCosts : Nat → Int32} {a_cover : Nat → Int32} {a_pendingEntry : Nat → Int32} {a_pendingNode : Nat → Int32} (hx : tc_xr S f_ruleCount f_entryCount a_ruleLeft a_ruleCost a_ruleEntry a_ruleStart a_entryOperator a_entryFirst a_entryLast)
    {r n : Nat} (hr : r < tc_R S) (hn : n < 24) {t : Nat → Nat} (hK : ∀ e, t e ≤ 536870912) (ht : tc_tr a_treeCosts (n * 74) (tc_E S) t)
    (h1 : tc_bs S 536870912 t r → post 1) (h0 : ¬ tc_bs S 536870912 t r → post 0) : wpX_isLeast post (f_patternDepth, f_patternNodes, f_ruleCount, f_entryCount, f_treeDepth, f_treeNodes, f_stateCount, f_coverLength, f_pendingCount, a_patternStack, a_patternSymbol, a_patternFirst, a_patternLast, a_patternEntry, a_ruleLeft, a_ruleCost, a_ruleEntry, a_ruleStart, a_entryOperator, a_entryFirst, a_entryLast, a_treeStack, a_treeOperator, a_treeFirst, a_treeLast, a_treeSize, a_treeCosts, a_treeWays, a_stateCosts, a_cover, a_pendingEntry, a_pendingNode) (nI r) (nI n) := by
  have hE := tc_ok_E ok
  have hR := ok.1
  obtain ⟨l1, l2, l3, l4⟩ := tc_ok_r ok hr
  obtain ⟨x1, x2, x3, _⟩ := hx.2.2.1 r hr
  have c : (nI r).toNatClampNeg = r := nI_clamp (by omega)
  have q1 := hK (tc_lf S r)
  have q2 := hK (tc_rt S r)
  refine nm_r (e' := nI (n * 74)) (by rw [show (74 : Int32) = nI 74 from rfl, pk_mul]) ⟨vp_in_nI (by omega) (by decide), ?_⟩
  have w1 : nI (n * 74) + a_ruleLeft (nI r).toNatClampNeg = nI (n * 74 + tc_lf S r) := by rw [c, x1, nI_add]
  have w2 : nI (n * 74) + a_ruleEntry (nI r).toNatClampNeg = nI (n * 74 + tc_rt S r) := by rw [c, x3, nI_add]
  refine ⟨by rw [w1]; exact vp_in_nI (by omega) (by decide), nm_r (e' := nI (t (tc_lf S r))) (by rw [w1, nI_clamp (by omega), ht _ (by omega)]) ?_⟩
  refine pk_eq (t (tc_lf S r)) 536870912 (fun h => h0 (fun z => z.1 h)) (fun h => ?_) rfl rfl (by omega) (by omega)
  refine ⟨vp_in_nI (by omega) (by decide), vp_in_nI (by omega) (by decide), by rw [w2]; exact vp_in_nI (by omega) (by decide), ?_⟩
  refine pk_eq (t (tc_lf S r)) (tc_co S r + t (tc_rt S r)) (fun h' => h1 ⟨h, h'⟩) (fun h' => h0 (fun z => h' z.2)) rfl (by rw [w2, c, x2, nI_clamp (by omega), ht _ l3, nI_add]) (by omega) (by omega)
theorem xm_wr_5 (ok : tc_ok S) {post : Int32 → Prop} {f_patternDepth : Int32} {f_patternNodes : Int32} {f_ruleCount : Int32} {f_entryCount : Int32} {f_treeDepth : Int32} {f_treeNodes : Int32} {f_stateCount : Int32} {f_coverLength : Int32} {f_pendingCount : Int32} {a_patternStack : Nat → Int32} {a_patternSymbol : Nat → Int32} {a_patternFirst : Nat → Int32} {a_patternLast : Nat → Int32} {a_patternEntry : Nat → Int32} {a_ruleLeft : Nat → Int32} {a_ruleCost : Nat → Int32} {a_ruleEntry : Nat → Int32} {a_ruleStart : Nat → Int32} {a_entryOperator : Nat → Int32} {a_entryFirst : Nat → Int32} {a_entryLast : Nat → Int32} {a_treeStack : Nat → Int32} {a_treeOperator : Nat → Int32} {a_treeFirst : Nat → Int32} {a_treeLast : Nat → Int32} {a_treeSize : Nat → Int32} {a_treeCosts : Nat → Int32} {a_treeWays : Nat → Int32} {a_stateCosts : Nat → Int32} {a_cover : Nat → Int32} {a_pendingEntry : Nat → Int32} {a_pendingNode : Nat → Int32} (hx : tc_xr S f_ruleCount f_entryCount a_ruleLeft a_ruleCost a_ruleEntry a_ruleStart a_entryOperator a_entryFirst a_entryLast)
    {n g : Nat} (hn : n < 24) (hg : g < 4) {t : Nat → Nat} (hK : ∀ e, t e ≤ 536870912) (ht : tc_tr a_treeCosts (n * 74) (tc_E S) t) {w : Nat → Int32} (hw : ∀ e, e < tc_E S → a_treeWays (n * 74 + e) = w e)
    (hp : post (tc_ws S 536870912 t w g (tc_R S))) : ∀ (d k : Nat), k + d = tc_R S → ∀ m, d < m → wX_waysOfRules_5 post (nI g) (nI n) f_patternDepth f_patternNodes f_ruleCount f_entryCount f_treeDepth f_treeNodes f_stateCount f_coverLength f_pendingCount a_patternStack a_patternSymbol a_patternFirst a_patternLast a_patternEntry a_ruleLeft a_ruleCost a_ruleEntry a_ruleStart a_entryOperator a_entryFirst a_entryLast a_treeStack a_treeOperator a_treeFirst a_treeLast a_treeSize a_treeCosts a_treeWays a_stateCosts a_cover a_pendingEntry a_pendingNode m (tc_ws S 536870912 t w g k) (nI k) := by
  have hE := tc_ok_E ok
  have hR := ok.1
  intro d
  induction d with
  | zero =>
    intro k hk m hm
    obtain ⟨m', rfl⟩ : ∃ m', m = m' + 1 := ⟨m - 1, by omega⟩
    have e : k = tc_R S := by omega
    subst e
    exact br_t (by rw [hx.1]; exact nI_le (Nat.le_refl _) (by omega)) hp
  | succ d ih =>
    intro k hk m hm
    obtain ⟨m', rfl⟩ : ∃ m', m = m' + 1 := ⟨m - 1, by omega⟩
    have hk' : k < tc_R S := by omega
    obtain ⟨l1, l2, l3, l4⟩ := tc_ok_r ok hk'
    obtain ⟨x1, x2, x3, _⟩ := hx.2.2.1 k hk'
    have c : (nI k).toNatClampNeg = k := nI_clamp (by omega)
    have nxt := ih (k + 1) (by omega) m' (by omega)
    unfold tc_ws at nxt
    refine br_f (by rw [hx.1]; exact nI_ge hk' (by omega)) ⟨vp_in_nI (by omega) (by decide), ?_⟩
    refine pk_eq (tc_lf S k) g (fun h => ?_) (fun h => ?_) (by rw [c, x1]) rfl (by omega) (by omega)
    · refine xm_least ok hx hk' hn hK ht (fun hb => ?_) (fun hb => ?_)
      · have w2 : nI n * 74 + a_ruleEntry (nI k).toNatClampNeg = nI (n * 74 + tc_rt S k) := by rw [c, x3, show (74 : Int32) = nI 74 from rfl, pk_mul, nI_add]
        rw [if_pos ⟨h, hb⟩] at nxt
        refine br_f (by decide) ⟨vp_in_nI (by omega) (by decide), by rw [w2]; exact vp_in_nI (by omega) (by decide), nm_r (by rw [w2, nI_clamp (by omega), hw _ l3]) (nm_r (nI_1 k) nxt)⟩
      · rw [if_neg (fun z => hb z.2)] at nxt
        exact br_t rfl (nm_r (nI_1 k) nxt)
    · rw [if_neg (fun z => h z.1)] at nxt
      exact nm_r (nI_1 k) nxt
theorem xm_wr (ok : tc_ok S) {post : Int32 → Prop} {f_patternDepth : Int32} {f_patternNodes : Int32} {f_ruleCount : Int32} {f_entryCount : Int32} {f_treeDepth : Int32} {f_treeNodes : Int32} {f_stateCount : Int32} {f_coverLength : Int32} {f_pendingCount : Int32} {a_patternStack : Nat → Int32} {a_patternSymbol : Nat → Int32} {a_patternFirst : Nat → Int32} {a_patternLast : Nat → Int32} {a_patternEntry : Nat → Int32} {a_ruleLeft : Nat → Int32} {a_ruleCost : Nat → Int32} {a_ruleEntry : Nat → Int32} {a_ruleStart : Nat → Int32} {a_entryOperator : Nat → Int32} {a_entryFirst : Nat → Int32} {a_entryLast : Nat → Int32} {a_treeStack : Nat → Int32} {a_treeOperator : Nat → Int32} {a_treeFirst : Nat → Int32} {a_treeLast : Nat → Int32} {a_treeSize : Nat → Int32} {a_treeCosts : Nat → Int32} {a_treeWays : Nat → Int32} {a_stateCosts : Nat → Int32} {a_cover : Nat → Int32} {a_pendingEntry : Nat → Int32} {a_pendingNode : Nat → Int32} (hx : tc_xr S f_ruleCount f_entryCount a_ruleLeft a_ruleCost a_ruleEntry a_ruleStart a_entryOperator a_entryFirst a_entryLast)
    {n g : Nat} (hn : n < 24) (hg : g < 4) {t : Nat → Nat} (hK : ∀ e, t e ≤ 536870912) (ht : tc_tr a_treeCosts (n * 74) (tc_E S) t) {w : Nat → Int32} (hw : ∀ e, e < tc_E S → a_treeWays (n * 74 + e) = w e)
    (hp : post (tc_ws S 536870912 t w g (tc_R S))) : wpX_waysOfRules post (f_patternDepth, f_patternNodes, f_ruleCount, f_entryCount, f_treeDepth, f_treeNodes, f_stateCount, f_coverLength, f_pendingCount, a_patternStack, a_patternSymbol, a_patternFirst, a_patternLast, a_patternEntry, a_ruleLeft, a_ruleCost, a_ruleEntry, a_ruleStart, a_entryOperator, a_entryFirst, a_entryLast, a_treeStack, a_treeOperator, a_treeFirst, a_treeLast, a_treeSize, a_treeCosts, a_treeWays, a_stateCosts, a_cover, a_pendingEntry, a_pendingNode) (nI g) (nI n) :=
  ⟨tc_R S + 1, xm_wr_5 ok hx hn hg hK ht hw hp (tc_R S) 0 (by omega) _ (by omega)⟩
/-- the ways of an operator entry that covers -/
theorem xm_wp (ok : tc_ok S) (hn : tc_tn ty tz tn) (hN : tn ≤ 24) {post : Int32 → Prop} {f_patternDepth : Int32} {f_patternNodes : Int32} {f_ruleCount : Int32} {f_entryCount : Int32} {f_treeDepth : Int32} {f_treeNodes : Int32} {f_stateCount : Int32} {f_coverLength : Int32} {f_pendingCount : Int32} {a_patternStack : Nat → Int32} {a_patternSymbol : Nat → Int32} {a_patternFirst : Nat → Int32} {a_patternLast : Nat → Int32} {a_patternEntry : Nat → Int32} {a_ruleLeft : Nat → Int32} {a_ruleCost : Nat → Int32} {a_ruleEntry : Nat → Int32} {a_ruleStart : Nat → Int32} {a_entryOperator : Nat → Int32} {a_entryFirst : Nat → Int32} {a_entryLast : Nat → Int32} {a_treeStack : Nat → Int32} {a_treeOperator : Nat → Int32} {a_treeFirst : Nat → Int32} {a_treeLast : Nat → Int32} {a_treeSize : Nat → Int32} {a_treeCosts : Nat → Int32} {a_treeWays : Nat → Int32} {a_stateCosts : Nat → Int32} {a_cover : Nat → Int32} {a_pendingEntry : Nat → Int32} {a_pendingNode : Nat → Int32} (hx : tc_xr S f_ruleCount f_entryCount a_ruleLeft a_ruleCost a_ruleEntry a_ruleStart a_entryOperator a_entryFirst a_entryLast)
    (ht : tc_xt tn td ty tz tk f_treeDepth f_treeNodes a_treeStack a_treeOperator a_treeFirst a_treeLast a_treeSize) {e i : Nat} (he : 4 ≤ e) (heE : e < tc_E S) (hi : i < tn) (heo : tc_eo S e = ty i)
    {x y : Nat → Int32} (hyw : 2 ≤ ty i → ∀ e, e < tc_E S → a_treeWays ((i - 1) * 74 + e) = y e) (hxw : 4 ≤ ty i → ∀ e, e < tc_E S → a_treeWays ((i - 1 - tz (i - 1)) * 74 + e) = x e)
    (hp : post (if ty i < 2 then 1 else if ty i < 4 then y (tc_el S e) else x (tc_ef S e) * y (tc_el S e))) : wpX_waysOfParts post (f_patternDepth, f_patternNodes, f_ruleCount, f_entryCount, f_treeDepth, f_treeNodes, f_stateCount, f_coverLength, f_pendingCount, a_patternStack, a_patternSymbol, a_patternFirst, a_patternLast, a_patternEntry, a_ruleLeft, a_ruleCost, a_ruleEntry, a_ruleStart, a_entryOperator, a_entryFirst, a_entryLast, a_treeStack, a_treeOperator, a_treeFirst, a_treeLast, a_treeSize, a_treeCosts, a_treeWays, a_stateCosts, a_cover, a_pendingEntry, a_pendingNode) (nI e) (nI i) := by
  have hE := tc_ok_E ok
  obtain ⟨h6, n1, n2, n3, n4, n5, n6, n7⟩ := hn i hi
  obtain ⟨t1, t2, t3, t4⟩ := ht.2.2.2 i hi
  obtain ⟨x1, x2, x3⟩ := hx.2.2.2 e he heE
  have hk := ok.2.2.2 e he heE
  have c : (nI e).toNatClampNeg = e := nI_clamp (by omega)
  have ci : (nI i).toNatClampNeg = i := nI_clamp (by omega)
  refine ⟨vp_in_nI (by omega) (by decide), ?_⟩
  rw [c, x1, heo]
  refine xm_parts (by omega) ?_
  by_cases h2 : ty i < 2
  · rw [if_pos h2] at hp
    rw [tc_ar0 h2]
    exact br_t (by decide) (br_f (by decide) hp)
  · rw [if_neg h2] at hp
    have hi1 := n3 (by omega) h6
    have w1 : a_treeLast (nI i).toNatClampNeg * 74 + a_entryLast e = nI ((i - 1) * 74 + tc_el S e) := by
      rw [ci, t3 (by omega), x2 (by omega), show (74 : Int32) = nI 74 from rfl, pk_mul, nI_add]
    have w2 : (1 : Int32) * a_treeWays (a_treeLast (nI i).toNatClampNeg * 74 + a_entryLast e).toNatClampNeg = y (tc_el S e) := by
      rw [w1, nI_clamp (by omega), hyw (by omega) _ (by omega), Int32.one_mul]
    by_cases h4 : ty i < 4
    · rw [if_pos h4] at hp
      rw [tc_ar1 (by omega) h4]
      exact br_f (by decide) ⟨vp_in_nI (by omega) (by decide), vp_in_nI (by omega) (by decide), by rw [w1]; exact vp_in_nI (by omega) (by decide), nm_r w2 (br_f (by decide) hp)⟩
    · rw [if_neg h4] at hp
      rw [tc_ar2 (by omega)]
      have hi2 := n4 (by omega) h6
      have w3 : a_treeFirst (nI i).toNatClampNeg * 74 + a_entryFirst (nI e).toNatClampNeg = nI ((i - 1 - tz (i - 1)) * 74 + tc_ef S e) := by
        rw [c, ci, t4 (by omega), x3 (by omega), show (74 : Int32) = nI 74 from rfl, pk_mul, nI_add]
      refine br_f (by decide) ⟨vp_in_nI (by omega) (by decide), vp_in_nI (by omega) (by decide), by rw [w1]; exact vp_in_nI (by omega) (by decide), nm_r w2 (br_t rfl ⟨vp_in_nI (by omega) (by decide), vp_in_nI (by omega) (by decide), by rw [w3]; exact vp_in_nI (by omega) (by decide), nm_r (e' := x (tc_ef S e) * y (tc_el S e)) ?_ hp⟩)⟩
      rw [w3, nI_clamp (by omega), hxw (by omega) _ (by omega), Int32.mul_comm]
theorem xm_fw_65 (ok : tc_ok S) {post : SX → Prop} {J : Int32 → (Nat → Int32) → (Nat → Int32) → (Nat → Int32) → (Nat → Int32) → (Nat → Int32) → (Nat → Int32) → (Nat → Int32) → (Nat → Int32) → (Nat → Int32) → (Nat → Int32) → (Nat → Int32) → (Nat → Int32) → (Nat → Int32) → (Nat → Int32) → (Nat → Int32) → (Nat → Int32) → (Nat → Int32) → (Nat → Int32) → (Nat → Int32) → (Nat → Int32) → (Nat → Int32) → (Nat → Int32) → (Nat → Int32) → Prop} {f_patternDepth : Int32} {f_patternNodes : Int32} {f_ruleCount : Int32} {f_entryCount : Int32} {f_treeDepth : Int32} {f_treeNodes : Int32} {f_stateCount : Int32} {f_coverLength : Int32} {f_pendingCount : Int32} {a_patternStack : Nat → Int32} {a_patternSymbol : Nat → Int32} {a_patternFirst : Nat → Int32} {a_patternLast : Nat → Int32} {a_patternEntry : Nat → Int32} {a_ruleLeft : Nat → Int32} {a_ruleCost : Nat → Int32} {a_ruleEntry : Nat → Int32} {a_ruleStart : Nat → Int32} {a_entryOperator : Nat → Int32} {a_entryFirst : Nat → Int32} {a_entryLast : Nat → Int32} {a_treeStack : Nat → Int32} {a_treeOperator : Nat → Int32} {a_treeFirst : Nat → Int32} {a_treeLast : Nat → Int32} {a_treeSize : Nat → Int32} {a_treeCosts : Nat → Int32} {a_stateCosts : Nat → Int32} {a_cover : Nat → Int32} {a_pendingEntry : Nat → Int32} {a_pendingNode : Nat → Int32} (hx : tc_xr S f_ruleCount f_entryCount a_ruleLeft a_ruleCost a_ruleEntry a_ruleStart a_entryOperator a_entryFirst a_entryLast)
    {n k : Nat} (hn : n < 24) {t : Nat → Nat} (hK : ∀ e, t e ≤ 536870912) (ht : tc_tr a_treeCosts (n * 74) (tc_E S) t) {wo : Nat → Int32} :
    ∀ (d g : Nat), g + d = 4 → ∀ a_treeWays : Nat → Int32, (∀ e, 4 ≤ e → e < tc_E S → a_treeWays (n * 74 + e) = wo e) →
    (∀ h, h < 4 → tc_L t h < k → a_treeWays (n * 74 + h) = tc_wf S 536870912 t wo 4 h) → (∀ h, h < g → tc_L t h < k + 1 → a_treeWays (n * 74 + h) = tc_wf S 536870912 t wo 4 h) →
    (∀ a', tc_fr a_treeWays a' (n * 74) → (∀ e, 4 ≤ e → e < tc_E S → a' (n * 74 + e) = wo e) → (∀ h, h < 4 → tc_L t h < k + 1 → a' (n * 74 + h) = tc_wf S 536870912 t wo 4 h) → J (nI (k + 1)) a_patternStack a_patternSymbol a_patternFirst a_patternLast a_patternEntry a_ruleLeft a_ruleCost a_ruleEntry a_ruleStart a_entryOperator a_entryFirst a_entryLast a_treeStack a_treeOperator a_treeFirst a_treeLast a_treeSize a_treeCosts a' a_stateCosts a_cover a_pendingEntry a_pendingNode) →
    ∀ m, d < m → wX_fillWays_65 post J (nI n) (nI (n * 74)) (nI k) f_patternDepth f_patternNodes f_ruleCount f_entryCount f_treeDepth f_treeNodes f_stateCount f_coverLength f_pendingCount m (nI g) a_patternStack a_patternSymbol a_patternFirst a_patternLast a_patternEntry a_ruleLeft a_ruleCost a_ruleEntry a_ruleStart a_entryOperator a_entryFirst a_entryLast a_treeStack a_treeOperator a_treeFirst a_treeLast a_treeSize a_treeCosts a_treeWays a_stateCosts a_cover a_pendingEntry a_pendingNode := by
  have hE := tc_ok_E ok
  intro d
  induction d with
  | zero =>
    intro g hg a_treeWays h4 hP hQ hp m hm
    obtain ⟨m', rfl⟩ : ∃ m', m = m' + 1 := ⟨m - 1, by omega⟩
    have e : g = 4 := by omega
    subst e
    exact br_t (nI_le (a := 4) (Nat.le_refl _) (by decide)) (nm_r (nI_1 k) (hp _ (tc_fr_refl _ _) h4 hQ))
  | succ d ih =>
    intro g hg a_treeWays h4 hP hQ hp m hm
    obtain ⟨m', rfl⟩ : ∃ m', m = m' + 1 := ⟨m - 1, by omega⟩
    have w : nI (n * 74) + nI g = nI (n * 74 + g) := nI_add _ _
    refine br_f (nI_ge (b := 4) (by omega) (by decide)) ?_
    refine xm_wr ok hx hn (by omega) hK ht (w := fun e => a_treeWays (n * 74 + e)) (fun e _ => rfl) ?_
    have st : tc_L t g ≤ k → tc_ws S 536870912 t (fun e => a_treeWays (n * 74 + e)) g (tc_R S) = tc_wf S 536870912 t wo 4 g := fun hk => tc_wf_settle ok h4 hP (by omega) hk
    refine ⟨by rw [w]; exact vp_in_nI (by omega) (by decide), nm_r (e' := upd a_treeWays (n * 74 + g) (tc_ws S 536870912 t (fun e => a_treeWays (n * 74 + e)) g (tc_R S))) (by rw [w, nI_clamp (by omega)]) (nm_r (nI_1 g) ?_)⟩
    refine ih (g + 1) (by omega) _ (fun e h1 h2 => ?_) (fun h h1 h2 => ?_) (fun h h1 h2 => ?_) (fun a' f1 f2 f3 => hp a' (tc_fr_trans (tc_fr_upd (by omega)) f1) f2 f3) m' (by omega)
    · rw [pk_un (by omega)]
      exact h4 e h1 h2
    · by_cases c : h = g
      · rw [c, pk_us]
        exact st (by rw [c] at h2; omega)
      · rw [pk_un (by omega)]
        exact hP h h1 h2
    · by_cases c : h = g
      · rw [c, pk_us]
        exact st (by rw [c] at h2; omega)
      · rw [pk_un (by omega)]
        exact hQ h (by omega) h2
theorem xm_fw_57 (ok : tc_ok S) {post : SX → Prop} {f_patternDepth : Int32} {f_patternNodes : Int32} {f_ruleCount : Int32} {f_entryCount : Int32} {f_treeDepth : Int32} {f_treeNodes : Int32} {f_stateCount : Int32} {f_coverLength : Int32} {f_pendingCount : Int32} {a_patternStack : Nat → Int32} {a_patternSymbol : Nat → Int32} {a_patternFirst : Nat → Int32} {a_patternLast : Nat → Int32} {a_patternEntry : Nat → Int32} {a_ruleLeft : Nat → Int32} {a_ruleCost : Nat → Int32} {a_ruleEntry : Nat → Int32} {a_ruleStart : Nat → Int32} {a_entryOperator : Nat → Int32} {a_entryFirst : Nat → Int32} {a_entryLast : Nat → Int32} {a_treeStack : Nat → Int32} {a_treeOperator : Nat → Int32} {a_treeFirst : Nat → Int32} {a_treeLast : Nat → Int32} {a_treeSize : Nat → Int32} {a_treeCosts : Nat → Int32} {a_stateCosts : Nat → Int32} {a_cover : Nat → Int32} {a_pendingEntry : Nat → Int32} {a_pendingNode : Nat → Int32} (hx : tc_xr S f_ruleCount f_entryCount a_ruleLeft a_ruleCost a_ruleEntry a_ruleStart a_entryOperator a_entryFirst a_entryLast)
    {n : Nat} (hn : n < 24) {t : Nat → Nat} (hK : ∀ e, t e ≤ 536870912) (ht : tc_tr a_treeCosts (n * 74) (tc_E S) t) {wo : Nat → Int32} :
    ∀ (d k : Nat), k + d = 4 → ∀ a_treeWays : Nat → Int32, (∀ e, 4 ≤ e → e < tc_E S → a_treeWays (n * 74 + e) = wo e) →
    (∀ h, h < 4 → tc_L t h < k → a_treeWays (n * 74 + h) = tc_wf S 536870912 t wo 4 h) →
    (∀ a', tc_fr a_treeWays a' (n * 74) → (∀ e, e < tc_E S → a' (n * 74 + e) = tc_wf S 536870912 t wo 4 e) → post (f_patternDepth, f_patternNodes, f_ruleCount, f_entryCount, f_treeDepth, f_treeNodes, f_stateCount, f_coverLength, f_pendingCount, a_patternStack, a_patternSymbol, a_patternFirst, a_patternLast, a_patternEntry, a_ruleLeft, a_ruleCost, a_ruleEntry, a_ruleStart, a_entryOperator, a_entryFirst, a_entryLast, a_treeStack, a_treeOperator, a_treeFirst, a_treeLast, a_treeSize, a_treeCosts, a', a_stateCosts, a_cover, a_pendingEntry, a_pendingNode)) →
    ∀ m, d < m → wX_fillWays_57 post (nI n) (nI (n * 74)) f_patternDepth f_patternNodes f_ruleCount f_entryCount f_treeDepth f_treeNodes f_stateCount f_coverLength f_pendingCount m (nI k) a_patternStack a_patternSymbol a_patternFirst a_patternLast a_patternEntry a_ruleLeft a_ruleCost a_ruleEntry a_ruleStart a_entryOperator a_entryFirst a_entryLast a_treeStack a_treeOperator a_treeFirst a_treeLast a_treeSize a_treeCosts a_treeWays a_stateCosts a_cover a_pendingEntry a_pendingNode := by
  intro d
  induction d with
  | zero =>
    intro k hk a_treeWays h4 hP hp m hm
    obtain ⟨m', rfl⟩ : ∃ m', m = m' + 1 := ⟨m - 1, by omega⟩
    have e : k = 4 := by omega
    subst e
    refine br_t (nI_le (a := 4) (Nat.le_refl _) (by decide)) (hp _ (tc_fr_refl _ _) (fun e he => ?_))
    by_cases c : e < 4
    · have := tc_L_le3 (t := t) c
      exact hP e c (by omega)
    · rw [tc_wf_ge (by omega)]
      exact h4 e (by omega) he
  | succ d ih =>
    intro k hk a_treeWays h4 hP hp m hm
    obtain ⟨m', rfl⟩ : ∃ m', m = m' + 1 := ⟨m - 1, by omega⟩
    refine br_f (nI_ge (b := 4) (by omega) (by decide)) ⟨5, ?_⟩
    refine xm_fw_65 ok hx hn hK ht (wo := wo) 4 0 (by omega) a_treeWays h4 hP (fun h hh => absurd hh (Nat.not_lt_zero _)) (fun a' f1 f2 f3 => ?_) 5 (by omega)
    exact ih (k + 1) (by omega) a' f2 f3 (fun a2 s1 s2 => hp a2 (tc_fr_trans f1 s1) s2) m' (by omega)
theorem xm_fw_7 (ok : tc_ok S) (hn : tc_tn ty tz tn) (hN : tn ≤ 24) {post : SX → Prop} {f_patternDepth : Int32} {f_patternNodes : Int32} {f_ruleCount : Int32} {f_entryCount : Int32} {f_treeDepth : Int32} {f_treeNodes : Int32} {f_stateCount : Int32} {f_coverLength : Int32} {f_pendingCount : Int32} {a_patternStack : Nat → Int32} {a_patternSymbol : Nat → Int32} {a_patternFirst : Nat → Int32} {a_patternLast : Nat → Int32} {a_patternEntry : Nat → Int32} {a_ruleLeft : Nat → Int32} {a_ruleCost : Nat → Int32} {a_ruleEntry : Nat → Int32} {a_ruleStart : Nat → Int32} {a_entryOperator : Nat → Int32} {a_entryFirst : Nat → Int32} {a_entryLast : Nat → Int32} {a_treeStack : Nat → Int32} {a_treeOperator : Nat → Int32} {a_treeFirst : Nat → Int32} {a_treeLast : Nat → Int32} {a_treeSize : Nat → Int32} {a_treeCosts : Nat → Int32} {a_stateCosts : Nat → Int32} {a_cover : Nat → Int32} {a_pendingEntry : Nat → Int32} {a_pendingNode : Nat → Int32} (hx : tc_xr S f_ruleCount f_entryCount a_ruleLeft a_ruleCost a_ruleEntry a_ruleStart a_entryOperator a_entryFirst a_entryLast)
    (ht : tc_xt tn td ty tz tk f_treeDepth f_treeNodes a_treeStack a_treeOperator a_treeFirst a_treeLast a_treeSize) {i : Nat} (hi : i < tn)
    (hr : tc_tr a_treeCosts (i * 74) (tc_E S) (tc_v S 536870912 ty tz i)) {x y : Nat → Int32} :
    ∀ (d e : Nat), e + d = tc_E S → 4 ≤ e → ∀ a_treeWays : Nat → Int32, (∀ j, 4 ≤ j → j < e → a_treeWays (i * 74 + j) = tc_wo S 536870912 (tc_v S 536870912 ty tz i) (ty i) x y j) →
    (2 ≤ ty i → ∀ e, e < tc_E S → a_treeWays ((i - 1) * 74 + e) = y e) → (4 ≤ ty i → ∀ e, e < tc_E S → a_treeWays ((i - 1 - tz (i - 1)) * 74 + e) = x e) →
    (∀ a', tc_fr a_treeWays a' (i * 74) → (∀ e, e < tc_E S → a' (i * 74 + e) = tc_wr S 536870912 (tc_v S 536870912 ty tz i) (ty i) x y e) → post (f_patternDepth, f_patternNodes, f_ruleCount, f_entryCount, f_treeDepth, f_treeNodes, f_stateCount, f_coverLength, f_pendingCount, a_patternStack, a_patternSymbol, a_patternFirst, a_patternLast, a_patternEntry, a_ruleLeft, a_ruleCost, a_ruleEntry, a_ruleStart, a_entryOperator, a_entryFirst, a_entryLast, a_treeStack, a_treeOperator, a_treeFirst, a_treeLast, a_treeSize, a_treeCosts, a', a_stateCosts, a_cover, a_pendingEntry, a_pendingNode)) →
    ∀ m, d < m → wX_fillWays_7 post (nI i) (nI (i * 74)) f_patternDepth f_patternNodes f_ruleCount f_entryCount f_treeDepth f_treeNodes f_stateCount f_coverLength f_pendingCount m (nI e) a_patternStack a_patternSymbol a_patternFirst a_patternLast a_patternEntry a_ruleLeft a_ruleCost a_ruleEntry a_ruleStart a_entryOperator a_entryFirst a_entryLast a_treeStack a_treeOperator a_treeFirst a_treeLast a_treeSize a_treeCosts a_treeWays a_stateCosts a_cover a_pendingEntry a_pendingNode := by
  have hE := tc_ok_E ok
  obtain ⟨h6, n1, n2, n3, n4, n5, n6, n7⟩ := hn i hi
  have vle : ∀ e, tc_v S 536870912 ty tz i e ≤ 536870912 := fun e => tc_v_le (fun h => n3 h h6) e
  intro d
  induction d with
  | zero =>
    intro e he he4 a_treeWays h4 hyw hxw hp m hm
    obtain ⟨m', rfl⟩ : ∃ m', m = m' + 1 := ⟨m - 1, by omega⟩
    have e1 : e = tc_E S := by omega
    subst e1
    refine br_t (by rw [hx.2.1]; exact nI_le (Nat.le_refl _) (by omega)) ⟨5, ?_⟩
    exact xm_fw_57 ok hx (by omega) vle hr 4 0 (by omega) a_treeWays h4 (fun h _ hh => absurd hh (Nat.not_lt_zero _)) hp 5 (by omega)
  | succ d ih =>
    intro e he he4 a_treeWays h4 hyw hxw hp m hm
    obtain ⟨m', rfl⟩ : ∃ m', m = m' + 1 := ⟨m - 1, by omega⟩
    have heE : e < tc_E S := by omega
    have w : nI (i * 74) + nI e = nI (i * 74 + e) := nI_add _ _
    have ve := vle e
    have key : ∀ z : Int32, z = tc_wo S 536870912 (tc_v S 536870912 ty tz i) (ty i) x y e → wX_fillWays_39 post (wX_fillWays_7 post (nI i) (nI (i * 74)) f_patternDepth f_patternNodes f_ruleCount f_entryCount f_treeDepth f_treeNodes f_stateCount f_coverLength f_pendingCount m') (nI i) (nI (i * 74)) (nI e) z f_patternDepth f_patternNodes f_ruleCount f_entryCount f_treeDepth f_treeNodes f_stateCount f_coverLength f_pendingCount a_patternStack a_patternSymbol a_patternFirst a_patternLast a_patternEntry a_ruleLeft a_ruleCost a_ruleEntry a_ruleStart a_entryOperator a_entryFirst a_entryLast a_treeStack a_treeOperator a_treeFirst a_treeLast a_treeSize a_treeCosts a_treeWays a_stateCosts a_cover a_pendingEntry a_pendingNode := fun z hz => by
      refine ⟨by rw [w]; exact vp_in_nI (by omega) (by decide), nm_r (e' := upd a_treeWays (i * 74 + e) z) (by rw [w, nI_clamp (by omega)]) (nm_r (nI_1 e) ?_)⟩
      refine ih (e + 1) (by omega) (by omega) _ (fun j h1 h2 => ?_) (fun h2 j hj => ?_) (fun h2 j hj => ?_) (fun a' f1 f2 => hp a' (tc_fr_trans (tc_fr_upd (by omega)) f1) f2) m' (by omega)
      · by_cases c : j = e
        · rw [c, pk_us, hz]
        · rw [pk_un (by omega)]
          exact h4 j h1 (by omega)
      · have := n3 h2 h6
        rw [pk_un (by omega)]
        exact hyw h2 j hj
      · have := n3 (by omega) h6
        rw [pk_un (by omega)]
        exact hxw h2 j hj
    refine br_f (by rw [hx.2.1]; exact nI_ge heE (by omega)) ⟨by rw [w]; exact vp_in_nI (by omega) (by decide), ?_⟩
    refine pk_eq (tc_v S 536870912 ty tz i e) 536870912 (fun h => ?_) (fun h => ?_) (by rw [w, nI_clamp (by omega), hr e heE]) rfl (by omega) (by omega)
    · exact key 0 (if_pos h).symm
    · refine xm_wp ok hn hN hx ht he4 heE hi (tc_v_op ok (fun h => n3 h h6) he4 h).1 hyw hxw ?_
      exact key _ (if_neg h).symm
theorem xm_fw (ok : tc_ok S) (hn : tc_tn ty tz tn) (hN : tn ≤ 24) {post : SX → Prop} {f_patternDepth : Int32} {f_patternNodes : Int32} {f_ruleCount : Int32} {f_entryCount : Int32} {f_treeDepth : Int32} {f_treeNodes : Int32} {f_stateCount : Int32} {f_coverLength : Int32} {f_pendingCount : Int32} {a_patternStack : Nat → Int32} {a_patternSymbol : Nat → Int32} {a_patternFirst : Nat → Int32} {a_patternLast : Nat → Int32} {a_patternEntry : Nat → Int32} {a_ruleLeft : Nat → Int32} {a_ruleCost : Nat → Int32} {a_ruleEntry : Nat → Int32} {a_ruleStart : Nat → Int32} {a_entryOperator : Nat → Int32} {a_entryFirst : Nat → Int32} {a_entryLast : Nat → Int32} {a_treeStack : Nat → Int32} {a_treeOperator : Nat → Int32} {a_treeFirst : Nat → Int32} {a_treeLast : Nat → Int32} {a_treeSize : Nat → Int32} {a_treeCosts : Nat → Int32} {a_treeWays : Nat → Int32} {a_stateCosts : Nat → Int32} {a_cover : Nat → Int32} {a_pendingEntry : Nat → Int32} {a_pendingNode : Nat → Int32} (hx : tc_xr S f_ruleCount f_entryCount a_ruleLeft a_ruleCost a_ruleEntry a_ruleStart a_entryOperator a_entryFirst a_entryLast)
    (ht : tc_xt tn td ty tz tk f_treeDepth f_treeNodes a_treeStack a_treeOperator a_treeFirst a_treeLast a_treeSize) {i : Nat} (hi : i < tn)
    (hr : tc_tr a_treeCosts (i * 74) (tc_E S) (tc_v S 536870912 ty tz i)) {x y : Nat → Int32}
    (hyw : 2 ≤ ty i → ∀ e, e < tc_E S → a_treeWays ((i - 1) * 74 + e) = y e) (hxw : 4 ≤ ty i → ∀ e, e < tc_E S → a_treeWays ((i - 1 - tz (i - 1)) * 74 + e) = x e)
    (hp : ∀ a', tc_fr a_treeWays a' (i * 74) → (∀ e, e < tc_E S → a' (i * 74 + e) = tc_wr S 536870912 (tc_v S 536870912 ty tz i) (ty i) x y e) → post (f_patternDepth, f_patternNodes, f_ruleCount, f_entryCount, f_treeDepth, f_treeNodes, f_stateCount, f_coverLength, f_pendingCount, a_patternStack, a_patternSymbol, a_patternFirst, a_patternLast, a_patternEntry, a_ruleLeft, a_ruleCost, a_ruleEntry, a_ruleStart, a_entryOperator, a_entryFirst, a_entryLast, a_treeStack, a_treeOperator, a_treeFirst, a_treeLast, a_treeSize, a_treeCosts, a', a_stateCosts, a_cover, a_pendingEntry, a_pendingNode)) :
    wpX_fillWays post (f_patternDepth, f_patternNodes, f_ruleCount, f_entryCount, f_treeDepth, f_treeNodes, f_stateCount, f_coverLength, f_pendingCount, a_patternStack, a_patternSymbol, a_patternFirst, a_patternLast, a_patternEntry, a_ruleLeft, a_ruleCost, a_ruleEntry, a_ruleStart, a_entryOperator, a_entryFirst, a_entryLast, a_treeStack, a_treeOperator, a_treeFirst, a_treeLast, a_treeSize, a_treeCosts, a_treeWays, a_stateCosts, a_cover, a_pendingEntry, a_pendingNode) (nI i) := by
  have hE := tc_ok_E ok
  refine nm_r (e' := nI (i * 74)) (by rw [show (74 : Int32) = nI 74 from rfl, pk_mul]) ⟨tc_E S + 1, ?_⟩
  exact xm_fw_7 ok hn hN hx ht hi hr (tc_E S - 4) 4 (by omega) (Nat.le_refl _) a_treeWays (fun j h1 h2 => by omega) hyw hxw hp _ (by omega)
/-- the loop over all nodes -/
theorem xm_ways_25 (ok : tc_ok S) (hF : tc_fo tn td ty tz tk) (h6 : ∀ i, i < tn → ty i < 6) (hN : tn ≤ 24) (hD : td ≤ 8) (hd0 : 0 < td) {g : Nat} (hg : g < 4) {post : Int32 → SX → Prop} {f_patternDepth : Int32} {f_patternNodes : Int32} {f_ruleCount : Int32} {f_entryCount : Int32} {f_treeDepth : Int32} {f_treeNodes : Int32} {f_stateCount : Int32} {f_coverLength : Int32} {f_pendingCount : Int32} {a_patternStack : Nat → Int32} {a_patternSymbol : Nat → Int32} {a_patternFirst : Nat → Int32} {a_patternLast : Nat → Int32} {a_patternEntry : Nat → Int32} {a_ruleLeft : Nat → Int32} {a_ruleCost : Nat → Int32} {a_ruleEntry : Nat → Int32} {a_ruleStart : Nat → Int32} {a_entryOperator : Nat → Int32} {a_entryFirst : Nat → Int32} {a_entryLast : Nat → Int32} {a_treeStack : Nat → Int32} {a_treeOperator : Nat → Int32} {a_treeFirst : Nat → Int32} {a_treeLast : Nat → Int32} {a_treeSize : Nat → Int32} {a_treeCosts : Nat → Int32} {a_stateCosts : Nat → Int32} {a_cover : Nat → Int32} {a_pendingEntry : Nat → Int32} {a_pendingNode : Nat → Int32}
    (hx : tc_xr S f_ruleCount f_entryCount a_ruleLeft a_ruleCost a_ruleEntry a_ruleStart a_entryOperator a_entryFirst a_entryLast)
    (ht : tc_xt tn td ty tz tk f_treeDepth f_treeNodes a_treeStack a_treeOperator a_treeFirst a_treeLast a_treeSize) (hr : tc_rows S 536870912 ty tz a_treeCosts tn) :
    ∀ (d i : Nat), i + d = tn → ∀ a_treeWays : Nat → Int32, (∀ m, m < i → ∀ e, e < tc_E S → a_treeWays (m * 74 + e) = tc_w S 536870912 ty tz m e) →
    (∀ a', post (tc_w S 536870912 ty tz (tn - 1) g) (f_patternDepth, f_patternNodes, f_ruleCount, f_entryCount, f_treeDepth, f_treeNodes, f_stateCount, f_coverLength, f_pendingCount, a_patternStack, a_patternSymbol, a_patternFirst, a_patternLast, a_patternEntry, a_ruleLeft, a_ruleCost, a_ruleEntry, a_ruleStart, a_entryOperator, a_entryFirst, a_entryLast, a_treeStack, a_treeOperator, a_treeFirst, a_treeLast, a_treeSize, a_treeCosts, a', a_stateCosts, a_cover, a_pendingEntry, a_pendingNode)) → ∀ m, d < m → wX_ways_25 post (nI g) m (nI i) f_patternDepth f_patternNodes f_ruleCount f_entryCount f_treeDepth f_treeNodes f_stateCount f_coverLength f_pendingCount a_patternStack a_patternSymbol a_patternFirst a_patternLast a_patternEntry a_ruleLeft a_ruleCost a_ruleEntry a_ruleStart a_entryOperator a_entryFirst a_entryLast a_treeStack a_treeOperator a_treeFirst a_treeLast a_treeSize a_treeCosts a_treeWays a_stateCosts a_cover a_pendingEntry a_pendingNode := by
  have hn : tc_tn ty tz tn := fun i hi => ⟨h6 i hi, hF.2.2.2.2.2 i hi⟩
  have hE := tc_ok_E ok
  intro d
  induction d with
  | zero =>
    intro i hi a_treeWays hw hp m hm
    obtain ⟨m', rfl⟩ : ∃ m', m = m' + 1 := ⟨m - 1, by omega⟩
    have e : i = tn := by omega
    subst e
    obtain ⟨s1, s2⟩ := tc_fo_t1 hF (by omega)
    have w : f_treeDepth - 1 = nI (td - 1) := by rw [ht.1, show (1 : Int32) = nI 1 from rfl, pk_sub (by omega)]
    have w2 : a_treeStack (f_treeDepth - 1).toNatClampNeg * 74 + nI g = nI ((i - 1) * 74 + g) := by
      rw [w, nI_clamp (by omega), ht.2.2.1 (td - 1) (by omega), s2, show (74 : Int32) = nI 74 from rfl, pk_mul, nI_add]
    refine br_t (by rw [ht.2.1]; exact nI_le (Nat.le_refl _) (by omega)) ⟨by rw [w]; exact vp_in_nI (by omega) (by decide), by rw [w2]; exact vp_in_nI (by omega) (by decide), ?_⟩
    rw [w2, nI_clamp (by omega), hw (i - 1) (by omega) g (by omega)]
    exact hp a_treeWays
  | succ d ih =>
    intro i hi a_treeWays hw hp m hm
    obtain ⟨m', rfl⟩ : ∃ m', m = m' + 1 := ⟨m - 1, by omega⟩
    have hit : i < tn := by omega
    have h6i := h6 i hit
    have n3 := (hn i hit).2.2.2.1
    refine br_f (by rw [ht.2.1]; exact nI_ge hit (by omega)) ?_
    refine xm_fw ok hn hN hx ht hit (hr i hit) (x := tc_w S 536870912 ty tz (i - 1 - tz (i - 1))) (y := tc_w S 536870912 ty tz (i - 1)) (fun h2 => hw (i - 1) (by have := n3 h2 h6i; omega)) (fun h4 => hw (i - 1 - tz (i - 1)) (by have := n3 (by omega) h6i; omega)) (fun a' f1 f2 => ?_)
    refine nm_r (nI_1 i) (ih (i + 1) (by omega) a' (fun k hk e he => ?_) hp m' (by omega))
    by_cases c : k = i
    · rw [c, f2 e he, tc_w_eq (fun h => n3 h h6i)]
    · rw [f1 _ (by omega)]
      exact hw k (by omega) e he
end
end
section
def tc_lp (t : Nat → Nat) (g : Nat) : Nat → Nat
  | 0 => 0
  | h + 1 => tc_lp t g h + tc_c t g h
theorem tc_lp4 (t : Nat → Nat) (g : Nat) : tc_lp t g 4 = tc_L t g := by
  show 0 + tc_c t g 0 + tc_c t g 1 + tc_c t g 2 + tc_c t g 3 = tc_c t g 0 + tc_c t g 1 + tc_c t g 2 + tc_c t g 3
  omega
def tc_yww (S : tc_S) (len : Nat → Nat) (ent : Nat → Nat → Nat) (a : Nat → Int32) (n : Nat) (w : Nat → Int32) : Prop :=
  (∀ g, g < 4 → a (74 * n + g) = w g) ∧ ∀ r, r < tc_R S → ∀ i, i < len r → a (74 * n + 4 + 7 * r + i) = w (ent r i)
theorem tc_yww_fr {S : tc_S} {len : Nat → Nat} {ent : Nat → Nat → Nat} {ru : Int32} {le co ln mk sz : Nat → Int32} (ok : tc_ok S) (h : tc_yr S len ent ru le co ln mk sz) {a a' : Nat → Int32} {n x : Nat} {t : Nat → Int32}
    (hf : tc_fr a a' (74 * n)) (hx : x ≠ n) (hw : tc_yww S len ent a x t) : tc_yww S len ent a' x t := by
  have hR := ok.1
  refine ⟨fun g hg => ?_, fun r hr i hi => ?_⟩
  · rw [hf _ (by omega)]
    exact hw.1 g hg
  · have hl := (h.2.1 r hr).2.2.2.2.1
    rw [hf _ (by omega)]
    exact hw.2 r hr i hi
section
variable {S : tc_S} {len : Nat → Nat} {ent : Nat → Nat → Nat} {tn td : Nat} {ty tz tk : Nat → Nat}
theorem ym_best1 (ok : tc_ok S) {post : Int32 → Prop} {f_noted : Int32} {f_depth : Int32} {f_rules : Int32} {f_planted : Int32} {f_trees : Int32} {f_stateCount : Int32} {f_known : Int32} {f_listed : Int32} {a_marks : Nat → Int32} {a_sizes : Nat → Int32} {a_lefts : Nat → Int32} {a_costs : Nat → Int32} {a_lengths : Nat → Int32} {a_operators : Nat → Int32} {a_spans : Nat → Int32} {a_least : Nat → Int32} {a_ways : Nat → Int32} {a_tasks : Nat → Int32} {a_list : Nat → Int32} (hy : tc_yr S len ent f_rules a_lefts a_costs a_lengths a_marks a_sizes) {n g r : Nat} (hn : n < 46) (hg : g < 4) (hr : r < tc_R S) {t : Nat → Nat} (hK : ∀ e, t e ≤ 1000000)
    (hB : ∀ e, e < tc_E S → t e = 1000000 ∨ t e ≤ 900) (hw : tc_yw S len ent a_least n t) (h1 : tc_pb S 1000000 t g r → post 1) (h0 : ¬ tc_pb S 1000000 t g r → post 0) : wpY_isBest post (f_noted, f_depth, f_rules, f_planted, f_trees, f_stateCount, f_known, f_listed, a_marks, a_sizes, a_lefts, a_costs, a_lengths, a_operators, a_spans, a_least, a_ways, a_tasks, a_list) (nI n) (nI g) (nI r) := by
  have hR := ok.1
  obtain ⟨l1, l2, l3, l4, l5, l6, l7⟩ := hy.2.1 r hr
  obtain ⟨k1, k2, k3, k4⟩ := tc_ok_r ok hr
  have c : (nI r).toNatClampNeg = r := nI_clamp (by omega)
  have w : (74 : Int32) * nI n + 4 + 7 * nI r + a_lengths (nI r).toNatClampNeg - 1 = nI (74 * n + 4 + 7 * r + (len r - 1)) := by
    rw [c, l3, show (74 : Int32) = nI 74 from rfl, show (7 : Int32) = nI 7 from rfl, show (4 : Int32) = nI 4 from rfl, show (1 : Int32) = nI 1 from rfl, pk_mul, pk_mul, nI_add, nI_add, nI_add, pk_sub (by omega)]
    exact congrArg nI (by omega)
  have w2 : (74 : Int32) * nI n + nI g = nI (74 * n + g) := by rw [show (74 : Int32) = nI 74 from rfl, pk_mul, nI_add]
  have v := hw.2 r hr (len r - 1) (by omega)
  rw [l6] at v
  have q1 := hK (tc_rt S r)
  have q2 := hK g
  have q3 := hB _ k3
  refine ⟨vp_in_nI (by omega) (by decide), by rw [w]; exact vp_in_nI (by omega) (by decide), nm_r (e' := nI (t (tc_rt S r))) (by rw [w, nI_clamp (by omega), v]) ⟨vp_in_nI (by omega) (by decide), ?_⟩⟩
  refine pk_eq (tc_lf S r) g (fun h => ?_) (fun h => h0 (fun z => h z.1)) (by rw [c, l1]) rfl (by omega) (by omega)
  refine pk_le 1000000 (t (tc_rt S r)) (fun h' => h0 (fun z => ?_)) (fun h' => ?_) rfl rfl (by omega) (by omega)
  · obtain ⟨z1, z2, z3⟩ := z
    rw [z1] at z2 z3
    omega
  · refine ⟨vp_in_nI (by omega) (by decide), by rw [w2]; exact vp_in_nI (by omega) (by decide), ?_⟩
    refine pk_eq (t (tc_rt S r) + tc_co S r) (t g) (fun e => h1 ⟨h, ?_, ?_⟩) (fun e => h0 (fun z => e ?_)) (by rw [c, l2, nI_add]) (by rw [w2, nI_clamp (by omega), hw.1 g hg]) (by omega) (by omega)
    · rw [h]
      omega
    · rw [h]
      omega
    · obtain ⟨z1, z2, z3⟩ := z
      rw [z1] at z2 z3
      omega
theorem ym_rank_5 {post : Int32 → Prop} {f_noted : Int32} {f_depth : Int32} {f_rules : Int32} {f_planted : Int32} {f_trees : Int32} {f_stateCount : Int32} {f_known : Int32} {f_listed : Int32} {a_marks : Nat → Int32} {a_sizes : Nat → Int32} {a_lefts : Nat → Int32} {a_costs : Nat → Int32} {a_lengths : Nat → Int32} {a_operators : Nat → Int32} {a_spans : Nat → Int32} {a_least : Nat → Int32} {a_ways : Nat → Int32} {a_tasks : Nat → Int32} {a_list : Nat → Int32} {n g : Nat} (hn : n < 46) (hg : g < 4) {t : Nat → Nat} (hK : ∀ e, t e ≤ 1000000) (hw : ∀ g, g < 4 → a_least (74 * n + g) = nI (t g)) (hp : post (nI (tc_L t g))) :
    ∀ (d h : Nat), h + d = 4 → ∀ m, d < m → wY_rankOf_5 post (nI n) (nI g) f_noted f_depth f_rules f_planted f_trees f_stateCount f_known f_listed a_marks a_sizes a_lefts a_costs a_lengths a_operators a_spans a_least a_ways a_tasks a_list m (nI (tc_lp t g h)) (nI h) := by
  intro d
  induction d with
  | zero =>
    intro h hh m hm
    obtain ⟨m', rfl⟩ : ∃ m', m = m' + 1 := ⟨m - 1, by omega⟩
    have e : h = 4 := by omega
    subst e
    rw [tc_lp4]
    exact br_t (nI_le (a := 4) (Nat.le_refl _) (by decide)) hp
  | succ d ih =>
    intro h hh m hm
    obtain ⟨m', rfl⟩ : ∃ m', m = m' + 1 := ⟨m - 1, by omega⟩
    have w1 : (74 : Int32) * nI n + nI h = nI (74 * n + h) := by rw [show (74 : Int32) = nI 74 from rfl, pk_mul, nI_add]
    have w2 : (74 : Int32) * nI n + nI g = nI (74 * n + g) := by rw [show (74 : Int32) = nI 74 from rfl, pk_mul, nI_add]
    have q1 := hK h
    have q2 := hK g
    have nxt := ih (h + 1) (by omega) m' (by omega)
    have e0 : tc_lp t g (h + 1) = tc_lp t g h + tc_c t g h := rfl
    refine br_f (nI_ge (b := 4) (by omega) (by decide)) ⟨by rw [w1]; exact vp_in_nI (by omega) (by decide), by rw [w2]; exact vp_in_nI (by omega) (by decide), ?_⟩
    refine pk_le (t g) (t h) (fun z => nm_r (nI_1 h) ?_) (fun z => ?_) (by rw [w2, nI_clamp (by omega), hw g hg]) (by rw [w1, nI_clamp (by omega), hw h (by omega)]) (by omega) (by omega)
    · have e1 : tc_c t g h = 0 := if_neg (by omega)
      rw [e0, e1, Nat.add_zero] at nxt
      exact nxt
    · have e1 : tc_c t g h = 1 := if_pos z
      rw [e0, e1] at nxt
      exact nm_r (nI_1 _) (nm_r (nI_1 h) nxt)
theorem ym_rank {post : Int32 → Prop} {f_noted : Int32} {f_depth : Int32} {f_rules : Int32} {f_planted : Int32} {f_trees : Int32} {f_stateCount : Int32} {f_known : Int32} {f_listed : Int32} {a_marks : Nat → Int32} {a_sizes : Nat → Int32} {a_lefts : Nat → Int32} {a_costs : Nat → Int32} {a_lengths : Nat → Int32} {a_operators : Nat → Int32} {a_spans : Nat → Int32} {a_least : Nat → Int32} {a_ways : Nat → Int32} {a_tasks : Nat → Int32} {a_list : Nat → Int32} {n g : Nat} (hn : n < 46) (hg : g < 4) {t : Nat → Nat} (hK : ∀ e, t e ≤ 1000000) (hw : ∀ g, g < 4 → a_least (74 * n + g) = nI (t g)) (hp : post (nI (tc_L t g))) :
    wpY_rankOf post (f_noted, f_depth, f_rules, f_planted, f_trees, f_stateCount, f_known, f_listed, a_marks, a_sizes, a_lefts, a_costs, a_lengths, a_operators, a_spans, a_least, a_ways, a_tasks, a_list) (nI n) (nI g) := ⟨5, ym_rank_5 hn hg hK hw hp 4 0 (by omega) 5 (by omega)⟩
/-- an entry's ways -/
theorem ym_pw (ok : tc_ok S) (hn : tc_tn ty tz tn) (hN : tn ≤ 24) {post : Int32 → Prop} {f_noted : Int32} {f_depth : Int32} {f_rules : Int32} {f_planted : Int32} {f_trees : Int32} {f_stateCount : Int32} {f_known : Int32} {f_listed : Int32} {a_marks : Nat → Int32} {a_sizes : Nat → Int32} {a_lefts : Nat → Int32} {a_costs : Nat → Int32} {a_lengths : Nat → Int32} {a_operators : Nat → Int32} {a_spans : Nat → Int32} {a_least : Nat → Int32} {a_ways : Nat → Int32} {a_tasks : Nat → Int32} {a_list : Nat → Int32} (hy : tc_yr S len ent f_rules a_lefts a_costs a_lengths a_marks a_sizes)
    (ht : tc_yt tn td ty tz f_planted f_trees a_operators a_spans) {n r i : Nat} (hnt : n < tn) (hr : r < tc_R S) (hi : i < len r) {cw : Nat → Int32} (hg : ∀ g, g < 4 → a_ways (74 * n + g) = cw g)
    (hw : ∀ m, m < n → tc_yww S len ent a_ways m (tc_w S 1000000 ty tz m))
    (hp : post (if ent r i < 4 then cw (ent r i) else tc_wo S 1000000 (tc_v S 1000000 ty tz n) (ty n) (tc_w S 1000000 ty tz (n - 1 - tz (n - 1))) (tc_w S 1000000 ty tz (n - 1)) (ent r i))) :
    wpY_patternWays post (f_noted, f_depth, f_rules, f_planted, f_trees, f_stateCount, f_known, f_listed, a_marks, a_sizes, a_lefts, a_costs, a_lengths, a_operators, a_spans, a_least, a_ways, a_tasks, a_list) (nI n) (nI r) (nI i) := by
  have hR := ok.1
  obtain ⟨h6, n1, n2, n3, n4, n5, n6, n7⟩ := hn n hnt
  obtain ⟨t1, t2⟩ := ht.2.2 n hnt
  obtain ⟨l1, l2, l3, l4, l5, l6, l7⟩ := hy.2.1 r hr
  have hent := tc_yr_ent ok hy hr hi
  have w : (7 : Int32) * nI r + nI i = nI (7 * r + i) := by rw [show (7 : Int32) = nI 7 from rfl, pk_mul, nI_add]
  have cn : (nI n).toNatClampNeg = n := nI_clamp (by omega)
  refine ⟨by rw [w]; exact vp_in_nI (by omega) (by decide), ?_⟩
  rcases l7 i hi with ⟨g, hg4, e1, e2⟩ | ⟨o, ho6, e1, e2, e3, e4, e5, e6⟩
  · rw [if_pos (by omega)] at hp
    refine nm_r (e' := nI (10 + g)) (by rw [w, nI_clamp (by omega), e1]) ⟨vp_in_nI (by omega) (by decide), nm_r (e' := nI (ty n)) (by rw [cn, t1]) ?_⟩
    refine br_f (nI_ge (a := 9) (b := 10 + g) (by omega) (by omega)) ?_
    have w2 : (74 : Int32) * nI n + nI (10 + g) - 10 = nI (74 * n + g) := by
      rw [show (74 : Int32) = nI 74 from rfl, pk_mul, nI_add, show (10 : Int32) = nI 10 from rfl, pk_sub (by omega)]
      exact congrArg nI (by omega)
    refine ⟨by rw [w2]; exact vp_in_nI (by omega) (by decide), ?_⟩
    rw [w2, nI_clamp (by omega), hg g hg4, ← e2]
    exact hp
  · rw [if_neg (by omega)] at hp
    refine nm_r (e' := nI o) (by rw [w, nI_clamp (by omega), e1]) ⟨vp_in_nI (by omega) (by decide), nm_r (e' := nI (ty n)) (by rw [cn, t1]) ?_⟩
    refine br_t (nI_le (b := 9) (by omega) (by decide)) ?_
    have h1n : 2 ≤ ty n → 1 ≤ n := fun h => n3 h h6
    have hv := tc_v_eq (S := S) (K := 1000000) (ps := tz) h1n
    refine pk_eq o (ty n) (fun h => ?_) (fun h => ?_) rfl rfl (by omega) (by omega)
    · subst h
      have hl : (4 : Int32) + 7 * nI r + nI i - 1 = nI (4 + 7 * r + i - 1) := by
        rw [show (7 : Int32) = nI 7 from rfl, show (4 : Int32) = nI 4 from rfl, show (1 : Int32) = nI 1 from rfl, pk_mul, nI_add, nI_add, pk_sub (by omega)]
      refine nm_r hl ?_
      have hop : tc_v S 1000000 ty tz n (ent r i) = (if ty n < 2 then 0 else if ty n < 4 then min 1000000 (tc_v S 1000000 ty tz (n - 1) (tc_el S (ent r i))) else min 1000000 (tc_v S 1000000 ty tz (n - 1 - tz (n - 1)) (tc_ef S (ent r i)) + tc_v S 1000000 ty tz (n - 1) (tc_el S (ent r i)))) := by
        rw [hv, tc_row_ge ok e2]
        exact if_pos e4
      by_cases h2 : ty n < 2
      · have e0 : tc_wo S 1000000 (tc_v S 1000000 ty tz n) (ty n) (tc_w S 1000000 ty tz (n - 1 - tz (n - 1))) (tc_w S 1000000 ty tz (n - 1)) (ent r i) = 1 := by
          unfold tc_wo
          rw [hop, if_pos h2, if_neg (by decide), if_pos h2]
        rw [e0] at hp
        refine nm_e (br_t (nI_lt (b := 4) (by omega) (by decide)) ?_)
        exact br_f (nI_ge (b := 4) (by omega) (by decide)) (br_f (nI_ge (b := 2) (by omega) (by decide)) hp)
      · have hn1 := h1n (by omega)
        have w7 : nI n - 1 = nI (n - 1) := by rw [show (1 : Int32) = nI 1 from rfl, pk_sub (by omega)]
        obtain ⟨f1, f2⟩ := e5 (by omega)
        have hel := tc_yr_ent ok hy hr (show i - 1 < len r by omega)
        have w5 : (74 : Int32) * nI (n - 1) + nI (4 + 7 * r + i - 1) = nI (74 * (n - 1) + 4 + 7 * r + (i - 1)) := by
          rw [show (74 : Int32) = nI 74 from rfl, pk_mul, nI_add]
          exact congrArg nI (by omega)
        have vy : a_ways (74 * (n - 1) + 4 + 7 * r + (i - 1)) = tc_w S 1000000 ty tz (n - 1) (ent r (i - 1)) := (hw (n - 1) (by omega)).2 r hr (i - 1) (by omega)
        have by1 := tc_v_B ok (K := 1000000) hn (n - 1) (by omega) (ent r (i - 1)) hel
        have hz1 := (hn (n - 1) (by omega)).2.2.1
        have z1 : 2 ≤ ty (n - 1) → 1 ≤ n - 1 := fun h => (hn (n - 1) (by omega)).2.2.2.1 h (hn (n - 1) (by omega)).1
        refine nm_r w7 ?_
        by_cases h4 : ty n < 4
        · refine br_t (nI_lt (b := 4) (by omega) (by decide)) (br_f (nI_ge (b := 4) (by omega) (by decide)) (br_t (nI_le (a := 2) (by omega) (by omega)) ⟨by rw [w5]; exact vp_in_nI (by omega) (by decide), ?_⟩))
          rw [w5, nI_clamp (by omega), vy]
          rw [if_neg h2, if_pos h4, f2] at hop
          unfold tc_wo at hp
          rw [if_neg h2, if_pos h4, f2] at hp
          by_cases hK : tc_v S 1000000 ty tz n (ent r i) = 1000000
          · rw [if_pos hK] at hp
            rw [tc_w_0 z1 (by omega)]
            exact hp
          · rw [if_neg hK] at hp
            exact hp
        · obtain ⟨s, s1, s2, s3, s4⟩ := e6 (by omega)
          have hn2 := n4 (by omega) h6
          have hef := tc_yr_ent ok hy hr (show i - 1 - s < len r by omega)
          have w3 : (7 : Int32) * nI r + nI i - 1 = nI (7 * r + i - 1) := by
            rw [w, show (1 : Int32) = nI 1 from rfl, pk_sub (by omega)]
          have w8 : nI (n - 1) - a_spans (nI (n - 1)).toNatClampNeg = nI (n - 1 - tz (n - 1)) := by
            rw [nI_clamp (by omega), (ht.2.2 (n - 1) (by omega)).2, pk_sub (by omega)]
          have w9 : (74 : Int32) * nI (n - 1 - tz (n - 1)) + nI (4 + 7 * r + i - 1) - a_sizes ((7 : Int32) * nI r + nI i - 1).toNatClampNeg = nI (74 * (n - 1 - tz (n - 1)) + 4 + 7 * r + (i - 1 - s)) := by
            rw [w3, nI_clamp (by omega), s1, show (74 : Int32) = nI 74 from rfl, pk_mul, nI_add, pk_sub (by omega)]
            exact congrArg nI (by omega)
          have hz2 := (hn (n - 1) (by omega)).2.1
          have vx : a_ways (74 * (n - 1 - tz (n - 1)) + 4 + 7 * r + (i - 1 - s)) = tc_w S 1000000 ty tz (n - 1 - tz (n - 1)) (ent r (i - 1 - s)) := (hw (n - 1 - tz (n - 1)) (by omega)).2 r hr (i - 1 - s) (by omega)
          have bx1 := tc_v_B ok (K := 1000000) hn (n - 1 - tz (n - 1)) (by omega) (ent r (i - 1 - s)) hef
          have hz3 := (hn (n - 1 - tz (n - 1)) (by omega)).2.2.1
          have z2 : 2 ≤ ty (n - 1 - tz (n - 1)) → 1 ≤ n - 1 - tz (n - 1) := fun h => (hn (n - 1 - tz (n - 1)) (by omega)).2.2.2.1 h (hn (n - 1 - tz (n - 1)) (by omega)).1
          refine br_f (nI_nlt (b := 4) (by omega) (by omega)) (br_f (nI_ne0 (by omega) (by omega)) ⟨vp_in_nI (by omega) (by decide), ?_⟩)
          rw [w8]
          refine br_t (nI_le (a := 4) (by omega) (by omega)) ⟨by rw [w3]; exact vp_in_nI (by omega) (by decide), by rw [w9]; exact vp_in_nI (by omega) (by decide), by rw [w5]; exact vp_in_nI (by omega) (by decide), ?_⟩
          rw [w9, w5, nI_clamp (by omega), nI_clamp (by omega), vx, vy]
          rw [if_neg h2, if_neg h4, f2, s4] at hop
          unfold tc_wo at hp
          rw [if_neg h2, if_neg h4, f2, s4] at hp
          by_cases hK : tc_v S 1000000 ty tz n (ent r i) = 1000000
          · rw [if_pos hK] at hp
            by_cases hKx : tc_v S 1000000 ty tz (n - 1 - tz (n - 1)) (ent r (i - 1 - s)) = 1000000
            · rw [tc_w_0 z2 hKx, Int32.zero_mul]
              exact hp
            · rw [tc_w_0 z1 (by omega), Int32.mul_zero]
              exact hp
          · rw [if_neg hK] at hp
            exact hp
    · have e0 : tc_wo S 1000000 (tc_v S 1000000 ty tz n) (ty n) (tc_w S 1000000 ty tz (n - 1 - tz (n - 1))) (tc_w S 1000000 ty tz (n - 1)) (ent r i) = 0 := by
        have hop : tc_v S 1000000 ty tz n (ent r i) = 1000000 := by
          rw [hv, tc_row_ge ok e2]
          exact if_neg (by omega)
        unfold tc_wo
        rw [if_pos hop]
      rw [e0] at hp
      exact hp
end
end
section
section
variable {S : tc_S} {len : Nat → Nat} {ent : Nat → Nat → Nat} {tn td : Nat} {ty tz tk : Nat → Nat}
/-- what patternWays answers at node n, with cw for the goals -/
def tc_pw (S : tc_S) (ty tz : Nat → Nat) (n : Nat) (cw : Nat → Int32) (e : Nat) : Int32 :=
  if e < 4 then cw e else tc_wo S 1000000 (tc_v S 1000000 ty tz n) (ty n) (tc_w S 1000000 ty tz (n - 1 - tz (n - 1))) (tc_w S 1000000 ty tz (n - 1)) e
theorem tc_v_900 (ok : tc_ok S) (hn : tc_tn ty tz tn) (hN : tn ≤ 24) {n : Nat} (hnt : n < tn) : ∀ e, e < tc_E S → tc_v S 1000000 ty tz n e = 1000000 ∨ tc_v S 1000000 ty tz n e ≤ 900 := fun e he => by
  have h1 := tc_v_B ok (K := 1000000) hn n hnt e he
  have h2 := (hn n hnt).2.2.1
  omega
theorem ym_sum_5 (ok : tc_ok S) (hn : tc_tn ty tz tn) (hN : tn ≤ 24) {post : Int32 → Prop} {f_noted : Int32} {f_depth : Int32} {f_rules : Int32} {f_planted : Int32} {f_trees : Int32} {f_stateCount : Int32} {f_known : Int32} {f_listed : Int32} {a_marks : Nat → Int32} {a_sizes : Nat → Int32} {a_lefts : Nat → Int32} {a_costs : Nat → Int32} {a_lengths : Nat → Int32} {a_operators : Nat → Int32} {a_spans : Nat → Int32} {a_least : Nat → Int32} {a_ways : Nat → Int32} {a_tasks : Nat → Int32} {a_list : Nat → Int32} (hy : tc_yr S len ent f_rules a_lefts a_costs a_lengths a_marks a_sizes)
    (ht : tc_yt tn td ty tz f_planted f_trees a_operators a_spans) {n g : Nat} (hnt : n < tn) (hg4 : g < 4) {cw : Nat → Int32} (hg : ∀ g, g < 4 → a_ways (74 * n + g) = cw g)
    (hw : ∀ m, m < n → tc_yww S len ent a_ways m (tc_w S 1000000 ty tz m)) (hr : tc_yw S len ent a_least n (tc_v S 1000000 ty tz n))
    (hp : post (tc_ws S 1000000 (tc_v S 1000000 ty tz n) (tc_pw S ty tz n cw) g (tc_R S))) :
    ∀ (d k : Nat), k + d = tc_R S → ∀ m, d < m → wY_sumRules_5 post (nI n) (nI g) f_noted f_depth f_rules f_planted f_trees f_stateCount f_known f_listed a_marks a_sizes a_lefts a_costs a_lengths a_operators a_spans a_least a_ways a_tasks a_list m (tc_ws S 1000000 (tc_v S 1000000 ty tz n) (tc_pw S ty tz n cw) g k) (nI k) := by
  have hR := ok.1
  have vle : ∀ e, tc_v S 1000000 ty tz n e ≤ 1000000 := fun e => tc_v_le (fun h => (hn n hnt).2.2.2.1 h (hn n hnt).1) e
  intro d
  induction d with
  | zero =>
    intro k hk m hm
    obtain ⟨m', rfl⟩ : ∃ m', m = m' + 1 := ⟨m - 1, by omega⟩
    have e : k = tc_R S := by omega
    subst e
    exact br_t (by rw [hy.1]; exact nI_le (Nat.le_refl _) (by omega)) hp
  | succ d ih =>
    intro k hk m hm
    obtain ⟨m', rfl⟩ : ∃ m', m = m' + 1 := ⟨m - 1, by omega⟩
    have hk' : k < tc_R S := by omega
    obtain ⟨l1, l2, l3, l4, l5, l6, l7⟩ := hy.2.1 k hk'
    have c : (nI k).toNatClampNeg = k := nI_clamp (by omega)
    have nxt := ih (k + 1) (by omega) m' (by omega)
    unfold tc_ws at nxt
    refine br_f (by rw [hy.1]; exact nI_ge hk' (by omega)) ?_
    refine ym_best1 ok hy (by omega) hg4 hk' vle (tc_v_900 ok hn hN hnt) hr (fun hb => ?_) (fun hb => ?_)
    · rw [if_pos hb] at nxt
      refine br_f (by decide) ⟨vp_in_nI (by omega) (by decide), ?_⟩
      rw [c, l3, show (1 : Int32) = nI 1 from rfl, pk_sub (by omega)]
      refine ym_pw ok hn hN hy ht hnt hk' (by omega) hg hw ?_
      rw [l6]
      exact nm_e (nm_r (nI_1 k) nxt)
    · rw [if_neg hb] at nxt
      exact br_t rfl (nm_r (nI_1 k) nxt)
theorem ym_sum (ok : tc_ok S) (hn : tc_tn ty tz tn) (hN : tn ≤ 24) {post : Int32 → Prop} {f_noted : Int32} {f_depth : Int32} {f_rules : Int32} {f_planted : Int32} {f_trees : Int32} {f_stateCount : Int32} {f_known : Int32} {f_listed : Int32} {a_marks : Nat → Int32} {a_sizes : Nat → Int32} {a_lefts : Nat → Int32} {a_costs : Nat → Int32} {a_lengths : Nat → Int32} {a_operators : Nat → Int32} {a_spans : Nat → Int32} {a_least : Nat → Int32} {a_ways : Nat → Int32} {a_tasks : Nat → Int32} {a_list : Nat → Int32} (hy : tc_yr S len ent f_rules a_lefts a_costs a_lengths a_marks a_sizes)
    (ht : tc_yt tn td ty tz f_planted f_trees a_operators a_spans) {n g : Nat} (hnt : n < tn) (hg4 : g < 4) {cw : Nat → Int32} (hg : ∀ g, g < 4 → a_ways (74 * n + g) = cw g)
    (hw : ∀ m, m < n → tc_yww S len ent a_ways m (tc_w S 1000000 ty tz m)) (hr : tc_yw S len ent a_least n (tc_v S 1000000 ty tz n))
    (hp : post (tc_ws S 1000000 (tc_v S 1000000 ty tz n) (tc_pw S ty tz n cw) g (tc_R S))) : wpY_sumRules post (f_noted, f_depth, f_rules, f_planted, f_trees, f_stateCount, f_known, f_listed, a_marks, a_sizes, a_lefts, a_costs, a_lengths, a_operators, a_spans, a_least, a_ways, a_tasks, a_list) (nI n) (nI g) :=
  ⟨tc_R S + 1, ym_sum_5 ok hn hN hy ht hnt hg4 hg hw hr hp (tc_R S) 0 (by omega) _ (by omega)⟩
theorem ym_ca_110 (ok : tc_ok S) (hn : tc_tn ty tz tn) (hN : tn ≤ 24) {post : SY → Prop} {J : Int32 → (Nat → Int32) → (Nat → Int32) → (Nat → Int32) → (Nat → Int32) → (Nat → Int32) → (Nat → Int32) → (Nat → Int32) → (Nat → Int32) → (Nat → Int32) → (Nat → Int32) → (Nat → Int32) → Prop} {f_noted : Int32} {f_depth : Int32} {f_rules : Int32} {f_planted : Int32} {f_trees : Int32} {f_stateCount : Int32} {f_known : Int32} {f_listed : Int32} {a_marks : Nat → Int32} {a_sizes : Nat → Int32} {a_lefts : Nat → Int32} {a_costs : Nat → Int32} {a_lengths : Nat → Int32} {a_operators : Nat → Int32} {a_spans : Nat → Int32} {a_least : Nat → Int32} {a_tasks : Nat → Int32} {a_list : Nat → Int32} (hy : tc_yr S len ent f_rules a_lefts a_costs a_lengths a_marks a_sizes)
    (ht : tc_yt tn td ty tz f_planted f_trees a_operators a_spans) {n r : Nat} (hnt : n < tn) (hr : r < tc_R S) {cw : Nat → Int32} :
    ∀ (d i : Nat), i + d = len r → ∀ a_ways : Nat → Int32, (∀ g, g < 4 → a_ways (74 * n + g) = cw g) → (∀ m, m < n → tc_yww S len ent a_ways m (tc_w S 1000000 ty tz m)) →
    (∀ j, j < i → a_ways (74 * n + 4 + 7 * r + j) = tc_pw S ty tz n cw (ent r j)) →
    (∀ a', (∀ j, (j < 74 * n + 4 + 7 * r ∨ 74 * n + 4 + 7 * r + 7 ≤ j) → a' j = a_ways j) → (∀ j, j < len r → a' (74 * n + 4 + 7 * r + j) = tc_pw S ty tz n cw (ent r j)) → J (nI (r + 1)) a_marks a_sizes a_lefts a_costs a_lengths a_operators a_spans a_least a' a_tasks a_list) →
    ∀ m, d < m → wY_countAt_110 post J (nI n) (nI r) f_noted f_depth f_rules f_planted f_trees f_stateCount f_known f_listed m (nI i) a_marks a_sizes a_lefts a_costs a_lengths a_operators a_spans a_least a_ways a_tasks a_list := by
  have hR := ok.1
  obtain ⟨l1, l2, l3, l4, l5, l6, l7⟩ := hy.2.1 r hr
  have c : (nI r).toNatClampNeg = r := nI_clamp (by omega)
  intro d
  induction d with
  | zero =>
    intro i hi a_ways hg hw he hp m hm
    obtain ⟨m', rfl⟩ : ∃ m', m = m' + 1 := ⟨m - 1, by omega⟩
    have e : i = len r := by omega
    subst e
    exact ⟨vp_in_nI (by omega) (by decide), br_t (by rw [c, l3]; exact nI_le (Nat.le_refl _) (by omega)) (nm_r (nI_1 r) (hp _ (fun _ _ => rfl) he))⟩
  | succ d ih =>
    intro i hi a_ways hg hw he hp m hm
    obtain ⟨m', rfl⟩ : ∃ m', m = m' + 1 := ⟨m - 1, by omega⟩
    refine ⟨vp_in_nI (by omega) (by decide), br_f (by rw [c, l3]; exact nI_ge (by omega) (by omega)) ?_⟩
    refine ym_pw ok hn hN hy ht hnt hr (by omega) hg hw ?_
    have w : (74 : Int32) * nI n + 4 + 7 * nI r + nI i = nI (74 * n + 4 + 7 * r + i) := by
      rw [show (74 : Int32) = nI 74 from rfl, show (7 : Int32) = nI 7 from rfl, show (4 : Int32) = nI 4 from rfl, pk_mul, pk_mul, nI_add, nI_add, nI_add]
    refine ⟨by rw [w]; exact vp_in_nI (by omega) (by decide), nm_r (e' := upd a_ways (74 * n + 4 + 7 * r + i) (tc_pw S ty tz n cw (ent r i))) (by rw [w, nI_clamp (by omega)]; rfl) (nm_r (nI_1 i) ?_)⟩
    have hfr : tc_fr a_ways (upd a_ways (74 * n + 4 + 7 * r + i) (tc_pw S ty tz n cw (ent r i))) (74 * n) := fun j hj => pk_un (by omega)
    refine ih (i + 1) (by omega) _ (fun g hg4 => ?_) (fun k hk => tc_yww_fr ok hy hfr (by omega) (hw k hk)) (fun j hj => ?_) (fun a' f1 f2 => hp a' (fun j hj => ?_) f2) m' (by omega)
    · rw [pk_un (by omega)]
      exact hg g hg4
    · by_cases cj : j = i
      · rw [cj, pk_us]
      · rw [pk_un (by omega)]
        exact he j (by omega)
    · rw [f1 j hj, pk_un (by omega)]
theorem ym_ca_100 (ok : tc_ok S) (hn : tc_tn ty tz tn) (hN : tn ≤ 24) {post : SY → Prop} {f_noted : Int32} {f_depth : Int32} {f_rules : Int32} {f_planted : Int32} {f_trees : Int32} {f_stateCount : Int32} {f_known : Int32} {f_listed : Int32} {a_marks : Nat → Int32} {a_sizes : Nat → Int32} {a_lefts : Nat → Int32} {a_costs : Nat → Int32} {a_lengths : Nat → Int32} {a_operators : Nat → Int32} {a_spans : Nat → Int32} {a_least : Nat → Int32} {a_tasks : Nat → Int32} {a_list : Nat → Int32} (hy : tc_yr S len ent f_rules a_lefts a_costs a_lengths a_marks a_sizes)
    (ht : tc_yt tn td ty tz f_planted f_trees a_operators a_spans) {n : Nat} (hnt : n < tn) {cw : Nat → Int32} :
    ∀ (d r : Nat), r + d = tc_R S → ∀ a_ways : Nat → Int32, (∀ g, g < 4 → a_ways (74 * n + g) = cw g) → (∀ m, m < n → tc_yww S len ent a_ways m (tc_w S 1000000 ty tz m)) →
    (∀ k, k < r → ∀ j, j < len k → a_ways (74 * n + 4 + 7 * k + j) = tc_pw S ty tz n cw (ent k j)) →
    (∀ a', tc_fr a_ways a' (74 * n) → tc_yww S len ent a' n (tc_pw S ty tz n cw) → post (f_noted, f_depth, f_rules, f_planted, f_trees, f_stateCount, f_known, f_listed, a_marks, a_sizes, a_lefts, a_costs, a_lengths, a_operators, a_spans, a_least, a', a_tasks, a_list)) →
    ∀ m, d < m → wY_countAt_100 post (nI n) f_noted f_depth f_rules f_planted f_trees f_stateCount f_known f_listed m (nI r) a_marks a_sizes a_lefts a_costs a_lengths a_operators a_spans a_least a_ways a_tasks a_list := by
  have hR := ok.1
  intro d
  induction d with
  | zero =>
    intro r hr a_ways hg hw he hp m hm
    obtain ⟨m', rfl⟩ : ∃ m', m = m' + 1 := ⟨m - 1, by omega⟩
    have e : r = tc_R S := by omega
    subst e
    exact br_t (by rw [hy.1]; exact nI_le (Nat.le_refl _) (by omega)) (hp _ (tc_fr_refl _ _) ⟨fun g hg4 => by rw [hg g hg4]; exact (if_pos hg4).symm, he⟩)
  | succ d ih =>
    intro r hr a_ways hg hw he hp m hm
    obtain ⟨m', rfl⟩ : ∃ m', m = m' + 1 := ⟨m - 1, by omega⟩
    have hr' : r < tc_R S := by omega
    have hl := (hy.2.1 r hr').2.2.2.2.1
    refine br_f (by rw [hy.1]; exact nI_ge hr' (by omega)) ⟨len r + 1, ?_⟩
    refine ym_ca_110 ok hn hN hy ht hnt hr' (len r) 0 (by omega) a_ways hg hw (fun j hj => absurd hj (Nat.not_lt_zero _)) (fun a' f1 f2 => ?_) _ (by omega)
    have hfr : tc_fr a_ways a' (74 * n) := fun j hj => f1 j (by omega)
    refine ih (r + 1) (by omega) a' (fun g hg4 => ?_) (fun k hk => tc_yww_fr ok hy hfr (by omega) (hw k hk)) (fun k hk j hj => ?_) (fun a2 s1 s2 => hp a2 (tc_fr_trans hfr s1) s2) m' (by omega)
    · rw [f1 _ (by omega)]
      exact hg g hg4
    · by_cases ck : k = r
      · subst ck
        exact f2 j hj
      · have hlk := (hy.2.1 k (by omega)).2.2.2.2.1
        rw [f1 _ (by omega)]
        exact he k (by omega) j hj
/-- the goals' ways once rank k is reached, up to goal g -/
def tc_ci (S : tc_S) (ty tz : Nat → Nat) (n : Nat) (a : Nat → Int32) (k g : Nat) : Prop :=
  ∀ h, h < 4 → (tc_v S 1000000 ty tz n h = 1000000 → a (74 * n + h) = 0) ∧
    ((tc_L (tc_v S 1000000 ty tz n) h < k ∨ (tc_L (tc_v S 1000000 ty tz n) h = k ∧ h < g)) → a (74 * n + h) = tc_w S 1000000 ty tz n h)
theorem ym_ca_34 (ok : tc_ok S) (hn : tc_tn ty tz tn) (hN : tn ≤ 24) {post : SY → Prop} {J : Int32 → (Nat → Int32) → (Nat → Int32) → (Nat → Int32) → (Nat → Int32) → (Nat → Int32) → (Nat → Int32) → (Nat → Int32) → (Nat → Int32) → (Nat → Int32) → (Nat → Int32) → (Nat → Int32) → Prop} {f_noted : Int32} {f_depth : Int32} {f_rules : Int32} {f_planted : Int32} {f_trees : Int32} {f_stateCount : Int32} {f_known : Int32} {f_listed : Int32} {a_marks : Nat → Int32} {a_sizes : Nat → Int32} {a_lefts : Nat → Int32} {a_costs : Nat → Int32} {a_lengths : Nat → Int32} {a_operators : Nat → Int32} {a_spans : Nat → Int32} {a_least : Nat → Int32} {a_tasks : Nat → Int32} {a_list : Nat → Int32} (hy : tc_yr S len ent f_rules a_lefts a_costs a_lengths a_marks a_sizes)
    (ht : tc_yt tn td ty tz f_planted f_trees a_operators a_spans) {n k : Nat} (hnt : n < tn) (hk : k < 5) (hr : tc_yw S len ent a_least n (tc_v S 1000000 ty tz n)) :
    ∀ (d g : Nat), g + d = 4 → ∀ a_ways : Nat → Int32, tc_ci S ty tz n a_ways k g → (∀ m, m < n → tc_yww S len ent a_ways m (tc_w S 1000000 ty tz m)) →
    (∀ a', tc_fr a_ways a' (74 * n) → tc_ci S ty tz n a' (k + 1) 0 → J (nI (k + 1)) a_marks a_sizes a_lefts a_costs a_lengths a_operators a_spans a_least a' a_tasks a_list) → ∀ m, d < m → wY_countAt_34 post J (nI n) (nI k) f_noted f_depth f_rules f_planted f_trees f_stateCount f_known f_listed m (nI g) a_marks a_sizes a_lefts a_costs a_lengths a_operators a_spans a_least a_ways a_tasks a_list := by
  have hE := tc_ok_E ok
  have h1n : 2 ≤ ty n → 1 ≤ n := fun h => (hn n hnt).2.2.2.1 h (hn n hnt).1
  have vle : ∀ e, tc_v S 1000000 ty tz n e ≤ 1000000 := fun e => tc_v_le h1n e
  intro d
  induction d with
  | zero =>
    intro g hg a_ways hc hw hp m hm
    obtain ⟨m', rfl⟩ : ∃ m', m = m' + 1 := ⟨m - 1, by omega⟩
    have e : g = 4 := by omega
    subst e
    refine br_t (nI_le (a := 4) (Nat.le_refl _) (by decide)) (nm_r (nI_1 k) (hp _ (tc_fr_refl _ _) (fun h hh => ⟨(hc h hh).1, fun z => (hc h hh).2 ?_⟩)))
    omega
  | succ d ih =>
    intro g hg a_ways hc hw hp m hm
    obtain ⟨m', rfl⟩ : ∃ m', m = m' + 1 := ⟨m - 1, by omega⟩
    have w : (74 : Int32) * nI n + nI g = nI (74 * n + g) := by rw [show (74 : Int32) = nI 74 from rfl, pk_mul, nI_add]
    have vg := vle g
    have l3 := tc_L_le3 (t := tc_v S 1000000 ty tz n) (show g < 4 by omega)
    refine br_f (nI_ge (b := 4) (by omega) (by decide)) ?_
    refine ym_rank (by omega) (by omega) vle hr.1 ?_
    refine pk_eq (tc_L (tc_v S 1000000 ty tz n) g) k (fun hL => ?_) (fun hL => ?_) rfl rfl (by omega) (by omega)
    · refine ⟨by rw [w]; exact vp_in_nI (by omega) (by decide), ?_⟩
      refine pk_le 1000000 (tc_v S 1000000 ty tz n g) (fun hz => nm_r (nI_1 g) ?_) (fun hz => ?_) rfl (by rw [w, nI_clamp (by omega), hr.1 g (by omega)]) (by omega) (by omega)
      · refine ih (g + 1) (by omega) a_ways (fun h hh => ⟨(hc h hh).1, fun z => ?_⟩) hw hp m' (by omega)
        by_cases ch : h = g
        · subst ch
          rw [(hc h hh).1 (by omega), tc_w_0 h1n (by omega)]
        · exact (hc h hh).2 (by omega)
      · refine ym_sum ok hn hN hy ht hnt (by omega) (cw := fun g => a_ways (74 * n + g)) (fun _ _ => rfl) hw hr ?_
        have es : tc_ws S 1000000 (tc_v S 1000000 ty tz n) (tc_pw S ty tz n (fun g => a_ways (74 * n + g))) g (tc_R S) = tc_w S 1000000 ty tz n g := by
          rw [tc_w_eq h1n]
          refine tc_wf_settle ok (k := k) (fun e h4 h5 => if_neg (by omega)) (fun h hh hl => ?_) (by omega) (by omega)
          show (if h < 4 then a_ways (74 * n + h) else _) = _
          rw [if_pos hh, (hc h hh).2 (Or.inl hl), tc_w_eq h1n]
          rfl
        rw [es]
        refine ⟨by rw [w]; exact vp_in_nI (by omega) (by decide), nm_r (e' := upd a_ways (74 * n + g) (tc_w S 1000000 ty tz n g)) (by rw [w, nI_clamp (by omega)]) (nm_r (nI_1 g) ?_)⟩
        have hfr : tc_fr a_ways (upd a_ways (74 * n + g) (tc_w S 1000000 ty tz n g)) (74 * n) := tc_fr_upd (by omega)
        refine ih (g + 1) (by omega) _ (fun h hh => ?_) (fun k hk => tc_yww_fr ok hy hfr (by omega) (hw k hk)) (fun a2 s1 s2 => hp a2 (tc_fr_trans hfr s1) s2) m' (by omega)
        by_cases ch : h = g
        · subst ch
          rw [pk_us]
          exact ⟨fun z => by omega, fun _ => rfl⟩
        · rw [pk_un (by omega)]
          exact ⟨(hc h hh).1, fun z => (hc h hh).2 (by omega)⟩
    · refine nm_r (nI_1 g) (ih (g + 1) (by omega) a_ways (fun h hh => ⟨(hc h hh).1, fun z => (hc h hh).2 ?_⟩) hw hp m' (by omega))
      by_cases ch : h = g
      · subst ch
        omega
      · omega
theorem ym_ca_27 (ok : tc_ok S) (hn : tc_tn ty tz tn) (hN : tn ≤ 24) {post : SY → Prop} {f_noted : Int32} {f_depth : Int32} {f_rules : Int32} {f_planted : Int32} {f_trees : Int32} {f_stateCount : Int32} {f_known : Int32} {f_listed : Int32} {a_marks : Nat → Int32} {a_sizes : Nat → Int32} {a_lefts : Nat → Int32} {a_costs : Nat → Int32} {a_lengths : Nat → Int32} {a_operators : Nat → Int32} {a_spans : Nat → Int32} {a_least : Nat → Int32} {a_tasks : Nat → Int32} {a_list : Nat → Int32} (hy : tc_yr S len ent f_rules a_lefts a_costs a_lengths a_marks a_sizes)
    (ht : tc_yt tn td ty tz f_planted f_trees a_operators a_spans) {n : Nat} (hnt : n < tn) (hr : tc_yw S len ent a_least n (tc_v S 1000000 ty tz n)) :
    ∀ (d k : Nat), k + d = 5 → ∀ a_ways : Nat → Int32, tc_ci S ty tz n a_ways k 0 → (∀ m, m < n → tc_yww S len ent a_ways m (tc_w S 1000000 ty tz m)) →
    (∀ a', tc_fr a_ways a' (74 * n) → tc_yww S len ent a' n (tc_w S 1000000 ty tz n) → post (f_noted, f_depth, f_rules, f_planted, f_trees, f_stateCount, f_known, f_listed, a_marks, a_sizes, a_lefts, a_costs, a_lengths, a_operators, a_spans, a_least, a', a_tasks, a_list)) → ∀ m, d < m → wY_countAt_27 post (nI n) f_noted f_depth f_rules f_planted f_trees f_stateCount f_known f_listed m (nI k) a_marks a_sizes a_lefts a_costs a_lengths a_operators a_spans a_least a_ways a_tasks a_list := by
  have h1n : 2 ≤ ty n → 1 ≤ n := fun h => (hn n hnt).2.2.2.1 h (hn n hnt).1
  intro d
  induction d with
  | zero =>
    intro k hk a_ways hc hw hp m hm
    obtain ⟨m', rfl⟩ : ∃ m', m = m' + 1 := ⟨m - 1, by omega⟩
    have e : k = 5 := by omega
    subst e
    refine br_t (nI_le (a := 5) (Nat.le_refl _) (by decide)) ⟨tc_R S + 1, ?_⟩
    refine ym_ca_100 ok hn hN hy ht hnt (cw := tc_w S 1000000 ty tz n) (tc_R S) 0 (by omega) a_ways (fun g hg => (hc g hg).2 (Or.inl ?_)) hw (fun k hk => absurd hk (Nat.not_lt_zero _)) (fun a' f1 f2 => hp a' f1 ?_) _ (by omega)
    · have := tc_L_le3 (t := tc_v S 1000000 ty tz n) hg
      omega
    · have e1 : tc_pw S ty tz n (tc_w S 1000000 ty tz n) = tc_w S 1000000 ty tz n := by
        funext e
        unfold tc_pw
        by_cases c : e < 4
        · rw [if_pos c]
        · rw [if_neg c]
          have e2 : tc_w S 1000000 ty tz n e = tc_wr S 1000000 (tc_v S 1000000 ty tz n) (ty n) (tc_w S 1000000 ty tz (n - 1 - tz (n - 1))) (tc_w S 1000000 ty tz (n - 1)) e := by rw [← tc_w_eq h1n]
          rw [e2]
          exact (tc_wf_ge (by omega) 4).symm
      rw [e1] at f2
      exact f2
  | succ d ih =>
    intro k hk a_ways hc hw hp m hm
    obtain ⟨m', rfl⟩ : ∃ m', m = m' + 1 := ⟨m - 1, by omega⟩
    refine br_f (nI_ge (b := 5) (by omega) (by decide)) ⟨5, ?_⟩
    refine ym_ca_34 ok hn hN hy ht hnt (by omega) hr 4 0 (by omega) a_ways hc hw (fun a' f1 f2 => ?_) 5 (by omega)
    exact ih (k + 1) (by omega) a' f2 (fun k hk => tc_yww_fr ok hy f1 (by omega) (hw k hk)) (fun a2 s1 s2 => hp a2 (tc_fr_trans f1 s1) s2) m' (by omega)
theorem ym_ca_2 (ok : tc_ok S) (hn : tc_tn ty tz tn) (hN : tn ≤ 24) {post : SY → Prop} {f_noted : Int32} {f_depth : Int32} {f_rules : Int32} {f_planted : Int32} {f_trees : Int32} {f_stateCount : Int32} {f_known : Int32} {f_listed : Int32} {a_marks : Nat → Int32} {a_sizes : Nat → Int32} {a_lefts : Nat → Int32} {a_costs : Nat → Int32} {a_lengths : Nat → Int32} {a_operators : Nat → Int32} {a_spans : Nat → Int32} {a_least : Nat → Int32} {a_tasks : Nat → Int32} {a_list : Nat → Int32} (hy : tc_yr S len ent f_rules a_lefts a_costs a_lengths a_marks a_sizes)
    (ht : tc_yt tn td ty tz f_planted f_trees a_operators a_spans) {n : Nat} (hnt : n < tn) (hr : tc_yw S len ent a_least n (tc_v S 1000000 ty tz n)) :
    ∀ (d g : Nat), g + d = 4 → ∀ a_ways : Nat → Int32, (∀ h, h < g → a_ways (74 * n + h) = 0) → (∀ m, m < n → tc_yww S len ent a_ways m (tc_w S 1000000 ty tz m)) →
    (∀ a', tc_fr a_ways a' (74 * n) → tc_yww S len ent a' n (tc_w S 1000000 ty tz n) → post (f_noted, f_depth, f_rules, f_planted, f_trees, f_stateCount, f_known, f_listed, a_marks, a_sizes, a_lefts, a_costs, a_lengths, a_operators, a_spans, a_least, a', a_tasks, a_list)) → ∀ m, d < m → wY_countAt_2 post (nI n) f_noted f_depth f_rules f_planted f_trees f_stateCount f_known f_listed m (nI g) a_marks a_sizes a_lefts a_costs a_lengths a_operators a_spans a_least a_ways a_tasks a_list := by
  intro d
  induction d with
  | zero =>
    intro g hg a_ways hc hw hp m hm
    obtain ⟨m', rfl⟩ : ∃ m', m = m' + 1 := ⟨m - 1, by omega⟩
    have e : g = 4 := by omega
    subst e
    refine br_t (nI_le (a := 4) (Nat.le_refl _) (by decide)) ⟨6, ?_⟩
    exact ym_ca_27 ok hn hN hy ht hnt hr 5 0 (by omega) a_ways (fun h hh => ⟨fun _ => hc h hh, fun z => by omega⟩) hw hp 6 (by omega)
  | succ d ih =>
    intro g hg a_ways hc hw hp m hm
    obtain ⟨m', rfl⟩ : ∃ m', m = m' + 1 := ⟨m - 1, by omega⟩
    have w : (74 : Int32) * nI n + nI g = nI (74 * n + g) := by rw [show (74 : Int32) = nI 74 from rfl, pk_mul, nI_add]
    refine br_f (nI_ge (b := 4) (by omega) (by decide)) ⟨by rw [w]; exact vp_in_nI (by omega) (by decide), nm_r (e' := upd a_ways (74 * n + g) 0) (by rw [w, nI_clamp (by omega)]) (nm_r (nI_1 g) ?_)⟩
    have hfr : tc_fr a_ways (upd a_ways (74 * n + g) 0) (74 * n) := tc_fr_upd (by omega)
    refine ih (g + 1) (by omega) _ (fun h hh => ?_) (fun k hk => tc_yww_fr ok hy hfr (by omega) (hw k hk)) (fun a2 s1 s2 => hp a2 (tc_fr_trans hfr s1) s2) m' (by omega)
    by_cases c : h = g
    · rw [c, pk_us]
    · rw [pk_un (by omega)]
      exact hc h (by omega)
theorem ym_ways_25 (ok : tc_ok S) (hn : tc_tn ty tz tn) (hN : tn ≤ 24) (hN1 : 1 ≤ tn) {g : Nat} (hg : g < 4) {post : Int32 → SY → Prop} {f_noted : Int32} {f_depth : Int32} {f_rules : Int32} {f_planted : Int32} {f_trees : Int32} {f_stateCount : Int32} {f_known : Int32} {f_listed : Int32} {a_marks : Nat → Int32} {a_sizes : Nat → Int32} {a_lefts : Nat → Int32} {a_costs : Nat → Int32} {a_lengths : Nat → Int32} {a_operators : Nat → Int32} {a_spans : Nat → Int32} {a_least : Nat → Int32} {a_tasks : Nat → Int32} {a_list : Nat → Int32} (hy : tc_yr S len ent f_rules a_lefts a_costs a_lengths a_marks a_sizes)
    (ht : tc_yt tn td ty tz f_planted f_trees a_operators a_spans) (hr : tc_yrows S 1000000 len ent ty tz a_least tn) :
    ∀ (d i : Nat), i + d = tn → ∀ a_ways : Nat → Int32, (∀ m, m < i → tc_yww S len ent a_ways m (tc_w S 1000000 ty tz m)) →
    (∀ a', post (tc_w S 1000000 ty tz (tn - 1) g) (f_noted, f_depth, f_rules, f_planted, f_trees, f_stateCount, f_known, f_listed, a_marks, a_sizes, a_lefts, a_costs, a_lengths, a_operators, a_spans, a_least, a', a_tasks, a_list)) → ∀ m, d < m → wY_ways_25 post (nI g) m (nI i) f_noted f_depth f_rules f_planted f_trees f_stateCount f_known f_listed a_marks a_sizes a_lefts a_costs a_lengths a_operators a_spans a_least a_ways a_tasks a_list := by
  intro d
  induction d with
  | zero =>
    intro i hi a_ways hw hp m hm
    obtain ⟨m', rfl⟩ : ∃ m', m = m' + 1 := ⟨m - 1, by omega⟩
    have e : i = tn := by omega
    subst e
    have w : (74 : Int32) * (f_planted - 1) + nI g = nI (74 * (i - 1) + g) := by
      rw [ht.1, show (1 : Int32) = nI 1 from rfl, pk_sub (by omega), show (74 : Int32) = nI 74 from rfl, pk_mul, nI_add]
    refine br_t (by rw [ht.1]; exact nI_le (Nat.le_refl _) (by omega)) ⟨by rw [w]; exact vp_in_nI (by omega) (by decide), ?_⟩
    rw [w, nI_clamp (by omega), (hw (i - 1) (by omega)).1 g hg]
    exact hp a_ways
  | succ d ih =>
    intro i hi a_ways hw hp m hm
    obtain ⟨m', rfl⟩ : ∃ m', m = m' + 1 := ⟨m - 1, by omega⟩
    have hit : i < tn := by omega
    refine br_f (by rw [ht.1]; exact nI_ge hit (by omega)) ⟨5, ?_⟩
    refine ym_ca_2 ok hn hN hy ht hit (hr i hit) 4 0 (by omega) a_ways (fun h hh => absurd hh (Nat.not_lt_zero _)) hw (fun a' f1 f2 => ?_) 5 (by omega)
    refine nm_r (nI_1 i) (ih (i + 1) (by omega) a' (fun k hk => ?_) hp m' (by omega))
    by_cases c : k = i
    · rw [c]
      exact f2
    · exact tc_yww_fr ok hy f1 c (hw k (by omega))
end
end
section
/-- the pending stack of X -/
abbrev tc_xp2 (pe pn : Nat → Int32) : Nat → Nat × Nat → Prop := fun k p => pe k = nI p.2 ∧ pn k = nI p.1
def tc_sp (tz : Nat → Nat) : List (Nat × Nat) → Nat
  | [] => 0
  | p :: s => tz p.1 + tc_sp tz s
/-- the cover that is listed -/
def tc_cl (S : tc_S) (K : Nat) (ty tz : Nat → Nat) (tn td g : Nat) : List Nat := if tc_tp S K ty tz tn td g = K then [] else tc_cv S K ty tz [(tn - 1, g)]
section
variable {S : tc_S} {tn td : Nat} {ty tz tk : Nat → Nat}
theorem xm_lo_2 (ok : tc_ok S) {post : Int32 → Prop} {f_patternDepth : Int32} {f_patternNodes : Int32} {f_ruleCount : Int32} {f_entryCount : Int32} {f_treeDepth : Int32} {f_treeNodes : Int32} {f_stateCount : Int32} {f_coverLength : Int32} {f_pendingCount : Int32} {a_patternStack : Nat → Int32} {a_patternSymbol : Nat → Int32} {a_patternFirst : Nat → Int32} {a_patternLast : Nat → Int32} {a_patternEntry : Nat → Int32} {a_ruleLeft : Nat → Int32} {a_ruleCost : Nat → Int32} {a_ruleEntry : Nat → Int32} {a_ruleStart : Nat → Int32} {a_entryOperator : Nat → Int32} {a_entryFirst : Nat → Int32} {a_entryLast : Nat → Int32} {a_treeStack : Nat → Int32} {a_treeOperator : Nat → Int32} {a_treeFirst : Nat → Int32} {a_treeLast : Nat → Int32} {a_treeSize : Nat → Int32} {a_treeCosts : Nat → Int32} {a_treeWays : Nat → Int32} {a_stateCosts : Nat → Int32} {a_cover : Nat → Int32} {a_pendingEntry : Nat → Int32} {a_pendingNode : Nat → Int32} (hx : tc_xr S f_ruleCount f_entryCount a_ruleLeft a_ruleCost a_ruleEntry a_ruleStart a_entryOperator a_entryFirst a_entryLast)
    {n g : Nat} (hn : n < 24) (hg : g < 4) {t : Nat → Nat} (hK : ∀ e, t e ≤ 536870912) (ht : tc_tr a_treeCosts (n * 74) (tc_E S) t)
    (hl : tc_lo S 536870912 t g < tc_R S) (hb : tc_pb S 536870912 t g (tc_lo S 536870912 t g)) (hmin : ∀ j, j < tc_lo S 536870912 t g → ¬ tc_pb S 536870912 t g j)
    (hp : post (nI (tc_lo S 536870912 t g))) : ∀ (d k : Nat), k + d = tc_lo S 536870912 t g → ∀ m, d < m → wX_lowestRule_2 post (nI g) (nI n) f_patternDepth f_patternNodes f_ruleCount f_entryCount f_treeDepth f_treeNodes f_stateCount f_coverLength f_pendingCount a_patternStack a_patternSymbol a_patternFirst a_patternLast a_patternEntry a_ruleLeft a_ruleCost a_ruleEntry a_ruleStart a_entryOperator a_entryFirst a_entryLast a_treeStack a_treeOperator a_treeFirst a_treeLast a_treeSize a_treeCosts a_treeWays a_stateCosts a_cover a_pendingEntry a_pendingNode m (nI k) := by
  have hR := ok.1
  intro d
  induction d with
  | zero =>
    intro k hk m hm
    obtain ⟨m', rfl⟩ : ∃ m', m = m' + 1 := ⟨m - 1, by omega⟩
    have e : k = tc_lo S 536870912 t g := by omega
    rw [← e] at hl hb hp
    obtain ⟨x1, x2, x3, _⟩ := hx.2.2.1 k hl
    obtain ⟨l1, l2, l3, l4⟩ := tc_ok_r ok hl
    have c : (nI k).toNatClampNeg = k := nI_clamp (by omega)
    refine br_f (by rw [hx.1]; exact nI_ge hl (by omega)) ⟨vp_in_nI (by omega) (by decide), ?_⟩
    refine pk_eq (tc_lf S k) g (fun h => ?_) (fun h => absurd hb.1 h) (by rw [c, x1]) rfl (by omega) (by omega)
    exact xm_least ok hx hl hn hK ht (fun _ => br_f (by decide) hp) (fun z => absurd hb.2 z)
  | succ d ih =>
    intro k hk m hm
    obtain ⟨m', rfl⟩ : ∃ m', m = m' + 1 := ⟨m - 1, by omega⟩
    have hk' : k < tc_R S := by omega
    obtain ⟨x1, x2, x3, _⟩ := hx.2.2.1 k hk'
    obtain ⟨l1, l2, l3, l4⟩ := tc_ok_r ok hk'
    have c : (nI k).toNatClampNeg = k := nI_clamp (by omega)
    have nb := hmin k (by omega)
    have nxt := ih (k + 1) (by omega) m' (by omega)
    refine br_f (by rw [hx.1]; exact nI_ge hk' (by omega)) ⟨vp_in_nI (by omega) (by decide), ?_⟩
    refine pk_eq (tc_lf S k) g (fun h => ?_) (fun h => nm_r (nI_1 k) nxt) (by rw [c, x1]) rfl (by omega) (by omega)
    exact xm_least ok hx hk' hn hK ht (fun z => absurd ⟨h, z⟩ nb) (fun _ => br_t rfl (nm_r (nI_1 k) nxt))
theorem xm_lo (ok : tc_ok S) (hn : tc_tn ty tz tn) (hN : tn ≤ 24) {post : Int32 → Prop} {f_patternDepth : Int32} {f_patternNodes : Int32} {f_ruleCount : Int32} {f_entryCount : Int32} {f_treeDepth : Int32} {f_treeNodes : Int32} {f_stateCount : Int32} {f_coverLength : Int32} {f_pendingCount : Int32} {a_patternStack : Nat → Int32} {a_patternSymbol : Nat → Int32} {a_patternFirst : Nat → Int32} {a_patternLast : Nat → Int32} {a_patternEntry : Nat → Int32} {a_ruleLeft : Nat → Int32} {a_ruleCost : Nat → Int32} {a_ruleEntry : Nat → Int32} {a_ruleStart : Nat → Int32} {a_entryOperator : Nat → Int32} {a_entryFirst : Nat → Int32} {a_entryLast : Nat → Int32} {a_treeStack : Nat → Int32} {a_treeOperator : Nat → Int32} {a_treeFirst : Nat → Int32} {a_treeLast : Nat → Int32} {a_treeSize : Nat → Int32} {a_treeCosts : Nat → Int32} {a_treeWays : Nat → Int32} {a_stateCosts : Nat → Int32} {a_cover : Nat → Int32} {a_pendingEntry : Nat → Int32} {a_pendingNode : Nat → Int32} (hx : tc_xr S f_ruleCount f_entryCount a_ruleLeft a_ruleCost a_ruleEntry a_ruleStart a_entryOperator a_entryFirst a_entryLast)
    (hr : tc_rows S 536870912 ty tz a_treeCosts tn) {n g : Nat} (hg : g < 4) (hgd : tc_gd S 536870912 ty tz tn n g) (hp : post (nI (tc_lo S 536870912 (tc_v S 536870912 ty tz n) g))) :
    wpX_lowestRule post (f_patternDepth, f_patternNodes, f_ruleCount, f_entryCount, f_treeDepth, f_treeNodes, f_stateCount, f_coverLength, f_pendingCount, a_patternStack, a_patternSymbol, a_patternFirst, a_patternLast, a_patternEntry, a_ruleLeft, a_ruleCost, a_ruleEntry, a_ruleStart, a_entryOperator, a_entryFirst, a_entryLast, a_treeStack, a_treeOperator, a_treeFirst, a_treeLast, a_treeSize, a_treeCosts, a_treeWays, a_stateCosts, a_cover, a_pendingEntry, a_pendingNode) (nI g) (nI n) := by
  obtain ⟨a, b, c, _⟩ := tc_gd_lo ok hn hgd hg
  have hnt := hgd.1
  exact ⟨tc_lo S 536870912 (tc_v S 536870912 ty tz n) g + 1, xm_lo_2 (t := tc_v S 536870912 ty tz n) ok hx (by omega) hg (fun e => tc_v_le (fun h => (hn n hnt).2.2.2.1 h (hn n hnt).1) e) (hr n hnt) a b c hp (tc_lo S 536870912 (tc_v S 536870912 ty tz n) g) 0 (by omega) _ (by omega)⟩
theorem xm_cn_59 (ok : tc_ok S) (hn : tc_tn ty tz tn) (hN : tn ≤ 24) {post : SX → Prop} {f_patternDepth : Int32} {f_patternNodes : Int32} {f_ruleCount : Int32} {f_entryCount : Int32} {f_treeDepth : Int32} {f_treeNodes : Int32} {f_stateCount : Int32} {f_coverLength : Int32} {f_pendingCount : Int32} {a_patternStack : Nat → Int32} {a_patternSymbol : Nat → Int32} {a_patternFirst : Nat → Int32} {a_patternLast : Nat → Int32} {a_patternEntry : Nat → Int32} {a_ruleLeft : Nat → Int32} {a_ruleCost : Nat → Int32} {a_ruleEntry : Nat → Int32} {a_ruleStart : Nat → Int32} {a_entryOperator : Nat → Int32} {a_entryFirst : Nat → Int32} {a_entryLast : Nat → Int32} {a_treeStack : Nat → Int32} {a_treeOperator : Nat → Int32} {a_treeFirst : Nat → Int32} {a_treeLast : Nat → Int32} {a_treeSize : Nat → Int32} {a_treeCosts : Nat → Int32} {a_treeWays : Nat → Int32} {a_stateCosts : Nat → Int32} {a_cover : Nat → Int32} {a_pendingEntry : Nat → Int32} {a_pendingNode : Nat → Int32} (hx : tc_xr S f_ruleCount f_entryCount a_ruleLeft a_ruleCost a_ruleEntry a_ruleStart a_entryOperator a_entryFirst a_entryLast)
    (ht : tc_xt tn td ty tz tk f_treeDepth f_treeNodes a_treeStack a_treeOperator a_treeFirst a_treeLast a_treeSize) {n e h : Nat} {s : List (Nat × Nat)} (he : ¬ e < 4)
    (hgd : ∀ p, p ∈ (n, e) :: s → tc_gd S 536870912 ty tz tn p.1 p.2) (hh : f_pendingCount = nI h) (hh2 : h + 2 ≤ 25) (hs : tc_sk (tc_xp2 a_pendingEntry a_pendingNode) h s)
    (hp : ∀ (pe pn : Nat → Int32) (h' : Nat) (s' : List (Nat × Nat)), h' ≤ h + 2 → tc_sk (tc_xp2 pe pn) h' s' → (∀ p, p ∈ s' → tc_gd S 536870912 ty tz tn p.1 p.2) → tc_sp tz s' + 1 = tz n + tc_sp tz s →
      tc_cv S 536870912 ty tz ((n, e) :: s) = tc_cv S 536870912 ty tz s' → post (f_patternDepth, f_patternNodes, f_ruleCount, f_entryCount, f_treeDepth, f_treeNodes, f_stateCount, f_coverLength, nI h', a_patternStack, a_patternSymbol, a_patternFirst, a_patternLast, a_patternEntry, a_ruleLeft, a_ruleCost, a_ruleEntry, a_ruleStart, a_entryOperator, a_entryFirst, a_entryLast, a_treeStack, a_treeOperator, a_treeFirst, a_treeLast, a_treeSize, a_treeCosts, a_treeWays, a_stateCosts, a_cover, pe, pn)) :
    wX_coverNode_59 post (nI n) (nI e) f_patternDepth f_patternNodes f_ruleCount f_entryCount f_treeDepth f_treeNodes f_stateCount f_coverLength f_pendingCount a_patternStack a_patternSymbol a_patternFirst a_patternLast a_patternEntry a_ruleLeft a_ruleCost a_ruleEntry a_ruleStart a_entryOperator a_entryFirst a_entryLast a_treeStack a_treeOperator a_treeFirst a_treeLast a_treeSize a_treeCosts a_treeWays a_stateCosts a_cover a_pendingEntry a_pendingNode := by
  have hg : tc_gd S 536870912 ty tz tn n e := hgd (n, e) List.mem_cons_self
  have hnt : n < tn := hg.1
  have heE : e < tc_E S := hg.2.1
  have hE := tc_ok_E ok
  obtain ⟨h6, n1, n2, n3, n4, n5, n6, n7⟩ := hn n hnt
  obtain ⟨t1, t2, t3, t4⟩ := ht.2.2.2 n hnt
  obtain ⟨x1, x2, x3⟩ := hx.2.2.2 e (by omega) heE
  obtain ⟨g1, g2, g3⟩ := tc_gd_op ok hn hg he
  have hcv := tc_cv_cons ok hn hgd
  have cn : (nI n).toNatClampNeg = n := nI_clamp (by omega)
  have ce : (nI e).toNatClampNeg = e := nI_clamp (by omega)
  have hou : tc_ou S 536870912 ty tz n e = [] := if_neg he
  rw [hou, List.nil_append] at hcv
  have hs0 : ∀ p, p ∈ s → tc_gd S 536870912 ty tz tn p.1 p.2 := fun p hp => hgd p (List.mem_cons_of_mem _ hp)
  subst hh
  refine ⟨vp_in_nI (by omega) (by decide), ?_⟩
  rw [cn, t1]
  refine xm_parts (by omega) ?_
  by_cases h2 : ty n < 2
  · rw [tc_ar0 h2]
    refine br_t (by decide) (br_f (by decide) ?_)
    refine hp _ _ h s (by omega) hs hs0 (by have := n5 h2; omega) ?_
    rw [hcv]
    have e1 : tc_nx S 536870912 ty tz n e = [] := by
      unfold tc_nx
      rw [if_neg he, if_pos h2]
    rw [e1]
    rfl
  · obtain ⟨b1, b2⟩ := g2 (by omega)
    by_cases h4 : ty n < 4
    · rw [tc_ar1 (by omega) h4]
      have e1 : tc_nx S 536870912 ty tz n e = [(n - 1, tc_el S e)] := by
        unfold tc_nx
        rw [if_neg he, if_neg h2, if_pos h4]
      refine br_f (by decide) ⟨vp_in_nI (by omega) (by decide), vp_in_nI (by omega) (by decide), ?_⟩
      rw [ce, x2 (by omega), t3 (by omega)]
      refine ⟨vp_in_nI (by omega) (by decide), nm_r (e' := upd a_pendingEntry h (nI (tc_el S e))) (by rw [nI_clamp (by omega)]) ⟨vp_in_nI (by omega) (by decide), nm_r (e' := upd a_pendingNode h (nI (n - 1))) (by rw [nI_clamp (by omega)]) (nm_r (nI_1 h) (br_f (by decide) ?_))⟩⟩
      refine hp _ _ (h + 1) ((n - 1, tc_el S e) :: s) (by omega) ⟨h, rfl, ⟨pk_us, pk_us⟩, ?_⟩ (fun p hp => ?_) ?_ ?_
      · exact tc_sk_congr s h (fun k hk p hpp => ⟨by rw [pk_un (by omega)]; exact hpp.1, by rw [pk_un (by omega)]; exact hpp.2⟩) hs
      · rcases List.mem_cons.mp hp with hp | hp
        · rw [hp]
          exact b2
        · exact hs0 p hp
      · show tz (n - 1) + tc_sp tz s + 1 = tz n + tc_sp tz s
        have := n6 (by omega) h4
        omega
      · rw [hcv, e1]
        rfl
    · rw [tc_ar2 (by omega)]
      obtain ⟨c1, c2⟩ := g3 (by omega)
      have e1 : tc_nx S 536870912 ty tz n e = [(n - 1 - tz (n - 1), tc_ef S e), (n - 1, tc_el S e)] := by
        unfold tc_nx
        rw [if_neg he, if_neg h2, if_neg h4]
      refine br_f (by decide) ⟨vp_in_nI (by omega) (by decide), vp_in_nI (by omega) (by decide), ?_⟩
      rw [ce, x2 (by omega), t3 (by omega)]
      refine ⟨vp_in_nI (by omega) (by decide), nm_r (e' := upd a_pendingEntry h (nI (tc_el S e))) (by rw [nI_clamp (by omega)]) ⟨vp_in_nI (by omega) (by decide), nm_r (e' := upd a_pendingNode h (nI (n - 1))) (by rw [nI_clamp (by omega)]) (nm_r (nI_1 h) (br_t rfl ⟨vp_in_nI (by omega) (by decide), vp_in_nI (by omega) (by decide), ?_⟩))⟩⟩
      rw [ce, cn, x3 (by omega), t4 (by omega)]
      refine ⟨vp_in_nI (by omega) (by decide), nm_r (e' := upd (upd a_pendingEntry h (nI (tc_el S e))) (h + 1) (nI (tc_ef S e))) (by rw [nI_clamp (by omega)]) ⟨vp_in_nI (by omega) (by decide), nm_r (e' := upd (upd a_pendingNode h (nI (n - 1))) (h + 1) (nI (n - 1 - tz (n - 1)))) (by rw [nI_clamp (by omega)]) (nm_r (nI_1 (h + 1)) ?_)⟩⟩
      refine hp _ _ (h + 1 + 1) ((n - 1 - tz (n - 1), tc_ef S e) :: (n - 1, tc_el S e) :: s) (by omega) ⟨h + 1, rfl, ⟨pk_us, pk_us⟩, h, rfl, ⟨by rw [pk_un (by omega)]; exact pk_us, by rw [pk_un (by omega)]; exact pk_us⟩, ?_⟩ (fun p hp => ?_) ?_ ?_
      · exact tc_sk_congr s h (fun k hk p hpp => ⟨by rw [pk_un (by omega), pk_un (by omega)]; exact hpp.1, by rw [pk_un (by omega), pk_un (by omega)]; exact hpp.2⟩) hs
      · rcases List.mem_cons.mp hp with hp | hp
        · rw [hp]
          exact c2
        · rcases List.mem_cons.mp hp with hp | hp
          · rw [hp]
            exact b2
          · exact hs0 p hp
      · show tz (n - 1 - tz (n - 1)) + (tz (n - 1) + tc_sp tz s) + 1 = tz n + tc_sp tz s
        have := n7 (by omega) h6
        omega
      · rw [hcv, e1]
        rfl
theorem xm_cn_5 (ok : tc_ok S) (hn : tc_tn ty tz tn) (hN : tn ≤ 24) {post : SX → Prop} {f_patternDepth : Int32} {f_patternNodes : Int32} {f_ruleCount : Int32} {f_entryCount : Int32} {f_treeDepth : Int32} {f_treeNodes : Int32} {f_stateCount : Int32} {f_pendingCount : Int32} {a_patternStack : Nat → Int32} {a_patternSymbol : Nat → Int32} {a_patternFirst : Nat → Int32} {a_patternLast : Nat → Int32} {a_patternEntry : Nat → Int32} {a_ruleLeft : Nat → Int32} {a_ruleCost : Nat → Int32} {a_ruleEntry : Nat → Int32} {a_ruleStart : Nat → Int32} {a_entryOperator : Nat → Int32} {a_entryFirst : Nat → Int32} {a_entryLast : Nat → Int32} {a_treeStack : Nat → Int32} {a_treeOperator : Nat → Int32} {a_treeFirst : Nat → Int32} {a_treeLast : Nat → Int32} {a_treeSize : Nat → Int32} {a_treeCosts : Nat → Int32} {a_treeWays : Nat → Int32} {a_stateCosts : Nat → Int32} {a_pendingEntry : Nat → Int32} {a_pendingNode : Nat → Int32} (hx : tc_xr S f_ruleCount f_entryCount a_ruleLeft a_ruleCost a_ruleEntry a_ruleStart a_entryOperator a_entryFirst a_entryLast)
    (ht : tc_xt tn td ty tz tk f_treeDepth f_treeNodes a_treeStack a_treeOperator a_treeFirst a_treeLast a_treeSize) (hr : tc_rows S 536870912 ty tz a_treeCosts tn) {n h : Nat} {s : List (Nat × Nat)}
    (hh : f_pendingCount = nI h) (hh2 : h + 2 ≤ 25) (hs : tc_sk (tc_xp2 a_pendingEntry a_pendingNode) h s) {L0 : List Nat} {l0 : Nat} (hl0 : l0 + 4 ≤ 96) :
    ∀ (d k : Nat), k + d = 4 → ∀ (e : Nat) (l : List Nat) (a_cover : Nat → Int32), (e < 4 → tc_L (tc_v S 536870912 ty tz n) e + k ≤ 3) → l.length ≤ l0 + k → tc_al a_cover l →
    (∀ p, p ∈ (n, e) :: s → tc_gd S 536870912 ty tz tn p.1 p.2) → l ++ tc_cv S 536870912 ty tz ((n, e) :: s) = L0 →
    (∀ (co pe pn : Nat → Int32) (l' : List Nat) (h' : Nat) (s' : List (Nat × Nat)), l'.length ≤ l0 + 4 → tc_al co l' → h' ≤ h + 2 → tc_sk (tc_xp2 pe pn) h' s' → (∀ p, p ∈ s' → tc_gd S 536870912 ty tz tn p.1 p.2) →
      tc_sp tz s' + 1 = tz n + tc_sp tz s → l' ++ tc_cv S 536870912 ty tz s' = L0 → post (f_patternDepth, f_patternNodes, f_ruleCount, f_entryCount, f_treeDepth, f_treeNodes, f_stateCount, nI l'.length, nI h', a_patternStack, a_patternSymbol, a_patternFirst, a_patternLast, a_patternEntry, a_ruleLeft, a_ruleCost, a_ruleEntry, a_ruleStart, a_entryOperator, a_entryFirst, a_entryLast, a_treeStack, a_treeOperator, a_treeFirst, a_treeLast, a_treeSize, a_treeCosts, a_treeWays, a_stateCosts, co, pe, pn)) →
    ∀ m, d < m → wX_coverNode_5 post (nI n) f_patternDepth f_patternNodes f_ruleCount f_entryCount f_treeDepth f_treeNodes f_stateCount f_pendingCount m (nI e) (nI k) (nI l.length) a_patternStack a_patternSymbol a_patternFirst a_patternLast a_patternEntry a_ruleLeft a_ruleCost a_ruleEntry a_ruleStart a_entryOperator a_entryFirst a_entryLast a_treeStack a_treeOperator a_treeFirst a_treeLast a_treeSize a_treeCosts a_treeWays a_stateCosts a_cover a_pendingEntry a_pendingNode := by
  have hE := tc_ok_E ok
  have hR := ok.1
  have fin : ∀ (e : Nat) (l : List Nat) (a_cover : Nat → Int32), ¬ e < 4 → l.length ≤ l0 + 4 → tc_al a_cover l → (∀ p, p ∈ (n, e) :: s → tc_gd S 536870912 ty tz tn p.1 p.2) → l ++ tc_cv S 536870912 ty tz ((n, e) :: s) = L0 →
      (∀ (co pe pn : Nat → Int32) (l' : List Nat) (h' : Nat) (s' : List (Nat × Nat)), l'.length ≤ l0 + 4 → tc_al co l' → h' ≤ h + 2 → tc_sk (tc_xp2 pe pn) h' s' → (∀ p, p ∈ s' → tc_gd S 536870912 ty tz tn p.1 p.2) →
        tc_sp tz s' + 1 = tz n + tc_sp tz s → l' ++ tc_cv S 536870912 ty tz s' = L0 → post (f_patternDepth, f_patternNodes, f_ruleCount, f_entryCount, f_treeDepth, f_treeNodes, f_stateCount, nI l'.length, nI h', a_patternStack, a_patternSymbol, a_patternFirst, a_patternLast, a_patternEntry, a_ruleLeft, a_ruleCost, a_ruleEntry, a_ruleStart, a_entryOperator, a_entryFirst, a_entryLast, a_treeStack, a_treeOperator, a_treeFirst, a_treeLast, a_treeSize, a_treeCosts, a_treeWays, a_stateCosts, co, pe, pn)) →
      wX_coverNode_59 post (nI n) (nI e) f_patternDepth f_patternNodes f_ruleCount f_entryCount f_treeDepth f_treeNodes f_stateCount (nI l.length) f_pendingCount a_patternStack a_patternSymbol a_patternFirst a_patternLast a_patternEntry a_ruleLeft a_ruleCost a_ruleEntry a_ruleStart a_entryOperator a_entryFirst a_entryLast a_treeStack a_treeOperator a_treeFirst a_treeLast a_treeSize a_treeCosts a_treeWays a_stateCosts a_cover a_pendingEntry a_pendingNode := fun e l a_cover he hl hal hgd hL hp => by
    refine xm_cn_59 ok hn hN hx ht he hgd hh hh2 hs (fun pe pn h' s' p1 p2 p3 p4 p5 => ?_)
    exact hp a_cover pe pn l h' s' hl hal p1 p2 p3 p4 (by rw [← p5]; exact hL)
  intro d
  induction d with
  | zero =>
    intro k hk e l a_cover hrk hl hal hgd hL hp m hm
    obtain ⟨m', rfl⟩ : ∃ m', m = m' + 1 := ⟨m - 1, by omega⟩
    have e1 : k = 4 := by omega
    subst e1
    refine br_t (nI_le (a := 4) (Nat.le_refl _) (by decide)) (fin e l a_cover (fun z => ?_) hl hal hgd hL hp)
    have := hrk z
    omega
  | succ d ih =>
    intro k hk e l a_cover hrk hl hal hgd hL hp m hm
    obtain ⟨m', rfl⟩ : ∃ m', m = m' + 1 := ⟨m - 1, by omega⟩
    have hg : tc_gd S 536870912 ty tz tn n e := hgd (n, e) List.mem_cons_self
    have hnt : n < tn := hg.1
    have heE : e < tc_E S := hg.2.1
    refine br_f (nI_ge (b := 4) (by omega) (by decide)) ?_
    refine pk_le 4 e (fun h4 => fin e l a_cover (by omega) (by omega) hal hgd hL hp) (fun h4 => ?_) rfl rfl (by omega) (by omega)
    refine xm_lo ok hn hN hx hr h4 hg ?_
    obtain ⟨g1, g2, g3, g4⟩ := tc_gd_lo ok hn hg h4
    have x3 := (hx.2.2.1 _ g1).2.2.1
    refine ⟨vp_in_nI (by omega) (by decide), nm_r (e' := upd a_cover l.length (nI (tc_lo S 536870912 (tc_v S 536870912 ty tz n) e))) (by rw [nI_clamp (by omega)]) (nm_r (nI_1 l.length) ⟨vp_in_nI (by omega) (by decide), nm_r (e' := nI (tc_rt S (tc_lo S 536870912 (tc_v S 536870912 ty tz n) e))) (by rw [nI_clamp (by omega), x3]) (nm_r (nI_1 k) ?_)⟩)⟩
    have hcv := tc_cv_cons ok hn hgd
    have e1 : tc_nx S 536870912 ty tz n e = [(n, tc_rt S (tc_lo S 536870912 (tc_v S 536870912 ty tz n) e))] := if_pos h4
    have e2 : tc_ou S 536870912 ty tz n e = [tc_lo S 536870912 (tc_v S 536870912 ty tz n) e] := if_pos h4
    rw [e1, e2] at hcv
    have hlen : (l ++ [tc_lo S 536870912 (tc_v S 536870912 ty tz n) e]).length = l.length + 1 := by
      rw [List.length_append]
      rfl
    have key := ih (k + 1) (by omega) (tc_rt S (tc_lo S 536870912 (tc_v S 536870912 ty tz n) e)) (l ++ [tc_lo S 536870912 (tc_v S 536870912 ty tz n) e]) _ (fun z => ?_) (by rw [hlen]; omega) (tc_al_snoc hal) (fun p hpm => ?_) ?_ hp m' (by omega)
    · rw [hlen] at key
      exact key
    · have := tc_bs_L ok g1 z g2.2
      rw [g2.1] at this
      have := hrk h4
      omega
    · rcases List.mem_cons.mp hpm with hpm | hpm
      · rw [hpm]
        exact g4
      · exact hgd p (List.mem_cons_of_mem _ hpm)
    · rw [List.append_assoc]
      rw [hcv] at hL
      exact hL
theorem xm_cn (ok : tc_ok S) (hn : tc_tn ty tz tn) (hN : tn ≤ 24) {post : SX → Prop} {f_patternDepth : Int32} {f_patternNodes : Int32} {f_ruleCount : Int32} {f_entryCount : Int32} {f_treeDepth : Int32} {f_treeNodes : Int32} {f_stateCount : Int32} {f_coverLength : Int32} {f_pendingCount : Int32} {a_patternStack : Nat → Int32} {a_patternSymbol : Nat → Int32} {a_patternFirst : Nat → Int32} {a_patternLast : Nat → Int32} {a_patternEntry : Nat → Int32} {a_ruleLeft : Nat → Int32} {a_ruleCost : Nat → Int32} {a_ruleEntry : Nat → Int32} {a_ruleStart : Nat → Int32} {a_entryOperator : Nat → Int32} {a_entryFirst : Nat → Int32} {a_entryLast : Nat → Int32} {a_treeStack : Nat → Int32} {a_treeOperator : Nat → Int32} {a_treeFirst : Nat → Int32} {a_treeLast : Nat → Int32} {a_treeSize : Nat → Int32} {a_treeCosts : Nat → Int32} {a_treeWays : Nat → Int32} {a_stateCosts : Nat → Int32} {a_cover : Nat → Int32} {a_pendingEntry : Nat → Int32} {a_pendingNode : Nat → Int32} (hx : tc_xr S f_ruleCount f_entryCount a_ruleLeft a_ruleCost a_ruleEntry a_ruleStart a_entryOperator a_entryFirst a_entryLast)
    (ht : tc_xt tn td ty tz tk f_treeDepth f_treeNodes a_treeStack a_treeOperator a_treeFirst a_treeLast a_treeSize) (hr : tc_rows S 536870912 ty tz a_treeCosts tn) {n e h : Nat} {s : List (Nat × Nat)}
    (hh : f_pendingCount = nI h) (hh2 : h + 2 ≤ 25) (hs : tc_sk (tc_xp2 a_pendingEntry a_pendingNode) h s) {L0 l : List Nat} (hlc : f_coverLength = nI l.length) (hl0 : l.length + 4 ≤ 96) (hal : tc_al a_cover l)
    (hgd : ∀ p, p ∈ (n, e) :: s → tc_gd S 536870912 ty tz tn p.1 p.2) (hL : l ++ tc_cv S 536870912 ty tz ((n, e) :: s) = L0)
    (hp : ∀ (co pe pn : Nat → Int32) (l' : List Nat) (h' : Nat) (s' : List (Nat × Nat)), l'.length ≤ l.length + 4 → tc_al co l' → h' ≤ h + 2 → tc_sk (tc_xp2 pe pn) h' s' → (∀ p, p ∈ s' → tc_gd S 536870912 ty tz tn p.1 p.2) →
      tc_sp tz s' + 1 = tz n + tc_sp tz s → l' ++ tc_cv S 536870912 ty tz s' = L0 → post (f_patternDepth, f_patternNodes, f_ruleCount, f_entryCount, f_treeDepth, f_treeNodes, f_stateCount, nI l'.length, nI h', a_patternStack, a_patternSymbol, a_patternFirst, a_patternLast, a_patternEntry, a_ruleLeft, a_ruleCost, a_ruleEntry, a_ruleStart, a_entryOperator, a_entryFirst, a_entryLast, a_treeStack, a_treeOperator, a_treeFirst, a_treeLast, a_treeSize, a_treeCosts, a_treeWays, a_stateCosts, co, pe, pn)) :
    wpX_coverNode post (f_patternDepth, f_patternNodes, f_ruleCount, f_entryCount, f_treeDepth, f_treeNodes, f_stateCount, f_coverLength, f_pendingCount, a_patternStack, a_patternSymbol, a_patternFirst, a_patternLast, a_patternEntry, a_ruleLeft, a_ruleCost, a_ruleEntry, a_ruleStart, a_entryOperator, a_entryFirst, a_entryLast, a_treeStack, a_treeOperator, a_treeFirst, a_treeLast, a_treeSize, a_treeCosts, a_treeWays, a_stateCosts, a_cover, a_pendingEntry, a_pendingNode) (nI e) (nI n) := by
  subst hlc
  exact ⟨5, xm_cn_5 ok hn hN hx ht hr hh hh2 hs hl0 4 0 (by omega) e l a_cover (fun z => tc_L_le3 z) (by omega) hal hgd hL hp 5 (by omega)⟩
end
end
section
section
variable {S : tc_S} {tn td : Nat} {ty tz tk : Nat → Nat}
theorem tc_cv_nil {K : Nat} : tc_cv S K ty tz [] = [] := rfl
theorem xm_lc_41 (ok : tc_ok S) (hn : tc_tn ty tz tn) (hN : tn ≤ 24) {post : SX → Prop} {f_patternDepth : Int32} {f_patternNodes : Int32} {f_ruleCount : Int32} {f_entryCount : Int32} {f_treeDepth : Int32} {f_treeNodes : Int32} {f_stateCount : Int32} {a_patternStack : Nat → Int32} {a_patternSymbol : Nat → Int32} {a_patternFirst : Nat → Int32} {a_patternLast : Nat → Int32} {a_patternEntry : Nat → Int32} {a_ruleLeft : Nat → Int32} {a_ruleCost : Nat → Int32} {a_ruleEntry : Nat → Int32} {a_ruleStart : Nat → Int32} {a_entryOperator : Nat → Int32} {a_entryFirst : Nat → Int32} {a_entryLast : Nat → Int32} {a_treeStack : Nat → Int32} {a_treeOperator : Nat → Int32} {a_treeFirst : Nat → Int32} {a_treeLast : Nat → Int32} {a_treeSize : Nat → Int32} {a_treeCosts : Nat → Int32} {a_treeWays : Nat → Int32} {a_stateCosts : Nat → Int32}
    (hx : tc_xr S f_ruleCount f_entryCount a_ruleLeft a_ruleCost a_ruleEntry a_ruleStart a_entryOperator a_entryFirst a_entryLast)
    (ht : tc_xt tn td ty tz tk f_treeDepth f_treeNodes a_treeStack a_treeOperator a_treeFirst a_treeLast a_treeSize) (hr : tc_rows S 536870912 ty tz a_treeCosts tn) {L0 : List Nat} :
    ∀ (d k : Nat), k + d = 24 → ∀ (l : List Nat) (h : Nat) (s : List (Nat × Nat)) (a_cover a_pendingEntry a_pendingNode : Nat → Int32), l.length ≤ 4 * k → tc_al a_cover l → h ≤ k + 1 →
    tc_sk (tc_xp2 a_pendingEntry a_pendingNode) h s → (∀ p, p ∈ s → tc_gd S 536870912 ty tz tn p.1 p.2) → tc_sp tz s + k ≤ 24 → l ++ tc_cv S 536870912 ty tz s = L0 →
    (∀ (co pe pn : Nat → Int32) (fp : Int32), L0.length ≤ 96 → tc_al co L0 → post (f_patternDepth, f_patternNodes, f_ruleCount, f_entryCount, f_treeDepth, f_treeNodes, f_stateCount, nI L0.length, fp, a_patternStack, a_patternSymbol, a_patternFirst, a_patternLast, a_patternEntry, a_ruleLeft, a_ruleCost, a_ruleEntry, a_ruleStart, a_entryOperator, a_entryFirst, a_entryLast, a_treeStack, a_treeOperator, a_treeFirst, a_treeLast, a_treeSize, a_treeCosts, a_treeWays, a_stateCosts, co, pe, pn)) →
    ∀ m, d < m → wX_listCover_41 post m (nI k) f_patternDepth f_patternNodes f_ruleCount f_entryCount f_treeDepth f_treeNodes f_stateCount (nI l.length) (nI h) a_patternStack a_patternSymbol a_patternFirst a_patternLast a_patternEntry a_ruleLeft a_ruleCost a_ruleEntry a_ruleStart a_entryOperator a_entryFirst a_entryLast a_treeStack a_treeOperator a_treeFirst a_treeLast a_treeSize a_treeCosts a_treeWays a_stateCosts a_cover a_pendingEntry a_pendingNode := by
  intro d
  induction d with
  | zero =>
    intro k hk l h s a_cover a_pendingEntry a_pendingNode h1 h2 h3 h4 h5 h6 h7 hp m hm
    obtain ⟨m', rfl⟩ : ∃ m', m = m' + 1 := ⟨m - 1, by omega⟩
    have e1 : k = 24 := by omega
    subst e1
    cases s with
    | nil =>
      rw [tc_cv_nil, List.append_nil] at h7
      subst h7
      exact br_t (nI_le (a := 24) (Nat.le_refl _) (by decide)) (hp _ _ _ _ (by omega) h2)
    | cons p s =>
      exfalso
      have g := h5 p List.mem_cons_self
      have z := (hn p.1 g.1).2.1
      have e2 : tc_sp tz (p :: s) = tz p.1 + tc_sp tz s := rfl
      omega
  | succ d ih =>
    intro k hk l h s a_cover a_pendingEntry a_pendingNode h1 h2 h3 h4 h5 h6 h7 hp m hm
    obtain ⟨m', rfl⟩ : ∃ m', m = m' + 1 := ⟨m - 1, by omega⟩
    refine br_f (nI_ge (b := 24) (by omega) (by decide)) ?_
    cases s with
    | nil =>
      have e0 : h = 0 := h4
      subst e0
      rw [tc_cv_nil, List.append_nil] at h7
      subst h7
      exact br_t (nI_le (b := 0) (Nat.le_refl _) (by decide)) (hp _ _ _ _ (by omega) h2)
    | cons p s =>
      obtain ⟨n, e⟩ := p
      obtain ⟨h', e0, ⟨q1, q2⟩, q3⟩ := h4
      subst e0
      have e2 : tc_sp tz ((n, e) :: s) = tz n + tc_sp tz s := rfl
      refine br_f (nI_nle (by omega) (by omega)) (nm_r (nI_pred h') ⟨vp_in_nI (by omega) (by decide), vp_in_nI (by omega) (by decide), ?_⟩)
      rw [nI_clamp (by omega), q1, q2]
      refine xm_cn ok hn hN hx ht hr rfl (by omega) q3 rfl (by omega) h2 h5 h7 (fun co pe pn l' h'' s' p1 p2 p3 p4 p5 p6 p7 => ?_)
      have p6' : tc_sp tz s' + 1 = tz n + tc_sp tz s := p6
      exact nm_r (nI_1 k) (ih (k + 1) (by omega) l' h'' s' co pe pn (by omega) p2 (by omega) p4 p5 (by omega) p7 hp m' (by omega))
theorem xm_lc (ok : tc_ok S) (hF : tc_fo tn td ty tz tk) (h6 : ∀ i, i < tn → ty i < 6) (hN : tn ≤ 24) (hD : td ≤ 8) {g : Nat} (hg : g < 4) {post : SX → Prop} {f_patternDepth : Int32} {f_patternNodes : Int32} {f_ruleCount : Int32} {f_entryCount : Int32} {f_treeDepth : Int32} {f_treeNodes : Int32} {f_stateCount : Int32} {f_coverLength : Int32} {f_pendingCount : Int32} {a_patternStack : Nat → Int32} {a_patternSymbol : Nat → Int32} {a_patternFirst : Nat → Int32} {a_patternLast : Nat → Int32} {a_patternEntry : Nat → Int32} {a_ruleLeft : Nat → Int32} {a_ruleCost : Nat → Int32} {a_ruleEntry : Nat → Int32} {a_ruleStart : Nat → Int32} {a_entryOperator : Nat → Int32} {a_entryFirst : Nat → Int32} {a_entryLast : Nat → Int32} {a_treeStack : Nat → Int32} {a_treeOperator : Nat → Int32} {a_treeFirst : Nat → Int32} {a_treeLast : Nat → Int32} {a_treeSize : Nat → Int32} {a_treeCosts : Nat → Int32} {a_treeWays : Nat → Int32} {a_stateCosts : Nat → Int32} {a_cover : Nat → Int32} {a_pendingEntry : Nat → Int32} {a_pendingNode : Nat → Int32}
    (hx : tc_xr S f_ruleCount f_entryCount a_ruleLeft a_ruleCost a_ruleEntry a_ruleStart a_entryOperator a_entryFirst a_entryLast)
    (ht : tc_xt tn td ty tz tk f_treeDepth f_treeNodes a_treeStack a_treeOperator a_treeFirst a_treeLast a_treeSize)
    (hp : ∀ (tc co pe pn : Nat → Int32) (fp : Int32), (tc_cl S 536870912 ty tz tn td g).length ≤ 96 → tc_al co (tc_cl S 536870912 ty tz tn td g) → post (f_patternDepth, f_patternNodes, f_ruleCount, f_entryCount, f_treeDepth, f_treeNodes, f_stateCount, nI (tc_cl S 536870912 ty tz tn td g).length, fp, a_patternStack, a_patternSymbol, a_patternFirst, a_patternLast, a_patternEntry, a_ruleLeft, a_ruleCost, a_ruleEntry, a_ruleStart, a_entryOperator, a_entryFirst, a_entryLast, a_treeStack, a_treeOperator, a_treeFirst, a_treeLast, a_treeSize, tc, a_treeWays, a_stateCosts, co, pe, pn)) :
    wpX_listCover post (f_patternDepth, f_patternNodes, f_ruleCount, f_entryCount, f_treeDepth, f_treeNodes, f_stateCount, f_coverLength, f_pendingCount, a_patternStack, a_patternSymbol, a_patternFirst, a_patternLast, a_patternEntry, a_ruleLeft, a_ruleCost, a_ruleEntry, a_ruleStart, a_entryOperator, a_entryFirst, a_entryLast, a_treeStack, a_treeOperator, a_treeFirst, a_treeLast, a_treeSize, a_treeCosts, a_treeWays, a_stateCosts, a_cover, a_pendingEntry, a_pendingNode) (nI g) := by
  have hn : tc_tn ty tz tn := fun i hi => ⟨h6 i hi, hF.2.2.2.2.2 i hi⟩
  have hE := tc_ok_E ok
  unfold wpX_listCover
  refine xq_top ok hF h6 hN hD hg hx ht (fun a' ha => ?_)
  have vle : tc_tp S 536870912 ty tz tn td g ≤ 536870912 := by
    unfold tc_tp
    by_cases h : td = 0
    · rw [if_pos h]
      exact Nat.le_refl _
    · rw [if_neg h]
      have s1 := (tc_fo_t1 hF (by omega)).1
      exact tc_v_le (fun h => (hn (tn - 1) (by omega)).2.2.2.1 h (hn (tn - 1) (by omega)).1) g
  refine pk_eq (tc_tp S 536870912 ty tz tn td g) 536870912 (fun h => ?_) (fun h => ?_) rfl rfl (by omega) (by omega)
  · have e : tc_cl S 536870912 ty tz tn td g = [] := if_pos h
    rw [e] at hp
    exact hp _ _ _ _ _ (Nat.zero_le _) (tc_al_nil _)
  · have e : tc_cl S 536870912 ty tz tn td g = tc_cv S 536870912 ty tz [(tn - 1, g)] := if_neg h
    rw [e] at hp
    have htd : ¬ td = 0 := fun z => h (by unfold tc_tp; rw [if_pos z])
    obtain ⟨s1, s2⟩ := tc_fo_t1 hF (by omega)
    have hv : tc_v S 536870912 ty tz (tn - 1) g ≠ 536870912 := by
      unfold tc_tp at h
      rw [if_neg htd] at h
      exact h
    have w : f_treeDepth - 1 = nI (td - 1) := by rw [ht.1, show (1 : Int32) = nI 1 from rfl, pk_sub (by omega)]
    refine ⟨by rw [w]; exact vp_in_nI (by omega) (by decide), ?_⟩
    rw [w, nI_clamp (by omega), ht.2.2.1 (td - 1) (by omega), s2]
    refine ⟨vp_in_iff.mpr (by decide), nm_r (e' := upd a_pendingEntry 0 (nI g)) rfl ⟨vp_in_iff.mpr (by decide), nm_r (e' := upd a_pendingNode 0 (nI (tn - 1))) rfl (nm_r (e' := nI 1) rfl ⟨25, ?_⟩)⟩⟩
    have hz := (hn (tn - 1) (by omega)).2.2.1
    refine xm_lc_41 ok hn hN hx ht (ha (by omega)) 24 0 (by omega) [] 1 [(tn - 1, g)] a_cover _ _ (Nat.zero_le _) (tc_al_nil _) (by omega) ⟨0, rfl, ⟨pk_us, pk_us⟩, rfl⟩ (fun p hp => ?_) ?_ rfl (fun co pe pn fp h96 hal => hp a' co pe pn fp h96 hal) 25 (by omega)
    · rw [List.mem_singleton] at hp
      rw [hp]
      exact ⟨by show tn - 1 < tn; omega, by show g < tc_E S; omega, hv⟩
    · show tz (tn - 1) + 0 + 0 ≤ 24
      omega
end
end
section
/-- a task of Y stands for an entry at a node -/
def tc_yc (S : tc_S) (len : Nat → Nat) (ent : Nat → Nat → Nat) (c : Nat) (p : Nat × Nat) : Prop :=
  (p.2 < 4 ∧ c = 100 * p.1 + p.2) ∨ ∃ r i, r < tc_R S ∧ i < len r ∧ p.2 = ent r i ∧ c = 10000 + 100 * p.1 + 7 * r + i
def tc_yp2 (S : tc_S) (len : Nat → Nat) (ent : Nat → Nat → Nat) (ta : Nat → Int32) (k : Nat) (p : Nat × Nat) : Prop := ∃ c, ta k = nI c ∧ tc_yc S len ent c p
section
variable {S : tc_S} {len : Nat → Nat} {ent : Nat → Nat → Nat} {tn td : Nat} {ty tz tk : Nat → Nat}
theorem tc_mu_len {K : Nat} (hn : tc_tn ty tz tn) : ∀ s : List (Nat × Nat), (∀ p, p ∈ s → tc_gd S K ty tz tn p.1 p.2) → 10 * s.length ≤ tc_mu S K ty tz s := by
  intro s
  induction s with
  | nil => intro _; exact Nat.le_refl _
  | cons p s ih =>
    intro hs
    have h1 := ih (fun q hq => hs q (List.mem_cons_of_mem _ hq))
    have h2 := (hn p.1 (hs p List.mem_cons_self).1).2.1
    have h3 : 10 * tz p.1 ≤ tc_m1 S K ty tz p.1 p.2 := Nat.le_add_right _ _
    show 10 * (s.length + 1) ≤ tc_m1 S K ty tz p.1 p.2 + tc_mu S K ty tz s
    omega
theorem ym_bst_2 (ok : tc_ok S) {post : Int32 → Prop} {f_noted : Int32} {f_depth : Int32} {f_rules : Int32} {f_planted : Int32} {f_trees : Int32} {f_stateCount : Int32} {f_known : Int32} {f_listed : Int32} {a_marks : Nat → Int32} {a_sizes : Nat → Int32} {a_lefts : Nat → Int32} {a_costs : Nat → Int32} {a_lengths : Nat → Int32} {a_operators : Nat → Int32} {a_spans : Nat → Int32} {a_least : Nat → Int32} {a_ways : Nat → Int32} {a_tasks : Nat → Int32} {a_list : Nat → Int32} (hy : tc_yr S len ent f_rules a_lefts a_costs a_lengths a_marks a_sizes) {n g : Nat} (hn : n < 46) (hg : g < 4) {t : Nat → Nat} (hK : ∀ e, t e ≤ 1000000)
    (hB : ∀ e, e < tc_E S → t e = 1000000 ∨ t e ≤ 900) (hw : tc_yw S len ent a_least n t)
    (hl : tc_lo S 1000000 t g < tc_R S) (hb : tc_pb S 1000000 t g (tc_lo S 1000000 t g)) (hmin : ∀ j, j < tc_lo S 1000000 t g → ¬ tc_pb S 1000000 t g j) (hp : post (nI (tc_lo S 1000000 t g))) :
    ∀ (d k : Nat), k + d = tc_lo S 1000000 t g → ∀ m, d < m → wY_best_2 post (nI n) (nI g) f_noted f_depth f_rules f_planted f_trees f_stateCount f_known f_listed a_marks a_sizes a_lefts a_costs a_lengths a_operators a_spans a_least a_ways a_tasks a_list m (nI k) := by
  intro d
  induction d with
  | zero =>
    intro k hk m hm
    obtain ⟨m', rfl⟩ : ∃ m', m = m' + 1 := ⟨m - 1, by omega⟩
    have e : k = tc_lo S 1000000 t g := by omega
    rw [← e] at hl hb hp
    unfold wY_best_2
    exact ym_best1 ok hy hn hg hl hK hB hw (fun _ => br_f (by decide) hp) (fun z => absurd hb z)
  | succ d ih =>
    intro k hk m hm
    obtain ⟨m', rfl⟩ : ∃ m', m = m' + 1 := ⟨m - 1, by omega⟩
    have nb := hmin k (by omega)
    unfold wY_best_2
    exact ym_best1 ok hy hn hg (by omega) hK hB hw (fun z => absurd z nb) (fun _ => br_t rfl (nm_r (nI_1 k) (ih (k + 1) (by omega) m' (by omega))))
theorem ym_bst (ok : tc_ok S) (hn : tc_tn ty tz tn) (hN : tn ≤ 24) {post : Int32 → Prop} {f_noted : Int32} {f_depth : Int32} {f_rules : Int32} {f_planted : Int32} {f_trees : Int32} {f_stateCount : Int32} {f_known : Int32} {f_listed : Int32} {a_marks : Nat → Int32} {a_sizes : Nat → Int32} {a_lefts : Nat → Int32} {a_costs : Nat → Int32} {a_lengths : Nat → Int32} {a_operators : Nat → Int32} {a_spans : Nat → Int32} {a_least : Nat → Int32} {a_ways : Nat → Int32} {a_tasks : Nat → Int32} {a_list : Nat → Int32} (hy : tc_yr S len ent f_rules a_lefts a_costs a_lengths a_marks a_sizes)
    (hr : tc_yrows S 1000000 len ent ty tz a_least tn) {n g : Nat} (hg : g < 4) (hgd : tc_gd S 1000000 ty tz tn n g) (hp : post (nI (tc_lo S 1000000 (tc_v S 1000000 ty tz n) g))) :
    wpY_best post (f_noted, f_depth, f_rules, f_planted, f_trees, f_stateCount, f_known, f_listed, a_marks, a_sizes, a_lefts, a_costs, a_lengths, a_operators, a_spans, a_least, a_ways, a_tasks, a_list) (nI n) (nI g) := by
  obtain ⟨a, b, c, _⟩ := tc_gd_lo ok hn hgd hg
  have hnt := hgd.1
  exact ⟨tc_lo S 1000000 (tc_v S 1000000 ty tz n) g + 1, ym_bst_2 (t := tc_v S 1000000 ty tz n) ok hy (by omega) hg (fun e => tc_v_le (fun h => (hn n hnt).2.2.2.1 h (hn n hnt).1) e) (tc_v_900 ok hn hN hnt) (hr n hnt) a b c hp (tc_lo S 1000000 (tc_v S 1000000 ty tz n) g) 0 (by omega) _ (by omega)⟩
theorem ym_spread (ok : tc_ok S) (hn : tc_tn ty tz tn) (hN : tn ≤ 24) {post : Int32 → SY → Prop} {f_noted : Int32} {f_depth : Int32} {f_rules : Int32} {f_planted : Int32} {f_trees : Int32} {f_stateCount : Int32} {f_known : Int32} {f_listed : Int32} {a_marks : Nat → Int32} {a_sizes : Nat → Int32} {a_lefts : Nat → Int32} {a_costs : Nat → Int32} {a_lengths : Nat → Int32} {a_operators : Nat → Int32} {a_spans : Nat → Int32} {a_least : Nat → Int32} {a_ways : Nat → Int32} {a_tasks : Nat → Int32} {a_list : Nat → Int32} (hy : tc_yr S len ent f_rules a_lefts a_costs a_lengths a_marks a_sizes)
    (ht : tc_yt tn td ty tz f_planted f_trees a_operators a_spans) {n r i h : Nat} {s : List (Nat × Nat)} (hr : r < tc_R S) (hi : i < len r) (hgd : tc_gd S 1000000 ty tz tn n (ent r i)) (hh : h + 2 ≤ 400)
    (hs : tc_sk (tc_yp2 S len ent a_tasks) h s)
    (hp : ∀ (ta : Nat → Int32) (h' : Nat), h' ≤ h + 2 → tc_sk (tc_yp2 S len ent ta) h' ((if ent r i < 4 then [(n, ent r i)] else tc_nx S 1000000 ty tz n (ent r i)) ++ s) →
      (∀ k, k < h → ta k = a_tasks k) → (ent r i < 4 → h' = h + 1 ∧ ta h = nI (100 * n + ent r i)) → post (nI h') (f_noted, f_depth, f_rules, f_planted, f_trees, f_stateCount, f_known, f_listed, a_marks, a_sizes, a_lefts, a_costs, a_lengths, a_operators, a_spans, a_least, a_ways, ta, a_list)) :
    wpY_spread post (f_noted, f_depth, f_rules, f_planted, f_trees, f_stateCount, f_known, f_listed, a_marks, a_sizes, a_lefts, a_costs, a_lengths, a_operators, a_spans, a_least, a_ways, a_tasks, a_list) (nI r) (nI i) (nI n) (nI h) := by
  have hR := ok.1
  have hnt : n < tn := hgd.1
  obtain ⟨h6, n1, n2, n3, n4, n5, n6, n7⟩ := hn n hnt
  obtain ⟨l1, l2, l3, l4, l5, l6, l7⟩ := hy.2.1 r hr
  have hent := tc_yr_ent ok hy hr hi
  have w : (7 : Int32) * nI r + nI i = nI (7 * r + i) := by rw [show (7 : Int32) = nI 7 from rfl, pk_mul, nI_add]
  refine ⟨by rw [w]; exact vp_in_nI (by omega) (by decide), ?_⟩
  rcases l7 i hi with ⟨g, hg4, e1, e2⟩ | ⟨o, ho6, e1, e2, e3, e4, e5, e6⟩
  · rw [if_pos (by omega)] at hp
    refine nm_r (e' := nI (10 + g)) (by rw [w, nI_clamp (by omega), e1]) ?_
    have w2 : (100 : Int32) * nI n + nI (10 + g) - 10 = nI (100 * n + ent r i) := by
      rw [show (100 : Int32) = nI 100 from rfl, pk_mul, nI_add, show (10 : Int32) = nI 10 from rfl, pk_sub (by omega)]
      exact congrArg nI (by omega)
    refine br_f (nI_ge (a := 9) (b := 10 + g) (by omega) (by omega)) ⟨vp_in_nI (by omega) (by decide), nm_r (e' := upd a_tasks h (nI (100 * n + ent r i))) (by rw [nI_clamp (by omega), w2]) ?_⟩
    rw [nI_1]
    refine hp _ (h + 1) (by omega) ⟨h, rfl, ⟨100 * n + ent r i, pk_us, Or.inl ⟨by show ent r i < 4; omega, rfl⟩⟩, ?_⟩ (fun k hk => pk_un (by omega)) (fun _ => ⟨rfl, pk_us⟩)
    exact tc_sk_congr s h (fun k hk p hpp => by unfold tc_yp2 at hpp ⊢; rw [pk_un (by omega)]; exact hpp) hs
  · rw [if_neg (by omega)] at hp
    obtain ⟨g1, g2, g3⟩ := tc_gd_op ok hn hgd (by omega)
    refine nm_r (e' := nI o) (by rw [w, nI_clamp (by omega), e1]) ?_
    refine br_t (nI_le (b := 9) (by omega) (by decide)) ?_
    have hoy : o = ty n := by omega
    refine pk_le 2 o (fun h2 => ?_) (fun h2 => ?_)
    · obtain ⟨f1, f2⟩ := e5 h2
      have hn1 := n3 (by omega) h6
      have w3 : (10000 : Int32) + 100 * (nI n - 1) + 7 * nI r + nI i - 1 = nI (10000 + 100 * (n - 1) + 7 * r + (i - 1)) := by
        rw [show (1 : Int32) = nI 1 from rfl, pk_sub hn1, show (100 : Int32) = nI 100 from rfl, show (7 : Int32) = nI 7 from rfl, show (10000 : Int32) = nI 10000 from rfl, pk_mul, pk_mul, nI_add, nI_add, nI_add, pk_sub (by omega)]
        exact congrArg nI (by omega)
      refine ⟨vp_in_nI (by omega) (by decide), nm_r (e' := upd a_tasks h (nI (10000 + 100 * (n - 1) + 7 * r + (i - 1)))) (by rw [nI_clamp (by omega), w3]) (nm_r (nI_1 h) ?_)⟩
      refine pk_le o 3 (fun h3 => ?_) (fun h3 => ?_)
      · have e0 : tc_nx S 1000000 ty tz n (ent r i) = [(n - 1, tc_el S (ent r i))] := by
          unfold tc_nx
          rw [if_neg (by omega), if_neg (by omega), if_pos (by omega)]
        rw [e0] at hp
        refine hp _ (h + 1) (by omega) ⟨h, rfl, ⟨_, pk_us, Or.inr ⟨r, i - 1, hr, by omega, f2, rfl⟩⟩, ?_⟩ (fun k hk => pk_un (by omega)) (fun z => by omega)
        exact tc_sk_congr s h (fun k hk p hpp => by unfold tc_yp2 at hpp ⊢; rw [pk_un (by omega)]; exact hpp) hs
      · obtain ⟨q, s1, s2, s3, s4⟩ := e6 (by omega)
        have hn2 := n4 (by omega) h6
        have e0 : tc_nx S 1000000 ty tz n (ent r i) = [(n - 1 - tz (n - 1), tc_ef S (ent r i)), (n - 1, tc_el S (ent r i))] := by
          unfold tc_nx
          rw [if_neg (by omega), if_neg (by omega), if_neg (by omega)]
        rw [e0] at hp
        have w4 : nI n - 1 = nI (n - 1) := by rw [show (1 : Int32) = nI 1 from rfl, pk_sub hn1]
        have w5 : (7 : Int32) * nI r + nI i - 1 = nI (7 * r + i - 1) := by rw [w, show (1 : Int32) = nI 1 from rfl, pk_sub (by omega)]
        refine ⟨by rw [w4]; exact vp_in_nI (by omega) (by decide), nm_r (e' := nI (n - 1 - tz (n - 1))) (by rw [w4, nI_clamp (by omega), (ht.2.2 (n - 1) (by omega)).2, pk_sub (by omega)]) ⟨by rw [w5]; exact vp_in_nI (by omega) (by decide), vp_in_nI (by omega) (by decide), ?_⟩⟩
        have w6 : (10000 : Int32) + 100 * nI (n - 1 - tz (n - 1)) + 7 * nI r + nI i - 1 - a_sizes ((7 : Int32) * nI r + nI i - 1).toNatClampNeg = nI (10000 + 100 * (n - 1 - tz (n - 1)) + 7 * r + (i - 1 - q)) := by
          rw [w5, nI_clamp (by omega), s1, show (1 : Int32) = nI 1 from rfl, show (100 : Int32) = nI 100 from rfl, show (7 : Int32) = nI 7 from rfl, show (10000 : Int32) = nI 10000 from rfl, pk_mul, pk_mul, nI_add, nI_add, nI_add, pk_sub (by omega), pk_sub (by omega)]
          exact congrArg nI (by omega)
        refine nm_r (e' := upd (upd a_tasks h (nI (10000 + 100 * (n - 1) + 7 * r + (i - 1)))) (h + 1) (nI (10000 + 100 * (n - 1 - tz (n - 1)) + 7 * r + (i - 1 - q)))) (by rw [nI_clamp (by omega), w6]) (nm_r (nI_1 (h + 1)) ?_)
        refine hp _ (h + 1 + 1) (by omega) ⟨h + 1, rfl, ⟨_, pk_us, Or.inr ⟨r, i - 1 - q, hr, by omega, s4, rfl⟩⟩, h, rfl, ⟨_, (pk_un (by omega)).trans pk_us, Or.inr ⟨r, i - 1, hr, by omega, f2, rfl⟩⟩, ?_⟩ (fun k hk => (pk_un (by omega)).trans (pk_un (by omega))) (fun z => by omega)
        exact tc_sk_congr s h (fun k hk p hpp => by unfold tc_yp2 at hpp ⊢; rw [pk_un (by omega), pk_un (by omega)]; exact hpp) hs
    · have e0 : tc_nx S 1000000 ty tz n (ent r i) = [] := by
        unfold tc_nx
        rw [if_neg (by omega), if_pos (by omega)]
      rw [e0] at hp
      exact hp a_tasks h (by omega) hs (fun _ _ => rfl) (fun z => by omega)
end
end
section
section
variable {S : tc_S} {len : Nat → Nat} {ent : Nat → Nat → Nat} {tn td : Nat} {ty tz tk : Nat → Nat}
theorem ym_w_goal (ok : tc_ok S) (hn : tc_tn ty tz tn) (hN : tn ≤ 24) {post : Int32 → SY → Prop} {f_noted : Int32} {f_depth : Int32} {f_rules : Int32} {f_planted : Int32} {f_trees : Int32} {f_stateCount : Int32} {f_known : Int32} {a_marks : Nat → Int32} {a_sizes : Nat → Int32} {a_lefts : Nat → Int32} {a_costs : Nat → Int32} {a_lengths : Nat → Int32} {a_operators : Nat → Int32} {a_spans : Nat → Int32} {a_least : Nat → Int32} {a_ways : Nat → Int32} {a_tasks : Nat → Int32} {a_list : Nat → Int32} (hy : tc_yr S len ent f_rules a_lefts a_costs a_lengths a_marks a_sizes)
    (ht : tc_yt tn td ty tz f_planted f_trees a_operators a_spans) (hr : tc_yrows S 1000000 len ent ty tz a_least tn) {n e h m' : Nat} {s : List (Nat × Nat)} {l : List Nat} (he : e < 4)
    (hgd : ∀ p, p ∈ (n, e) :: s → tc_gd S 1000000 ty tz tn p.1 p.2) (hta : a_tasks h = nI (100 * n + e)) (hs : tc_sk (tc_yp2 S len ent a_tasks) h s) (hh : h + 2 ≤ 400) (hl : l.length < 400) (hal : tc_al a_list l)
    (K : ∀ (li ta : Nat → Int32) (h' : Nat) (s' : List (Nat × Nat)) (l' : List Nat), l'.length = l.length + 1 → tc_sk (tc_yp2 S len ent ta) h' s' → (∀ p, p ∈ s' → tc_gd S 1000000 ty tz tn p.1 p.2) →
      tc_mu S 1000000 ty tz s' < tc_mu S 1000000 ty tz ((n, e) :: s) → l' ++ tc_cv S 1000000 ty tz s' = l ++ tc_cv S 1000000 ty tz ((n, e) :: s) → tc_al li l' →
      wY_write_38 post m' (nI h') f_noted f_depth f_rules f_planted f_trees f_stateCount f_known (nI l'.length) a_marks a_sizes a_lefts a_costs a_lengths a_operators a_spans a_least a_ways ta li) : wY_write_38 post (m' + 1) (nI (h + 1)) f_noted f_depth f_rules f_planted f_trees f_stateCount f_known (nI l.length) a_marks a_sizes a_lefts a_costs a_lengths a_operators a_spans a_least a_ways a_tasks a_list := by
  have hR := ok.1
  have hg : tc_gd S 1000000 ty tz tn n e := hgd (n, e) List.mem_cons_self
  have hnt : n < tn := hg.1
  have hs0 : ∀ p, p ∈ s → tc_gd S 1000000 ty tz tn p.1 p.2 := fun p hp => hgd p (List.mem_cons_of_mem _ hp)
  obtain ⟨g1, g2, g3, g4⟩ := tc_gd_lo ok hn hg he
  have w1 : nI (100 * n + e) / 100 = nI n := by
    rw [show (100 : Int32) = nI 100 from rfl, pk_div (by omega) (by decide) (by decide)]
    exact congrArg nI (by omega)
  have w2 : nI (100 * n + e) - nI (100 * n + e) / 100 * 100 = nI e := by
    rw [show (100 : Int32) = nI 100 from rfl, pk_rem (by omega) (by decide) (by decide)]
    exact congrArg nI (by omega)
  refine br_f (nI_nle (by omega) (by omega)) (nm_r (pk_m1 h) ⟨vp_in_nI (by omega) (by decide), nm_r (e' := nI (100 * n + e)) (by rw [nI_clamp (by omega), hta]) ?_⟩)
  refine br_f (nI_ge (b := 10000) (by omega) (by decide)) ⟨by decide, by decide, ?_⟩
  rw [w2, w1]
  refine ym_bst ok hn hN hy hr he hg ?_
  obtain ⟨l1, l2, l3, l4, l5, l6, l7⟩ := hy.2.1 _ g1
  have hlen : (l ++ [tc_lo S 1000000 (tc_v S 1000000 ty tz n) e]).length = l.length + 1 := by
    rw [List.length_append]
    rfl
  refine ⟨vp_in_nI (by omega) (by decide), nm_r (e' := upd a_list l.length (nI (tc_lo S 1000000 (tc_v S 1000000 ty tz n) e))) (by rw [nI_clamp (by omega)]) (nm_r (nI_1 l.length) ⟨vp_in_nI (by omega) (by decide), by decide, ?_⟩)⟩
  rw [nI_clamp (by omega), l3, show (1 : Int32) = nI 1 from rfl, pk_sub (by omega)]
  have hcv := tc_cv_cons ok hn hgd
  have e1 : tc_nx S 1000000 ty tz n e = [(n, tc_rt S (tc_lo S 1000000 (tc_v S 1000000 ty tz n) e))] := if_pos he
  have e2 : tc_ou S 1000000 ty tz n e = [tc_lo S 1000000 (tc_v S 1000000 ty tz n) e] := if_pos he
  have hm1 := (tc_gd_nx ok hn hg).2
  rw [e1] at hm1
  rw [e1, e2] at hcv
  have hm2 : tc_mu S 1000000 ty tz [(n, tc_rt S (tc_lo S 1000000 (tc_v S 1000000 ty tz n) e))] = tc_m1 S 1000000 ty tz n (tc_rt S (tc_lo S 1000000 (tc_v S 1000000 ty tz n) e)) + 0 := rfl
  have hm3 : tc_mu S 1000000 ty tz ((n, e) :: s) = tc_m1 S 1000000 ty tz n e + tc_mu S 1000000 ty tz s := rfl
  have hgd2 : ∀ p, p ∈ (n, tc_rt S (tc_lo S 1000000 (tc_v S 1000000 ty tz n) e)) :: s → tc_gd S 1000000 ty tz tn p.1 p.2 := fun p hpm => by
    rcases List.mem_cons.mp hpm with hpm | hpm
    · rw [hpm]
      exact g4
    · exact hs0 p hpm
  refine ym_spread ok hn hN hy ht g1 (by omega) (by rw [l6]; exact g4) hh hs (fun ta h' q1 q2 q3 q4 => ?_)
  rw [l6] at q2 q4
  have fin := K (upd a_list l.length (nI (tc_lo S 1000000 (tc_v S 1000000 ty tz n) e))) ta h' ((if tc_rt S (tc_lo S 1000000 (tc_v S 1000000 ty tz n) e) < 4 then [(n, tc_rt S (tc_lo S 1000000 (tc_v S 1000000 ty tz n) e))] else tc_nx S 1000000 ty tz n (tc_rt S (tc_lo S 1000000 (tc_v S 1000000 ty tz n) e))) ++ s)
    (l ++ [tc_lo S 1000000 (tc_v S 1000000 ty tz n) e]) hlen q2 ?_ ?_ ?_ (tc_al_snoc hal)
  · rw [hlen] at fin
    exact fin
  · by_cases c : tc_rt S (tc_lo S 1000000 (tc_v S 1000000 ty tz n) e) < 4
    · rw [if_pos c]
      exact hgd2
    · rw [if_neg c]
      intro p hpm
      rcases List.mem_append.mp hpm with hpm | hpm
      · exact (tc_gd_nx ok hn g4).1 p hpm
      · exact hs0 p hpm
  · by_cases c : tc_rt S (tc_lo S 1000000 (tc_v S 1000000 ty tz n) e) < 4
    · rw [if_pos c, tc_mu_app]
      omega
    · rw [if_neg c, tc_mu_app]
      have := (tc_gd_nx ok hn g4).2
      omega
  · rw [hcv, List.append_assoc]
    by_cases c : tc_rt S (tc_lo S 1000000 (tc_v S 1000000 ty tz n) e) < 4
    · rw [if_pos c]
    · rw [if_neg c]
      have hc2 := tc_cv_cons ok hn hgd2
      have e3 : tc_ou S 1000000 ty tz n (tc_rt S (tc_lo S 1000000 (tc_v S 1000000 ty tz n) e)) = [] := if_neg c
      rw [e3, List.nil_append] at hc2
      rw [← hc2]
      rfl
theorem ym_w_38 (ok : tc_ok S) (hn : tc_tn ty tz tn) (hN : tn ≤ 24) {post : Int32 → SY → Prop} {f_noted : Int32} {f_depth : Int32} {f_rules : Int32} {f_planted : Int32} {f_trees : Int32} {f_stateCount : Int32} {f_known : Int32} {a_marks : Nat → Int32} {a_sizes : Nat → Int32} {a_lefts : Nat → Int32} {a_costs : Nat → Int32} {a_lengths : Nat → Int32} {a_operators : Nat → Int32} {a_spans : Nat → Int32} {a_least : Nat → Int32} {a_ways : Nat → Int32} (hy : tc_yr S len ent f_rules a_lefts a_costs a_lengths a_marks a_sizes)
    (ht : tc_yt tn td ty tz f_planted f_trees a_operators a_spans) (hr : tc_yrows S 1000000 len ent ty tz a_least tn) {L0 : List Nat} :
    ∀ (B : Nat) (s : List (Nat × Nat)) (h : Nat) (l : List Nat) (a_tasks a_list : Nat → Int32), tc_mu S 1000000 ty tz s ≤ B → tc_sk (tc_yp2 S len ent a_tasks) h s → (∀ p, p ∈ s → tc_gd S 1000000 ty tz tn p.1 p.2) →
    l.length + tc_mu S 1000000 ty tz s ≤ 300 → tc_al a_list l → l ++ tc_cv S 1000000 ty tz s = L0 →
    (∀ ta li : Nat → Int32, tc_al li L0 → post 1 (f_noted, f_depth, f_rules, f_planted, f_trees, f_stateCount, f_known, nI L0.length, a_marks, a_sizes, a_lefts, a_costs, a_lengths, a_operators, a_spans, a_least, a_ways, ta, li)) →
    ∀ m, 2 * tc_mu S 1000000 ty tz s < m → wY_write_38 post m (nI h) f_noted f_depth f_rules f_planted f_trees f_stateCount f_known (nI l.length) a_marks a_sizes a_lefts a_costs a_lengths a_operators a_spans a_least a_ways a_tasks a_list := by
  have hR := ok.1
  intro B
  induction B with
  | zero =>
    intro s h l a_tasks a_list hB hs hgd hlm hal hL hp m hm
    obtain ⟨m', rfl⟩ : ∃ m', m = m' + 1 := ⟨m - 1, by omega⟩
    have hlen := tc_mu_len hn s hgd
    have e0 : s = [] := List.eq_nil_of_length_eq_zero (by omega)
    subst e0
    have e1 : h = 0 := hs
    subst e1
    rw [tc_cv_nil, List.append_nil] at hL
    subst hL
    exact br_t (nI_le (b := 0) (Nat.le_refl _) (by decide)) (hp _ _ hal)
  | succ B ih =>
    intro s h l a_tasks a_list hB hs hgd hlm hal hL hp m hm
    obtain ⟨m', rfl⟩ : ∃ m', m = m' + 1 := ⟨m - 1, by omega⟩
    cases s with
    | nil =>
      have e1 : h = 0 := hs
      subst e1
      rw [tc_cv_nil, List.append_nil] at hL
      subst hL
      exact br_t (nI_le (b := 0) (Nat.le_refl _) (by decide)) (hp _ _ hal)
    | cons p s =>
      obtain ⟨n, e⟩ := p
      have hlen := tc_mu_len hn _ hgd
      have hsl := tc_sk_len _ _ hs
      obtain ⟨h', e0, ⟨c, hc1, hc2⟩, hs'⟩ := hs
      subst e0
      have hg : tc_gd S 1000000 ty tz tn n e := hgd (n, e) List.mem_cons_self
      have hnt : n < tn := hg.1
      have hs0 : ∀ p, p ∈ s → tc_gd S 1000000 ty tz tn p.1 p.2 := fun p hp => hgd p (List.mem_cons_of_mem _ hp)
      have hm3 : tc_mu S 1000000 ty tz ((n, e) :: s) = tc_m1 S 1000000 ty tz n e + tc_mu S 1000000 ty tz s := rfl
      have hz := (hn n hnt).2.1
      have hm4 : 10 * tz n ≤ tc_m1 S 1000000 ty tz n e := Nat.le_add_right _ _
      have goalK : ∀ (a_tasks : Nat → Int32) (m'' : Nat), e < 4 → a_tasks h' = nI (100 * n + e) → tc_sk (tc_yp2 S len ent a_tasks) h' s → 2 * tc_mu S 1000000 ty tz ((n, e) :: s) < m'' + 2 →
          wY_write_38 post (m'' + 1) (nI (h' + 1)) f_noted f_depth f_rules f_planted f_trees f_stateCount f_known (nI l.length) a_marks a_sizes a_lefts a_costs a_lengths a_operators a_spans a_least a_ways a_tasks a_list := fun a_tasks m'' he hta hsk hmm => by
        refine ym_w_goal ok hn hN hy ht hr he hgd hta hsk (by omega) (by omega) hal (fun li ta h2 s2 l2 p1 p2 p3 p4 p5 p6 => ?_)
        exact ih s2 h2 l2 ta li (by omega) p2 p3 (by omega) p6 (by rw [p5]; exact hL) hp m'' (by omega)
      rcases hc2 with ⟨he, hc⟩ | ⟨r, i, hr', hi, he, hc⟩
      · have he' : e < 4 := he
        have hc' : c = 100 * n + e := hc
        rw [hc'] at hc1
        exact goalK a_tasks m' he' hc1 hs' (by omega)
      · have he' : e = ent r i := he
        have hc' : c = 10000 + 100 * n + 7 * r + i := hc
        have hl7 := (hy.2.1 r hr').2.2.2.2.1
        have w1 : nI c / 100 - 100 = nI n := by
          rw [show (100 : Int32) = nI 100 from rfl, pk_div (by omega) (by decide) (by decide), pk_sub (by omega)]
          exact congrArg nI (by omega)
        have w2 : nI c - nI c / 100 * 100 = nI (7 * r + i) := by
          rw [show (100 : Int32) = nI 100 from rfl, pk_rem (by omega) (by decide) (by decide)]
          exact congrArg nI (by omega)
        have w3 : nI (7 * r + i) / 7 = nI r := by
          rw [show (7 : Int32) = nI 7 from rfl, pk_div (by omega) (by decide) (by decide)]
          exact congrArg nI (by omega)
        have w4 : nI (7 * r + i) - nI (7 * r + i) / 7 * 7 = nI i := by
          rw [show (7 : Int32) = nI 7 from rfl, pk_rem (by omega) (by decide) (by decide)]
          exact congrArg nI (by omega)
        refine br_f (nI_nle (by omega) (by omega)) (nm_r (pk_m1 h') ⟨vp_in_nI (by omega) (by decide), nm_r (e' := nI c) (by rw [nI_clamp (by omega), hc1]) ?_⟩)
        refine br_t (nI_le (a := 10000) (by omega) (by omega)) ⟨by decide, nm_r w2 ⟨by decide, by decide, by decide, ?_⟩⟩
        rw [w4, w3, w1]
        refine ym_spread ok hn hN hy ht hr' hi (by rw [← he']; exact hg) (by omega) hs' (fun ta h2 q1 q2 q3 q4 => ?_)
        rw [← he'] at q2 q4
        by_cases c4 : e < 4
        · obtain ⟨q5, q6⟩ := q4 c4
          rw [if_pos c4] at q2
          subst q5
          obtain ⟨h3, e3, _, hs3⟩ := q2
          have e4 : h3 = h' := by omega
          subst e4
          obtain ⟨m'', rfl⟩ : ∃ m'', m' = m'' + 1 := ⟨m' - 1, by omega⟩
          exact goalK ta m'' c4 q6 hs3 (by omega)
        · rw [if_neg c4] at q2
          have hcv := tc_cv_cons ok hn hgd
          have e3 : tc_ou S 1000000 ty tz n e = [] := if_neg c4
          rw [e3, List.nil_append] at hcv
          have hnx := tc_gd_nx ok hn hg
          have happ := tc_mu_app (S := S) (K := 1000000) (sy := ty) (ps := tz) (tc_nx S 1000000 ty tz n e) s
          refine ih _ h2 l ta a_list (by omega) q2 (fun p hpm => ?_) (by omega) hal (by rw [← hcv]; exact hL) hp m' (by omega)
          rcases List.mem_append.mp hpm with hpm | hpm
          · exact hnx.1 p hpm
          · exact hs0 p hpm
theorem ym_write (ok : tc_ok S) (hF : tc_fo tn td ty tz tk) (h6 : ∀ i, i < tn → ty i < 6) (hN : tn ≤ 24) (hD : td ≤ 8) {g : Nat} (hg : g < 4) {post : Int32 → SY → Prop} {f_noted : Int32} {f_depth : Int32} {f_rules : Int32} {f_planted : Int32} {f_trees : Int32} {f_stateCount : Int32} {f_known : Int32} {f_listed : Int32} {a_marks : Nat → Int32} {a_sizes : Nat → Int32} {a_lefts : Nat → Int32} {a_costs : Nat → Int32} {a_lengths : Nat → Int32} {a_operators : Nat → Int32} {a_spans : Nat → Int32} {a_least : Nat → Int32} {a_ways : Nat → Int32} {a_tasks : Nat → Int32} {a_list : Nat → Int32}
    (hy : tc_yr S len ent f_rules a_lefts a_costs a_lengths a_marks a_sizes) (ht : tc_yt tn td ty tz f_planted f_trees a_operators a_spans)
    (hp0 : tc_tp S 1000000 ty tz tn td g = 1000000 → ∀ le : Nat → Int32, (∀ j, 74 * tn ≤ j → le j = a_least j) → post 0 (f_noted, f_depth, f_rules, f_planted, f_trees, f_stateCount, f_known, f_listed, a_marks, a_sizes, a_lefts, a_costs, a_lengths, a_operators, a_spans, le, a_ways, a_tasks, a_list))
    (hp1 : tc_tp S 1000000 ty tz tn td g ≠ 1000000 → ∀ le ta li : Nat → Int32, (∀ j, 74 * tn ≤ j → le j = a_least j) → tc_al li (tc_cv S 1000000 ty tz [(tn - 1, g)]) →
      post 1 (f_noted, f_depth, f_rules, f_planted, f_trees, f_stateCount, f_known, nI (tc_cv S 1000000 ty tz [(tn - 1, g)]).length, a_marks, a_sizes, a_lefts, a_costs, a_lengths, a_operators, a_spans, le, a_ways, ta, li)) :
    wpY_write post (f_noted, f_depth, f_rules, f_planted, f_trees, f_stateCount, f_known, f_listed, a_marks, a_sizes, a_lefts, a_costs, a_lengths, a_operators, a_spans, a_least, a_ways, a_tasks, a_list) (nI g) := by
  have hn : tc_tn ty tz tn := fun i hi => ⟨h6 i hi, hF.2.2.2.2.2 i hi⟩
  have hE := tc_ok_E ok
  unfold wpY_write
  refine yq_top ok hF h6 hN hD hg hy ht (fun a' ha hfa => ?_)
  have vle : tc_tp S 1000000 ty tz tn td g ≤ 1000000 := by
    unfold tc_tp
    by_cases h : td = 0
    · rw [if_pos h]
      exact Nat.le_refl _
    · rw [if_neg h]
      have s1 := (tc_fo_t1 hF (by omega)).1
      exact tc_v_le (fun h => (hn (tn - 1) (by omega)).2.2.2.1 h (hn (tn - 1) (by omega)).1) g
  refine pk_lt (tc_tp S 1000000 ty tz tn td g) 1000000 (fun h => ?_) (fun h => ?_) rfl rfl (by omega) (by omega)
  · have htd : ¬ td = 0 := fun z => by
      unfold tc_tp at h
      rw [if_pos z] at h
      omega
    obtain ⟨s1, s2⟩ := tc_fo_t1 hF (by omega)
    have hv : tc_v S 1000000 ty tz (tn - 1) g ≠ 1000000 := by
      unfold tc_tp at h
      rw [if_neg htd] at h
      omega
    refine nm_r (e' := nI (tn - 1)) (by rw [ht.1, show (1 : Int32) = nI 1 from rfl, pk_sub (by omega)]) (nm_r (e' := upd a_tasks 0 (nI (100 * (tn - 1) + g))) (by rw [show (100 : Int32) = nI 100 from rfl, pk_mul, nI_add]) ⟨601, ?_⟩)
    have hz := (hn (tn - 1) (by omega)).2.2.1
    have hgd : ∀ p, p ∈ [(tn - 1, g)] → tc_gd S 1000000 ty tz tn p.1 p.2 := fun p hp => by
      rw [List.mem_singleton] at hp
      rw [hp]
      exact ⟨by show tn - 1 < tn; omega, by show g < tc_E S; omega, hv⟩
    have hmu : tc_mu S 1000000 ty tz [(tn - 1, g)] ≤ 244 := by
      show tc_m1 S 1000000 ty tz (tn - 1) g + 0 ≤ 244
      unfold tc_m1
      have := tc_L_le3 (t := tc_v S 1000000 ty tz (tn - 1)) hg
      rw [if_pos hg]
      omega
    exact ym_w_38 ok hn hN hy ht ha (tc_mu S 1000000 ty tz [(tn - 1, g)]) [(tn - 1, g)] 1 [] _ a_list (Nat.le_refl _) ⟨0, rfl, ⟨_, pk_us, Or.inl ⟨hg, rfl⟩⟩, rfl⟩ hgd (by show 0 + _ ≤ 300; omega) (tc_al_nil _) rfl
      (fun ta li hal => hp1 (by omega) a' ta li hfa hal) 601 (by omega)
  · exact hp0 (by omega) a' hfa
end
end
section
/-! patterns on both sides; the relation -/
def tc_xp (pn pd : Nat) (py pz pk : Nat → Nat) (d n : Int32) (st sy fi la : Nat → Int32) : Prop :=
  d = nI pd ∧ n = nI pn ∧ (∀ k, k < pd → st k = nI (pk k)) ∧
  ∀ i, i < pn → sy i = nI (py i) ∧ (2 ≤ py i → py i < 6 → la i = nI (i - 1)) ∧ (4 ≤ py i → py i < 6 → fi i = nI (i - 1 - pz (i - 1)))
def tc_mk (s : Nat) : Nat := if s < 6 then s else s + 4
def tc_yp (pn pd : Nat) (py pz : Nat → Nat) (no de : Int32) (mk sz : Nat → Int32) : Prop :=
  no = nI pn ∧ de = nI pd ∧ ∀ i, i < pn → mk (70 + i) = nI (tc_mk (py i)) ∧ sz (70 + i) = nI (pz i)
def tc_RX (S : tc_S) (pn pd : Nat) (py pz pk : Nat → Nat) (tn td : Nat) (ty tz tk : Nat → Nat) (u : SX) : Prop := match u with
  | (f_patternDepth, f_patternNodes, f_ruleCount, f_entryCount, f_treeDepth, f_treeNodes, f_stateCount, f_coverLength, f_pendingCount, a_patternStack, a_patternSymbol, a_patternFirst, a_patternLast, a_patternEntry, a_ruleLeft, a_ruleCost, a_ruleEntry, a_ruleStart, a_entryOperator, a_entryFirst, a_entryLast, a_treeStack, a_treeOperator, a_treeFirst, a_treeLast, a_treeSize, a_treeCosts, a_treeWays, a_stateCosts, a_cover, a_pendingEntry, a_pendingNode) => tc_xr S f_ruleCount f_entryCount a_ruleLeft a_ruleCost a_ruleEntry a_ruleStart a_entryOperator a_entryFirst a_entryLast ∧
    tc_xp pn pd py pz pk f_patternDepth f_patternNodes a_patternStack a_patternSymbol a_patternFirst a_patternLast ∧
    tc_xt tn td ty tz tk f_treeDepth f_treeNodes a_treeStack a_treeOperator a_treeFirst a_treeLast a_treeSize
def tc_RY (S : tc_S) (len : Nat → Nat) (ent : Nat → Nat → Nat) (pn pd : Nat) (py pz : Nat → Nat) (tn td : Nat) (ty tz : Nat → Nat) (v : SY) : Prop := match v with
  | (f_noted, f_depth, f_rules, f_planted, f_trees, f_stateCount, f_known, f_listed, a_marks, a_sizes, a_lefts, a_costs, a_lengths, a_operators, a_spans, a_least, a_ways, a_tasks, a_list) => tc_yr S len ent f_rules a_lefts a_costs a_lengths a_marks a_sizes ∧ tc_yp pn pd py pz f_noted f_depth a_marks a_sizes ∧ tc_yt tn td ty tz f_planted f_trees a_operators a_spans ∧
    ∃ c, f_stateCount = nI c ∧ c ≤ 21
def tc_G (S : tc_S) (pn pd : Nat) (py pz pk : Nat → Nat) (tn td : Nat) (ty tz tk : Nat → Nat) : Prop :=
  tc_ok S ∧ tc_fo pn pd py pz pk ∧ pn ≤ 7 ∧ pd ≤ 6 ∧ (∀ i, i < pn → py i < 10) ∧ tc_fo tn td ty tz tk ∧ tn ≤ 24 ∧ td ≤ 8 ∧ ∀ i, i < tn → ty i < 6
/-- the arity of a symbol -/
def tc_as (s : Nat) : Nat := if s < 2 then 0 else if s < 4 then 1 else if s < 6 then 2 else 0
def tc_sz (ps : Nat → Nat) (nn a : Nat) : Nat := if a = 0 then 1 else if a = 1 then 1 + ps (nn - 1) else 1 + ps (nn - 1) + ps (nn - 1 - ps (nn - 1))
theorem tc_as0 {s : Nat} (h : s < 2 ∨ 6 ≤ s) : tc_as s = 0 := by
  unfold tc_as
  split
  · rfl
  · rw [if_neg (by omega), if_neg (by omega)]
theorem tc_as1 {s : Nat} (h : 2 ≤ s) (h' : s < 4) : tc_as s = 1 := by
  unfold tc_as
  rw [if_neg (by omega), if_pos h']
theorem tc_as2 {s : Nat} (h : 4 ≤ s) (h' : s < 6) : tc_as s = 2 := by
  unfold tc_as
  rw [if_neg (by omega), if_neg (by omega), if_pos h']
theorem tc_as_c (s : Nat) : (tc_as s = 0 ∧ (s < 2 ∨ 6 ≤ s)) ∨ (tc_as s = 1 ∧ 2 ≤ s ∧ s < 4) ∨ (tc_as s = 2 ∧ 4 ≤ s ∧ s < 6) := by
  by_cases h2 : s < 2
  · exact Or.inl ⟨tc_as0 (Or.inl h2), Or.inl h2⟩
  · by_cases h4 : s < 4
    · exact Or.inr (Or.inl ⟨tc_as1 (by omega) h4, by omega, h4⟩)
    · by_cases h6 : s < 6
      · exact Or.inr (Or.inr ⟨tc_as2 (by omega) h6, by omega, h6⟩)
      · exact Or.inl ⟨tc_as0 (Or.inr (by omega)), Or.inr (by omega)⟩
theorem tc_fo_push {nn dd : Nat} {sy ps sk : Nat → Nat} {s : Nat} (F : tc_fo nn dd sy ps sk) (h : tc_as s ≤ dd) :
    tc_fo (nn + 1) (dd - tc_as s + 1) (tc_un sy nn s) (tc_un ps nn (tc_sz ps nn (tc_as s))) (tc_un sk (dd - tc_as s) nn) := by
  unfold tc_sz
  rcases tc_as_c s with ⟨e, h1⟩ | ⟨e, h1, h2⟩ | ⟨e, h1, h2⟩
  · rw [e, if_pos rfl]
    exact tc_fo_0 F h1
  · rw [e] at h ⊢
    rw [if_neg (by decide), if_pos rfl]
    have k := tc_fo_1 F h h1 h2
    rw [show dd - 1 + 1 = dd by omega]
    exact k
  · rw [e] at h ⊢
    rw [if_neg (by decide), if_neg (by decide)]
    have k := tc_fo_2 F h h1 h2
    rw [show dd - 2 + 1 = dd - 1 by omega]
    exact k
theorem tc_yr_congr {S : tc_S} {len : Nat → Nat} {ent : Nat → Nat → Nat} {ru : Int32} {le co ln mk sz mk' sz' : Nat → Int32} (ok : tc_ok S) (h : tc_yr S len ent ru le co ln mk sz) (hj : ∀ j, j < 70 → mk' j = mk j ∧ sz' j = sz j) : tc_yr S len ent ru le co ln mk' sz' := by
  have hR := ok.1
  refine ⟨h.1, fun r hr => ?_, h.2.2⟩
  obtain ⟨a1, a2, a3, a4, a5, a6, a7⟩ := h.2.1 r hr
  refine ⟨a1, a2, a3, a4, a5, a6, fun i hi => ?_⟩
  have m := (hj (7 * r + i) (by omega)).1
  rcases a7 i hi with ⟨g, b1, b2, b3⟩ | ⟨o, b1, b2, b3, b4, b5, b6, b7⟩
  · exact Or.inl ⟨g, b1, by rw [m]; exact b2, b3⟩
  · refine Or.inr ⟨o, b1, by rw [m]; exact b2, b3, b4, b5, b6, fun z => ?_⟩
    obtain ⟨s, c1, c2, c3, c4⟩ := b7 z
    exact ⟨s, by rw [(hj (7 * r + i - 1) (by omega)).2]; exact c1, c2, c3, c4⟩
section
variable {pn pd : Nat} {py pz pk : Nat → Nat}
theorem xp_push {post : SX → Prop} {f_patternDepth : Int32} {f_patternNodes : Int32} {f_ruleCount : Int32} {f_entryCount : Int32} {f_treeDepth : Int32} {f_treeNodes : Int32} {f_stateCount : Int32} {f_coverLength : Int32} {f_pendingCount : Int32} {a_patternStack : Nat → Int32} {a_patternSymbol : Nat → Int32} {a_patternFirst : Nat → Int32} {a_patternLast : Nat → Int32} {a_patternEntry : Nat → Int32} {a_ruleLeft : Nat → Int32} {a_ruleCost : Nat → Int32} {a_ruleEntry : Nat → Int32} {a_ruleStart : Nat → Int32} {a_entryOperator : Nat → Int32} {a_entryFirst : Nat → Int32} {a_entryLast : Nat → Int32} {a_treeStack : Nat → Int32} {a_treeOperator : Nat → Int32} {a_treeFirst : Nat → Int32} {a_treeLast : Nat → Int32} {a_treeSize : Nat → Int32} {a_treeCosts : Nat → Int32} {a_treeWays : Nat → Int32} {a_stateCosts : Nat → Int32} {a_cover : Nat → Int32} {a_pendingEntry : Nat → Int32} {a_pendingNode : Nat → Int32} (F : tc_fo pn pd py pz pk) (hN : pn < 7) (hp6 : pd ≤ 6) (hx : tc_xp pn pd py pz pk f_patternDepth f_patternNodes a_patternStack a_patternSymbol a_patternFirst a_patternLast)
    {s : Nat} (hs : s < 10) (ha : tc_as s ≤ pd) (hd : pd - tc_as s < 6)
    (hp : ∀ (d n : Int32) (st sy fi la : Nat → Int32), tc_xp (pn + 1) (pd - tc_as s + 1) (tc_un py pn s) (tc_un pz pn (tc_sz pz pn (tc_as s))) (tc_un pk (pd - tc_as s) pn) d n st sy fi la →
      post (d, n, f_ruleCount, f_entryCount, f_treeDepth, f_treeNodes, f_stateCount, f_coverLength, f_pendingCount, st, sy, fi, la, a_patternEntry, a_ruleLeft, a_ruleCost, a_ruleEntry, a_ruleStart, a_entryOperator, a_entryFirst, a_entryLast, a_treeStack, a_treeOperator, a_treeFirst, a_treeLast, a_treeSize, a_treeCosts, a_treeWays, a_stateCosts, a_cover, a_pendingEntry, a_pendingNode)) :
    wpX_pushPattern post (f_patternDepth, f_patternNodes, f_ruleCount, f_entryCount, f_treeDepth, f_treeNodes, f_stateCount, f_coverLength, f_pendingCount, a_patternStack, a_patternSymbol, a_patternFirst, a_patternLast, a_patternEntry, a_ruleLeft, a_ruleCost, a_ruleEntry, a_ruleStart, a_entryOperator, a_entryFirst, a_entryLast, a_treeStack, a_treeOperator, a_treeFirst, a_treeLast, a_treeSize, a_treeCosts, a_treeWays, a_stateCosts, a_cover, a_pendingEntry, a_pendingNode) (nI s) (nI (tc_as s)) := by
  obtain ⟨rfl, rfl, x3, x4⟩ := hx
  have c : (nI pn).toNatClampNeg = pn := nI_clamp (by omega)
  have hn1 : 2 ≤ s → s < 6 → 1 ≤ pn := fun z1 z2 => by
    have h1 : 1 ≤ tc_as s := by
      rcases tc_as_c s with ⟨e, h1⟩ | ⟨e, h1, h2⟩ | ⟨e, h1, h2⟩ <;> omega
    exact (tc_fo_t1 F (by omega)).1
  have key : ∀ fi la : Nat → Int32, (∀ i, i < pn → fi i = a_patternFirst i ∧ la i = a_patternLast i) → (2 ≤ s → s < 6 → la pn = nI (pn - 1)) → (4 ≤ s → s < 6 → fi pn = nI (pn - 1 - pz (pn - 1))) →
      wX_pushPattern_56 post (nI (tc_as s)) (nI pn) (nI pd) (nI pn) f_ruleCount f_entryCount f_treeDepth f_treeNodes f_stateCount f_coverLength f_pendingCount a_patternStack (upd a_patternSymbol pn (nI s)) fi la a_patternEntry a_ruleLeft a_ruleCost a_ruleEntry a_ruleStart a_entryOperator a_entryFirst a_entryLast a_treeStack a_treeOperator a_treeFirst a_treeLast a_treeSize a_treeCosts a_treeWays a_stateCosts a_cover a_pendingEntry a_pendingNode := fun fi la h1 h2 h3 => by
    refine nm_r (pk_sub ha) ⟨vp_in_nI hd (by decide), nm_r (e' := upd a_patternStack (pd - tc_as s) (nI pn)) (by rw [nI_clamp (by omega)]) (nm_r (nI_1 _) (nm_r (nI_1 _) ?_))⟩
    refine hp _ _ _ _ _ _ ⟨rfl, rfl, fun k hk => ?_, fun i hi => ?_⟩
    · by_cases e : k = pd - tc_as s
      · rw [e, pk_us, tc_us]
      · rw [pk_un e, tc_ne e]
        exact x3 k (by omega)
    · by_cases e : i = pn
      · rw [e, pk_us, tc_us]
        refine ⟨rfl, h2, fun z1 z2 => ?_⟩
        have hq := h3 z1 z2
        rw [tc_ne (show pn - 1 ≠ pn by have := hn1 (by omega) z2; omega)]
        exact hq
      · rw [pk_un e, tc_ne e]
        obtain ⟨y1, y2, y3⟩ := x4 i (by omega)
        rw [(h1 i (by omega)).1, (h1 i (by omega)).2]
        refine ⟨y1, y2, fun z1 z2 => ?_⟩
        rw [tc_ne (show i - 1 ≠ pn by omega)]
        exact y3 z1 z2
  refine ⟨vp_in_nI hN (by decide), nm_r (e' := upd a_patternSymbol pn (nI s)) (by rw [c]) ?_⟩
  rcases tc_as_c s with ⟨e, h1⟩ | ⟨e, h1, h2⟩ | ⟨e, h1, h2⟩
  · rw [e] at key ⊢
    exact br_t (by decide) (br_f (by decide) (key _ _ (fun _ _ => ⟨rfl, rfl⟩) (fun z1 z2 => by omega) (fun z1 z2 => by omega)))
  · rw [e] at key ha hd ⊢
    obtain ⟨t1, t2⟩ := tc_fo_t1 F ha
    have w1 : nI pd - 1 = nI (pd - 1) := by rw [show (1 : Int32) = nI 1 from rfl, pk_sub (by omega)]
    refine br_f (by decide) ⟨by rw [w1]; exact vp_in_nI (by omega) (by decide), vp_in_nI hN (by decide), nm_r (e' := upd a_patternLast pn (nI (pn - 1))) (by rw [w1, c, nI_clamp (by omega), x3 _ (by omega), t2]) (br_f (by decide) ?_)⟩
    exact key _ _ (fun i hi => ⟨rfl, pk_un (by omega)⟩) (fun z1 z2 => pk_us) (fun z1 z2 => by omega)
  · rw [e] at key ha hd ⊢
    obtain ⟨t1, t2⟩ := tc_fo_t1 F (by omega)
    obtain ⟨t3, t4⟩ := tc_fo_t2 F ha
    have w1 : nI pd - 1 = nI (pd - 1) := by rw [show (1 : Int32) = nI 1 from rfl, pk_sub (by omega)]
    have w2 : nI pd - 2 = nI (pd - 2) := by rw [show (2 : Int32) = nI 2 from rfl, pk_sub (by omega)]
    refine br_f (by decide) ⟨by rw [w1]; exact vp_in_nI (by omega) (by decide), vp_in_nI hN (by decide), nm_r (e' := upd a_patternLast pn (nI (pn - 1))) (by rw [w1, c, nI_clamp (by omega), x3 _ (by omega), t2]) (br_t rfl ⟨by rw [w2]; exact vp_in_nI (by omega) (by decide), vp_in_nI hN (by decide), nm_r (e' := upd a_patternFirst pn (nI (pn - 1 - pz (pn - 1)))) (by rw [w2, c, nI_clamp (by omega), x3 _ (by omega), t4]) ?_⟩)⟩
    exact key _ _ (fun i hi => ⟨pk_un (by omega), pk_un (by omega)⟩) (fun z1 z2 => pk_us) (fun z1 z2 => pk_us)
/-- Y's push of a pattern -/
theorem yp_push {S : tc_S} {len : Nat → Nat} {ent : Nat → Nat → Nat} (ok : tc_ok S) {post : Int32 → SY → Prop} {f_noted : Int32} {f_depth : Int32} {f_rules : Int32} {f_planted : Int32} {f_trees : Int32} {f_stateCount : Int32} {f_known : Int32} {f_listed : Int32} {a_marks : Nat → Int32} {a_sizes : Nat → Int32} {a_lefts : Nat → Int32} {a_costs : Nat → Int32} {a_lengths : Nat → Int32} {a_operators : Nat → Int32} {a_spans : Nat → Int32} {a_least : Nat → Int32} {a_ways : Nat → Int32} {a_tasks : Nat → Int32} {a_list : Nat → Int32} (F : tc_fo pn pd py pz pk) (hN : pn < 7) (hp6 : pd ≤ 6)
    (hr : tc_yr S len ent f_rules a_lefts a_costs a_lengths a_marks a_sizes) (hy : tc_yp pn pd py pz f_noted f_depth a_marks a_sizes) {s : Nat} (hs : s < 10) (ha : tc_as s ≤ pd)
    (hp : ∀ (no de : Int32) (mk sz : Nat → Int32), tc_yr S len ent f_rules a_lefts a_costs a_lengths mk sz → tc_yp (pn + 1) (pd - tc_as s + 1) (tc_un py pn s) (tc_un pz pn (tc_sz pz pn (tc_as s))) no de mk sz →
      post (nI (pd - tc_as s + 1)) (no, de, f_rules, f_planted, f_trees, f_stateCount, f_known, f_listed, mk, sz, a_lefts, a_costs, a_lengths, a_operators, a_spans, a_least, a_ways, a_tasks, a_list)) :
    wpY_push post (f_noted, f_depth, f_rules, f_planted, f_trees, f_stateCount, f_known, f_listed, a_marks, a_sizes, a_lefts, a_costs, a_lengths, a_operators, a_spans, a_least, a_ways, a_tasks, a_list) (nI (tc_mk s)) (nI (tc_as s)) := by
  obtain ⟨rfl, rfl, y3⟩ := hy
  have w70 : (70 : Int32) + nI pn = nI (70 + pn) := by rw [show (70 : Int32) = nI 70 from rfl, nI_add]
  have fin : ∀ (m k : Nat), tc_as s ≤ k → k < 3 → wY_push_5 post (nI (tc_mk s)) (nI (tc_as s)) (nI pn) (nI pd) f_rules f_planted f_trees f_stateCount f_known f_listed a_marks a_sizes a_lefts a_costs a_lengths a_operators a_spans a_least a_ways a_tasks a_list (m + 1) (nI (tc_sz pz pn (tc_as s))) (nI k) := fun m k hk hk3 => by
    refine br_t (nI_le hk (by omega)) ⟨by rw [w70]; exact vp_in_nI (by omega) (by decide), nm_r (e' := upd a_marks (70 + pn) (nI (tc_mk s))) (by rw [w70, nI_clamp (by omega)]) ⟨by rw [w70]; exact vp_in_nI (by omega) (by decide), nm_r (e' := upd a_sizes (70 + pn) (nI (tc_sz pz pn (tc_as s)))) (by rw [w70, nI_clamp (by omega)]) (nm_r (nI_1 _) (nm_r (e' := nI (pd - tc_as s + 1)) (by rw [nI_1, pk_sub (by omega)]; exact congrArg nI (by omega)) ?_))⟩⟩
    refine hp _ _ _ _ (tc_yr_congr ok hr (fun j hj => ⟨pk_un (by omega), pk_un (by omega)⟩)) ⟨rfl, rfl, fun i hi => ?_⟩
    by_cases e : i = pn
    · rw [e, pk_us, pk_us, tc_us, tc_us]
      exact ⟨rfl, rfl⟩
    · rw [pk_un (by omega), pk_un (by omega), tc_ne e, tc_ne e]
      exact y3 i (by omega)
  rcases tc_as_c s with ⟨e, h1⟩ | ⟨e, h1, h2⟩ | ⟨e, h1, h2⟩
  · rw [e] at fin ⊢
    exact ⟨1, fin 0 0 (by omega) (by omega)⟩
  · rw [e] at fin ha ⊢
    obtain ⟨t1, t2⟩ := tc_fo_t1 F ha
    have w1 : (70 : Int32) + nI pn - 1 = nI (70 + (pn - 1)) := by
      rw [w70, show (1 : Int32) = nI 1 from rfl, pk_sub (by omega)]
      exact congrArg nI (by omega)
    refine ⟨2, br_f (by decide) ⟨by rw [w1]; exact vp_in_nI (by omega) (by decide), nm_r (e' := nI (tc_sz pz pn 1)) (by rw [w1, nI_clamp (by omega), (y3 (pn - 1) (by omega)).2, show (1 : Int32) = nI 1 from rfl, nI_add]; rfl) (nm_r (e' := nI 1) rfl (fin 0 1 (by omega) (by omega)))⟩⟩
  · rw [e] at fin ha ⊢
    obtain ⟨t1, t2⟩ := tc_fo_t1 F (by omega)
    obtain ⟨t3, t4⟩ := tc_fo_t2 F ha
    have t5 := (F.2.2.2.2.2 (pn - 1) (by omega)).1
    have w1 : (70 : Int32) + nI pn - 1 = nI (70 + (pn - 1)) := by
      rw [w70, show (1 : Int32) = nI 1 from rfl, pk_sub (by omega)]
      exact congrArg nI (by omega)
    have w2 : (70 : Int32) + nI pn - nI (1 + pz (pn - 1)) = nI (70 + (pn - 1 - pz (pn - 1))) := by
      rw [w70, pk_sub (by omega)]
      exact congrArg nI (by omega)
    refine ⟨3, br_f (by decide) ⟨by rw [w1]; exact vp_in_nI (by omega) (by decide), nm_r (e' := nI (1 + pz (pn - 1))) (by rw [w1, nI_clamp (by omega), (y3 (pn - 1) (by omega)).2, show (1 : Int32) = nI 1 from rfl, nI_add]) (nm_r (e' := nI 1) rfl ?_)⟩⟩
    refine br_f (by decide) ⟨by rw [w2]; exact vp_in_nI (by omega) (by decide), nm_r (e' := nI (tc_sz pz pn 2)) (by rw [w2, nI_clamp (by omega), (y3 (pn - 1 - pz (pn - 1)) (by omega)).2, nI_add]; rfl) (nm_r (e' := nI 2) rfl (fin 0 2 (by omega) (by omega)))⟩
end
end
section
theorem tc_as_ar {o : Nat} (h : o < 6) : tc_as o = tc_ar o := by
  unfold tc_as tc_ar
  by_cases h2 : o < 2
  · rw [if_pos h2, if_pos h2]
  · rw [if_neg h2, if_neg h2]
    by_cases h4 : o < 4
    · rw [if_pos h4, if_pos h4]
    · rw [if_neg h4, if_neg h4, if_pos h]
section
variable {tn td : Nat} {ty tz tk : Nat → Nat}
theorem xt_push {post : SX → Prop} {f_patternDepth : Int32} {f_patternNodes : Int32} {f_ruleCount : Int32} {f_entryCount : Int32} {f_treeDepth : Int32} {f_treeNodes : Int32} {f_stateCount : Int32} {f_coverLength : Int32} {f_pendingCount : Int32} {a_patternStack : Nat → Int32} {a_patternSymbol : Nat → Int32} {a_patternFirst : Nat → Int32} {a_patternLast : Nat → Int32} {a_patternEntry : Nat → Int32} {a_ruleLeft : Nat → Int32} {a_ruleCost : Nat → Int32} {a_ruleEntry : Nat → Int32} {a_ruleStart : Nat → Int32} {a_entryOperator : Nat → Int32} {a_entryFirst : Nat → Int32} {a_entryLast : Nat → Int32} {a_treeStack : Nat → Int32} {a_treeOperator : Nat → Int32} {a_treeFirst : Nat → Int32} {a_treeLast : Nat → Int32} {a_treeSize : Nat → Int32} {a_treeCosts : Nat → Int32} {a_treeWays : Nat → Int32} {a_stateCosts : Nat → Int32} {a_cover : Nat → Int32} {a_pendingEntry : Nat → Int32} {a_pendingNode : Nat → Int32} (F : tc_fo tn td ty tz tk) (hN : tn < 24) (hD : td ≤ 8) (hx : tc_xt tn td ty tz tk f_treeDepth f_treeNodes a_treeStack a_treeOperator a_treeFirst a_treeLast a_treeSize)
    {s : Nat} (hs : s < 6) (ha : tc_as s ≤ td) (hd : td - tc_as s < 8)
    (hp : ∀ (d n : Int32) (st op fi la sz : Nat → Int32), tc_xt (tn + 1) (td - tc_as s + 1) (tc_un ty tn s) (tc_un tz tn (tc_sz tz tn (tc_as s))) (tc_un tk (td - tc_as s) tn) d n st op fi la sz →
      post (f_patternDepth, f_patternNodes, f_ruleCount, f_entryCount, d, n, f_stateCount, f_coverLength, f_pendingCount, a_patternStack, a_patternSymbol, a_patternFirst, a_patternLast, a_patternEntry, a_ruleLeft, a_ruleCost, a_ruleEntry, a_ruleStart, a_entryOperator, a_entryFirst, a_entryLast, st, op, fi, la, sz, a_treeCosts, a_treeWays, a_stateCosts, a_cover, a_pendingEntry, a_pendingNode)) :
    wpX_pushTree post (f_patternDepth, f_patternNodes, f_ruleCount, f_entryCount, f_treeDepth, f_treeNodes, f_stateCount, f_coverLength, f_pendingCount, a_patternStack, a_patternSymbol, a_patternFirst, a_patternLast, a_patternEntry, a_ruleLeft, a_ruleCost, a_ruleEntry, a_ruleStart, a_entryOperator, a_entryFirst, a_entryLast, a_treeStack, a_treeOperator, a_treeFirst, a_treeLast, a_treeSize, a_treeCosts, a_treeWays, a_stateCosts, a_cover, a_pendingEntry, a_pendingNode) (nI s) (nI (tc_as s)) := by
  obtain ⟨rfl, rfl, x3, x4⟩ := hx
  have c : (nI tn).toNatClampNeg = tn := nI_clamp (by omega)
  have hn1 : 2 ≤ s → 1 ≤ tn := fun z1 => by
    have h1 : 1 ≤ tc_as s := by
      rcases tc_as_c s with ⟨e, h1⟩ | ⟨e, h1, h2⟩ | ⟨e, h1, h2⟩ <;> omega
    exact (tc_fo_t1 F (by omega)).1
  have key : ∀ fi la sz : Nat → Int32, (∀ i, i < tn → fi i = a_treeFirst i ∧ la i = a_treeLast i ∧ sz i = a_treeSize i) → (2 ≤ s → la tn = nI (tn - 1)) → (4 ≤ s → fi tn = nI (tn - 1 - tz (tn - 1))) → sz tn = nI (tc_sz tz tn (tc_as s)) →
      wX_pushTree_103 post (nI (tc_as s)) (nI tn) f_patternDepth f_patternNodes f_ruleCount f_entryCount (nI td) (nI tn) f_stateCount f_coverLength f_pendingCount a_patternStack a_patternSymbol a_patternFirst a_patternLast a_patternEntry a_ruleLeft a_ruleCost a_ruleEntry a_ruleStart a_entryOperator a_entryFirst a_entryLast a_treeStack (upd a_treeOperator tn (nI s)) fi la sz a_treeCosts a_treeWays a_stateCosts a_cover a_pendingEntry a_pendingNode := fun fi la sz h1 h2 h3 h4 => by
    refine nm_r (pk_sub ha) ⟨vp_in_nI hd (by decide), nm_r (e' := upd a_treeStack (td - tc_as s) (nI tn)) (by rw [nI_clamp (by omega)]) (nm_r (nI_1 _) (nm_r (nI_1 _) ?_))⟩
    refine hp _ _ _ _ _ _ _ ⟨rfl, rfl, fun k hk => ?_, fun i hi => ?_⟩
    · by_cases e : k = td - tc_as s
      · rw [e, pk_us, tc_us]
      · rw [pk_un e, tc_ne e]
        exact x3 k (by omega)
    · by_cases e : i = tn
      · rw [e, pk_us, tc_us, tc_us]
        refine ⟨rfl, h4, h2, fun z1 => ?_⟩
        have hq := h3 z1
        rw [tc_ne (show tn - 1 ≠ tn by have := hn1 (by omega); omega)]
        exact hq
      · rw [pk_un e, tc_ne e, tc_ne e]
        obtain ⟨y1, y2, y3, y4⟩ := x4 i (by omega)
        rw [(h1 i (by omega)).1, (h1 i (by omega)).2.1, (h1 i (by omega)).2.2]
        refine ⟨y1, y2, y3, fun z1 => ?_⟩
        rw [tc_ne (show i - 1 ≠ tn by omega)]
        exact y4 z1
  refine ⟨vp_in_nI hN (by decide), nm_r (e' := upd a_treeOperator tn (nI s)) (by rw [c]) ⟨vp_in_nI hN (by decide), nm_r (e' := upd a_treeSize tn (nI 1)) (by rw [c]; rfl) ?_⟩⟩
  rcases tc_as_c s with ⟨e, h1⟩ | ⟨e, h1, h2⟩ | ⟨e, h1, h2⟩
  · rw [e] at key ⊢
    exact br_t (by decide) (br_f (by decide) (key _ _ _ (fun i hi => ⟨rfl, rfl, pk_un (by omega)⟩) (fun z1 => by omega) (fun z1 => by omega) pk_us))
  · rw [e] at key ha hd ⊢
    obtain ⟨t1, t2⟩ := tc_fo_t1 F ha
    have w1 : nI td - 1 = nI (td - 1) := by rw [show (1 : Int32) = nI 1 from rfl, pk_sub (by omega)]
    refine br_f (by decide) ⟨by rw [w1]; exact vp_in_nI (by omega) (by decide), vp_in_nI hN (by decide), nm_r (e' := upd a_treeLast tn (nI (tn - 1))) (by rw [w1, c, nI_clamp (by omega), x3 _ (by omega), t2]) ⟨vp_in_nI hN (by decide), vp_in_nI hN (by decide), ?_, vp_in_nI hN (by decide), ?_⟩⟩
    · rw [c, pk_us]
      exact vp_in_nI (by omega) (by decide)
    · refine nm_r (e' := upd (upd a_treeSize tn (nI 1)) tn (nI (tc_sz tz tn 1))) (by
        rw [c, pk_us, pk_us, nI_clamp (by omega), pk_un (by omega), (x4 (tn - 1) (by omega)).2.1, nI_add]
        rfl) (br_f (by decide) ?_)
      exact key _ _ _ (fun i hi => ⟨rfl, pk_un (by omega), (pk_un (by omega)).trans (pk_un (by omega))⟩) (fun z1 => pk_us) (fun z1 => by omega) pk_us
  · rw [e] at key ha hd ⊢
    obtain ⟨t1, t2⟩ := tc_fo_t1 F (by omega)
    obtain ⟨t3, t4⟩ := tc_fo_t2 F ha
    have t5 := (F.2.2.2.2.2 (tn - 1) (by omega)).1
    have w1 : nI td - 1 = nI (td - 1) := by rw [show (1 : Int32) = nI 1 from rfl, pk_sub (by omega)]
    have w2 : nI td - 2 = nI (td - 2) := by rw [show (2 : Int32) = nI 2 from rfl, pk_sub (by omega)]
    refine br_f (by decide) ⟨by rw [w1]; exact vp_in_nI (by omega) (by decide), vp_in_nI hN (by decide), nm_r (e' := upd a_treeLast tn (nI (tn - 1))) (by rw [w1, c, nI_clamp (by omega), x3 _ (by omega), t2]) ⟨vp_in_nI hN (by decide), vp_in_nI hN (by decide), ?_, vp_in_nI hN (by decide), ?_⟩⟩
    · rw [c, pk_us]
      exact vp_in_nI (by omega) (by decide)
    · refine nm_r (e' := upd (upd a_treeSize tn (nI 1)) tn (nI (1 + tz (tn - 1)))) (by
        rw [c, pk_us, pk_us, nI_clamp (by omega), pk_un (by omega), (x4 (tn - 1) (by omega)).2.1, nI_add]) ?_
      refine br_t rfl ⟨by rw [w2]; exact vp_in_nI (by omega) (by decide), vp_in_nI hN (by decide), nm_r (e' := upd a_treeFirst tn (nI (tn - 1 - tz (tn - 1)))) (by rw [w2, c, nI_clamp (by omega), x3 _ (by omega), t4]) ⟨vp_in_nI hN (by decide), vp_in_nI hN (by decide), ?_, vp_in_nI hN (by decide), ?_⟩⟩
      · rw [c, pk_us]
        exact vp_in_nI (by omega) (by decide)
      · refine nm_r (e' := upd (upd (upd a_treeSize tn (nI 1)) tn (nI (1 + tz (tn - 1)))) tn (nI (tc_sz tz tn 2))) (by
          rw [c, pk_us, pk_us, nI_clamp (by omega), pk_un (by omega), pk_un (by omega), (x4 (tn - 1 - tz (tn - 1)) (by omega)).2.1, nI_add]
          rfl) ?_
        exact key _ _ _ (fun i hi => ⟨pk_un (by omega), pk_un (by omega), (pk_un (by omega)).trans ((pk_un (by omega)).trans (pk_un (by omega)))⟩) (fun z1 => pk_us) (fun z1 => pk_us) pk_us
theorem yt_push {post : Int32 → SY → Prop} {f_noted : Int32} {f_depth : Int32} {f_rules : Int32} {f_planted : Int32} {f_trees : Int32} {f_stateCount : Int32} {f_known : Int32} {f_listed : Int32} {a_marks : Nat → Int32} {a_sizes : Nat → Int32} {a_lefts : Nat → Int32} {a_costs : Nat → Int32} {a_lengths : Nat → Int32} {a_operators : Nat → Int32} {a_spans : Nat → Int32} {a_least : Nat → Int32} {a_ways : Nat → Int32} {a_tasks : Nat → Int32} {a_list : Nat → Int32} (F : tc_fo tn td ty tz tk) (hN : tn < 24) (hD : td ≤ 8) (hy : tc_yt tn td ty tz f_planted f_trees a_operators a_spans) {s : Nat} (hs : s < 6) (ha : tc_as s ≤ td)
    (hp : ∀ (pl tr : Int32) (op sp : Nat → Int32), tc_yt (tn + 1) (td - tc_as s + 1) (tc_un ty tn s) (tc_un tz tn (tc_sz tz tn (tc_as s))) pl tr op sp →
      post (nI (td - tc_as s + 1)) (f_noted, f_depth, f_rules, pl, tr, f_stateCount, f_known, f_listed, a_marks, a_sizes, a_lefts, a_costs, a_lengths, op, sp, a_least, a_ways, a_tasks, a_list)) :
    ∃ m, wY_tree_58 post (nI s) (nI (tc_as s)) f_noted f_depth f_rules f_planted f_trees f_stateCount f_known f_listed a_marks a_sizes a_lefts a_costs a_lengths a_operators a_spans a_least a_ways a_tasks a_list m 1 0 := by
  obtain ⟨rfl, rfl, y3⟩ := hy
  have c : (nI tn).toNatClampNeg = tn := nI_clamp (by omega)
  have fin : ∀ (m k : Nat), tc_as s ≤ k → k < 3 → wY_tree_58 post (nI s) (nI (tc_as s)) f_noted f_depth f_rules (nI tn) (nI td) f_stateCount f_known f_listed a_marks a_sizes a_lefts a_costs a_lengths a_operators a_spans a_least a_ways a_tasks a_list (m + 1) (nI (tc_sz tz tn (tc_as s))) (nI k) := fun m k hk hk3 => by
    refine br_t (nI_le hk (by omega)) ⟨vp_in_nI hN (by decide), nm_r (e' := upd a_operators tn (nI s)) (by rw [c]) ⟨vp_in_nI hN (by decide), nm_r (e' := upd a_spans tn (nI (tc_sz tz tn (tc_as s)))) (by rw [c]) (nm_r (nI_1 _) (nm_r (e' := nI (td - tc_as s + 1)) (by rw [nI_1, pk_sub (by omega)]; exact congrArg nI (by omega)) ?_))⟩⟩
    refine hp _ _ _ _ ⟨rfl, rfl, fun i hi => ?_⟩
    by_cases e : i = tn
    · rw [e, pk_us, pk_us, tc_us, tc_us]
      exact ⟨rfl, rfl⟩
    · rw [pk_un (by omega), pk_un (by omega), tc_ne e, tc_ne e]
      exact y3 i (by omega)
  rcases tc_as_c s with ⟨e, h1⟩ | ⟨e, h1, h2⟩ | ⟨e, h1, h2⟩
  · rw [e] at fin ⊢
    exact ⟨1, fin 0 0 (by omega) (by omega)⟩
  · rw [e] at fin ha ⊢
    obtain ⟨t1, t2⟩ := tc_fo_t1 F ha
    have w1 : nI tn - 1 = nI (tn - 1) := by rw [show (1 : Int32) = nI 1 from rfl, pk_sub (by omega)]
    refine ⟨2, br_f (by decide) ⟨by rw [w1]; exact vp_in_nI (by omega) (by decide), nm_r (e' := nI (tc_sz tz tn 1)) (by rw [w1, nI_clamp (by omega), (y3 (tn - 1) (by omega)).2, show (1 : Int32) = nI 1 from rfl, nI_add]; rfl) (nm_r (e' := nI 1) rfl (fin 0 1 (by omega) (by omega)))⟩⟩
  · rw [e] at fin ha ⊢
    obtain ⟨t1, t2⟩ := tc_fo_t1 F (by omega)
    obtain ⟨t3, t4⟩ := tc_fo_t2 F ha
    have t5 := (F.2.2.2.2.2 (tn - 1) (by omega)).1
    have w1 : nI tn - 1 = nI (tn - 1) := by rw [show (1 : Int32) = nI 1 from rfl, pk_sub (by omega)]
    have w2 : nI tn - nI (1 + tz (tn - 1)) = nI (tn - 1 - tz (tn - 1)) := by
      rw [pk_sub (by omega)]
      exact congrArg nI (by omega)
    refine ⟨3, br_f (by decide) ⟨by rw [w1]; exact vp_in_nI (by omega) (by decide), nm_r (e' := nI (1 + tz (tn - 1))) (by rw [w1, nI_clamp (by omega), (y3 (tn - 1) (by omega)).2, show (1 : Int32) = nI 1 from rfl, nI_add]) (nm_r (e' := nI 1) rfl ?_)⟩⟩
    refine br_f (by decide) ⟨by rw [w2]; exact vp_in_nI (by omega) (by decide), nm_r (e' := nI (tc_sz tz tn 2)) (by rw [w2, nI_clamp (by omega), (y3 (tn - 1 - tz (tn - 1)) (by omega)).2, nI_add]; rfl) (nm_r (e' := nI 2) rfl (fin 0 2 (by omega) (by omega)))⟩
end
end
section
/-- what addEntries has done when i nodes are done -/
def tc_ae (E : Nat) (py pz : Nat → Nat) (eo0 ef0 el0 : Nat → Int32) (i : Nat) (pe eo ef el : Nat → Int32) : Prop :=
  (∀ j, j < i → pe j = nI (tc_pe E py j)) ∧
  (∀ j, j < i → py j < 6 → eo (E + tc_cn py j) = nI (py j) ∧ (2 ≤ py j → el (E + tc_cn py j) = nI (tc_pe E py (j - 1))) ∧ (4 ≤ py j → ef (E + tc_cn py j) = nI (tc_pe E py (j - 1 - pz (j - 1))))) ∧
  (∀ e, e < E → eo e = eo0 e ∧ ef e = ef0 e ∧ el e = el0 e)
section
variable {pn pd : Nat} {py pz pk : Nat → Nat}
theorem xe_add {post : SX → Prop} {f_patternDepth : Int32} {f_patternNodes : Int32} {f_ruleCount : Int32} {f_entryCount : Int32} {f_treeDepth : Int32} {f_treeNodes : Int32} {f_stateCount : Int32} {f_coverLength : Int32} {f_pendingCount : Int32} {a_patternStack : Nat → Int32} {a_patternSymbol : Nat → Int32} {a_patternFirst : Nat → Int32} {a_patternLast : Nat → Int32} {a_patternEntry : Nat → Int32} {a_ruleLeft : Nat → Int32} {a_ruleCost : Nat → Int32} {a_ruleEntry : Nat → Int32} {a_ruleStart : Nat → Int32} {a_entryOperator : Nat → Int32} {a_entryFirst : Nat → Int32} {a_entryLast : Nat → Int32} {a_treeStack : Nat → Int32} {a_treeOperator : Nat → Int32} {a_treeFirst : Nat → Int32} {a_treeLast : Nat → Int32} {a_treeSize : Nat → Int32} {a_treeCosts : Nat → Int32} {a_treeWays : Nat → Int32} {a_stateCosts : Nat → Int32} {a_cover : Nat → Int32} {a_pendingEntry : Nat → Int32} {a_pendingNode : Nat → Int32} {o c i : Nat} (ho : o < 6) (hc : c < 74) (hi : i < 7) (hec : f_entryCount = nI c) (hl : 2 ≤ o → ∃ l, l < 7 ∧ a_patternLast i = nI l) (hf : 4 ≤ o → ∃ l, l < 7 ∧ a_patternFirst i = nI l)
    (hp : ∀ eo ef el : Nat → Int32, eo c = nI o → (∀ l, 2 ≤ o → l < 7 → a_patternLast i = nI l → el c = a_patternEntry l) → (∀ l, 4 ≤ o → l < 7 → a_patternFirst i = nI l → ef c = a_patternEntry l) →
      (∀ j, j ≠ c → eo j = a_entryOperator j ∧ ef j = a_entryFirst j ∧ el j = a_entryLast j) → post (f_patternDepth, f_patternNodes, f_ruleCount, nI (c + 1), f_treeDepth, f_treeNodes, f_stateCount, f_coverLength, f_pendingCount, a_patternStack, a_patternSymbol, a_patternFirst, a_patternLast, a_patternEntry, a_ruleLeft, a_ruleCost, a_ruleEntry, a_ruleStart, eo, ef, el, a_treeStack, a_treeOperator, a_treeFirst, a_treeLast, a_treeSize, a_treeCosts, a_treeWays, a_stateCosts, a_cover, a_pendingEntry, a_pendingNode)) :
    wpX_addEntry post (f_patternDepth, f_patternNodes, f_ruleCount, f_entryCount, f_treeDepth, f_treeNodes, f_stateCount, f_coverLength, f_pendingCount, a_patternStack, a_patternSymbol, a_patternFirst, a_patternLast, a_patternEntry, a_ruleLeft, a_ruleCost, a_ruleEntry, a_ruleStart, a_entryOperator, a_entryFirst, a_entryLast, a_treeStack, a_treeOperator, a_treeFirst, a_treeLast, a_treeSize, a_treeCosts, a_treeWays, a_stateCosts, a_cover, a_pendingEntry, a_pendingNode) (nI i) (nI o) := by
  subst hec
  have cc : (nI c).toNatClampNeg = c := nI_clamp (by omega)
  have ci : (nI i).toNatClampNeg = i := nI_clamp (by omega)
  unfold wpX_addEntry
  refine xm_parts (by omega) ?_
  refine ⟨vp_in_nI hc (by decide), nm_r (e' := upd a_entryOperator c (nI o)) (by rw [cc]) ?_⟩
  by_cases h2 : o < 2
  · rw [tc_ar0 h2]
    exact br_t (by decide) (br_f (by decide) (nm_r (nI_1 c) (hp _ _ _ pk_us (fun l z => by omega) (fun l z => by omega) (fun j hj => ⟨pk_un hj, rfl, rfl⟩))))
  · obtain ⟨l, l1, l2⟩ := hl (by omega)
    have w1 : a_patternLast (nI i).toNatClampNeg = nI l := by rw [ci, l2]
    have w2 : upd a_entryLast (nI c).toNatClampNeg (a_patternEntry (a_patternLast (nI i).toNatClampNeg).toNatClampNeg) = upd a_entryLast c (a_patternEntry l) := by rw [cc, w1, nI_clamp (by omega)]
    have uq : ∀ l', l' < 7 → a_patternLast i = nI l' → l' = l := fun l' h1 h3 => by
      rw [l2] at h3
      exact ((nI_eq (by omega) (by omega)).mp h3).symm
    by_cases h4 : o < 4
    · rw [tc_ar1 (by omega) h4]
      refine br_f (by decide) ⟨vp_in_nI hi (by decide), by rw [w1]; exact vp_in_nI l1 (by decide), vp_in_nI hc (by decide), nm_r w2 (br_f (by decide) (nm_r (nI_1 c) ?_))⟩
      exact hp _ _ _ pk_us (fun l' z h1 h3 => by rw [uq l' h1 h3]; exact pk_us) (fun l z => by omega) (fun j hj => ⟨pk_un hj, rfl, pk_un hj⟩)
    · rw [tc_ar2 (by omega)]
      obtain ⟨f, f1, f2⟩ := hf (by omega)
      have w3 : a_patternFirst (nI i).toNatClampNeg = nI f := by rw [ci, f2]
      have w4 : upd a_entryFirst (nI c).toNatClampNeg (a_patternEntry (a_patternFirst (nI i).toNatClampNeg).toNatClampNeg) = upd a_entryFirst c (a_patternEntry f) := by rw [cc, w3, nI_clamp (by omega)]
      have uf : ∀ l', l' < 7 → a_patternFirst i = nI l' → l' = f := fun l' h1 h3 => by
        rw [f2] at h3
        exact ((nI_eq (by omega) (by omega)).mp h3).symm
      refine br_f (by decide) ⟨vp_in_nI hi (by decide), by rw [w1]; exact vp_in_nI l1 (by decide), vp_in_nI hc (by decide), nm_r w2 (br_t rfl ⟨vp_in_nI hi (by decide), by rw [w3]; exact vp_in_nI f1 (by decide), vp_in_nI hc (by decide), nm_r w4 (nm_r (nI_1 c) ?_)⟩)⟩
      exact hp _ _ _ pk_us (fun l' z h1 h3 => by rw [uq l' h1 h3]; exact pk_us) (fun l' z h1 h3 => by rw [uf l' h1 h3]; exact pk_us) (fun j hj => ⟨pk_un hj, pk_un hj, pk_un hj⟩)
theorem xe_2 (F : tc_fo pn pd py pz pk) (h10 : ∀ i, i < pn → py i < 10) (hN : pn ≤ 7) {E : Nat} (hE4 : 4 ≤ E) (hE : E ≤ 67) {post : SX → Prop} {f_patternDepth : Int32} {f_patternNodes : Int32} {f_ruleCount : Int32} {f_treeDepth : Int32} {f_treeNodes : Int32} {f_stateCount : Int32} {f_coverLength : Int32} {f_pendingCount : Int32} {a_patternStack : Nat → Int32} {a_patternSymbol : Nat → Int32} {a_patternFirst : Nat → Int32} {a_patternLast : Nat → Int32} {a_ruleLeft : Nat → Int32} {a_ruleCost : Nat → Int32} {a_ruleEntry : Nat → Int32} {a_ruleStart : Nat → Int32} {a_treeStack : Nat → Int32} {a_treeOperator : Nat → Int32} {a_treeFirst : Nat → Int32} {a_treeLast : Nat → Int32} {a_treeSize : Nat → Int32} {a_treeCosts : Nat → Int32} {a_treeWays : Nat → Int32} {a_stateCosts : Nat → Int32} {a_cover : Nat → Int32} {a_pendingEntry : Nat → Int32} {a_pendingNode : Nat → Int32}
    (hx : tc_xp pn pd py pz pk f_patternDepth f_patternNodes a_patternStack a_patternSymbol a_patternFirst a_patternLast) {eo0 ef0 el0 : Nat → Int32} :
    ∀ (d i : Nat), i + d = pn → ∀ a_patternEntry a_entryOperator a_entryFirst a_entryLast : Nat → Int32, tc_ae E py pz eo0 ef0 el0 i a_patternEntry a_entryOperator a_entryFirst a_entryLast →
    (∀ pe eo ef el : Nat → Int32, tc_ae E py pz eo0 ef0 el0 pn pe eo ef el → post (f_patternDepth, f_patternNodes, f_ruleCount, nI (E + tc_cn py pn), f_treeDepth, f_treeNodes, f_stateCount, f_coverLength, f_pendingCount, a_patternStack, a_patternSymbol, a_patternFirst, a_patternLast, pe, a_ruleLeft, a_ruleCost, a_ruleEntry, a_ruleStart, eo, ef, el, a_treeStack, a_treeOperator, a_treeFirst, a_treeLast, a_treeSize, a_treeCosts, a_treeWays, a_stateCosts, a_cover, a_pendingEntry, a_pendingNode)) →
    ∀ m, d < m → wX_addEntries_2 post m (nI i) f_patternDepth f_patternNodes f_ruleCount (nI (E + tc_cn py i)) f_treeDepth f_treeNodes f_stateCount f_coverLength f_pendingCount a_patternStack a_patternSymbol a_patternFirst a_patternLast a_patternEntry a_ruleLeft a_ruleCost a_ruleEntry a_ruleStart a_entryOperator a_entryFirst a_entryLast a_treeStack a_treeOperator a_treeFirst a_treeLast a_treeSize a_treeCosts a_treeWays a_stateCosts a_cover a_pendingEntry a_pendingNode := by
  obtain ⟨rfl, rfl, x3, x4⟩ := hx
  intro d
  induction d with
  | zero =>
    intro i hi a_patternEntry a_entryOperator a_entryFirst a_entryLast ha hp m hm
    obtain ⟨m', rfl⟩ : ∃ m', m = m' + 1 := ⟨m - 1, by omega⟩
    have e : i = pn := by omega
    subst e
    exact br_t (nI_le (Nat.le_refl _) (by omega)) (hp _ _ _ _ ha)
  | succ d ih =>
    intro i hi a_patternEntry a_entryOperator a_entryFirst a_entryLast ha hp m hm
    obtain ⟨m', rfl⟩ : ∃ m', m = m' + 1 := ⟨m - 1, by omega⟩
    obtain ⟨A1, A2, A3⟩ := ha
    have hip : i < pn := by omega
    have hb := h10 i hip
    have c : (nI i).toNatClampNeg = i := nI_clamp (by omega)
    obtain ⟨y1, y2, y3⟩ := x4 i hip
    have cn := tc_cn_le (py := py) i
    obtain ⟨n1, n2, n3, n4, n5, n6, n7⟩ := F.2.2.2.2.2 i hip
    refine br_f (nI_ge hip (by omega)) ⟨vp_in_nI (by omega) (by decide), nm_r (e' := nI (py i)) (by rw [c, y1]) ?_⟩
    refine pk_lt (py i) 6 (fun h6 => ?_) (fun h6 => ?_) rfl rfl (by omega) (by omega)
    · have epe : tc_pe E py i = E + tc_cn py i := if_pos h6
      refine ⟨vp_in_nI (by omega) (by decide), nm_r (e' := upd a_patternEntry i (nI (E + tc_cn py i))) (by rw [c]) ?_⟩
      refine xe_add h6 (c := E + tc_cn py i) (by omega) (by omega) rfl (fun h2 => ⟨i - 1, by omega, y2 h2 h6⟩) (fun h4 => ⟨i - 1 - pz (i - 1), by omega, y3 h4 h6⟩) (fun eo ef el q1 q2 q3 q4 => ?_)
      have nxt := ih (i + 1) (by omega) (upd a_patternEntry i (nI (E + tc_cn py i))) eo ef el ⟨fun j hj => ?_, fun j hj hj6 => ?_, fun e he => ?_⟩ hp m' (by omega)
      · rw [tc_cn_y h6, ← Nat.add_assoc] at nxt
        exact nm_r (nI_1 i) nxt
      · by_cases cj : j = i
        · rw [cj, pk_us, epe]
        · rw [pk_un cj]
          exact A1 j (by omega)
      · by_cases cj : j = i
        · subst cj
          refine ⟨q1, fun h2 => ?_, fun h4 => ?_⟩
          · have := n3 h2 h6
            rw [q2 (j - 1) h2 (by omega) (y2 h2 h6), pk_un (by omega)]
            exact A1 (j - 1) (by omega)
          · have := n3 (by omega) h6
            have := n4 h4 h6
            rw [q3 (j - 1 - pz (j - 1)) h4 (by omega) (y3 h4 h6), pk_un (by omega)]
            exact A1 (j - 1 - pz (j - 1)) (by omega)
        · have hlt := tc_cn_lt hj6 (show j < i by omega)
          obtain ⟨r1, r2, r3⟩ := q4 (E + tc_cn py j) (by omega)
          rw [r1, r2, r3]
          exact A2 j (by omega) hj6
      · obtain ⟨r1, r2, r3⟩ := q4 e (by omega)
        rw [r1, r2, r3]
        exact A3 e he
    · have epe : tc_pe E py i = py i - 6 := if_neg (by omega)
      have w : nI (py i) - 6 = nI (py i - 6) := by rw [show (6 : Int32) = nI 6 from rfl, pk_sub h6]
      refine ⟨vp_in_nI (by omega) (by decide), nm_r (e' := upd a_patternEntry i (nI (py i - 6))) (by rw [c, w]) (nm_r (nI_1 i) ?_)⟩
      have nxt := ih (i + 1) (by omega) (upd a_patternEntry i (nI (py i - 6))) a_entryOperator a_entryFirst a_entryLast ⟨fun j hj => ?_, fun j hj hj6 => ?_, A3⟩ hp m' (by omega)
      · rw [tc_cn_n (by omega)] at nxt
        exact nxt
      · by_cases cj : j = i
        · rw [cj, pk_us, epe]
        · rw [pk_un cj]
          exact A1 j (by omega)
      · have : j ≠ i := fun z => by rw [z] at hj6; omega
        exact A2 j (by omega) hj6
/-- the rules with one more -/
def tc_Sn (S : tc_S) (g co pn : Nat) (py : Nat → Nat) (eo ef el : Nat → Int32) : tc_S :=
  (tc_R S + 1, tc_un (tc_sr S) (tc_R S + 1) (tc_E S + tc_cn py pn), tc_un (tc_lf S) (tc_R S) g, tc_un (tc_co S) (tc_R S) co, tc_un (tc_rt S) (tc_R S) (tc_pe (tc_E S) py (pn - 1)),
    fun e => (eo e).toNatClampNeg, fun e => (ef e).toNatClampNeg, fun e => (el e).toNatClampNeg)
theorem tc_clamp {x : Int32} {n : Nat} (h : x = nI n) (hn : n < 2 ^ 31) : x = nI x.toNatClampNeg ∧ x.toNatClampNeg = n := by
  rw [h, nI_clamp hn]
  exact ⟨rfl, rfl⟩
/-- the entries of the rules with one more: each is an old one, or that of a node -/
theorem tc_Sn_e {S : tc_S} (ok : tc_ok S) (hR : tc_R S < 10) (hN : pn ≤ 7) (h10 : ∀ i, i < pn → py i < 10) (F : tc_fo pn pd py pz pk) {g co : Nat} {eo0 ef0 el0 pe eo ef el : Nat → Int32}
    (h0 : ∀ e, 4 ≤ e → e < tc_E S → eo0 e = nI (tc_eo S e) ∧ (2 ≤ tc_eo S e → el0 e = nI (tc_el S e)) ∧ (4 ≤ tc_eo S e → ef0 e = nI (tc_ef S e)))
    (A : tc_ae (tc_E S) py pz eo0 ef0 el0 pn pe eo ef el) {e : Nat} (he : 4 ≤ e) (hE : e < tc_E S + tc_cn py pn) :
    (eo e = nI (tc_eo (tc_Sn S g co pn py eo ef el) e) ∧ (2 ≤ tc_eo (tc_Sn S g co pn py eo ef el) e → el e = nI (tc_el (tc_Sn S g co pn py eo ef el) e)) ∧ (4 ≤ tc_eo (tc_Sn S g co pn py eo ef el) e → ef e = nI (tc_ef (tc_Sn S g co pn py eo ef el) e))) ∧
    (tc_eo (tc_Sn S g co pn py eo ef el) e < 6 ∧ (2 ≤ tc_eo (tc_Sn S g co pn py eo ef el) e → tc_el (tc_Sn S g co pn py eo ef el) e < e) ∧ (4 ≤ tc_eo (tc_Sn S g co pn py eo ef el) e → tc_ef (tc_Sn S g co pn py eo ef el) e < e)) ∧
    (e < tc_E S → tc_eo (tc_Sn S g co pn py eo ef el) e = tc_eo S e ∧ (2 ≤ tc_eo S e → tc_el (tc_Sn S g co pn py eo ef el) e = tc_el S e) ∧ (4 ≤ tc_eo S e → tc_ef (tc_Sn S g co pn py eo ef el) e = tc_ef S e)) ∧
    (∀ j, j < pn → py j < 6 → e = tc_E S + tc_cn py j → tc_eo (tc_Sn S g co pn py eo ef el) e = py j ∧ (2 ≤ py j → tc_el (tc_Sn S g co pn py eo ef el) e = tc_pe (tc_E S) py (j - 1)) ∧ (4 ≤ py j → tc_ef (tc_Sn S g co pn py eo ef el) e = tc_pe (tc_E S) py (j - 1 - pz (j - 1)))) := by
  have hE4 := tc_ok_E ok
  obtain ⟨A1, A2, A3⟩ := A
  have cnl := tc_cn_le (py := py) pn
  show (eo e = nI (eo e).toNatClampNeg ∧ (2 ≤ (eo e).toNatClampNeg → el e = nI (el e).toNatClampNeg) ∧ (4 ≤ (eo e).toNatClampNeg → ef e = nI (ef e).toNatClampNeg)) ∧
    ((eo e).toNatClampNeg < 6 ∧ (2 ≤ (eo e).toNatClampNeg → (el e).toNatClampNeg < e) ∧ (4 ≤ (eo e).toNatClampNeg → (ef e).toNatClampNeg < e)) ∧
    (e < tc_E S → (eo e).toNatClampNeg = tc_eo S e ∧ (2 ≤ tc_eo S e → (el e).toNatClampNeg = tc_el S e) ∧ (4 ≤ tc_eo S e → (ef e).toNatClampNeg = tc_ef S e)) ∧
    (∀ j, j < pn → py j < 6 → e = tc_E S + tc_cn py j → (eo e).toNatClampNeg = py j ∧ (2 ≤ py j → (el e).toNatClampNeg = tc_pe (tc_E S) py (j - 1)) ∧ (4 ≤ py j → (ef e).toNatClampNeg = tc_pe (tc_E S) py (j - 1 - pz (j - 1))))
  by_cases old : e < tc_E S
  · obtain ⟨a1, a2, a3⟩ := A3 e old
    obtain ⟨b1, b2, b3⟩ := h0 e he old
    have hk := ok.2.2.2 e he old
    rw [a1, a2, a3]
    obtain ⟨c1, c2⟩ := tc_clamp b1 (by omega)
    rw [c2]
    refine ⟨⟨b1, fun z => (tc_clamp (b2 z) (by omega)).1, fun z => (tc_clamp (b3 z) (by omega)).1⟩, ⟨hk.1, fun z => by rw [(tc_clamp (b2 z) (by omega)).2]; omega, fun z => by rw [(tc_clamp (b3 z) (by omega)).2]; omega⟩,
      fun _ => ⟨rfl, fun z => (tc_clamp (b2 z) (by omega)).2, fun z => (tc_clamp (b3 z) (by omega)).2⟩, fun j _ _ hj => by omega⟩
  · obtain ⟨j, hj, hj6, hjc⟩ := tc_cn_su (py := py) (c := e - tc_E S) pn (by omega)
    have ee : e = tc_E S + tc_cn py j := by omega
    obtain ⟨b1, b2, b3⟩ := A2 j hj hj6
    obtain ⟨n1, n2, n3, n4, n5, n6, n7⟩ := F.2.2.2.2.2 j hj
    rw [← ee] at b1 b2 b3
    obtain ⟨c1, c2⟩ := tc_clamp b1 (by omega)
    rw [c2]
    have lt1 : 2 ≤ py j → tc_pe (tc_E S) py (j - 1) < e := fun z => by
      have := n3 z hj6
      rw [ee]
      exact tc_pe_lt hE4.1 (h10 _ (by omega)) (by omega)
    have lt2 : 4 ≤ py j → tc_pe (tc_E S) py (j - 1 - pz (j - 1)) < e := fun z => by
      have := n3 (by omega) hj6
      rw [ee]
      exact tc_pe_lt hE4.1 (h10 _ (by omega)) (by omega)
    refine ⟨⟨b1, fun z => (tc_clamp (b2 z) (by have := lt1 z; omega)).1, fun z => (tc_clamp (b3 z) (by have := lt2 z; omega)).1⟩, ⟨hj6, fun z => by rw [(tc_clamp (b2 z) (by have := lt1 z; omega)).2]; exact lt1 z, fun z => by rw [(tc_clamp (b3 z) (by have := lt2 z; omega)).2]; exact lt2 z⟩,
      fun z => absurd z old, fun i hi hi6 hic => ?_⟩
    have hij : i = j := by
      rcases Nat.lt_trichotomy i j with h | h | h
      · have := tc_cn_lt hi6 h
        omega
      · exact h
      · have := tc_cn_lt hj6 h
        omega
    subst hij
    exact ⟨rfl, fun z => (tc_clamp (b2 z) (by have := lt1 z; omega)).2, fun z => (tc_clamp (b3 z) (by have := lt2 z; omega)).2⟩
end
end
section
/-- the entries of the nodes, with one rule more -/
def tc_en (S : tc_S) (ent : Nat → Nat → Nat) (py : Nat → Nat) (r i : Nat) : Nat := if r = tc_R S then tc_pe (tc_E S) py i else ent r i
theorem tc_en_n {S : tc_S} {ent : Nat → Nat → Nat} {py : Nat → Nat} {i : Nat} : tc_en S ent py (tc_R S) i = tc_pe (tc_E S) py i := if_pos rfl
theorem tc_en_o {S : tc_S} {ent : Nat → Nat → Nat} {py : Nat → Nat} {r i : Nat} (h : ¬ r = tc_R S) : tc_en S ent py r i = ent r i := if_neg h
section
variable {S : tc_S} {pn pd : Nat} {py pz pk : Nat → Nat} {g co : Nat} {eo0 ef0 el0 pe eo ef el : Nat → Int32}
theorem tc_Sn_E : tc_E (tc_Sn S g co pn py eo ef el) = tc_E S + tc_cn py pn := tc_us
theorem tc_Sn_sr {r : Nat} (h : r ≤ tc_R S) : tc_sr (tc_Sn S g co pn py eo ef el) r = tc_sr S r := tc_ne (by omega)
theorem tc_Sn_r {r : Nat} (h : r < tc_R S) : tc_lf (tc_Sn S g co pn py eo ef el) r = tc_lf S r ∧ tc_co (tc_Sn S g co pn py eo ef el) r = tc_co S r ∧ tc_rt (tc_Sn S g co pn py eo ef el) r = tc_rt S r :=
  ⟨tc_ne (by omega), tc_ne (by omega), tc_ne (by omega)⟩
theorem tc_Sn_n : tc_lf (tc_Sn S g co pn py eo ef el) (tc_R S) = g ∧ tc_co (tc_Sn S g co pn py eo ef el) (tc_R S) = co ∧ tc_rt (tc_Sn S g co pn py eo ef el) (tc_R S) = tc_pe (tc_E S) py (pn - 1) ∧
    tc_sr (tc_Sn S g co pn py eo ef el) (tc_R S + 1) = tc_E S + tc_cn py pn := ⟨tc_us, tc_us, tc_us, tc_us⟩
theorem tc_Sn_R : tc_R (tc_Sn S g co pn py eo ef el) = tc_R S + 1 := rfl
theorem tc_Sn_ok (ok : tc_ok S) (hR : tc_R S < 10) (hN1 : 1 ≤ pn) (hN : pn ≤ 7) (h10 : ∀ i, i < pn → py i < 10) (F : tc_fo pn pd py pz pk) (hg : g < 4) (hco : co ≤ 9) (hc0 : py (pn - 1) < 6 ∨ 1 ≤ co)
    (h0 : ∀ e, 4 ≤ e → e < tc_E S → eo0 e = nI (tc_eo S e) ∧ (2 ≤ tc_eo S e → el0 e = nI (tc_el S e)) ∧ (4 ≤ tc_eo S e → ef0 e = nI (tc_ef S e)))
    (A : tc_ae (tc_E S) py pz eo0 ef0 el0 pn pe eo ef el) : tc_ok (tc_Sn S g co pn py eo ef el) := by
  have hE4 := tc_ok_E ok
  have cnl := tc_cn_le (py := py) pn
  refine ⟨by rw [tc_Sn_R]; omega, by rw [tc_Sn_sr (Nat.zero_le _)]; exact ok.2.1, fun r hr => ?_, fun e he hE => ?_⟩
  · rw [tc_Sn_R] at hr
    by_cases c : r = tc_R S
    · subst c
      obtain ⟨a1, a2, a3, a4⟩ := tc_Sn_n (S := S) (pn := pn) (py := py) (g := g) (co := co) (eo := eo) (ef := ef) (el := el)
      rw [a1, a2, a3, a4, tc_Sn_sr (Nat.le_refl _)]
      have hlt := tc_pe_lt (E := tc_E S) (n := pn) hE4.1 (h10 (pn - 1) (by omega)) (by omega)
      refine ⟨?_, ?_, hg, hco, hlt, fun z => ?_⟩
      · show tc_E S ≤ _
        omega
      · show _ ≤ tc_E S + 7
        omega
      · rcases hc0 with h | h
        · have e1 : tc_pe (tc_E S) py (pn - 1) = tc_E S + tc_cn py (pn - 1) := if_pos h
          omega
        · exact h
    · obtain ⟨b1, b2, b3⟩ := tc_Sn_r (S := S) (pn := pn) (py := py) (g := g) (co := co) (eo := eo) (ef := ef) (el := el) (show r < tc_R S by omega)
      rw [b1, b2, b3, tc_Sn_sr (by omega), tc_Sn_sr (by omega)]
      exact ok.2.2.1 r (by omega)
  · rw [tc_Sn_E] at hE
    exact (tc_Sn_e ok hR hN h10 F h0 A he hE).2.1
theorem tc_Sn_x (ok : tc_ok S) (hR : tc_R S < 10) (hN1 : 1 ≤ pn) (hN : pn ≤ 7) (h10 : ∀ i, i < pn → py i < 10) (F : tc_fo pn pd py pz pk) {rc ec : Int32} {rl ro re rs : Nat → Int32}
    (hx : tc_xr S rc ec rl ro re rs eo0 ef0 el0) (A : tc_ae (tc_E S) py pz eo0 ef0 el0 pn pe eo ef el) :
    tc_xr (tc_Sn S g co pn py eo ef el) (nI (tc_R S + 1)) (nI (tc_E S + tc_cn py pn)) (upd rl (tc_R S) (nI g)) (upd ro (tc_R S) (nI co)) (upd re (tc_R S) (nI (tc_pe (tc_E S) py (pn - 1)))) (upd rs (tc_R S) (nI (tc_E S))) eo ef el := by
  refine ⟨rfl, by rw [tc_Sn_E], fun r hr => ?_, fun e he hE => ?_⟩
  · rw [tc_Sn_R] at hr
    by_cases c : r = tc_R S
    · subst c
      obtain ⟨a1, a2, a3, a4⟩ := tc_Sn_n (S := S) (pn := pn) (py := py) (g := g) (co := co) (eo := eo) (ef := ef) (el := el)
      rw [a1, a2, a3, tc_Sn_sr (Nat.le_refl _), pk_us, pk_us, pk_us, pk_us]
      exact ⟨rfl, rfl, rfl, rfl⟩
    · obtain ⟨b1, b2, b3⟩ := tc_Sn_r (S := S) (pn := pn) (py := py) (g := g) (co := co) (eo := eo) (ef := ef) (el := el) (show r < tc_R S by omega)
      rw [b1, b2, b3, tc_Sn_sr (by omega), pk_un c, pk_un c, pk_un c, pk_un c]
      exact hx.2.2.1 r (by omega)
  · rw [tc_Sn_E] at hE
    exact (tc_Sn_e ok hR hN h10 F hx.2.2.2 A he hE).1
theorem tc_Sn_y (ok : tc_ok S) (hR : tc_R S < 10) (hN1 : 1 ≤ pn) (hN : pn ≤ 7) (h10 : ∀ i, i < pn → py i < 10) (F : tc_fo pn pd py pz pk) {len : Nat → Nat} {ent : Nat → Nat → Nat} {ru : Int32} {le cs ln mk sz mk' sz' : Nat → Int32}
    (hy : tc_yr S len ent ru le cs ln mk sz) (h0 : ∀ e, 4 ≤ e → e < tc_E S → eo0 e = nI (tc_eo S e) ∧ (2 ≤ tc_eo S e → el0 e = nI (tc_el S e)) ∧ (4 ≤ tc_eo S e → ef0 e = nI (tc_ef S e)))
    (A : tc_ae (tc_E S) py pz eo0 ef0 el0 pn pe eo ef el) (hm1 : ∀ j, j < 7 * tc_R S → mk' j = mk j ∧ sz' j = sz j) (hm2 : ∀ i, i < pn → mk' (7 * tc_R S + i) = nI (tc_mk (py i)) ∧ sz' (7 * tc_R S + i) = nI (pz i)) :
    tc_yr (tc_Sn S g co pn py eo ef el) (tc_un len (tc_R S) pn) (tc_en S ent py) (nI (tc_R S + 1)) (upd le (tc_R S) (nI g)) (upd cs (tc_R S) (nI co)) (upd ln (tc_R S) (nI pn)) mk' sz' := by
  have hE4 := tc_ok_E ok
  have cnl := tc_cn_le (py := py) pn
  refine ⟨rfl, fun r hr => ?_, fun r e hr h1 h2 => ?_⟩
  · rw [tc_Sn_R] at hr
    by_cases c : r = tc_R S
    · subst c
      obtain ⟨a1, a2, a3, a4⟩ := tc_Sn_n (S := S) (pn := pn) (py := py) (g := g) (co := co) (eo := eo) (ef := ef) (el := el)
      rw [a1, a2, a3, pk_us, pk_us, pk_us, tc_us]
      refine ⟨rfl, rfl, rfl, hN1, hN, tc_en_n, fun i hi => ?_⟩
      obtain ⟨m1, m2⟩ := hm2 i hi
      obtain ⟨n1, n2, n3, n4, n5, n6, n7⟩ := F.2.2.2.2.2 i hi
      have hb := h10 i hi
      unfold tc_ym
      by_cases h6 : py i < 6
      · have e1 : tc_pe (tc_E S) py i = tc_E S + tc_cn py i := if_pos h6
        have e2 : tc_mk (py i) = py i := if_pos h6
        have hlt := tc_cn_lt h6 hi
        obtain ⟨f1, f2, f3⟩ := (tc_Sn_e ok hR hN h10 F (g := g) (co := co) h0 A (e := tc_E S + tc_cn py i) (by omega) (by omega)).2.2.2 i hi h6 rfl
        refine Or.inr ⟨py i, h6, by rw [m1, e2], ?_⟩
        rw [tc_en_n, e1, a4]
        refine ⟨by omega, by omega, f1, fun z => ⟨n3 z h6, ?_⟩, fun z => ⟨pz (i - 1), ?_, ?_, n4 z h6, ?_⟩⟩
        · rw [f2 z, tc_en_n]
        · have := n3 (by omega) h6
          rw [show 7 * tc_R S + i - 1 = 7 * tc_R S + (i - 1) by omega]
          exact (hm2 (i - 1) (by omega)).2
        · have := n3 (by omega) h6
          exact (F.2.2.2.2.2 (i - 1) (by omega)).1
        · rw [f3 z, tc_en_n]
      · have e1 : tc_pe (tc_E S) py i = py i - 6 := if_neg h6
        have e2 : tc_mk (py i) = py i + 4 := if_neg h6
        refine Or.inl ⟨py i - 6, by omega, ?_, ?_⟩
        · rw [m1, e2]
          exact congrArg nI (by omega)
        · rw [tc_en_n, e1]
    · have hr' : r < tc_R S := by omega
      obtain ⟨b1, b2, b3⟩ := tc_Sn_r (S := S) (pn := pn) (py := py) (g := g) (co := co) (eo := eo) (ef := ef) (el := el) hr'
      obtain ⟨l1, l2, l3, l4, l5, l6, l7⟩ := hy.2.1 r hr'
      have hup := tc_ok_up ok (tc_R S - (r + 1)) (r + 1) (by omega)
      rw [b1, b2, b3, pk_un c, pk_un c, pk_un c, tc_ne c]
      refine ⟨l1, l2, l3, l4, l5, by rw [tc_en_o c]; exact l6, fun i hi => ?_⟩
      have m := (hm1 (7 * r + i) (by omega)).1
      unfold tc_ym
      rw [m, tc_en_o c, tc_Sn_sr (by omega)]
      rcases l7 i hi with ⟨q, c1, c2, c3⟩ | ⟨o, c1, c2, c3, c4, c5, c6, c7⟩
      · exact Or.inl ⟨q, c1, c2, c3⟩
      · obtain ⟨f1, f2, f3⟩ := (tc_Sn_e ok hR hN h10 F (g := g) (co := co) h0 A (e := ent r i) c3 (by omega)).2.2.1 (by omega)
        refine Or.inr ⟨o, c1, c2, c3, c4, by rw [f1]; exact c5, fun z => ⟨(c6 z).1, ?_⟩, fun z => ?_⟩
        · rw [f2 (by omega), tc_en_o c]
          exact (c6 z).2
        · obtain ⟨s, d1, d2, d3, d4⟩ := c7 z
          refine ⟨s, by rw [(hm1 (7 * r + i - 1) (by omega)).2]; exact d1, d2, d3, ?_⟩
          rw [f3 (by omega), tc_en_o c]
          exact d4
  · rw [tc_Sn_R] at hr
    by_cases c : r = tc_R S
    · subst c
      have a4 := (tc_Sn_n (S := S) (pn := pn) (py := py) (g := g) (co := co) (eo := eo) (ef := ef) (el := el)).2.2.2
      rw [tc_Sn_sr (Nat.le_refl _)] at h1
      rw [a4] at h2
      have h1' : tc_E S ≤ e := h1
      obtain ⟨j, hj, hj6, hjc⟩ := tc_cn_su (py := py) (c := e - tc_E S) pn (by omega)
      refine ⟨j, by rw [tc_us]; exact hj, ?_⟩
      rw [tc_en_n]
      have e1 : tc_pe (tc_E S) py j = tc_E S + tc_cn py j := if_pos hj6
      omega
    · rw [tc_Sn_sr (by omega)] at h1
      rw [tc_Sn_sr (by omega)] at h2
      obtain ⟨i, hi, e1⟩ := hy.2.2 r e (by omega) h1 h2
      exact ⟨i, by rw [tc_ne c]; exact hi, by rw [tc_en_o c]; exact e1⟩
/-- Y's copy of the pattern -/
theorem yr_69 (hR : tc_R S < 10) (hN1 : 1 ≤ pn) (hN : pn ≤ 7) {post : Int32 → SY → Prop} {f_noted : Int32} {f_depth : Int32} {f_rules : Int32} {f_planted : Int32} {f_trees : Int32} {f_stateCount : Int32} {f_known : Int32} {f_listed : Int32} {a_lefts : Nat → Int32} {a_costs : Nat → Int32} {a_lengths : Nat → Int32} {a_operators : Nat → Int32} {a_spans : Nat → Int32} {a_least : Nat → Int32} {a_ways : Nat → Int32} {a_tasks : Nat → Int32} {a_list : Nat → Int32} (hru : f_rules = nI (tc_R S)) (hno : f_noted = nI pn) {mk sz : Nat → Int32}
    (hm : ∀ i, i < pn → mk (70 + i) = nI (tc_mk (py i)) ∧ sz (70 + i) = nI (pz i)) {x1 x2 : Int32} :
    ∀ (d i : Nat), i + d = pn → ∀ a_marks a_sizes : Nat → Int32, (∀ j, (j < 7 * tc_R S ∨ 70 ≤ j) → a_marks j = mk j ∧ a_sizes j = sz j) → (∀ j, j < i → a_marks (7 * tc_R S + j) = nI (tc_mk (py j)) ∧ a_sizes (7 * tc_R S + j) = nI (pz j)) →
    (∀ mk' sz' : Nat → Int32, (∀ j, j < 7 * tc_R S → mk' j = mk j ∧ sz' j = sz j) → (∀ j, j < pn → mk' (7 * tc_R S + j) = nI (tc_mk (py j)) ∧ sz' (7 * tc_R S + j) = nI (pz j)) →
      post (nI (tc_R S)) (0, 0, nI (tc_R S + 1), f_planted, f_trees, f_stateCount, 0, f_listed, mk', sz', upd a_lefts (tc_R S) x1, upd a_costs (tc_R S) x2, upd a_lengths (tc_R S) (nI pn), a_operators, a_spans, a_least, a_ways, a_tasks, a_list)) →
    ∀ m, d < m → wY_rule_69 post x1 x2 f_noted f_depth f_rules f_planted f_trees f_stateCount f_known f_listed m (nI i) a_marks a_sizes a_lefts a_costs a_lengths a_operators a_spans a_least a_ways a_tasks a_list := by
  subst hru hno
  have cr : (nI (tc_R S)).toNatClampNeg = tc_R S := nI_clamp (by omega)
  intro d
  induction d with
  | zero =>
    intro i hi a_marks a_sizes h1 h2 hp m hmm
    obtain ⟨m', rfl⟩ : ∃ m', m = m' + 1 := ⟨m - 1, by omega⟩
    have e : i = pn := by omega
    subst e
    have k := hp a_marks a_sizes (fun j hj => h1 j (Or.inl hj)) h2
    refine br_t (nI_le (Nat.le_refl _) (by omega)) ⟨vp_in_nI hR (by decide), nm_r (e' := upd a_lefts (tc_R S) x1) (by rw [cr]) ⟨vp_in_nI hR (by decide), nm_r (e' := upd a_costs (tc_R S) x2) (by rw [cr]) ⟨vp_in_nI hR (by decide), nm_r (e' := upd a_lengths (tc_R S) (nI i)) (by rw [cr]) (nm_r (nI_1 _) ?_)⟩⟩⟩
    rw [nI_pred]
    exact k
  | succ d ih =>
    intro i hi a_marks a_sizes h1 h2 hp m hmm
    obtain ⟨m', rfl⟩ : ∃ m', m = m' + 1 := ⟨m - 1, by omega⟩
    have w1 : (70 : Int32) + nI i = nI (70 + i) := by rw [show (70 : Int32) = nI 70 from rfl, nI_add]
    have w2 : (7 : Int32) * nI (tc_R S) + nI i = nI (7 * tc_R S + i) := by rw [show (7 : Int32) = nI 7 from rfl, pk_mul, nI_add]
    obtain ⟨q1, q2⟩ := hm i (by omega)
    refine br_f (nI_ge (by omega) (by omega)) ⟨by rw [w1]; exact vp_in_nI (by omega) (by decide), by rw [w2]; exact vp_in_nI (by omega) (by decide), nm_r (e' := upd a_marks (7 * tc_R S + i) (nI (tc_mk (py i)))) (by rw [w1, w2, nI_clamp (by omega), nI_clamp (by omega), (h1 (70 + i) (by omega)).1, q1]) ⟨by rw [w1]; exact vp_in_nI (by omega) (by decide), by rw [w2]; exact vp_in_nI (by omega) (by decide), nm_r (e' := upd a_sizes (7 * tc_R S + i) (nI (pz i))) (by rw [w1, w2, nI_clamp (by omega), nI_clamp (by omega), (h1 (70 + i) (by omega)).2, q2]) (nm_r (nI_1 i) ?_)⟩⟩
    refine ih (i + 1) (by omega) _ _ (fun j hj => ?_) (fun j hj => ?_) hp m' (by omega)
    · rw [pk_un (by omega), pk_un (by omega)]
      exact h1 j hj
    · by_cases c : j = i
      · rw [c, pk_us, pk_us]
        exact ⟨rfl, rfl⟩
      · rw [pk_un (by omega), pk_un (by omega)]
        exact h2 j (by omega)
end
end
section
/-- the rows of X's states are rows of costs -/
def tc_xs (S : tc_S) (a : Nat → Int32) (c : Nat) : Prop := ∀ j, j < c → ∃ t : Nat → Nat, (∀ e, t e ≤ 536870912) ∧ tc_tr a (j * 74) (tc_E S) t
section
variable {S : tc_S}
theorem xs_28 (ok : tc_ok S) {post : SX → Prop} {f_patternDepth : Int32} {f_patternNodes : Int32} {f_ruleCount : Int32} {f_entryCount : Int32} {f_treeDepth : Int32} {f_treeNodes : Int32} {f_stateCount : Int32} {f_coverLength : Int32} {f_pendingCount : Int32} {a_patternStack : Nat → Int32} {a_patternSymbol : Nat → Int32} {a_patternFirst : Nat → Int32} {a_patternLast : Nat → Int32} {a_patternEntry : Nat → Int32} {a_ruleLeft : Nat → Int32} {a_ruleCost : Nat → Int32} {a_ruleEntry : Nat → Int32} {a_ruleStart : Nat → Int32} {a_entryOperator : Nat → Int32} {a_entryFirst : Nat → Int32} {a_entryLast : Nat → Int32} {a_treeStack : Nat → Int32} {a_treeOperator : Nat → Int32} {a_treeFirst : Nat → Int32} {a_treeLast : Nat → Int32} {a_treeSize : Nat → Int32} {a_treeCosts : Nat → Int32} {a_treeWays : Nat → Int32} {a_stateCosts : Nat → Int32} {a_cover : Nat → Int32} {a_pendingEntry : Nat → Int32} {a_pendingNode : Nat → Int32} (hx : tc_xr S f_ruleCount f_entryCount a_ruleLeft a_ruleCost a_ruleEntry a_ruleStart a_entryOperator a_entryFirst a_entryLast) {c : Nat} (hc : c < 21) (hsc : f_stateCount = nI c)
    (hs : tc_xs S a_stateCosts (c + 1)) (hp : ∀ c', c ≤ c' → c' ≤ c + 1 → post (f_patternDepth, f_patternNodes, f_ruleCount, f_entryCount, f_treeDepth, f_treeNodes, nI c', f_coverLength, f_pendingCount, a_patternStack, a_patternSymbol, a_patternFirst, a_patternLast, a_patternEntry, a_ruleLeft, a_ruleCost, a_ruleEntry, a_ruleStart, a_entryOperator, a_entryFirst, a_entryLast, a_treeStack, a_treeOperator, a_treeFirst, a_treeLast, a_treeSize, a_treeCosts, a_treeWays, a_stateCosts, a_cover, a_pendingEntry, a_pendingNode)) :
    ∀ (d r : Nat), r + d = c → ∀ m, d < m → wX_addState_28 post f_patternDepth f_patternNodes f_ruleCount f_entryCount f_treeDepth f_treeNodes f_stateCount f_coverLength f_pendingCount a_patternStack a_patternSymbol a_patternFirst a_patternLast a_patternEntry a_ruleLeft a_ruleCost a_ruleEntry a_ruleStart a_entryOperator a_entryFirst a_entryLast a_treeStack a_treeOperator a_treeFirst a_treeLast a_treeSize a_treeCosts a_treeWays a_stateCosts a_cover a_pendingEntry a_pendingNode m (nI r) := by
  subst hsc
  intro d
  induction d with
  | zero =>
    intro r hr m hm
    obtain ⟨m', rfl⟩ : ∃ m', m = m' + 1 := ⟨m - 1, by omega⟩
    have e : r = c := by omega
    subst e
    exact br_t (nI_le (Nat.le_refl _) (by omega)) (nm_r (nI_1 r) (hp (r + 1) (by omega) (by omega)))
  | succ d ih =>
    intro r hr m hm
    obtain ⟨m', rfl⟩ : ∃ m', m = m' + 1 := ⟨m - 1, by omega⟩
    obtain ⟨t, t1, t2⟩ := hs r (by omega)
    obtain ⟨u, u1, u2⟩ := hs c (by omega)
    refine br_f (nI_ge (by omega) (by omega)) ?_
    exact xsc_s_wp ok (by omega) hc hx.2.1 t1 u1 t2 u2 (fun _ => br_f (by decide) (hp c (Nat.le_refl _) (by omega))) (fun _ => br_t rfl (nm_r (nI_1 r) (ih (r + 1) (by omega) m' (by omega))))
theorem xs_add (ok : tc_ok S) {post : SX → Prop} {f_patternDepth : Int32} {f_patternNodes : Int32} {f_ruleCount : Int32} {f_entryCount : Int32} {f_treeDepth : Int32} {f_treeNodes : Int32} {f_stateCount : Int32} {f_coverLength : Int32} {f_pendingCount : Int32} {a_patternStack : Nat → Int32} {a_patternSymbol : Nat → Int32} {a_patternFirst : Nat → Int32} {a_patternLast : Nat → Int32} {a_patternEntry : Nat → Int32} {a_ruleLeft : Nat → Int32} {a_ruleCost : Nat → Int32} {a_ruleEntry : Nat → Int32} {a_ruleStart : Nat → Int32} {a_entryOperator : Nat → Int32} {a_entryFirst : Nat → Int32} {a_entryLast : Nat → Int32} {a_treeStack : Nat → Int32} {a_treeOperator : Nat → Int32} {a_treeFirst : Nat → Int32} {a_treeLast : Nat → Int32} {a_treeSize : Nat → Int32} {a_treeCosts : Nat → Int32} {a_treeWays : Nat → Int32} {a_stateCosts : Nat → Int32} {a_cover : Nat → Int32} {a_pendingEntry : Nat → Int32} {a_pendingNode : Nat → Int32} (hx : tc_xr S f_ruleCount f_entryCount a_ruleLeft a_ruleCost a_ruleEntry a_ruleStart a_entryOperator a_entryFirst a_entryLast) {c o fi la : Nat} (hc : c ≤ 21) (hsc : f_stateCount = nI c) (ho : o < 6)
    (hs : tc_xs S a_stateCosts c) (hla : 2 ≤ o → la < c) (hfi : 4 ≤ o → fi < c)
    (hp : ∀ (a' : Nat → Int32) (c' : Nat), c ≤ c' → c' ≤ c + 1 → c' ≤ 21 → tc_xs S a' c' → post (f_patternDepth, f_patternNodes, f_ruleCount, f_entryCount, f_treeDepth, f_treeNodes, nI c', f_coverLength, f_pendingCount, a_patternStack, a_patternSymbol, a_patternFirst, a_patternLast, a_patternEntry, a_ruleLeft, a_ruleCost, a_ruleEntry, a_ruleStart, a_entryOperator, a_entryFirst, a_entryLast, a_treeStack, a_treeOperator, a_treeFirst, a_treeLast, a_treeSize, a_treeCosts, a_treeWays, a', a_cover, a_pendingEntry, a_pendingNode)) :
    wpX_addState post (f_patternDepth, f_patternNodes, f_ruleCount, f_entryCount, f_treeDepth, f_treeNodes, f_stateCount, f_coverLength, f_pendingCount, a_patternStack, a_patternSymbol, a_patternFirst, a_patternLast, a_patternEntry, a_ruleLeft, a_ruleCost, a_ruleEntry, a_ruleStart, a_entryOperator, a_entryFirst, a_entryLast, a_treeStack, a_treeOperator, a_treeFirst, a_treeLast, a_treeSize, a_treeCosts, a_treeWays, a_stateCosts, a_cover, a_pendingEntry, a_pendingNode) (nI o) (nI fi) (nI la) := by
  subst hsc
  refine pk_lt c 21 (fun h => ?_) (fun h => ?_) rfl rfl (by omega) (by omega)
  · obtain ⟨y, hy⟩ : ∃ y : Nat → Nat, 2 ≤ o → (∀ e, y e ≤ 536870912) ∧ tc_tr a_stateCosts (la * 74) (tc_E S) y := by
      by_cases h2 : 2 ≤ o
      · obtain ⟨t, t1, t2⟩ := hs la (hla h2)
        exact ⟨t, fun _ => ⟨t1, t2⟩⟩
      · exact ⟨fun _ => 0, fun z => absurd z h2⟩
    obtain ⟨x, hxr⟩ : ∃ x : Nat → Nat, 4 ≤ o → (∀ e, x e ≤ 536870912) ∧ tc_tr a_stateCosts (fi * 74) (tc_E S) x := by
      by_cases h2 : 4 ≤ o
      · obtain ⟨t, t1, t2⟩ := hs fi (hfi h2)
        exact ⟨t, fun _ => ⟨t1, t2⟩⟩
      · exact ⟨fun _ => 0, fun z => absurd z h2⟩
    refine xsc_f_wp ok h ho (x := x) (y := y) hx (fun z => ⟨la, rfl, by have := hla z; omega, by have := hla z; omega, fun e he => ⟨(hy z).2 e he, (hy z).1 e⟩⟩) (fun z => ⟨fi, rfl, by have := hfi z; omega, by have := hfi z; omega, fun e he => ⟨(hxr z).2 e he, (hxr z).1 e⟩⟩) (fun a' hf hr => ?_)
    have hs' : tc_xs S a' (c + 1) := fun j hj => by
      by_cases e : j = c
      · rw [e]
        exact ⟨_, fun e => tc_row_le e 4, hr⟩
      · obtain ⟨t, t1, t2⟩ := hs j (by omega)
        have hE := tc_ok_E ok
        refine ⟨t, t1, fun e he => ?_⟩
        rw [hf _ (by omega)]
        exact t2 e he
    exact ⟨c + 1, xs_28 ok hx h rfl hs' (fun c' h1 h2 => hp a' c' h1 h2 (by omega) (fun j hj => hs' j (by omega))) c 0 (by omega) _ (by omega)⟩
  · exact hp a_stateCosts c (Nat.le_refl _) (by omega) hc hs
theorem xs_30 (ok : tc_ok S) {post : SX → Prop} {J : Int32 → Int32 → Int32 → Int32 → Int32 → Int32 → Int32 → Int32 → Int32 → Int32 → (Nat → Int32) → (Nat → Int32) → (Nat → Int32) → (Nat → Int32) → (Nat → Int32) → (Nat → Int32) → (Nat → Int32) → (Nat → Int32) → (Nat → Int32) → (Nat → Int32) → (Nat → Int32) → (Nat → Int32) → (Nat → Int32) → (Nat → Int32) → (Nat → Int32) → (Nat → Int32) → (Nat → Int32) → (Nat → Int32) → (Nat → Int32) → (Nat → Int32) → (Nat → Int32) → (Nat → Int32) → (Nat → Int32) → Prop} {f_patternDepth : Int32} {f_patternNodes : Int32} {f_ruleCount : Int32} {f_entryCount : Int32} {f_treeDepth : Int32} {f_treeNodes : Int32} {f_coverLength : Int32} {f_pendingCount : Int32} {a_patternStack : Nat → Int32} {a_patternSymbol : Nat → Int32} {a_patternFirst : Nat → Int32} {a_patternLast : Nat → Int32} {a_patternEntry : Nat → Int32} {a_ruleLeft : Nat → Int32} {a_ruleCost : Nat → Int32} {a_ruleEntry : Nat → Int32} {a_ruleStart : Nat → Int32} {a_entryOperator : Nat → Int32} {a_entryFirst : Nat → Int32} {a_entryLast : Nat → Int32} {a_treeStack : Nat → Int32} {a_treeOperator : Nat → Int32} {a_treeFirst : Nat → Int32} {a_treeLast : Nat → Int32} {a_treeSize : Nat → Int32} {a_treeCosts : Nat → Int32} {a_treeWays : Nat → Int32} {a_cover : Nat → Int32} {a_pendingEntry : Nat → Int32} {a_pendingNode : Nat → Int32} (hx : tc_xr S f_ruleCount f_entryCount a_ruleLeft a_ruleCost a_ruleEntry a_ruleStart a_entryOperator a_entryFirst a_entryLast) {row o : Nat} (ho : o < 6) :
    ∀ (d k : Nat), k + d = row + 1 → ∀ (c : Nat) (a_stateCosts : Nat → Int32), row < c → c ≤ 21 → tc_xs S a_stateCosts c →
    (∀ (a' : Nat → Int32) (c' : Nat), c ≤ c' → c' ≤ 21 → tc_xs S a' c' → J (nI (o + 1)) f_patternDepth f_patternNodes f_ruleCount f_entryCount f_treeDepth f_treeNodes (nI c') f_coverLength f_pendingCount a_patternStack a_patternSymbol a_patternFirst a_patternLast a_patternEntry a_ruleLeft a_ruleCost a_ruleEntry a_ruleStart a_entryOperator a_entryFirst a_entryLast a_treeStack a_treeOperator a_treeFirst a_treeLast a_treeSize a_treeCosts a_treeWays a' a_cover a_pendingEntry a_pendingNode) →
    ∀ m, d < m → wX_combineState_30 post J (nI row) (nI o) m (nI k) f_patternDepth f_patternNodes f_ruleCount f_entryCount f_treeDepth f_treeNodes (nI c) f_coverLength f_pendingCount a_patternStack a_patternSymbol a_patternFirst a_patternLast a_patternEntry a_ruleLeft a_ruleCost a_ruleEntry a_ruleStart a_entryOperator a_entryFirst a_entryLast a_treeStack a_treeOperator a_treeFirst a_treeLast a_treeSize a_treeCosts a_treeWays a_stateCosts a_cover a_pendingEntry a_pendingNode := by
  intro d
  induction d with
  | zero =>
    intro k hk c a_stateCosts hrow hc hs hp m hm
    obtain ⟨m', rfl⟩ : ∃ m', m = m' + 1 := ⟨m - 1, by omega⟩
    exact br_t (nI_lt (by omega) (by omega)) (nm_r (nI_1 o) (hp _ c (Nat.le_refl _) hc hs))
  | succ d ih =>
    intro k hk c a_stateCosts hrow hc hs hp m hm
    obtain ⟨m', rfl⟩ : ∃ m', m = m' + 1 := ⟨m - 1, by omega⟩
    refine br_f (nI_nlt (by omega) (by omega)) ?_
    refine xs_add ok hx hc rfl ho hs (fun _ => by omega) (fun _ => hrow) (fun a' c' h1 h2 h3 h4 => ?_)
    refine xs_add ok hx h3 rfl ho h4 (fun _ => by omega) (fun _ => by omega) (fun a2 c2 g1 g2 g3 g4 => ?_)
    exact nm_r (nI_1 k) (ih (k + 1) (by omega) c2 a2 (by omega) g3 g4 (fun a3 c3 q1 q2 q3 => hp a3 c3 (by omega) q2 q3) m' (by omega))
theorem xs_22 (ok : tc_ok S) {post : SX → Prop} {f_patternDepth : Int32} {f_patternNodes : Int32} {f_ruleCount : Int32} {f_entryCount : Int32} {f_treeDepth : Int32} {f_treeNodes : Int32} {f_coverLength : Int32} {f_pendingCount : Int32} {a_patternStack : Nat → Int32} {a_patternSymbol : Nat → Int32} {a_patternFirst : Nat → Int32} {a_patternLast : Nat → Int32} {a_patternEntry : Nat → Int32} {a_ruleLeft : Nat → Int32} {a_ruleCost : Nat → Int32} {a_ruleEntry : Nat → Int32} {a_ruleStart : Nat → Int32} {a_entryOperator : Nat → Int32} {a_entryFirst : Nat → Int32} {a_entryLast : Nat → Int32} {a_treeStack : Nat → Int32} {a_treeOperator : Nat → Int32} {a_treeFirst : Nat → Int32} {a_treeLast : Nat → Int32} {a_treeSize : Nat → Int32} {a_treeCosts : Nat → Int32} {a_treeWays : Nat → Int32} {a_cover : Nat → Int32} {a_pendingEntry : Nat → Int32} {a_pendingNode : Nat → Int32} (hx : tc_xr S f_ruleCount f_entryCount a_ruleLeft a_ruleCost a_ruleEntry a_ruleStart a_entryOperator a_entryFirst a_entryLast) {row : Nat} :
    ∀ (d o : Nat), o + d = 6 → ∀ (c : Nat) (a_stateCosts : Nat → Int32), row < c → c ≤ 21 → tc_xs S a_stateCosts c →
    (∀ (a' : Nat → Int32) (c' : Nat), c ≤ c' → c' ≤ 21 → tc_xs S a' c' → post (f_patternDepth, f_patternNodes, f_ruleCount, f_entryCount, f_treeDepth, f_treeNodes, nI c', f_coverLength, f_pendingCount, a_patternStack, a_patternSymbol, a_patternFirst, a_patternLast, a_patternEntry, a_ruleLeft, a_ruleCost, a_ruleEntry, a_ruleStart, a_entryOperator, a_entryFirst, a_entryLast, a_treeStack, a_treeOperator, a_treeFirst, a_treeLast, a_treeSize, a_treeCosts, a_treeWays, a', a_cover, a_pendingEntry, a_pendingNode)) →
    ∀ m, d < m → wX_combineState_22 post (nI row) m (nI o) f_patternDepth f_patternNodes f_ruleCount f_entryCount f_treeDepth f_treeNodes (nI c) f_coverLength f_pendingCount a_patternStack a_patternSymbol a_patternFirst a_patternLast a_patternEntry a_ruleLeft a_ruleCost a_ruleEntry a_ruleStart a_entryOperator a_entryFirst a_entryLast a_treeStack a_treeOperator a_treeFirst a_treeLast a_treeSize a_treeCosts a_treeWays a_stateCosts a_cover a_pendingEntry a_pendingNode := by
  intro d
  induction d with
  | zero =>
    intro o ho c a_stateCosts hrow hc hs hp m hm
    obtain ⟨m', rfl⟩ : ∃ m', m = m' + 1 := ⟨m - 1, by omega⟩
    exact br_t (nI_le (a := 6) (by omega) (by omega)) (hp _ c (Nat.le_refl _) hc hs)
  | succ d ih =>
    intro o ho c a_stateCosts hrow hc hs hp m hm
    obtain ⟨m', rfl⟩ : ∃ m', m = m' + 1 := ⟨m - 1, by omega⟩
    refine br_f (nI_ge (b := 6) (by omega) (by decide)) ⟨row + 2, ?_⟩
    refine xs_30 ok hx (by omega) (row + 1) 0 (by omega) c a_stateCosts hrow hc hs (fun a' c' h1 h2 h3 => ?_) _ (by omega)
    exact ih (o + 1) (by omega) c' a' (by omega) h2 h3 (fun a3 c3 q1 q2 q3 => hp a3 c3 (by omega) q2 q3) m' (by omega)
theorem xs_2 (ok : tc_ok S) {post : SX → Prop} {f_patternDepth : Int32} {f_patternNodes : Int32} {f_ruleCount : Int32} {f_entryCount : Int32} {f_treeDepth : Int32} {f_treeNodes : Int32} {f_coverLength : Int32} {f_pendingCount : Int32} {a_patternStack : Nat → Int32} {a_patternSymbol : Nat → Int32} {a_patternFirst : Nat → Int32} {a_patternLast : Nat → Int32} {a_patternEntry : Nat → Int32} {a_ruleLeft : Nat → Int32} {a_ruleCost : Nat → Int32} {a_ruleEntry : Nat → Int32} {a_ruleStart : Nat → Int32} {a_entryOperator : Nat → Int32} {a_entryFirst : Nat → Int32} {a_entryLast : Nat → Int32} {a_treeStack : Nat → Int32} {a_treeOperator : Nat → Int32} {a_treeFirst : Nat → Int32} {a_treeLast : Nat → Int32} {a_treeSize : Nat → Int32} {a_treeCosts : Nat → Int32} {a_treeWays : Nat → Int32} {a_cover : Nat → Int32} {a_pendingEntry : Nat → Int32} {a_pendingNode : Nat → Int32} (hx : tc_xr S f_ruleCount f_entryCount a_ruleLeft a_ruleCost a_ruleEntry a_ruleStart a_entryOperator a_entryFirst a_entryLast) {row : Nat} :
    ∀ (d o : Nat), o + d = 4 → ∀ (c : Nat) (a_stateCosts : Nat → Int32), row < c → c ≤ 21 → tc_xs S a_stateCosts c →
    (∀ (a' : Nat → Int32) (c' : Nat), c ≤ c' → c' ≤ 21 → tc_xs S a' c' → post (f_patternDepth, f_patternNodes, f_ruleCount, f_entryCount, f_treeDepth, f_treeNodes, nI c', f_coverLength, f_pendingCount, a_patternStack, a_patternSymbol, a_patternFirst, a_patternLast, a_patternEntry, a_ruleLeft, a_ruleCost, a_ruleEntry, a_ruleStart, a_entryOperator, a_entryFirst, a_entryLast, a_treeStack, a_treeOperator, a_treeFirst, a_treeLast, a_treeSize, a_treeCosts, a_treeWays, a', a_cover, a_pendingEntry, a_pendingNode)) →
    ∀ m, d < m → wX_combineState_2 post (nI row) m (nI o) f_patternDepth f_patternNodes f_ruleCount f_entryCount f_treeDepth f_treeNodes (nI c) f_coverLength f_pendingCount a_patternStack a_patternSymbol a_patternFirst a_patternLast a_patternEntry a_ruleLeft a_ruleCost a_ruleEntry a_ruleStart a_entryOperator a_entryFirst a_entryLast a_treeStack a_treeOperator a_treeFirst a_treeLast a_treeSize a_treeCosts a_treeWays a_stateCosts a_cover a_pendingEntry a_pendingNode := by
  intro d
  induction d with
  | zero =>
    intro o ho c a_stateCosts hrow hc hs hp m hm
    obtain ⟨m', rfl⟩ : ∃ m', m = m' + 1 := ⟨m - 1, by omega⟩
    exact br_t (nI_le (a := 4) (by omega) (by omega)) ⟨3, xs_22 ok hx 2 4 (by omega) c a_stateCosts hrow hc hs hp 3 (by omega)⟩
  | succ d ih =>
    intro o ho c a_stateCosts hrow hc hs hp m hm
    obtain ⟨m', rfl⟩ : ∃ m', m = m' + 1 := ⟨m - 1, by omega⟩
    refine br_f (nI_ge (b := 4) (by omega) (by decide)) ?_
    refine xs_add ok hx hc rfl (by omega) hs (fun _ => hrow) (fun _ => hrow) (fun a' c' h1 h2 h3 h4 => ?_)
    exact nm_r (nI_1 o) (ih (o + 1) (by omega) c' a' (by omega) h3 h4 (fun a3 c3 q1 q2 q3 => hp a3 c3 (by omega) q2 q3) m' (by omega))
theorem xs_27 (ok : tc_ok S) {post : SX → Prop} {f_patternDepth : Int32} {f_patternNodes : Int32} {f_ruleCount : Int32} {f_entryCount : Int32} {f_treeDepth : Int32} {f_treeNodes : Int32} {f_coverLength : Int32} {f_pendingCount : Int32} {a_patternStack : Nat → Int32} {a_patternSymbol : Nat → Int32} {a_patternFirst : Nat → Int32} {a_patternLast : Nat → Int32} {a_patternEntry : Nat → Int32} {a_ruleLeft : Nat → Int32} {a_ruleCost : Nat → Int32} {a_ruleEntry : Nat → Int32} {a_ruleStart : Nat → Int32} {a_entryOperator : Nat → Int32} {a_entryFirst : Nat → Int32} {a_entryLast : Nat → Int32} {a_treeStack : Nat → Int32} {a_treeOperator : Nat → Int32} {a_treeFirst : Nat → Int32} {a_treeLast : Nat → Int32} {a_treeSize : Nat → Int32} {a_treeCosts : Nat → Int32} {a_treeWays : Nat → Int32} {a_cover : Nat → Int32} {a_pendingEntry : Nat → Int32} {a_pendingNode : Nat → Int32} (hx : tc_xr S f_ruleCount f_entryCount a_ruleLeft a_ruleCost a_ruleEntry a_ruleStart a_entryOperator a_entryFirst a_entryLast) :
    ∀ (d k : Nat), k + d = 20 → ∀ (c : Nat) (a_stateCosts : Nat → Int32), c ≤ 21 → tc_xs S a_stateCosts c →
    (∀ (a' : Nat → Int32) (c' : Nat), c' ≤ 21 → tc_xs S a' c' → post (f_patternDepth, f_patternNodes, f_ruleCount, f_entryCount, f_treeDepth, f_treeNodes, nI c', f_coverLength, f_pendingCount, a_patternStack, a_patternSymbol, a_patternFirst, a_patternLast, a_patternEntry, a_ruleLeft, a_ruleCost, a_ruleEntry, a_ruleStart, a_entryOperator, a_entryFirst, a_entryLast, a_treeStack, a_treeOperator, a_treeFirst, a_treeLast, a_treeSize, a_treeCosts, a_treeWays, a', a_cover, a_pendingEntry, a_pendingNode)) →
    ∀ m, d < m → wX_collectStates_27 post m (nI k) f_patternDepth f_patternNodes f_ruleCount f_entryCount f_treeDepth f_treeNodes (nI c) f_coverLength f_pendingCount a_patternStack a_patternSymbol a_patternFirst a_patternLast a_patternEntry a_ruleLeft a_ruleCost a_ruleEntry a_ruleStart a_entryOperator a_entryFirst a_entryLast a_treeStack a_treeOperator a_treeFirst a_treeLast a_treeSize a_treeCosts a_treeWays a_stateCosts a_cover a_pendingEntry a_pendingNode := by
  intro d
  induction d with
  | zero =>
    intro k hk c a_stateCosts hc hs hp m hm
    obtain ⟨m', rfl⟩ : ∃ m', m = m' + 1 := ⟨m - 1, by omega⟩
    exact pk_le c k (fun _ => hp _ c hc hs) (fun _ => br_t (nI_le (a := 20) (by omega) (by omega)) (hp _ c hc hs)) rfl rfl (by omega) (by omega)
  | succ d ih =>
    intro k hk c a_stateCosts hc hs hp m hm
    obtain ⟨m', rfl⟩ : ∃ m', m = m' + 1 := ⟨m - 1, by omega⟩
    refine pk_le c k (fun _ => hp _ c hc hs) (fun hlt => ?_) rfl rfl (by omega) (by omega)
    refine br_f (nI_ge (b := 20) (by omega) (by decide)) ⟨3, ?_⟩
    refine xs_2 ok hx 2 2 (by omega) c a_stateCosts hlt hc hs (fun a' c' h1 h2 h3 => ?_) 3 (by omega)
    exact nm_r (nI_1 k) (ih (k + 1) (by omega) c' a' h2 h3 hp m' (by omega))
theorem xs_7 (ok : tc_ok S) {post : SX → Prop} {f_patternDepth : Int32} {f_patternNodes : Int32} {f_ruleCount : Int32} {f_entryCount : Int32} {f_treeDepth : Int32} {f_treeNodes : Int32} {f_coverLength : Int32} {f_pendingCount : Int32} {a_patternStack : Nat → Int32} {a_patternSymbol : Nat → Int32} {a_patternFirst : Nat → Int32} {a_patternLast : Nat → Int32} {a_patternEntry : Nat → Int32} {a_ruleLeft : Nat → Int32} {a_ruleCost : Nat → Int32} {a_ruleEntry : Nat → Int32} {a_ruleStart : Nat → Int32} {a_entryOperator : Nat → Int32} {a_entryFirst : Nat → Int32} {a_entryLast : Nat → Int32} {a_treeStack : Nat → Int32} {a_treeOperator : Nat → Int32} {a_treeFirst : Nat → Int32} {a_treeLast : Nat → Int32} {a_treeSize : Nat → Int32} {a_treeCosts : Nat → Int32} {a_treeWays : Nat → Int32} {a_cover : Nat → Int32} {a_pendingEntry : Nat → Int32} {a_pendingNode : Nat → Int32} (hx : tc_xr S f_ruleCount f_entryCount a_ruleLeft a_ruleCost a_ruleEntry a_ruleStart a_entryOperator a_entryFirst a_entryLast) :
    ∀ (d o : Nat), o + d = 2 → ∀ (c : Nat) (a_stateCosts : Nat → Int32), c ≤ 21 → tc_xs S a_stateCosts c →
    (∀ (a' : Nat → Int32) (c' : Nat), c' ≤ 21 → tc_xs S a' c' → post (f_patternDepth, f_patternNodes, f_ruleCount, f_entryCount, f_treeDepth, f_treeNodes, nI c', f_coverLength, f_pendingCount, a_patternStack, a_patternSymbol, a_patternFirst, a_patternLast, a_patternEntry, a_ruleLeft, a_ruleCost, a_ruleEntry, a_ruleStart, a_entryOperator, a_entryFirst, a_entryLast, a_treeStack, a_treeOperator, a_treeFirst, a_treeLast, a_treeSize, a_treeCosts, a_treeWays, a', a_cover, a_pendingEntry, a_pendingNode)) →
    ∀ m, d < m → wX_collectStates_7 post m (nI o) f_patternDepth f_patternNodes f_ruleCount f_entryCount f_treeDepth f_treeNodes (nI c) f_coverLength f_pendingCount a_patternStack a_patternSymbol a_patternFirst a_patternLast a_patternEntry a_ruleLeft a_ruleCost a_ruleEntry a_ruleStart a_entryOperator a_entryFirst a_entryLast a_treeStack a_treeOperator a_treeFirst a_treeLast a_treeSize a_treeCosts a_treeWays a_stateCosts a_cover a_pendingEntry a_pendingNode := by
  intro d
  induction d with
  | zero =>
    intro o ho c a_stateCosts hc hs hp m hm
    obtain ⟨m', rfl⟩ : ∃ m', m = m' + 1 := ⟨m - 1, by omega⟩
    exact br_t (nI_le (a := 2) (by omega) (by omega)) ⟨21, xs_27 ok hx 20 0 (by omega) c a_stateCosts hc hs hp 21 (by omega)⟩
  | succ d ih =>
    intro o ho c a_stateCosts hc hs hp m hm
    obtain ⟨m', rfl⟩ : ∃ m', m = m' + 1 := ⟨m - 1, by omega⟩
    refine br_f (nI_ge (b := 2) (by omega) (by decide)) ?_
    refine xs_add (fi := 0) (la := 0) ok hx hc rfl (by omega) hs (fun _ => by omega) (fun _ => by omega) (fun a' c' h1 h2 h3 h4 => ?_)
    exact nm_r (nI_1 o) (ih (o + 1) (by omega) c' a' h3 h4 hp m' (by omega))
theorem xs_coll (ok : tc_ok S) {post : SX → Prop} {f_patternDepth : Int32} {f_patternNodes : Int32} {f_ruleCount : Int32} {f_entryCount : Int32} {f_treeDepth : Int32} {f_treeNodes : Int32} {f_stateCount : Int32} {f_coverLength : Int32} {f_pendingCount : Int32} {a_patternStack : Nat → Int32} {a_patternSymbol : Nat → Int32} {a_patternFirst : Nat → Int32} {a_patternLast : Nat → Int32} {a_patternEntry : Nat → Int32} {a_ruleLeft : Nat → Int32} {a_ruleCost : Nat → Int32} {a_ruleEntry : Nat → Int32} {a_ruleStart : Nat → Int32} {a_entryOperator : Nat → Int32} {a_entryFirst : Nat → Int32} {a_entryLast : Nat → Int32} {a_treeStack : Nat → Int32} {a_treeOperator : Nat → Int32} {a_treeFirst : Nat → Int32} {a_treeLast : Nat → Int32} {a_treeSize : Nat → Int32} {a_treeCosts : Nat → Int32} {a_treeWays : Nat → Int32} {a_stateCosts : Nat → Int32} {a_cover : Nat → Int32} {a_pendingEntry : Nat → Int32} {a_pendingNode : Nat → Int32} (hx : tc_xr S f_ruleCount f_entryCount a_ruleLeft a_ruleCost a_ruleEntry a_ruleStart a_entryOperator a_entryFirst a_entryLast)
    (hp : ∀ (a' : Nat → Int32) (c' : Nat), c' ≤ 21 → tc_xs S a' c' → post (f_patternDepth, f_patternNodes, f_ruleCount, f_entryCount, f_treeDepth, f_treeNodes, nI c', f_coverLength, f_pendingCount, a_patternStack, a_patternSymbol, a_patternFirst, a_patternLast, a_patternEntry, a_ruleLeft, a_ruleCost, a_ruleEntry, a_ruleStart, a_entryOperator, a_entryFirst, a_entryLast, a_treeStack, a_treeOperator, a_treeFirst, a_treeLast, a_treeSize, a_treeCosts, a_treeWays, a', a_cover, a_pendingEntry, a_pendingNode)) : wpX_collectStates post (f_patternDepth, f_patternNodes, f_ruleCount, f_entryCount, f_treeDepth, f_treeNodes, f_stateCount, f_coverLength, f_pendingCount, a_patternStack, a_patternSymbol, a_patternFirst, a_patternLast, a_patternEntry, a_ruleLeft, a_ruleCost, a_ruleEntry, a_ruleStart, a_entryOperator, a_entryFirst, a_entryLast, a_treeStack, a_treeOperator, a_treeFirst, a_treeLast, a_treeSize, a_treeCosts, a_treeWays, a_stateCosts, a_cover, a_pendingEntry, a_pendingNode) :=
  ⟨3, xs_7 ok hx 2 0 (by omega) 0 a_stateCosts (by omega) (fun j hj => absurd hj (Nat.not_lt_zero _)) hp 3 (by omega)⟩
theorem xs_cov_29 (ok : tc_ok S) {post : Int32 → SX → Prop} {f_patternDepth : Int32} {f_patternNodes : Int32} {f_ruleCount : Int32} {f_entryCount : Int32} {f_treeDepth : Int32} {f_treeNodes : Int32} {f_stateCount : Int32} {f_coverLength : Int32} {f_pendingCount : Int32} {a_patternStack : Nat → Int32} {a_patternSymbol : Nat → Int32} {a_patternFirst : Nat → Int32} {a_patternLast : Nat → Int32} {a_patternEntry : Nat → Int32} {a_ruleLeft : Nat → Int32} {a_ruleCost : Nat → Int32} {a_ruleEntry : Nat → Int32} {a_ruleStart : Nat → Int32} {a_entryOperator : Nat → Int32} {a_entryFirst : Nat → Int32} {a_entryLast : Nat → Int32} {a_treeStack : Nat → Int32} {a_treeOperator : Nat → Int32} {a_treeFirst : Nat → Int32} {a_treeLast : Nat → Int32} {a_treeSize : Nat → Int32} {a_treeCosts : Nat → Int32} {a_treeWays : Nat → Int32} {a_stateCosts : Nat → Int32} {a_cover : Nat → Int32} {a_pendingEntry : Nat → Int32} {a_pendingNode : Nat → Int32} {g c : Nat} (hg : g < 4) (hc : c ≤ 21) (hsc : f_stateCount = nI c) (hp : ∀ r, post r (f_patternDepth, f_patternNodes, f_ruleCount, f_entryCount, f_treeDepth, f_treeNodes, f_stateCount, f_coverLength, f_pendingCount, a_patternStack, a_patternSymbol, a_patternFirst, a_patternLast, a_patternEntry, a_ruleLeft, a_ruleCost, a_ruleEntry, a_ruleStart, a_entryOperator, a_entryFirst, a_entryLast, a_treeStack, a_treeOperator, a_treeFirst, a_treeLast, a_treeSize, a_treeCosts, a_treeWays, a_stateCosts, a_cover, a_pendingEntry, a_pendingNode)) : ∀ (d k : Nat), k + d = c → ∀ (z : Int32) (m : Nat), d < m → wX_covering_29 post (nI g) f_patternDepth f_patternNodes f_ruleCount f_entryCount f_treeDepth f_treeNodes f_stateCount f_coverLength f_pendingCount a_patternStack a_patternSymbol a_patternFirst a_patternLast a_patternEntry a_ruleLeft a_ruleCost a_ruleEntry a_ruleStart a_entryOperator a_entryFirst a_entryLast a_treeStack a_treeOperator a_treeFirst a_treeLast a_treeSize a_treeCosts a_treeWays a_stateCosts a_cover a_pendingEntry a_pendingNode m z (nI k) := by
  subst hsc
  intro d
  induction d with
  | zero =>
    intro k hk z m hm
    obtain ⟨m', rfl⟩ : ∃ m', m = m' + 1 := ⟨m - 1, by omega⟩
    exact br_t (nI_le (by omega) (by omega)) (hp _)
  | succ d ih =>
    intro k hk z m hm
    obtain ⟨m', rfl⟩ : ∃ m', m = m' + 1 := ⟨m - 1, by omega⟩
    have w : nI k * 74 + nI g = nI (k * 74 + g) := by rw [show (74 : Int32) = nI 74 from rfl, pk_mul, nI_add]
    refine br_f (nI_ge (by omega) (by omega)) ⟨by rw [w]; exact vp_in_nI (by omega) (by decide), ?_⟩
    exact br_c (fun _ => nm_r (nI_1 k) (ih (k + 1) (by omega) z m' (by omega))) (fun _ => nm_e (nm_r (nI_1 k) (ih (k + 1) (by omega) _ m' (by omega))))
end
end
section
/-- the rows of Y's states are rows of costs -/
def tc_ys (S : tc_S) (len : Nat → Nat) (ent : Nat → Nat → Nat) (a : Nat → Int32) (c : Nat) : Prop := ∀ j, j < c → ∃ t : Nat → Nat, (∀ e, t e ≤ 1000000) ∧ tc_yw S len ent a (24 + j) t
/-- a state as it is kept: its lowest cost taken away -/
def tc_nr (E : Nat) (t : Nat → Nat) (e : Nat) : Nat := if t e = 1000000 then 1000000 else t e - tc_lw 1000000 t E
theorem tc_nb0 : narrow .boolean (.int 0) = .int 0 := rfl
theorem tc_nb1 : narrow .boolean (.int 1) = .int 1 := rfl
section
variable {S : tc_S} {len : Nat → Nat} {ent : Nat → Nat → Nat}
theorem yk_61 (ok : tc_ok S) {post : Int32 → SY → Prop} {f_noted : Int32} {f_depth : Int32} {f_rules : Int32} {f_planted : Int32} {f_trees : Int32} {f_stateCount : Int32} {f_known : Int32} {f_listed : Int32} {a_marks : Nat → Int32} {a_sizes : Nat → Int32} {a_lefts : Nat → Int32} {a_costs : Nat → Int32} {a_lengths : Nat → Int32} {a_operators : Nat → Int32} {a_spans : Nat → Int32} {a_ways : Nat → Int32} {a_tasks : Nat → Int32} {a_list : Nat → Int32} (hy : tc_yr S len ent f_rules a_lefts a_costs a_lengths a_marks a_sizes) {c : Nat} (hc : c ≤ 20) (hsc : f_stateCount = nI c) {t : Nat → Nat} (hK : ∀ e, t e ≤ 1000000) :
    ∀ (d e : Nat), e + d = 74 → ∀ a_least : Nat → Int32, tc_yw S len ent a_least 45 t → (∀ j x, j < e → tc_mp S len ent j x → a_least (74 * (24 + c) + j) = nI (tc_nr (tc_E S) t x)) →
    (∀ a', tc_fr a_least a' (74 * (24 + c)) → tc_yw S len ent a' (24 + c) (tc_nr (tc_E S) t) → post 1 (f_noted, f_depth, f_rules, f_planted, f_trees, nI (c + 1), f_known, f_listed, a_marks, a_sizes, a_lefts, a_costs, a_lengths, a_operators, a_spans, a', a_ways, a_tasks, a_list)) →
    ∀ m, d < m → wY_keepState_61 post (nI (24 + c)) (nI (tc_lw 1000000 t (tc_E S))) f_noted f_depth f_rules f_planted f_trees f_stateCount f_known f_listed m (nI e) a_marks a_sizes a_lefts a_costs a_lengths a_operators a_spans a_least a_ways a_tasks a_list := by
  subst hsc
  have b1 := tc_lw_le (K := 1000000) (t := t) (tc_E S)
  intro d
  induction d with
  | zero =>
    intro e he a_least hw hd hp m hm
    obtain ⟨m', rfl⟩ : ∃ m', m = m' + 1 := ⟨m - 1, by omega⟩
    have e1 : e = 74 := by omega
    subst e1
    refine br_t (nI_le (a := 74) (Nat.le_refl _) (by decide)) (nm_r (nI_1 c) (hp _ (tc_fr_refl _ _) ⟨fun g hg => hd g g (by omega) (Or.inl ⟨hg, rfl⟩), fun r hr i hi => ?_⟩))
    have hR := ok.1
    have hl := (hy.2.1 r hr).2.2.2.2.1
    have k := hd (4 + 7 * r + i) (ent r i) (by omega) (Or.inr ⟨r, i, hr, hi, rfl, rfl⟩)
    rw [← Nat.add_assoc, ← Nat.add_assoc] at k
    exact k
  | succ d ih =>
    intro e he a_least hw hd hp m hm
    obtain ⟨m', rfl⟩ : ∃ m', m = m' + 1 := ⟨m - 1, by omega⟩
    have w1 : (3330 : Int32) + nI e = nI (74 * 45 + e) := by rw [show (3330 : Int32) = nI 3330 from rfl, nI_add]
    have w2 : (74 : Int32) * nI (24 + c) + nI e = nI (74 * (24 + c) + e) := by rw [show (74 : Int32) = nI 74 from rfl, pk_mul, nI_add]
    have key : ∀ z : Int32, (∀ x, tc_mp S len ent e x → z = nI (tc_nr (tc_E S) t x)) → wY_keepState_61 post (nI (24 + c)) (nI (tc_lw 1000000 t (tc_E S))) f_noted f_depth f_rules f_planted f_trees (nI c) f_known f_listed m' (nI (e + 1)) a_marks a_sizes a_lefts a_costs a_lengths a_operators a_spans (upd a_least (74 * (24 + c) + e) z) a_ways a_tasks a_list := fun z hz => by
      have hfr : tc_fr a_least (upd a_least (74 * (24 + c) + e) z) (74 * (24 + c)) := tc_fr_upd (by omega)
      refine ih (e + 1) (by omega) _ (tc_yw_fr ok hy hfr (by omega) hw) (fun j x hj hmp => ?_) (fun a' f1 f2 => hp a' (tc_fr_trans hfr f1) f2) m' (by omega)
      by_cases cj : j = e
      · subst cj
        rw [pk_us]
        exact hz x hmp
      · rw [pk_un (by omega)]
        exact hd j x (by omega) hmp
    have val : ∀ x, tc_mp S len ent e x → a_least (74 * 45 + e) = nI (t x) ∧ x < tc_E S := fun x hx => tc_mp_val ok hy hw hx
    refine br_f (nI_ge (b := 74) (by omega) (by decide)) ⟨by rw [w1]; exact vp_in_nI (by omega) (by decide), nm_r (e' := a_least (74 * 45 + e)) (by rw [w1, nI_clamp (by omega)]) ?_⟩
    refine br_c (fun h => ⟨by rw [w2]; exact vp_in_nI (by omega) (by decide), nm_r (e' := upd a_least (74 * (24 + c) + e) (a_least (74 * 45 + e) - nI (tc_lw 1000000 t (tc_E S)))) (by rw [w2, nI_clamp (by omega)]) (nm_r (nI_1 e) (key _ (fun x hx => ?_)))⟩)
      (fun h => ⟨by rw [w2]; exact vp_in_nI (by omega) (by decide), nm_r (e' := upd a_least (74 * (24 + c) + e) (nI 1000000)) (by rw [w2, nI_clamp (by omega)]; rfl) (nm_r (nI_1 e) (key _ (fun x hx => ?_)))⟩)
    · obtain ⟨v1, v2⟩ := val x hx
      have v3 := hK x
      rw [v1] at h ⊢
      have h' : t x < 1000000 := (nI_ltI (b := 1000000) (by omega) (by decide)).mp h
      have e2 : tc_nr (tc_E S) t x = t x - tc_lw 1000000 t (tc_E S) := if_neg (by omega)
      rw [e2, pk_sub (b1.2 x v2)]
    · obtain ⟨v1, v2⟩ := val x hx
      have v3 := hK x
      rw [v1] at h
      have h' : ¬ t x < 1000000 := fun z => h ((nI_ltI (b := 1000000) (by omega) (by decide)).mpr z)
      have e2 : tc_nr (tc_E S) t x = 1000000 := if_pos (by omega)
      rw [e2]
theorem tc_nr_le {E : Nat} {t : Nat → Nat} (hK : ∀ e, t e ≤ 1000000) (e : Nat) : tc_nr E t e ≤ 1000000 := by
  have := hK e
  unfold tc_nr
  split
  · omega
  · omega
theorem yk_keep (ok : tc_ok S) {post : Int32 → SY → Prop} {f_noted : Int32} {f_depth : Int32} {f_rules : Int32} {f_planted : Int32} {f_trees : Int32} {f_stateCount : Int32} {f_known : Int32} {f_listed : Int32} {a_marks : Nat → Int32} {a_sizes : Nat → Int32} {a_lefts : Nat → Int32} {a_costs : Nat → Int32} {a_lengths : Nat → Int32} {a_operators : Nat → Int32} {a_spans : Nat → Int32} {a_least : Nat → Int32} {a_ways : Nat → Int32} {a_tasks : Nat → Int32} {a_list : Nat → Int32} (hy : tc_yr S len ent f_rules a_lefts a_costs a_lengths a_marks a_sizes) {c : Nat} (hc : c ≤ 21) (hsc : f_stateCount = nI c) {t : Nat → Nat} (hK : ∀ e, t e ≤ 1000000)
    (hw : tc_yw S len ent a_least 45 t) (hs : tc_ys S len ent a_least c)
    (hp : ∀ (a' : Nat → Int32) (c' : Nat) (r : Int32), (r = 0 ∧ c' = c) ∨ (r = 1 ∧ c' = c + 1 ∧ c' ≤ 21) → tc_ys S len ent a' c' → (∀ j, j < 74 * 24 → a' j = a_least j) → post r (f_noted, f_depth, f_rules, f_planted, f_trees, nI c', f_known, f_listed, a_marks, a_sizes, a_lefts, a_costs, a_lengths, a_operators, a_spans, a', a_ways, a_tasks, a_list)) :
    wpY_keepState post (f_noted, f_depth, f_rules, f_planted, f_trees, f_stateCount, f_known, f_listed, a_marks, a_sizes, a_lefts, a_costs, a_lengths, a_operators, a_spans, a_least, a_ways, a_tasks, a_list) := by
  subst hsc
  have w24 : (24 : Int32) + nI c = nI (24 + c) := by rw [show (24 : Int32) = nI 24 from rfl, nI_add]
  have k0 : post 0 (f_noted, f_depth, f_rules, f_planted, f_trees, nI c, f_known, f_listed, a_marks, a_sizes, a_lefts, a_costs, a_lengths, a_operators, a_spans, a_least, a_ways, a_tasks, a_list) := hp a_least c 0 (Or.inl ⟨rfl, rfl⟩) hs (fun _ _ => rfl)
  have k30 : ∀ k, k ≤ c → wY_keepState_30 post (nI (24 + k)) f_noted f_depth f_rules f_planted f_trees (nI c) f_known f_listed a_marks a_sizes a_lefts a_costs a_lengths a_operators a_spans a_least a_ways a_tasks a_list := fun k hk => by
    refine pk_lt (24 + k) (24 + c) (fun _ => k0) (fun h => ?_) rfl w24 (by omega) (by omega)
    have e : k = c := by omega
    subst e
    refine pk_le k 20 (fun h20 => ?_) (fun _ => k0) rfl rfl (by omega) (by omega)
    refine ym_lowest (n := 45) ok hy (by omega) hK hw ?_
    refine ⟨75, yk_61 ok hy h20 rfl hK 74 0 (by omega) a_least hw (fun j x hj => absurd hj (Nat.not_lt_zero _)) (fun a' f1 f2 => ?_) 75 (by omega)⟩
    refine hp a' (k + 1) 1 (Or.inr ⟨rfl, rfl, by omega⟩) (fun j hj => ?_) (fun j hj => f1 j (by omega))
    by_cases cj : j = k
    · subst cj
      exact ⟨_, tc_nr_le hK, f2⟩
    · obtain ⟨u, u1, u2⟩ := hs j (by omega)
      exact ⟨u, u1, tc_yw_fr ok hy f1 (by omega) u2⟩
  have k3 : ∀ (d k : Nat), k + d = c → ∀ m, d < m → wY_keepState_3 post f_noted f_depth f_rules f_planted f_trees (nI c) f_known f_listed a_marks a_sizes a_lefts a_costs a_lengths a_operators a_spans a_least a_ways a_tasks a_list m (nI (24 + k)) := by
    intro d
    induction d with
    | zero =>
      intro k hk m hm
      obtain ⟨m', rfl⟩ : ∃ m', m = m' + 1 := ⟨m - 1, by omega⟩
      exact br_t (by rw [w24]; exact nI_le (by omega) (by omega)) (k30 k (by omega))
    | succ d ih =>
      intro k hk m hm
      obtain ⟨m', rfl⟩ : ∃ m', m = m' + 1 := ⟨m - 1, by omega⟩
      obtain ⟨u, u1, u2⟩ := hs k (by omega)
      refine br_f (by rw [w24]; exact nI_ge (by omega) (by omega)) ?_
      exact ym_same (n := 24 + k) (k := 45) ok hy (by omega) (by omega) u1 hK u2 hw (fun _ => br_f (by decide) (k30 k (by omega))) (fun _ => br_t rfl (nm_r (nI_1 (24 + k)) (ih (k + 1) (by omega) m' (by omega))))
  exact ⟨c + 1, k3 c 0 (by omega) _ (by omega)⟩
/-- one pair of states: work it out, keep it -/
theorem yk_85 (ok : tc_ok S) {post : Int32 → SY → Prop} {J : Int32 → Int32 → Int32 → Int32 → Int32 → Int32 → Int32 → Int32 → Int32 → Int32 → (Nat → Int32) → (Nat → Int32) → (Nat → Int32) → (Nat → Int32) → (Nat → Int32) → (Nat → Int32) → (Nat → Int32) → (Nat → Int32) → (Nat → Int32) → (Nat → Int32) → (Nat → Int32) → Prop} {f_noted : Int32} {f_depth : Int32} {f_rules : Int32} {f_planted : Int32} {f_trees : Int32} {f_known : Int32} {f_listed : Int32} {a_marks : Nat → Int32} {a_sizes : Nat → Int32} {a_lefts : Nat → Int32} {a_costs : Nat → Int32} {a_lengths : Nat → Int32} {a_operators : Nat → Int32} {a_spans : Nat → Int32} {a_ways : Nat → Int32} {a_tasks : Nat → Int32} {a_list : Nat → Int32} (hy : tc_yr S len ent f_rules a_lefts a_costs a_lengths a_marks a_sizes) {o i j c k : Nat} (ho : o < 6) (hc : c ≤ 21) {x2 x3 x4 : Int32} (hx2 : x2 = 0 ∨ x2 = 1)
    (hi : i < 21) (hj : j < 21) (hij : o < 4 → i = j) (hix : 4 ≤ o → i < c) (hjx : 2 ≤ o → j < c) {a_least : Nat → Int32} (hs : tc_ys S len ent a_least c)
    (hp : ∀ (a' : Nat → Int32) (c' : Nat) (r : Int32), (r = 0 ∧ x2 = 0 ∧ c' = c) ∨ (r = 1 ∧ c ≤ c' ∧ c' ≤ 21 ∧ (x2 = 1 ∨ c < c')) → tc_ys S len ent a' c' → (∀ j, j < 74 * 24 → a' j = a_least j) → J r (nI (k + 1)) f_noted f_depth f_rules f_planted f_trees (nI c') f_known f_listed a_marks a_sizes a_lefts a_costs a_lengths a_operators a_spans a' a_ways a_tasks a_list) :
    wY_makeStates_85 post J (nI o) x2 x3 x4 (nI k) (nI (24 + i)) (nI j) 24 f_noted f_depth f_rules f_planted f_trees (nI c) f_known f_listed a_marks a_sizes a_lefts a_costs a_lengths a_operators a_spans a_least a_ways a_tasks a_list := by
  refine nm_r (e' := nI (24 + j)) (by rw [show (24 : Int32) = nI 24 from rfl, nI_add]) ?_
  obtain ⟨yr, hyr, hyw⟩ : ∃ y : Nat → Nat, (∀ e, y e ≤ 1000000) ∧ (2 ≤ o → tc_yw S len ent a_least (24 + j) y) := by
    by_cases h2 : 2 ≤ o
    · obtain ⟨t, t1, t2⟩ := hs j (hjx h2)
      exact ⟨t, t1, fun _ => t2⟩
    · exact ⟨fun _ => 0, fun _ => Nat.zero_le _, fun z => absurd z h2⟩
  obtain ⟨xr, hxr, hxw⟩ : ∃ y : Nat → Nat, (∀ e, y e ≤ 1000000) ∧ (4 ≤ o → tc_yw S len ent a_least (24 + i) y) := by
    by_cases h2 : 4 ≤ o
    · obtain ⟨t, t1, t2⟩ := hs i (hix h2)
      exact ⟨t, t1, fun _ => t2⟩
    · exact ⟨fun _ => 0, fun _ => Nat.zero_le _, fun z => absurd z h2⟩
  refine yc_wo (n := 45) ok hy (by omega) ho (by omega) (by omega) (fun z => by rw [hij z]) (fun _ => by omega) (fun _ => by omega) hxr hyr hxw hyw (fun a' f1 f2 => ?_)
  refine yk_keep ok hy hc rfl (fun e => tc_row_le e 4) f2 (fun q hq => ?_) (fun a2 c2 r hr h2 h3 => ?_)
  · obtain ⟨u, u1, u2⟩ := hs q hq
    exact ⟨u, u1, tc_yw_fr ok hy f1 (by omega) u2⟩
  · have hfr : ∀ j, j < 74 * 24 → a2 j = a_least j := fun j hj => (h3 j hj).trans (f1 j (by omega))
    rcases hr with ⟨rfl, rfl⟩ | ⟨rfl, e, h21⟩
    · refine br_t rfl (br_c (fun z => nm_r (nI_1 k) (hp a2 c2 0 (Or.inl ⟨rfl, z, rfl⟩) h2 hfr)) (fun z => nm_r (nI_1 k) (hp a2 c2 1 (Or.inr ⟨rfl, Nat.le_refl _, hc, Or.inl ?_⟩) h2 hfr)))
      rcases hx2 with h | h
      · exact absurd h z
      · exact h
    · exact br_f (by decide) (nm_r (nI_1 k) (hp a2 c2 1 (Or.inr ⟨rfl, by omega, h21, Or.inr (by omega)⟩) h2 hfr))
theorem yk_42 (ok : tc_ok S) {post : Int32 → SY → Prop} {f_noted : Int32} {f_depth : Int32} {f_rules : Int32} {f_planted : Int32} {f_trees : Int32} {f_known : Int32} {f_listed : Int32} {a_marks : Nat → Int32} {a_sizes : Nat → Int32} {a_lefts : Nat → Int32} {a_costs : Nat → Int32} {a_lengths : Nat → Int32} {a_operators : Nat → Int32} {a_spans : Nat → Int32} {a_ways : Nat → Int32} {a_tasks : Nat → Int32} {a_list : Nat → Int32} (hy : tc_yr S len ent f_rules a_lefts a_costs a_lengths a_marks a_sizes) {o many pairs c0 : Nat} (ho : o < 6) (hm21 : many ≤ 21) (hp0 : o < 2 → pairs = 1) (hp2 : 2 ≤ o → o < 4 → pairs = many) (hp4 : 4 ≤ o → pairs = many * many) {a0 : Nat → Int32}
    (hp : ∀ (a' : Nat → Int32) (c' : Nat) (r : Int32), (r = 0 ∧ c' = c0) ∨ (r = 1 ∧ c0 < c' ∧ c' ≤ 21) → tc_ys S len ent a' c' → (∀ j, j < 74 * 24 → a' j = a0 j) → post r (f_noted, f_depth, f_rules, f_planted, f_trees, nI c', f_known, f_listed, a_marks, a_sizes, a_lefts, a_costs, a_lengths, a_operators, a_spans, a', a_ways, a_tasks, a_list)) :
    ∀ (d k : Nat), k + d = pairs → ∀ (c : Nat) (x2 : Int32) (a_least : Nat → Int32), (x2 = 0 ∧ c = c0) ∨ (x2 = 1 ∧ c0 < c) → many ≤ c → c ≤ 21 → tc_ys S len ent a_least c → (∀ j, j < 74 * 24 → a_least j = a0 j) →
    ∀ m, d < m → wY_makeStates_42 post (nI o) (nI pairs) (nI many) m x2 (nI k) f_noted f_depth f_rules f_planted f_trees (nI c) f_known f_listed a_marks a_sizes a_lefts a_costs a_lengths a_operators a_spans a_least a_ways a_tasks a_list := by
  have hpb : pairs ≤ 441 := by
    by_cases h2 : o < 2
    · rw [hp0 h2]
      omega
    · by_cases h4 : o < 4
      · rw [hp2 (by omega) h4]
        omega
      · rw [hp4 (by omega)]
        exact Nat.mul_le_mul hm21 hm21
  intro d
  induction d with
  | zero =>
    intro k hk c x2 a_least hx2 hmc hc hs hfr m hm
    obtain ⟨m', rfl⟩ : ∃ m', m = m' + 1 := ⟨m - 1, by omega⟩
    have e : k = pairs := by omega
    subst e
    refine br_t (nI_le (Nat.le_refl _) (by omega)) ?_
    rcases hx2 with ⟨rfl, h⟩ | ⟨rfl, h⟩
    · exact ⟨tc_nb0, hp a_least c 0 (Or.inl ⟨rfl, h⟩) hs hfr⟩
    · exact ⟨tc_nb1, hp a_least c 1 (Or.inr ⟨rfl, h, hc⟩) hs hfr⟩
  | succ d ih =>
    intro k hk c x2 a_least hx2 hmc hc hs hfr m hm
    obtain ⟨m', rfl⟩ : ∃ m', m = m' + 1 := ⟨m - 1, by omega⟩
    have hkp : k < pairs := by omega
    have x01 : x2 = 0 ∨ x2 = 1 := by
      rcases hx2 with ⟨h, _⟩ | ⟨h, _⟩
      · exact Or.inl h
      · exact Or.inr h
    have go : ∀ i j : Nat, i < 21 → j < 21 → (o < 4 → i = j) → (4 ≤ o → i < c) → (2 ≤ o → j < c) → wY_makeStates_85 post (wY_makeStates_42 post (nI o) (nI pairs) (nI many) m') (nI o) x2 (nI pairs) (nI many) (nI k) (nI (24 + i)) (nI j) 24 f_noted f_depth f_rules f_planted f_trees (nI c) f_known f_listed a_marks a_sizes a_lefts a_costs a_lengths a_operators a_spans a_least a_ways a_tasks a_list := fun i j hi hj hij hix hjx => by
      refine yk_85 ok hy ho hc x01 hi hj hij hix hjx hs (fun a' c' r hr h2 h3 => ?_)
      refine ih (k + 1) (by omega) c' r a' ?_ ?_ ?_ h2 (fun j hj => (h3 j hj).trans (hfr j hj)) m' (by omega)
      · rcases hr with ⟨h1, h4, h5⟩ | ⟨h1, h4, h5, h6⟩
        · rcases hx2 with ⟨z1, z2⟩ | ⟨z1, z2⟩
          · exact Or.inl ⟨h1, by omega⟩
          · rw [h4] at z1
            exact absurd z1 (by decide)
        · refine Or.inr ⟨h1, ?_⟩
          rcases hx2 with ⟨z1, z2⟩ | ⟨z1, z2⟩
          · rcases h6 with h6 | h6
            · rw [z1] at h6
              exact absurd h6 (by decide)
            · omega
          · omega
      · rcases hr with ⟨h1, h4, h5⟩ | ⟨h1, h4, h5, h6⟩ <;> omega
      · rcases hr with ⟨h1, h4, h5⟩ | ⟨h1, h4, h5, h6⟩ <;> omega
    have w24 : ∀ i : Nat, (24 : Int32) + nI i = nI (24 + i) := fun i => by rw [show (24 : Int32) = nI 24 from rfl, nI_add]
    refine br_f (nI_ge hkp (by omega)) ?_
    refine pk_le 4 o (fun h4 => ?_) (fun h4 => ?_) rfl rfl (by omega) (by omega)
    · have hpm := hp4 h4
      have hm1 : 1 ≤ many := by
        rcases Nat.eq_zero_or_pos many with h | h
        · rw [h] at hpm
          omega
        · exact h
      have hlt : k / many < many := Nat.div_lt_of_lt_mul (by rw [← hpm]; exact hkp)
      have hmd : k % many < many := Nat.mod_lt _ hm1
      have wd : nI k / nI many = nI (k / many) := pk_div (by omega) hm1 (by omega)
      have wr : nI k - nI k / nI many * nI many = nI (k % many) := pk_rem (by omega) hm1 (by omega)
      refine ⟨nI_ne0 hm1 (by omega), nm_r (e' := nI (24 + k / many)) (by rw [wd, w24]) ?_⟩
      refine br_t (nI_le (a := 4) h4 (by omega)) ⟨nI_ne0 hm1 (by omega), ?_⟩
      rw [wr]
      exact go (k / many) (k % many) (by omega) (by omega) (fun z => by omega) (fun _ => by omega) (fun _ => by omega)
    · have hk21 : k < 21 := by
        by_cases h2 : o < 2
        · have := hp0 h2
          omega
        · have := hp2 (by omega) (by omega)
          omega
      refine nm_r (e' := nI (24 + k)) (w24 k) ?_
      refine br_f (nI_ge (b := 4) (by omega) (by decide)) ?_
      refine go k k hk21 hk21 (fun _ => rfl) (fun z => by omega) (fun z => ?_)
      have := hp2 z (by omega)
      omega
theorem yk_make (ok : tc_ok S) {post : Int32 → SY → Prop} {f_noted : Int32} {f_depth : Int32} {f_rules : Int32} {f_planted : Int32} {f_trees : Int32} {f_stateCount : Int32} {f_known : Int32} {f_listed : Int32} {a_marks : Nat → Int32} {a_sizes : Nat → Int32} {a_lefts : Nat → Int32} {a_costs : Nat → Int32} {a_lengths : Nat → Int32} {a_operators : Nat → Int32} {a_spans : Nat → Int32} {a_least : Nat → Int32} {a_ways : Nat → Int32} {a_tasks : Nat → Int32} {a_list : Nat → Int32} (hy : tc_yr S len ent f_rules a_lefts a_costs a_lengths a_marks a_sizes) {o c : Nat} (ho : o < 6) (hc : c ≤ 21) (hsc : f_stateCount = nI c) (hs : tc_ys S len ent a_least c)
    (hp : ∀ (a' : Nat → Int32) (c' : Nat) (r : Int32), (r = 0 ∧ c' = c) ∨ (r = 1 ∧ c < c' ∧ c' ≤ 21) → tc_ys S len ent a' c' → (∀ j, j < 74 * 24 → a' j = a_least j) → post r (f_noted, f_depth, f_rules, f_planted, f_trees, nI c', f_known, f_listed, a_marks, a_sizes, a_lefts, a_costs, a_lengths, a_operators, a_spans, a', a_ways, a_tasks, a_list)) :
    wpY_makeStates post (f_noted, f_depth, f_rules, f_planted, f_trees, f_stateCount, f_known, f_listed, a_marks, a_sizes, a_lefts, a_costs, a_lengths, a_operators, a_spans, a_least, a_ways, a_tasks, a_list) (nI o) := by
  subst hsc
  refine pk_le 2 o (fun h2 => ?_) (fun h2 => ?_) rfl rfl (by omega) (by omega)
  · refine pk_le 4 o (fun h4 => ?_) (fun h4 => ?_) rfl rfl (by omega) (by omega)
    · refine nm_r (pk_mul c c) ⟨c * c + 1, ?_⟩
      exact yk_42 ok hy ho hc (fun z => by omega) (fun _ z => by omega) (fun _ => rfl) hp (c * c) 0 (by omega) c 0 a_least (Or.inl ⟨rfl, rfl⟩) (Nat.le_refl _) hc hs (fun _ _ => rfl) _ (by omega)
    · exact ⟨c + 1, yk_42 ok hy ho hc (fun z => by omega) (fun _ _ => rfl) (fun z => by omega) hp c 0 (by omega) c 0 a_least (Or.inl ⟨rfl, rfl⟩) (Nat.le_refl _) hc hs (fun _ _ => rfl) _ (by omega)⟩
  · exact ⟨2, yk_42 (pairs := 1) (many := c) ok hy ho hc (fun _ => rfl) (fun z => by omega) (fun z => by omega) hp 1 0 (by omega) c 0 a_least (Or.inl ⟨rfl, rfl⟩) (Nat.le_refl _) hc hs (fun _ _ => rfl) _ (by omega)⟩
theorem yk_32 (ok : tc_ok S) {post : SY → Prop} {J : Int32 → Int32 → Int32 → Int32 → Int32 → Int32 → Int32 → Int32 → Int32 → (Nat → Int32) → (Nat → Int32) → (Nat → Int32) → (Nat → Int32) → (Nat → Int32) → (Nat → Int32) → (Nat → Int32) → (Nat → Int32) → (Nat → Int32) → (Nat → Int32) → (Nat → Int32) → Prop} {f_noted : Int32} {f_depth : Int32} {f_rules : Int32} {f_planted : Int32} {f_trees : Int32} {f_known : Int32} {f_listed : Int32} {a_marks : Nat → Int32} {a_sizes : Nat → Int32} {a_lefts : Nat → Int32} {a_costs : Nat → Int32} {a_lengths : Nat → Int32} {a_operators : Nat → Int32} {a_spans : Nat → Int32} {a_ways : Nat → Int32} {a_tasks : Nat → Int32} {a_list : Nat → Int32} (hy : tc_yr S len ent f_rules a_lefts a_costs a_lengths a_marks a_sizes) {c0 : Nat} {a0 : Nat → Int32}
    (hp : ∀ (a' : Nat → Int32) (c' : Nat) (r : Int32), (r = 0 ∧ c' = c0) ∨ (r = 1 ∧ c0 < c' ∧ c' ≤ 21) → tc_ys S len ent a' c' → (∀ j, j < 74 * 24 → a' j = a0 j) → J r f_noted f_depth f_rules f_planted f_trees (nI c') f_known f_listed a_marks a_sizes a_lefts a_costs a_lengths a_operators a_spans a' a_ways a_tasks a_list) :
    ∀ (d o : Nat), o + d = 6 → ∀ (c : Nat) (x1 : Int32) (a_least : Nat → Int32), (x1 = 0 ∧ c = c0) ∨ (x1 = 1 ∧ c0 < c) → c ≤ 21 → tc_ys S len ent a_least c → (∀ j, j < 74 * 24 → a_least j = a0 j) →
    ∀ m, d < m → wY_findStates_32 post J m x1 (nI o) f_noted f_depth f_rules f_planted f_trees (nI c) f_known f_listed a_marks a_sizes a_lefts a_costs a_lengths a_operators a_spans a_least a_ways a_tasks a_list := by
  intro d
  induction d with
  | zero =>
    intro o ho c x1 a_least hx1 hc hs hfr m hm
    obtain ⟨m', rfl⟩ : ∃ m', m = m' + 1 := ⟨m - 1, by omega⟩
    refine br_t (nI_le (a := 6) (by omega) (by omega)) (hp _ c x1 ?_ hs hfr)
    rcases hx1 with ⟨h1, h2⟩ | ⟨h1, h2⟩
    · exact Or.inl ⟨h1, h2⟩
    · exact Or.inr ⟨h1, h2, hc⟩
  | succ d ih =>
    intro o ho c x1 a_least hx1 hc hs hfr m hm
    obtain ⟨m', rfl⟩ : ∃ m', m = m' + 1 := ⟨m - 1, by omega⟩
    refine br_f (nI_ge (b := 6) (by omega) (by decide)) ?_
    refine yk_make ok hy (by omega) hc rfl hs (fun a' c' r hr h2 h3 => ?_)
    have hf' : ∀ j, j < 74 * 24 → a' j = a0 j := fun j hj => (h3 j hj).trans (hfr j hj)
    rcases hr with ⟨rfl, rfl⟩ | ⟨rfl, h4, h5⟩
    · refine br_t rfl (br_c (fun z => nm_r (nI_1 o) (ih (o + 1) (by omega) c' 0 a' ?_ hc h2 hf' m' (by omega))) (fun z => nm_r (nI_1 o) (ih (o + 1) (by omega) c' 1 a' ?_ hc h2 hf' m' (by omega))))
      · rcases hx1 with ⟨z1, z2⟩ | ⟨z1, z2⟩
        · exact Or.inl ⟨rfl, z2⟩
        · rw [z1] at z
          exact absurd z (by decide)
      · rcases hx1 with ⟨z1, z2⟩ | ⟨z1, z2⟩
        · exact absurd z1 z
        · exact Or.inr ⟨rfl, z2⟩
    · refine br_f (by decide) (nm_r (nI_1 o) (ih (o + 1) (by omega) c' 1 a' (Or.inr ⟨rfl, ?_⟩) h5 h2 hf' m' (by omega)))
      rcases hx1 with ⟨z1, z2⟩ | ⟨z1, z2⟩ <;> omega
theorem yk_15 (ok : tc_ok S) {post : SY → Prop} {f_noted : Int32} {f_depth : Int32} {f_rules : Int32} {f_planted : Int32} {f_trees : Int32} {f_known : Int32} {f_listed : Int32} {a_marks : Nat → Int32} {a_sizes : Nat → Int32} {a_lefts : Nat → Int32} {a_costs : Nat → Int32} {a_lengths : Nat → Int32} {a_operators : Nat → Int32} {a_spans : Nat → Int32} {a_ways : Nat → Int32} {a_tasks : Nat → Int32} {a_list : Nat → Int32} (hy : tc_yr S len ent f_rules a_lefts a_costs a_lengths a_marks a_sizes) {a0 : Nat → Int32}
    (hp : ∀ (a' : Nat → Int32) (c' : Nat), c' ≤ 21 → tc_ys S len ent a' c' → (∀ j, j < 74 * 24 → a' j = a0 j) → post (f_noted, f_depth, f_rules, f_planted, f_trees, nI c', 1, f_listed, a_marks, a_sizes, a_lefts, a_costs, a_lengths, a_operators, a_spans, a', a_ways, a_tasks, a_list)) :
    ∀ (d c : Nat), c + d = 21 → ∀ (x1 : Int32) (a_least : Nat → Int32), tc_ys S len ent a_least c → (∀ j, j < 74 * 24 → a_least j = a0 j) → ∀ m, d + 1 < m → wY_findStates_15 post m x1 f_noted f_depth f_rules f_planted f_trees (nI c) f_known f_listed a_marks a_sizes a_lefts a_costs a_lengths a_operators a_spans a_least a_ways a_tasks a_list := by
  intro d
  induction d using Nat.strongRecOn with
  | ind d ih =>
    intro c hcd x1 a_least hs hfr m hm
    obtain ⟨m', rfl⟩ : ∃ m', m = m' + 1 := ⟨m - 1, by omega⟩
    refine br_c (fun _ => hp _ c (by omega) hs hfr) (fun _ => ?_)
    refine pk_le 21 c (fun _ => hp _ c (by omega) hs hfr) (fun h => ⟨7, ?_⟩) rfl rfl (by omega) (by omega)
    refine yk_32 ok hy (c0 := c) (a0 := a0) (fun a' c' r hr h2 h3 => ?_) 6 0 (by omega) c 0 a_least (Or.inl ⟨rfl, rfl⟩) (by omega) hs hfr 7 (by omega)
    rcases hr with ⟨rfl, rfl⟩ | ⟨rfl, h4, h5⟩
    · obtain ⟨m'', rfl⟩ : ∃ m'', m' = m'' + 1 := ⟨m' - 1, by omega⟩
      exact br_t rfl (hp a' c' (by omega) h2 h3)
    · exact ih (21 - c') (by omega) c' (by omega) 1 a' h2 h3 m' (by omega)
theorem yk_find (ok : tc_ok S) {post : SY → Prop} {f_noted : Int32} {f_depth : Int32} {f_rules : Int32} {f_planted : Int32} {f_trees : Int32} {f_stateCount : Int32} {f_known : Int32} {f_listed : Int32} {a_marks : Nat → Int32} {a_sizes : Nat → Int32} {a_lefts : Nat → Int32} {a_costs : Nat → Int32} {a_lengths : Nat → Int32} {a_operators : Nat → Int32} {a_spans : Nat → Int32} {a_least : Nat → Int32} {a_ways : Nat → Int32} {a_tasks : Nat → Int32} {a_list : Nat → Int32} (hy : tc_yr S len ent f_rules a_lefts a_costs a_lengths a_marks a_sizes) {c : Nat} (hc : c ≤ 21) (hsc : f_stateCount = nI c)
    (hp : ∀ (a' : Nat → Int32) (c' : Nat) (kn : Int32), c' ≤ 21 → (∀ j, j < 74 * 24 → a' j = a_least j) → post (f_noted, f_depth, f_rules, f_planted, f_trees, nI c', kn, f_listed, a_marks, a_sizes, a_lefts, a_costs, a_lengths, a_operators, a_spans, a', a_ways, a_tasks, a_list)) : wpY_findStates post (f_noted, f_depth, f_rules, f_planted, f_trees, f_stateCount, f_known, f_listed, a_marks, a_sizes, a_lefts, a_costs, a_lengths, a_operators, a_spans, a_least, a_ways, a_tasks, a_list) := by
  subst hsc
  refine br_c (fun _ => ⟨24, ?_⟩) (fun _ => hp a_least c f_known hc (fun _ _ => rfl))
  exact yk_15 ok hy (a0 := a_least) (fun a' c' h1 h2 h3 => hp a' c' 1 h1 h3) 21 0 (by omega) 1 a_least (fun j hj => absurd hj (Nat.not_lt_zero _)) (fun _ _ => rfl) 24 (by omega)
theorem yk_cov_19 {post : Int32 → SY → Prop} {f_noted : Int32} {f_depth : Int32} {f_rules : Int32} {f_planted : Int32} {f_trees : Int32} {f_stateCount : Int32} {f_known : Int32} {f_listed : Int32} {a_marks : Nat → Int32} {a_sizes : Nat → Int32} {a_lefts : Nat → Int32} {a_costs : Nat → Int32} {a_lengths : Nat → Int32} {a_operators : Nat → Int32} {a_spans : Nat → Int32} {a_least : Nat → Int32} {a_ways : Nat → Int32} {a_tasks : Nat → Int32} {a_list : Nat → Int32} {g c : Nat} (hg : g < 4) (hc : c ≤ 21) (hsc : f_stateCount = nI c) (hp : ∀ r, post r (f_noted, f_depth, f_rules, f_planted, f_trees, f_stateCount, f_known, f_listed, a_marks, a_sizes, a_lefts, a_costs, a_lengths, a_operators, a_spans, a_least, a_ways, a_tasks, a_list)) : ∀ (d k : Nat), k + d = c → ∀ (z : Int32) (m : Nat), d < m → wY_covering_19 post (nI g) f_noted f_depth f_rules f_planted f_trees f_stateCount f_known f_listed a_marks a_sizes a_lefts a_costs a_lengths a_operators a_spans a_least a_ways a_tasks a_list m z (nI k) := by
  subst hsc
  intro d
  induction d with
  | zero =>
    intro k hk z m hm
    obtain ⟨m', rfl⟩ : ∃ m', m = m' + 1 := ⟨m - 1, by omega⟩
    exact br_t (nI_le (by omega) (by omega)) (br_c (fun _ => hp _) (fun _ => hp _))
  | succ d ih =>
    intro k hk z m hm
    obtain ⟨m', rfl⟩ : ∃ m', m = m' + 1 := ⟨m - 1, by omega⟩
    have w : (74 : Int32) * (24 + nI k) + nI g = nI (74 * (24 + k) + g) := by rw [show (24 : Int32) = nI 24 from rfl, nI_add, show (74 : Int32) = nI 74 from rfl, pk_mul, nI_add]
    refine br_f (nI_ge (by omega) (by omega)) ⟨by rw [w]; exact vp_in_nI (by omega) (by decide), ?_⟩
    exact br_c (fun _ => nm_r (nI_1 k) (ih (k + 1) (by omega) z m' (by omega))) (fun _ => nm_e (nm_r (nI_1 k) (ih (k + 1) (by omega) _ m' (by omega))))
end
end
section
/-! the relation, and the methods that build -/
def tc_rel (u : SX) (v : SY) : Prop := ∃ (S : tc_S) (len : Nat → Nat) (ent : Nat → Nat → Nat) (pn pd : Nat) (py pz pk : Nat → Nat) (tn td : Nat) (ty tz tk : Nat → Nat),
  tc_G S pn pd py pz pk tn td ty tz tk ∧ tc_RX S pn pd py pz pk tn td ty tz tk u ∧ tc_RY S len ent pn pd py pz tn td ty tz v
theorem cm_init : wpX_init (fun u => wpY_init (fun v => tc_rel u v)) := by
  refine ⟨(0, fun _ => 4, fun _ => 0, fun _ => 0, fun _ => 0, fun _ => 0, fun _ => 0, fun _ => 0), fun _ => 0, fun _ _ => 0, 0, 0, fun _ => 0, fun _ => 0, fun _ => 0, 0, 0, fun _ => 0, fun _ => 0, fun _ => 0,
    ⟨⟨by show 0 ≤ 10; omega, rfl, fun r hr => absurd hr (Nat.not_lt_zero _), fun e h1 h2 => absurd (show e < 4 from h2) (by omega)⟩, tc_fo_nil _ _ _, by omega, by omega, fun i hi => absurd hi (Nat.not_lt_zero _), tc_fo_nil _ _ _, by omega, by omega, fun i hi => absurd hi (Nat.not_lt_zero _)⟩,
    ⟨⟨rfl, rfl, fun r hr => absurd hr (Nat.not_lt_zero _), fun e h1 h2 => absurd (show e < 4 from h2) (by omega)⟩, ⟨rfl, rfl, fun k hk => absurd hk (Nat.not_lt_zero _), fun i hi => absurd hi (Nat.not_lt_zero _)⟩, ⟨rfl, rfl, fun k hk => absurd hk (Nat.not_lt_zero _), fun i hi => absurd hi (Nat.not_lt_zero _)⟩⟩,
    ⟨⟨rfl, fun r hr => absurd hr (Nat.not_lt_zero _), fun r e hr => absurd hr (Nat.not_lt_zero _)⟩, ⟨rfl, rfl, fun i hi => absurd hi (Nat.not_lt_zero _)⟩, ⟨rfl, rfl, fun i hi => absurd hi (Nat.not_lt_zero _)⟩, 0, rfl, by omega⟩⟩
theorem xp_push' {pn pd : Nat} {py pz pk : Nat → Nat} {post : SX → Prop} {f_patternDepth : Int32} {f_patternNodes : Int32} {f_ruleCount : Int32} {f_entryCount : Int32} {f_treeDepth : Int32} {f_treeNodes : Int32} {f_stateCount : Int32} {f_coverLength : Int32} {f_pendingCount : Int32} {a_patternStack : Nat → Int32} {a_patternSymbol : Nat → Int32} {a_patternFirst : Nat → Int32} {a_patternLast : Nat → Int32} {a_patternEntry : Nat → Int32} {a_ruleLeft : Nat → Int32} {a_ruleCost : Nat → Int32} {a_ruleEntry : Nat → Int32} {a_ruleStart : Nat → Int32} {a_entryOperator : Nat → Int32} {a_entryFirst : Nat → Int32} {a_entryLast : Nat → Int32} {a_treeStack : Nat → Int32} {a_treeOperator : Nat → Int32} {a_treeFirst : Nat → Int32} {a_treeLast : Nat → Int32} {a_treeSize : Nat → Int32} {a_treeCosts : Nat → Int32} {a_treeWays : Nat → Int32} {a_stateCosts : Nat → Int32} {a_cover : Nat → Int32} {a_pendingEntry : Nat → Int32} {a_pendingNode : Nat → Int32} {si a : Int32} {s : Nat} (h1 : si = nI s) (h2 : a = nI (tc_as s)) (F : tc_fo pn pd py pz pk) (hN : pn < 7) (hp6 : pd ≤ 6) (hx : tc_xp pn pd py pz pk f_patternDepth f_patternNodes a_patternStack a_patternSymbol a_patternFirst a_patternLast)
    (hs : s < 10) (ha : tc_as s ≤ pd) (hd : pd - tc_as s < 6)
    (hp : ∀ (d n : Int32) (st sy fi la : Nat → Int32), tc_xp (pn + 1) (pd - tc_as s + 1) (tc_un py pn s) (tc_un pz pn (tc_sz pz pn (tc_as s))) (tc_un pk (pd - tc_as s) pn) d n st sy fi la →
      post (d, n, f_ruleCount, f_entryCount, f_treeDepth, f_treeNodes, f_stateCount, f_coverLength, f_pendingCount, st, sy, fi, la, a_patternEntry, a_ruleLeft, a_ruleCost, a_ruleEntry, a_ruleStart, a_entryOperator, a_entryFirst, a_entryLast, a_treeStack, a_treeOperator, a_treeFirst, a_treeLast, a_treeSize, a_treeCosts, a_treeWays, a_stateCosts, a_cover, a_pendingEntry, a_pendingNode)) :
    wpX_pushPattern post (f_patternDepth, f_patternNodes, f_ruleCount, f_entryCount, f_treeDepth, f_treeNodes, f_stateCount, f_coverLength, f_pendingCount, a_patternStack, a_patternSymbol, a_patternFirst, a_patternLast, a_patternEntry, a_ruleLeft, a_ruleCost, a_ruleEntry, a_ruleStart, a_entryOperator, a_entryFirst, a_entryLast, a_treeStack, a_treeOperator, a_treeFirst, a_treeLast, a_treeSize, a_treeCosts, a_treeWays, a_stateCosts, a_cover, a_pendingEntry, a_pendingNode) si a := by
  subst h1 h2
  exact xp_push F hN hp6 hx hs ha hd hp
theorem yp_push' {S : tc_S} {len : Nat → Nat} {ent : Nat → Nat → Nat} {pn pd : Nat} {py pz pk : Nat → Nat} (ok : tc_ok S) {post : Int32 → SY → Prop} {f_noted : Int32} {f_depth : Int32} {f_rules : Int32} {f_planted : Int32} {f_trees : Int32} {f_stateCount : Int32} {f_known : Int32} {f_listed : Int32} {a_marks : Nat → Int32} {a_sizes : Nat → Int32} {a_lefts : Nat → Int32} {a_costs : Nat → Int32} {a_lengths : Nat → Int32} {a_operators : Nat → Int32} {a_spans : Nat → Int32} {a_least : Nat → Int32} {a_ways : Nat → Int32} {a_tasks : Nat → Int32} {a_list : Nat → Int32} {mi a : Int32} {s : Nat} (h1 : mi = nI (tc_mk s)) (h2 : a = nI (tc_as s)) (F : tc_fo pn pd py pz pk) (hN : pn < 7) (hp6 : pd ≤ 6)
    (hr : tc_yr S len ent f_rules a_lefts a_costs a_lengths a_marks a_sizes) (hy : tc_yp pn pd py pz f_noted f_depth a_marks a_sizes) (hs : s < 10) (ha : tc_as s ≤ pd)
    (hp : ∀ (no de : Int32) (mk sz : Nat → Int32), tc_yr S len ent f_rules a_lefts a_costs a_lengths mk sz → tc_yp (pn + 1) (pd - tc_as s + 1) (tc_un py pn s) (tc_un pz pn (tc_sz pz pn (tc_as s))) no de mk sz →
      post (nI (pd - tc_as s + 1)) (no, de, f_rules, f_planted, f_trees, f_stateCount, f_known, f_listed, mk, sz, a_lefts, a_costs, a_lengths, a_operators, a_spans, a_least, a_ways, a_tasks, a_list)) :
    wpY_push post (f_noted, f_depth, f_rules, f_planted, f_trees, f_stateCount, f_known, f_listed, a_marks, a_sizes, a_lefts, a_costs, a_lengths, a_operators, a_spans, a_least, a_ways, a_tasks, a_list) mi a := by
  subst h1 h2
  exact yp_push ok F hN hp6 hr hy hs ha hp
theorem tc_pos_hi {x : Int32} {n : Nat} (h : nI n ≤ x) (hn : n < 2 ^ 31) : ¬ x < 0 := fun z => by
  have h2 : (0 : Int32) ≤ nI n := nI_pos' hn
  exact Int32.lt_irrefl (Int32.lt_of_le_of_lt (Int32.le_trans h2 h) z)
theorem tc_nle_hi {x : Int32} {n : Nat} (h : nI (n + 1) ≤ x) (hn : n + 1 < 2 ^ 31) : ¬ x ≤ nI n := fun z =>
  absurd (Int32.le_trans h z) (nI_ge (by omega) hn)
theorem tc_half {o : Nat} (h : o < 6) : o / 2 = tc_as o := by
  rcases tc_as_c o with ⟨e, h1⟩ | ⟨e, h1, h2⟩ | ⟨e, h1, h2⟩ <;> omega
theorem tc_un10 {py : Nat → Nat} {pn s n : Nat} (h : ∀ i, i < pn → py i < n) (hs : s < n) : ∀ i, i < pn + 1 → tc_un py pn s i < n := fun i hi => by
  by_cases c : i = pn
  · rw [c, tc_us]
    exact hs
  · rw [tc_ne c]
    exact h i (by omega)
section
variable {Q : Int32 → SX → Int32 → SY → Prop}
theorem cm_goal {u : SX} {v : SY} (I : tc_rel u v) (hQ : ∀ r u' v', tc_rel u' v' → Q r u' r v') (v1 : Int32) : wpX_goal (fun r u' => wpY_goal (fun r' v' => Q r u' r' v') v v1) u v1 := by
  obtain ⟨S, len, ent, pn, pd, py, pz, pk, tn, td, ty, tz, tk, G, hX, hY⟩ := I
  obtain ⟨f_patternDepth, f_patternNodes, f_ruleCount, f_entryCount, f_treeDepth, f_treeNodes, f_stateCount, f_coverLength, f_pendingCount, a_patternStack, a_patternSymbol, a_patternFirst, a_patternLast, a_patternEntry, a_ruleLeft, a_ruleCost, a_ruleEntry, a_ruleStart, a_entryOperator, a_entryFirst, a_entryLast, a_treeStack, a_treeOperator, a_treeFirst, a_treeLast, a_treeSize, a_treeCosts, a_treeWays, a_stateCosts, a_cover, a_pendingEntry, a_pendingNode⟩ := u
  obtain ⟨f_noted, f_depth, f_rules, f_planted, f_trees, g_stateCount, f_known, f_listed, a_marks, a_sizes, a_lefts, a_costs, a_lengths, a_operators, a_spans, a_least, a_ways, a_tasks, a_list⟩ := v
  have same : ∀ r, Q r _ r _ := fun r => hQ r _ _ ⟨S, len, ent, pn, pd, py, pz, pk, tn, td, ty, tz, tk, G, hX, hY⟩
  obtain ⟨ok, F, p7, p6, p10, T, t24, t8, t6⟩ := G
  obtain ⟨xr, xp, xt⟩ := hX
  obtain ⟨yr, yp, yt, cc⟩ := hY
  unfold wpX_goal
  rcases pk_ix v1 (n := 4) (by decide) with h | h | ⟨g, hg, rfl⟩
  · exact xm_goal_lo h (br_t rfl (br_t h (same _)))
  · exact xm_goal_hi h (br_t rfl (br_f (tc_pos_hi h (by decide)) (br_f (tc_nle_hi (n := 3) h (by decide)) (same _))))
  · refine xm_goal_ok hg (br_f (by decide) ?_)
    refine pk_le 6 pd (fun h => ?_) (fun h => ?_) rfl xp.1 (by omega) (by omega)
    · exact br_f (nI_pos (by omega)) (br_t (nI_le (b := 3) (by omega) (by decide)) (br_t (by rw [yp.2.1]; exact congrArg nI (show pd = 6 by omega)) (same _)))
    · refine pk_lt pn 7 (fun h7 => ?_) (fun h7 => ?_) xp.2.1 rfl (by omega) (by omega)
      · refine xp_push' (s := 6 + g) (by rw [show (6 : Int32) = nI 6 from rfl, nI_add]) (by rw [tc_as0 (by omega)]; rfl) F h7 p6 xp (by omega) (by rw [tc_as0 (by omega)]; omega) (by rw [tc_as0 (by omega)]; omega) (fun d n st sy fi la hx' => ?_)
        refine br_f (nI_pos (by omega)) (br_t (nI_le (b := 3) (by omega) (by decide)) (br_f (by rw [yp.2.1]; exact fun z => by have := (nI_eq (b := 6) (by omega) (by decide)).mp z; omega) (br_f (by rw [yp.1]; exact fun z => by have := (nI_eq (b := 7) (by omega) (by decide)).mp z; omega) ?_)))
        refine yp_push' (s := 6 + g) ok (by rw [show (10 : Int32) = nI 10 from rfl, nI_add]; unfold tc_mk; rw [if_neg (by omega)]; exact congrArg nI (by omega)) (by rw [tc_as0 (by omega)]; rfl) F h7 p6 yr yp (by omega) (by rw [tc_as0 (by omega)]; omega) (fun no de mk sz hr' hy' => ?_)
        rw [hx'.1]
        exact hQ _ _ _ ⟨S, len, ent, _, _, _, _, _, tn, td, ty, tz, tk, ⟨ok, tc_fo_push F (by rw [tc_as0 (by omega)]; omega), by omega, by rw [tc_as0 (by omega)]; omega, tc_un10 p10 (by omega), T, t24, t8, t6⟩, ⟨xr, by rw [← hx'.1]; exact hx', xt⟩, ⟨hr', hy', yt, cc⟩⟩
      · exact br_f (nI_pos (by omega)) (br_t (nI_le (b := 3) (by omega) (by decide)) (br_f (by rw [yp.2.1]; exact fun z => by have := (nI_eq (b := 6) (by omega) (by decide)).mp z; omega) (br_t (by rw [yp.1]; exact congrArg nI (show pn = 7 by omega)) (same _))))
theorem cm_pattern {u : SX} {v : SY} (I : tc_rel u v) (hQ : ∀ r u' v', tc_rel u' v' → Q r u' r v') (v1 : Int32) : wpX_pattern (fun r u' => wpY_pattern (fun r' v' => Q r u' r' v') v v1) u v1 := by
  obtain ⟨S, len, ent, pn, pd, py, pz, pk, tn, td, ty, tz, tk, G, hX, hY⟩ := I
  obtain ⟨f_patternDepth, f_patternNodes, f_ruleCount, f_entryCount, f_treeDepth, f_treeNodes, f_stateCount, f_coverLength, f_pendingCount, a_patternStack, a_patternSymbol, a_patternFirst, a_patternLast, a_patternEntry, a_ruleLeft, a_ruleCost, a_ruleEntry, a_ruleStart, a_entryOperator, a_entryFirst, a_entryLast, a_treeStack, a_treeOperator, a_treeFirst, a_treeLast, a_treeSize, a_treeCosts, a_treeWays, a_stateCosts, a_cover, a_pendingEntry, a_pendingNode⟩ := u
  obtain ⟨f_noted, f_depth, f_rules, f_planted, f_trees, g_stateCount, f_known, f_listed, a_marks, a_sizes, a_lefts, a_costs, a_lengths, a_operators, a_spans, a_least, a_ways, a_tasks, a_list⟩ := v
  have same : ∀ r, Q r _ r _ := fun r => hQ r _ _ ⟨S, len, ent, pn, pd, py, pz, pk, tn, td, ty, tz, tk, G, hX, hY⟩
  obtain ⟨ok, F, p7, p6, p10, T, t24, t8, t6⟩ := G
  obtain ⟨xr, xp, xt⟩ := hX
  obtain ⟨yr, yp, yt, cc⟩ := hY
  unfold wpX_pattern
  rcases pk_ix v1 (n := 6) (by decide) with h | h | ⟨o, ho, rfl⟩
  · exact xm_oper_lo h (br_t rfl (br_t h (same _)))
  · exact xm_oper_hi h (br_t rfl (br_f (tc_pos_hi h (by decide)) (br_f (tc_nle_hi (n := 5) h (by decide)) (same _))))
  · refine xm_oper_ok ho (br_f (by decide) ?_)
    refine xm_parts (by omega) ?_
    rw [← tc_as_ar ho]
    have hdiv : nI o / 2 = nI (tc_as o) := by rw [show (2 : Int32) = nI 2 from rfl, pk_div (by omega) (by decide) (by decide), tc_half ho]
    have h3 : tc_as o ≤ 2 := by rcases tc_as_c o with ⟨e, h1⟩ | ⟨e, h1, h2⟩ | ⟨e, h1, h2⟩ <;> omega
    have yy : ∀ P : Int32 → Prop, P (nI (tc_as o)) → wpY_partsOf P (f_noted, f_depth, f_rules, f_planted, f_trees, g_stateCount, f_known, f_listed, a_marks, a_sizes, a_lefts, a_costs, a_lengths, a_operators, a_spans, a_least, a_ways, a_tasks, a_list) (nI o) := fun P hP => ⟨by decide, by rw [hdiv]; exact hP⟩
    refine pk_le (tc_as o) pd (fun h => ?_) (fun h => ?_) rfl xp.1 (by omega) (by omega)
    · refine pk_le 6 (pd - tc_as o) (fun h6 => ?_) (fun h6 => ?_) rfl (by rw [xp.1, pk_sub h]) (by omega) (by omega)
      · refine br_f (nI_pos (by omega)) (br_t (nI_le (b := 5) (by omega) (by decide)) (yy _ (br_t (by rw [yp.2.1]; exact nI_le h (by omega)) (br_t ?_ (same _)))))
        rw [yp.2.1, nI_1, pk_sub (by omega)]
        exact nI_lt (a := 6) (by omega) (by omega)
      · have y6 : ¬ (6 : Int32) < f_depth + 1 - nI (tc_as o) := by
          rw [yp.2.1, nI_1, pk_sub (by omega)]
          exact nI_nlt (b := pd + 1 - tc_as o) (a := 6) (by omega) (by omega)
        refine pk_lt pn 7 (fun h7 => ?_) (fun h7 => ?_) xp.2.1 rfl (by omega) (by omega)
        · refine xp_push' (s := o) rfl rfl F h7 p6 xp (by omega) h h6 (fun d n st sy fi la hx' => ?_)
          refine br_f (nI_pos (by omega)) (br_t (nI_le (b := 5) (by omega) (by decide)) (yy _ (br_t (by rw [yp.2.1]; exact nI_le h (by omega)) (br_f y6 (br_f (by rw [yp.1]; exact fun z => by have := (nI_eq (b := 7) (by omega) (by decide)).mp z; omega) ?_)))))
          refine yp_push' (s := o) ok (by unfold tc_mk; rw [if_pos ho]) rfl F h7 p6 yr yp (by omega) h (fun no de mk sz hr' hy' => ?_)
          rw [hx'.1]
          exact hQ _ _ _ ⟨S, len, ent, _, _, _, _, _, tn, td, ty, tz, tk, ⟨ok, tc_fo_push F h, by omega, by omega, tc_un10 p10 (by omega), T, t24, t8, t6⟩, ⟨xr, by rw [← hx'.1]; exact hx', xt⟩, ⟨hr', hy', yt, cc⟩⟩
        · exact br_f (nI_pos (by omega)) (br_t (nI_le (b := 5) (by omega) (by decide)) (yy _ (br_t (by rw [yp.2.1]; exact nI_le h (by omega)) (br_f y6 (br_t (by rw [yp.1]; exact congrArg nI (show pn = 7 by omega)) (same _))))))
    · exact br_f (nI_pos (by omega)) (br_t (nI_le (b := 5) (by omega) (by decide)) (yy _ (br_f (by rw [yp.2.1]; exact nI_ge h (by omega)) (same _))))
theorem cm_scrap {u : SX} {v : SY} (I : tc_rel u v) (hQ : ∀ r u' v', tc_rel u' v' → Q r u' r v') : wpX_scrap (fun r u' => wpY_scrap (fun r' v' => Q r u' r' v') v) u := by
  obtain ⟨S, len, ent, pn, pd, py, pz, pk, tn, td, ty, tz, tk, G, hX, hY⟩ := I
  obtain ⟨f_patternDepth, f_patternNodes, f_ruleCount, f_entryCount, f_treeDepth, f_treeNodes, f_stateCount, f_coverLength, f_pendingCount, a_patternStack, a_patternSymbol, a_patternFirst, a_patternLast, a_patternEntry, a_ruleLeft, a_ruleCost, a_ruleEntry, a_ruleStart, a_entryOperator, a_entryFirst, a_entryLast, a_treeStack, a_treeOperator, a_treeFirst, a_treeLast, a_treeSize, a_treeCosts, a_treeWays, a_stateCosts, a_cover, a_pendingEntry, a_pendingNode⟩ := u
  obtain ⟨f_noted, f_depth, f_rules, f_planted, f_trees, g_stateCount, f_known, f_listed, a_marks, a_sizes, a_lefts, a_costs, a_lengths, a_operators, a_spans, a_least, a_ways, a_tasks, a_list⟩ := v
  obtain ⟨ok, F, p7, p6, p10, T, t24, t8, t6⟩ := G
  obtain ⟨xr, ⟨x1, x2, x3, x4⟩, xt⟩ := hX
  obtain ⟨yr, ⟨y1, y2, y3⟩, yt, cc⟩ := hY
  subst x1 y2
  exact hQ _ _ _ ⟨S, len, ent, 0, 0, py, pz, pk, tn, td, ty, tz, tk, ⟨ok, tc_fo_nil _ _ _, by omega, by omega, fun i hi => absurd hi (Nat.not_lt_zero _), T, t24, t8, t6⟩, ⟨xr, ⟨rfl, rfl, fun k hk => absurd hk (Nat.not_lt_zero _), fun i hi => absurd hi (Nat.not_lt_zero _)⟩, xt⟩, ⟨yr, ⟨rfl, rfl, fun i hi => absurd hi (Nat.not_lt_zero _)⟩, yt, cc⟩⟩
theorem cm_fell {u : SX} {v : SY} (I : tc_rel u v) (hQ : ∀ r u' v', tc_rel u' v' → Q r u' r v') : wpX_fell (fun r u' => wpY_fell (fun r' v' => Q r u' r' v') v) u := by
  obtain ⟨S, len, ent, pn, pd, py, pz, pk, tn, td, ty, tz, tk, G, hX, hY⟩ := I
  obtain ⟨f_patternDepth, f_patternNodes, f_ruleCount, f_entryCount, f_treeDepth, f_treeNodes, f_stateCount, f_coverLength, f_pendingCount, a_patternStack, a_patternSymbol, a_patternFirst, a_patternLast, a_patternEntry, a_ruleLeft, a_ruleCost, a_ruleEntry, a_ruleStart, a_entryOperator, a_entryFirst, a_entryLast, a_treeStack, a_treeOperator, a_treeFirst, a_treeLast, a_treeSize, a_treeCosts, a_treeWays, a_stateCosts, a_cover, a_pendingEntry, a_pendingNode⟩ := u
  obtain ⟨f_noted, f_depth, f_rules, f_planted, f_trees, g_stateCount, f_known, f_listed, a_marks, a_sizes, a_lefts, a_costs, a_lengths, a_operators, a_spans, a_least, a_ways, a_tasks, a_list⟩ := v
  obtain ⟨ok, F, p7, p6, p10, T, t24, t8, t6⟩ := G
  obtain ⟨xr, xp, ⟨x1, x2, x3, x4⟩⟩ := hX
  obtain ⟨yr, yp, ⟨y1, y2, y3⟩, cc⟩ := hY
  subst x1 y2
  exact hQ _ _ _ ⟨S, len, ent, pn, pd, py, pz, pk, 0, 0, ty, tz, tk, ⟨ok, F, p7, p6, p10, tc_fo_nil _ _ _, by omega, by omega, fun i hi => absurd hi (Nat.not_lt_zero _)⟩, ⟨xr, xp, ⟨rfl, rfl, fun k hk => absurd hk (Nat.not_lt_zero _), fun i hi => absurd hi (Nat.not_lt_zero _)⟩⟩, ⟨yr, yp, ⟨rfl, rfl, fun i hi => absurd hi (Nat.not_lt_zero _)⟩, cc⟩⟩
theorem cm_tree {u : SX} {v : SY} (I : tc_rel u v) (hQ : ∀ r u' v', tc_rel u' v' → Q r u' r v') (v1 : Int32) : wpX_tree (fun r u' => wpY_tree (fun r' v' => Q r u' r' v') v v1) u v1 := by
  obtain ⟨S, len, ent, pn, pd, py, pz, pk, tn, td, ty, tz, tk, G, hX, hY⟩ := I
  obtain ⟨f_patternDepth, f_patternNodes, f_ruleCount, f_entryCount, f_treeDepth, f_treeNodes, f_stateCount, f_coverLength, f_pendingCount, a_patternStack, a_patternSymbol, a_patternFirst, a_patternLast, a_patternEntry, a_ruleLeft, a_ruleCost, a_ruleEntry, a_ruleStart, a_entryOperator, a_entryFirst, a_entryLast, a_treeStack, a_treeOperator, a_treeFirst, a_treeLast, a_treeSize, a_treeCosts, a_treeWays, a_stateCosts, a_cover, a_pendingEntry, a_pendingNode⟩ := u
  obtain ⟨f_noted, f_depth, f_rules, f_planted, f_trees, g_stateCount, f_known, f_listed, a_marks, a_sizes, a_lefts, a_costs, a_lengths, a_operators, a_spans, a_least, a_ways, a_tasks, a_list⟩ := v
  have same : ∀ r, Q r _ r _ := fun r => hQ r _ _ ⟨S, len, ent, pn, pd, py, pz, pk, tn, td, ty, tz, tk, G, hX, hY⟩
  obtain ⟨ok, F, p7, p6, p10, T, t24, t8, t6⟩ := G
  obtain ⟨xr, xp, xt⟩ := hX
  obtain ⟨yr, yp, yt, cc⟩ := hY
  unfold wpX_tree
  rcases pk_ix v1 (n := 6) (by decide) with h | h | ⟨o, ho, rfl⟩
  · exact xm_oper_lo h (br_t rfl (br_t h (same _)))
  · exact xm_oper_hi h (br_t rfl (br_f (tc_pos_hi h (by decide)) (br_f (tc_nle_hi (n := 5) h (by decide)) (same _))))
  · refine xm_oper_ok ho (br_f (by decide) ?_)
    refine xm_parts (by omega) ?_
    rw [← tc_as_ar ho]
    have hdiv : nI o / 2 = nI (tc_as o) := by rw [show (2 : Int32) = nI 2 from rfl, pk_div (by omega) (by decide) (by decide), tc_half ho]
    have h3 : tc_as o ≤ 2 := by rcases tc_as_c o with ⟨e, h1⟩ | ⟨e, h1, h2⟩ | ⟨e, h1, h2⟩ <;> omega
    have yy : ∀ P : Int32 → Prop, P (nI (tc_as o)) → wpY_partsOf P (f_noted, f_depth, f_rules, f_planted, f_trees, g_stateCount, f_known, f_listed, a_marks, a_sizes, a_lefts, a_costs, a_lengths, a_operators, a_spans, a_least, a_ways, a_tasks, a_list) (nI o) := fun P hP => ⟨by decide, by rw [hdiv]; exact hP⟩
    refine pk_le (tc_as o) td (fun h => ?_) (fun h => ?_) rfl xt.1 (by omega) (by omega)
    · refine pk_le 8 (td - tc_as o) (fun h8 => ?_) (fun h8 => ?_) rfl (by rw [xt.1, pk_sub h]) (by omega) (by omega)
      · refine br_f (nI_pos (by omega)) (br_t (nI_le (b := 5) (by omega) (by decide)) (yy _ (br_t (by rw [yt.2.1]; exact nI_le h (by omega)) (br_t ?_ (same _)))))
        rw [yt.2.1, nI_1, pk_sub (by omega)]
        exact nI_lt (a := 8) (by omega) (by omega)
      · have y8 : ¬ (8 : Int32) < f_trees + 1 - nI (tc_as o) := by
          rw [yt.2.1, nI_1, pk_sub (by omega)]
          exact nI_nlt (b := td + 1 - tc_as o) (a := 8) (by omega) (by omega)
        refine pk_lt tn 24 (fun h7 => ?_) (fun h7 => ?_) xt.2.1 rfl (by omega) (by omega)
        · refine xt_push (s := o) T h7 t8 xt ho h h8 (fun d n st op fi la sz hx' => ?_)
          refine br_f (nI_pos (by omega)) (br_t (nI_le (b := 5) (by omega) (by decide)) (yy _ (br_t (by rw [yt.2.1]; exact nI_le h (by omega)) (br_f y8 (br_f (by rw [yt.1]; exact fun z => by have := (nI_eq (b := 24) (by omega) (by decide)).mp z; omega) ?_)))))
          refine yt_push (s := o) T h7 t8 yt ho h (fun pl tr op' sp hy' => ?_)
          rw [hx'.1]
          exact hQ _ _ _ ⟨S, len, ent, pn, pd, py, pz, pk, _, _, _, _, _, ⟨ok, F, p7, p6, p10, tc_fo_push T h, by omega, by omega, tc_un10 t6 ho⟩, ⟨xr, xp, by rw [← hx'.1]; exact hx'⟩, ⟨yr, yp, hy', cc⟩⟩
        · exact br_f (nI_pos (by omega)) (br_t (nI_le (b := 5) (by omega) (by decide)) (yy _ (br_t (by rw [yt.2.1]; exact nI_le h (by omega)) (br_f y8 (br_t (by rw [yt.1]; exact congrArg nI (show tn = 24 by omega)) (same _))))))
    · exact br_f (nI_pos (by omega)) (br_t (nI_le (b := 5) (by omega) (by decide)) (yy _ (br_f (by rw [yt.2.1]; exact nI_ge h (by omega)) (same _))))
theorem cm_unrule {u : SX} {v : SY} (I : tc_rel u v) (hQ : ∀ r u' v', tc_rel u' v' → Q r u' r v') : wpX_unrule (fun r u' => wpY_unrule (fun r' v' => Q r u' r' v') v) u := by
  obtain ⟨S, len, ent, pn, pd, py, pz, pk, tn, td, ty, tz, tk, G, hX, hY⟩ := I
  obtain ⟨f_patternDepth, f_patternNodes, f_ruleCount, f_entryCount, f_treeDepth, f_treeNodes, f_stateCount, f_coverLength, f_pendingCount, a_patternStack, a_patternSymbol, a_patternFirst, a_patternLast, a_patternEntry, a_ruleLeft, a_ruleCost, a_ruleEntry, a_ruleStart, a_entryOperator, a_entryFirst, a_entryLast, a_treeStack, a_treeOperator, a_treeFirst, a_treeLast, a_treeSize, a_treeCosts, a_treeWays, a_stateCosts, a_cover, a_pendingEntry, a_pendingNode⟩ := u
  obtain ⟨f_noted, f_depth, f_rules, f_planted, f_trees, g_stateCount, f_known, f_listed, a_marks, a_sizes, a_lefts, a_costs, a_lengths, a_operators, a_spans, a_least, a_ways, a_tasks, a_list⟩ := v
  have same : ∀ r, Q r _ r _ := fun r => hQ r _ _ ⟨S, len, ent, pn, pd, py, pz, pk, tn, td, ty, tz, tk, G, hX, hY⟩
  obtain ⟨ok, F, p7, p6, p10, T, t24, t8, t6⟩ := G
  obtain ⟨xr, xp, xt⟩ := hX
  obtain ⟨yr, yp, yt, cc⟩ := hY
  have hR := ok.1
  refine pk_eq (tc_R S) 0 (fun h => ?_) (fun h => ?_) xr.1 rfl (by omega) (by omega)
  · exact br_t (by rw [yr.1, h]; rfl) (same _)
  · obtain ⟨k, hk⟩ : ∃ k, tc_R S = k + 1 := ⟨tc_R S - 1, by omega⟩
    have w : f_ruleCount - 1 = nI k := by rw [xr.1, hk, nI_pred]
    have wy : f_rules - 1 = nI k := by rw [yr.1, hk, nI_pred]
    have hup := tc_ok_up ok 1 k (by omega)
    refine nm_r w ⟨vp_in_nI (by omega) (by decide), nm_r (e' := nI (tc_sr S k)) (by rw [nI_clamp (by omega), (xr.2.2.1 k (by omega)).2.2.2]) ?_⟩
    refine br_f (by rw [yr.1]; exact nI_ne0 (by omega) (by omega)) (nm_r wy ?_)
    obtain ⟨R, sr, lf, co, rt, eo, ef, el⟩ := S
    have hk' : R = k + 1 := hk
    have hup' : sr k ≤ sr R := hup
    subst hk'
    refine hQ _ _ _ ⟨(k, sr, lf, co, rt, eo, ef, el), len, ent, pn, pd, py, pz, pk, tn, td, ty, tz, tk, ⟨⟨by show k ≤ 10; have : k + 1 ≤ 10 := hR; omega, ok.2.1, fun r hr => ok.2.2.1 r (Nat.lt_succ_of_lt hr), fun e h1 h2 => ok.2.2.2 e h1 (Nat.lt_of_lt_of_le h2 hup')⟩, F, p7, p6, p10, T, t24, t8, t6⟩,
      ⟨⟨rfl, rfl, fun r hr => xr.2.2.1 r (Nat.lt_succ_of_lt hr), fun e h1 h2 => xr.2.2.2 e h1 (Nat.lt_of_lt_of_le h2 hup')⟩, xp, xt⟩, ⟨⟨rfl, fun r hr => yr.2.1 r (Nat.lt_succ_of_lt hr), fun r e hr => yr.2.2 r e (Nat.lt_succ_of_lt hr)⟩, yp, yt, cc⟩⟩
theorem cm_size {u : SX} {v : SY} {P : Int32 → Int32 → Prop} (I : tc_rel u v) (hQ : ∀ r, tc_rel u v → P r r) : wpX_size (fun r => wpY_size (fun r' => P r r') v) u := by
  have I' := I
  obtain ⟨S, len, ent, pn, pd, py, pz, pk, tn, td, ty, tz, tk, G, hX, hY⟩ := I
  obtain ⟨f_patternDepth, f_patternNodes, f_ruleCount, f_entryCount, f_treeDepth, f_treeNodes, f_stateCount, f_coverLength, f_pendingCount, a_patternStack, a_patternSymbol, a_patternFirst, a_patternLast, a_patternEntry, a_ruleLeft, a_ruleCost, a_ruleEntry, a_ruleStart, a_entryOperator, a_entryFirst, a_entryLast, a_treeStack, a_treeOperator, a_treeFirst, a_treeLast, a_treeSize, a_treeCosts, a_treeWays, a_stateCosts, a_cover, a_pendingEntry, a_pendingNode⟩ := u
  obtain ⟨f_noted, f_depth, f_rules, f_planted, f_trees, g_stateCount, f_known, f_listed, a_marks, a_sizes, a_lefts, a_costs, a_lengths, a_operators, a_spans, a_least, a_ways, a_tasks, a_list⟩ := v
  obtain ⟨ok, F, p7, p6, p10, T, t24, t8, t6⟩ := G
  obtain ⟨xr, xp, xt⟩ := hX
  obtain ⟨yr, yp, yt, cc⟩ := hY
  refine pk_eq td 0 (fun h => ?_) (fun h => ?_) xt.1 rfl (by omega) (by omega)
  · exact br_t (by rw [yt.2.1, h]; rfl) (hQ _ I')
  · obtain ⟨s1, s2⟩ := tc_fo_t1 T (by omega)
    have w : f_treeDepth - 1 = nI (td - 1) := by rw [xt.1, show (1 : Int32) = nI 1 from rfl, pk_sub (by omega)]
    have w2 : f_planted - 1 = nI (tn - 1) := by rw [yt.1, show (1 : Int32) = nI 1 from rfl, pk_sub (by omega)]
    have w3 : a_treeStack (f_treeDepth - 1).toNatClampNeg = nI (tn - 1) := by rw [w, nI_clamp (by omega), xt.2.2.1 (td - 1) (by omega), s2]
    refine ⟨by rw [w]; exact vp_in_nI (by omega) (by decide), by rw [w3]; exact vp_in_nI (by omega) (by decide), ?_⟩
    rw [w3, nI_clamp (by omega), (xt.2.2.2 (tn - 1) (by omega)).2.1]
    refine br_f (by rw [yt.2.1]; exact nI_ne0 (by omega) (by omega)) ⟨by rw [w2]; exact vp_in_nI (by omega) (by decide), ?_⟩
    rw [w2, nI_clamp (by omega), (yt.2.2 (tn - 1) (by omega)).2]
    exact hQ _ I'
end
end
section
theorem tc_tp_q {S : tc_S} (ok : tc_ok S) {tn td : Nat} {ty tz tk : Nat → Nat} (T : tc_fo tn td ty tz tk) (t6 : ∀ i, i < tn → ty i < 6) (hN : tn ≤ 24) {g : Nat} (hg : g < 4) : tc_q 536870912 1000000 (tc_tp S 536870912 ty tz tn td g) (tc_tp S 1000000 ty tz tn td g) := by
  have hE := tc_ok_E ok
  unfold tc_tp
  by_cases h : td = 0
  · rw [if_pos h, if_pos h]
    exact Or.inl ⟨rfl, rfl⟩
  · rw [if_neg h, if_neg h]
    have s1 := (tc_fo_t1 T (by omega)).1
    exact tc_v_q ok (fun i hi => ⟨t6 i hi, T.2.2.2.2.2 i hi⟩) hN (by omega) (by omega) (tn - 1) (by omega) g (by omega)
def tc_gs (K : Nat) (f : Nat → Nat) : Nat → Nat
  | 0 => 0
  | g + 1 => tc_gs K f g + (if f g = K then 0 else 2 ^ g)
theorem tc_gs_lt (K : Nat) (f : Nat → Nat) : ∀ g, tc_gs K f g < 2 ^ g := by
  intro g
  induction g with
  | zero => exact Nat.one_pos
  | succ g ih =>
    show tc_gs K f g + (if f g = K then 0 else 2 ^ g) < 2 ^ (g + 1)
    have e : 2 ^ (g + 1) = 2 ^ g * 2 := Nat.pow_succ 2 g
    split <;> omega
theorem tc_gs_q {K1 K2 : Nat} {f1 f2 : Nat → Nat} (q : ∀ g, g < 4 → tc_q K1 K2 (f1 g) (f2 g)) : ∀ g, g ≤ 4 → tc_gs K1 f1 g = tc_gs K2 f2 g := by
  intro g
  induction g with
  | zero => intro _; rfl
  | succ g ih =>
    intro hg
    have h := q g (by omega)
    show tc_gs K1 f1 g + (if f1 g = K1 then 0 else 2 ^ g) = tc_gs K2 f2 g + (if f2 g = K2 then 0 else 2 ^ g)
    rw [ih (by omega)]
    unfold tc_q at h
    by_cases c : f1 g = K1
    · rw [if_pos c, if_pos (by omega)]
    · rw [if_neg c, if_neg (by omega)]
theorem tc_shl : ∀ g : Fin 4, (1 : Int32) <<< (nI g.val &&& 31) = nI (2 ^ g.val) := by decide +kernel
theorem tc_orl : ∀ g : Fin 4, ∀ s : Fin 8, s.val < 2 ^ g.val → nI s.val ||| ((1 : Int32) <<< (nI g.val &&& 31)) = nI (s.val + 2 ^ g.val) := by decide +kernel
section
variable {S : tc_S} {tn td : Nat} {ty tz tk : Nat → Nat}
theorem xm_goals_4 (ok : tc_ok S) (hF : tc_fo tn td ty tz tk) (h6 : ∀ i, i < tn → ty i < 6) (hN : tn ≤ 24) (hD : td ≤ 8) {post : Int32 → SX → Prop} {f_patternDepth : Int32} {f_patternNodes : Int32} {f_ruleCount : Int32} {f_entryCount : Int32} {f_treeDepth : Int32} {f_treeNodes : Int32} {f_stateCount : Int32} {f_coverLength : Int32} {f_pendingCount : Int32} {a_patternStack : Nat → Int32} {a_patternSymbol : Nat → Int32} {a_patternFirst : Nat → Int32} {a_patternLast : Nat → Int32} {a_patternEntry : Nat → Int32} {a_ruleLeft : Nat → Int32} {a_ruleCost : Nat → Int32} {a_ruleEntry : Nat → Int32} {a_ruleStart : Nat → Int32} {a_entryOperator : Nat → Int32} {a_entryFirst : Nat → Int32} {a_entryLast : Nat → Int32} {a_treeStack : Nat → Int32} {a_treeOperator : Nat → Int32} {a_treeFirst : Nat → Int32} {a_treeLast : Nat → Int32} {a_treeSize : Nat → Int32} {a_treeWays : Nat → Int32} {a_stateCosts : Nat → Int32} {a_cover : Nat → Int32} {a_pendingEntry : Nat → Int32} {a_pendingNode : Nat → Int32}
    (hx : tc_xr S f_ruleCount f_entryCount a_ruleLeft a_ruleCost a_ruleEntry a_ruleStart a_entryOperator a_entryFirst a_entryLast)
    (ht : tc_xt tn td ty tz tk f_treeDepth f_treeNodes a_treeStack a_treeOperator a_treeFirst a_treeLast a_treeSize)
    (hle : ∀ g, g < 4 → tc_tp S 536870912 ty tz tn td g ≤ 536870912)
    (hp : ∀ a', post (nI (tc_gs 536870912 (tc_tp S 536870912 ty tz tn td) 4)) (f_patternDepth, f_patternNodes, f_ruleCount, f_entryCount, f_treeDepth, f_treeNodes, f_stateCount, f_coverLength, f_pendingCount, a_patternStack, a_patternSymbol, a_patternFirst, a_patternLast, a_patternEntry, a_ruleLeft, a_ruleCost, a_ruleEntry, a_ruleStart, a_entryOperator, a_entryFirst, a_entryLast, a_treeStack, a_treeOperator, a_treeFirst, a_treeLast, a_treeSize, a', a_treeWays, a_stateCosts, a_cover, a_pendingEntry, a_pendingNode)) :
    ∀ (d g : Nat), g + d = 4 → ∀ (a_treeCosts : Nat → Int32) (m : Nat), d < m → wX_goals_4 post m (nI (tc_gs 536870912 (tc_tp S 536870912 ty tz tn td) g)) (nI g) f_patternDepth f_patternNodes f_ruleCount f_entryCount f_treeDepth f_treeNodes f_stateCount f_coverLength f_pendingCount a_patternStack a_patternSymbol a_patternFirst a_patternLast a_patternEntry a_ruleLeft a_ruleCost a_ruleEntry a_ruleStart a_entryOperator a_entryFirst a_entryLast a_treeStack a_treeOperator a_treeFirst a_treeLast a_treeSize a_treeCosts a_treeWays a_stateCosts a_cover a_pendingEntry a_pendingNode := by
  intro d
  induction d with
  | zero =>
    intro g hg a_treeCosts m hm
    obtain ⟨m', rfl⟩ : ∃ m', m = m' + 1 := ⟨m - 1, by omega⟩
    have e : g = 4 := by omega
    subst e
    exact br_t (nI_le (a := 4) (Nat.le_refl _) (by decide)) (hp _)
  | succ d ih =>
    intro g hg a_treeCosts m hm
    obtain ⟨m', rfl⟩ : ∃ m', m = m' + 1 := ⟨m - 1, by omega⟩
    have hg4 : g < 4 := by omega
    have e0 : tc_gs 536870912 (tc_tp S 536870912 ty tz tn td) (g + 1) = tc_gs 536870912 (tc_tp S 536870912 ty tz tn td) g + (if tc_tp S 536870912 ty tz tn td g = 536870912 then 0 else 2 ^ g) := rfl
    have hl := hle g hg4
    refine br_f (nI_ge (b := 4) hg4 (by decide)) ?_
    refine xq_top ok hF h6 hN hD hg4 hx ht (fun a' ha => ?_)
    refine pk_eq (tc_tp S 536870912 ty tz tn td g) 536870912 (fun h => ?_) (fun h => ?_) rfl rfl (by omega) (by omega)
    · have k := ih (g + 1) (by omega) a' m' (by omega)
      rw [e0, if_pos h, Nat.add_zero] at k
      exact nm_r (nI_1 g) k
    · have k := ih (g + 1) (by omega) a' m' (by omega)
      rw [e0, if_neg h] at k
      exact nm_r (by rw [tc_shl ⟨g, hg4⟩, nI_add]) (nm_r (nI_1 g) k)
theorem ym_goals_4 {len : Nat → Nat} {ent : Nat → Nat → Nat} (ok : tc_ok S) (hF : tc_fo tn td ty tz tk) (h6 : ∀ i, i < tn → ty i < 6) (hN : tn ≤ 24) (hD : td ≤ 8) {post : Int32 → SY → Prop} {f_noted : Int32} {f_depth : Int32} {f_rules : Int32} {f_planted : Int32} {f_trees : Int32} {f_stateCount : Int32} {f_known : Int32} {f_listed : Int32} {a_marks : Nat → Int32} {a_sizes : Nat → Int32} {a_lefts : Nat → Int32} {a_costs : Nat → Int32} {a_lengths : Nat → Int32} {a_operators : Nat → Int32} {a_spans : Nat → Int32} {a_ways : Nat → Int32} {a_tasks : Nat → Int32} {a_list : Nat → Int32}
    (hy : tc_yr S len ent f_rules a_lefts a_costs a_lengths a_marks a_sizes) (ht : tc_yt tn td ty tz f_planted f_trees a_operators a_spans)
    (hle : ∀ g, g < 4 → tc_tp S 1000000 ty tz tn td g ≤ 1000000)
    (hp : ∀ a', post (nI (tc_gs 1000000 (tc_tp S 1000000 ty tz tn td) 4)) (f_noted, f_depth, f_rules, f_planted, f_trees, f_stateCount, f_known, f_listed, a_marks, a_sizes, a_lefts, a_costs, a_lengths, a_operators, a_spans, a', a_ways, a_tasks, a_list)) :
    ∀ (d g : Nat), g + d = 4 → ∀ (a_least : Nat → Int32) (m : Nat), d < m → wY_goals_4 post m (nI (tc_gs 1000000 (tc_tp S 1000000 ty tz tn td) g)) (nI g) f_noted f_depth f_rules f_planted f_trees f_stateCount f_known f_listed a_marks a_sizes a_lefts a_costs a_lengths a_operators a_spans a_least a_ways a_tasks a_list := by
  intro d
  induction d with
  | zero =>
    intro g hg a_least m hm
    obtain ⟨m', rfl⟩ : ∃ m', m = m' + 1 := ⟨m - 1, by omega⟩
    have e : g = 4 := by omega
    subst e
    exact br_t (nI_le (a := 4) (Nat.le_refl _) (by decide)) (hp _)
  | succ d ih =>
    intro g hg a_least m hm
    obtain ⟨m', rfl⟩ : ∃ m', m = m' + 1 := ⟨m - 1, by omega⟩
    have hg4 : g < 4 := by omega
    have e0 : tc_gs 1000000 (tc_tp S 1000000 ty tz tn td) (g + 1) = tc_gs 1000000 (tc_tp S 1000000 ty tz tn td) g + (if tc_tp S 1000000 ty tz tn td g = 1000000 then 0 else 2 ^ g) := rfl
    have hl := hle g hg4
    refine br_f (nI_ge (b := 4) hg4 (by decide)) ?_
    refine yq_top ok hF h6 hN hD hg4 hy ht (fun a' ha _ => ?_)
    refine pk_le 1000000 (tc_tp S 1000000 ty tz tn td g) (fun h => ?_) (fun h => ?_) rfl rfl (by omega) (by omega)
    · have k := ih (g + 1) (by omega) a' m' (by omega)
      rw [e0, if_pos (by omega), Nat.add_zero] at k
      exact nm_r (nI_1 g) k
    · have k := ih (g + 1) (by omega) a' m' (by omega)
      rw [e0, if_neg (by omega)] at k
      have hs := tc_gs_lt 1000000 (tc_tp S 1000000 ty tz tn td) g
      have h8 : 2 ^ g ≤ 2 ^ 3 := Nat.pow_le_pow_right (by omega) (by omega)
      exact nm_r (tc_orl ⟨g, hg4⟩ ⟨tc_gs 1000000 (tc_tp S 1000000 ty tz tn td) g, by omega⟩ hs) (nm_r (nI_1 g) k)
theorem tc_tp_le {K : Nat} (hF : tc_fo tn td ty tz tk) (h6 : ∀ i, i < tn → ty i < 6) (g : Nat) : tc_tp S K ty tz tn td g ≤ K := by
  unfold tc_tp
  by_cases h : td = 0
  · rw [if_pos h]
    exact Nat.le_refl _
  · rw [if_neg h]
    have s1 := (tc_fo_t1 hF (by omega)).1
    exact tc_v_le (fun h => (hF.2.2.2.2.2 (tn - 1) (by omega)).2.2.1 h (h6 (tn - 1) (by omega))) g
end
section
variable {Q : Int32 → SX → Int32 → SY → Prop}
theorem cm_cost {u : SX} {v : SY} (I : tc_rel u v) (hQ : ∀ r u' v', tc_rel u' v' → Q r u' r v') (v1 : Int32) : wpX_cost (fun r u' => wpY_cost (fun r' v' => Q r u' r' v') v v1) u v1 := by
  obtain ⟨S, len, ent, pn, pd, py, pz, pk, tn, td, ty, tz, tk, G, hX, hY⟩ := I
  obtain ⟨f_patternDepth, f_patternNodes, f_ruleCount, f_entryCount, f_treeDepth, f_treeNodes, f_stateCount, f_coverLength, f_pendingCount, a_patternStack, a_patternSymbol, a_patternFirst, a_patternLast, a_patternEntry, a_ruleLeft, a_ruleCost, a_ruleEntry, a_ruleStart, a_entryOperator, a_entryFirst, a_entryLast, a_treeStack, a_treeOperator, a_treeFirst, a_treeLast, a_treeSize, a_treeCosts, a_treeWays, a_stateCosts, a_cover, a_pendingEntry, a_pendingNode⟩ := u
  obtain ⟨f_noted, f_depth, f_rules, f_planted, f_trees, g_stateCount, f_known, f_listed, a_marks, a_sizes, a_lefts, a_costs, a_lengths, a_operators, a_spans, a_least, a_ways, a_tasks, a_list⟩ := v
  have same : ∀ r, Q r _ r _ := fun r => hQ r _ _ ⟨S, len, ent, pn, pd, py, pz, pk, tn, td, ty, tz, tk, G, hX, hY⟩
  have G' := G
  obtain ⟨ok, F, p7, p6, p10, T, t24, t8, t6⟩ := G
  obtain ⟨xr, xp, xt⟩ := hX
  obtain ⟨yr, yp, yt, cc⟩ := hY
  unfold wpX_cost
  rcases pk_ix v1 (n := 4) (by decide) with h | h | ⟨g, hg, rfl⟩
  · exact xm_goal_lo h (br_t rfl (br_t h (same _)))
  · exact xm_goal_hi h (br_t rfl (br_f (tc_pos_hi h (by decide)) (br_f (tc_nle_hi (n := 3) h (by decide)) (same _))))
  · have q := tc_tp_q ok T t6 t24 hg
    unfold tc_q at q
    refine xm_goal_ok hg (br_f (by decide) ?_)
    refine xq_top ok T t6 t24 t8 hg xr xt (fun a' ha => ?_)
    have l1 := tc_tp_le (S := S) (K := 536870912) T t6 g
    have l2 := tc_tp_le (S := S) (K := 1000000) T t6 g
    have yside : ∀ P : Int32 → SY → Prop, (∀ b, (tc_tp S 1000000 ty tz tn td g = 1000000 → P (-4) (f_noted, f_depth, f_rules, f_planted, f_trees, g_stateCount, f_known, f_listed, a_marks, a_sizes, a_lefts, a_costs, a_lengths, a_operators, a_spans, b, a_ways, a_tasks, a_list)) ∧ (tc_tp S 1000000 ty tz tn td g ≠ 1000000 → P (nI (tc_tp S 1000000 ty tz tn td g)) (f_noted, f_depth, f_rules, f_planted, f_trees, g_stateCount, f_known, f_listed, a_marks, a_sizes, a_lefts, a_costs, a_lengths, a_operators, a_spans, b, a_ways, a_tasks, a_list))) → wpY_cost P (f_noted, f_depth, f_rules, f_planted, f_trees, g_stateCount, f_known, f_listed, a_marks, a_sizes, a_lefts, a_costs, a_lengths, a_operators, a_spans, a_least, a_ways, a_tasks, a_list) (nI g) := fun P hP => by
      refine br_f (nI_pos (by omega)) (br_t (nI_le (b := 3) (by omega) (by decide)) ?_)
      refine yq_top ok T t6 t24 t8 hg yr yt (fun b hb _ => ?_)
      exact pk_lt (tc_tp S 1000000 ty tz tn td g) 1000000 (fun h => (hP b).2 (by omega)) (fun h => (hP b).1 (by omega)) rfl rfl (by omega) (by omega)
    refine pk_eq (tc_tp S 536870912 ty tz tn td g) 536870912 (fun h => ?_) (fun h => ?_) rfl rfl (by omega) (by omega)
    · exact yside _ (fun b => ⟨fun _ => hQ _ _ _ ⟨S, len, ent, pn, pd, py, pz, pk, tn, td, ty, tz, tk, G', ⟨xr, xp, xt⟩, ⟨yr, yp, yt, cc⟩⟩, fun z => by omega⟩)
    · refine yside _ (fun b => ⟨fun z => by omega, fun z => ?_⟩)
      rw [show tc_tp S 1000000 ty tz tn td g = tc_tp S 536870912 ty tz tn td g by omega]
      exact hQ _ _ _ ⟨S, len, ent, pn, pd, py, pz, pk, tn, td, ty, tz, tk, G', ⟨xr, xp, xt⟩, ⟨yr, yp, yt, cc⟩⟩
theorem cm_goals {u : SX} {v : SY} (I : tc_rel u v) (hQ : ∀ r u' v', tc_rel u' v' → Q r u' r v') : wpX_goals (fun r u' => wpY_goals (fun r' v' => Q r u' r' v') v) u := by
  obtain ⟨S, len, ent, pn, pd, py, pz, pk, tn, td, ty, tz, tk, G, hX, hY⟩ := I
  obtain ⟨f_patternDepth, f_patternNodes, f_ruleCount, f_entryCount, f_treeDepth, f_treeNodes, f_stateCount, f_coverLength, f_pendingCount, a_patternStack, a_patternSymbol, a_patternFirst, a_patternLast, a_patternEntry, a_ruleLeft, a_ruleCost, a_ruleEntry, a_ruleStart, a_entryOperator, a_entryFirst, a_entryLast, a_treeStack, a_treeOperator, a_treeFirst, a_treeLast, a_treeSize, a_treeCosts, a_treeWays, a_stateCosts, a_cover, a_pendingEntry, a_pendingNode⟩ := u
  obtain ⟨f_noted, f_depth, f_rules, f_planted, f_trees, g_stateCount, f_known, f_listed, a_marks, a_sizes, a_lefts, a_costs, a_lengths, a_operators, a_spans, a_least, a_ways, a_tasks, a_list⟩ := v
  have G' := G
  obtain ⟨ok, F, p7, p6, p10, T, t24, t8, t6⟩ := G
  obtain ⟨xr, xp, xt⟩ := hX
  obtain ⟨yr, yp, yt, cc⟩ := hY
  refine ⟨5, xm_goals_4 ok T t6 t24 t8 xr xt (fun g _ => tc_tp_le T t6 g) (fun a' => ?_) 4 0 (by omega) a_treeCosts 5 (by omega)⟩
  refine ⟨5, ym_goals_4 ok T t6 t24 t8 yr yt (fun g _ => tc_tp_le T t6 g) (fun b => ?_) 4 0 (by omega) a_least 5 (by omega)⟩
  rw [← tc_gs_q (fun g hg => tc_tp_q ok T t6 t24 hg) 4 (Nat.le_refl _)]
  exact hQ _ _ _ ⟨S, len, ent, pn, pd, py, pz, pk, tn, td, ty, tz, tk, G', ⟨xr, xp, xt⟩, ⟨yr, yp, yt, cc⟩⟩
theorem cm_alike {u : SX} {v : SY} (I : tc_rel u v) (hQ : ∀ r u' v', tc_rel u' v' → Q r u' r v') : wpX_alike (fun r u' => wpY_alike (fun r' v' => Q r u' r' v') v) u := by
  obtain ⟨S, len, ent, pn, pd, py, pz, pk, tn, td, ty, tz, tk, G, hX, hY⟩ := I
  obtain ⟨f_patternDepth, f_patternNodes, f_ruleCount, f_entryCount, f_treeDepth, f_treeNodes, f_stateCount, f_coverLength, f_pendingCount, a_patternStack, a_patternSymbol, a_patternFirst, a_patternLast, a_patternEntry, a_ruleLeft, a_ruleCost, a_ruleEntry, a_ruleStart, a_entryOperator, a_entryFirst, a_entryLast, a_treeStack, a_treeOperator, a_treeFirst, a_treeLast, a_treeSize, a_treeCosts, a_treeWays, a_stateCosts, a_cover, a_pendingEntry, a_pendingNode⟩ := u
  obtain ⟨f_noted, f_depth, f_rules, f_planted, f_trees, g_stateCount, f_known, f_listed, a_marks, a_sizes, a_lefts, a_costs, a_lengths, a_operators, a_spans, a_least, a_ways, a_tasks, a_list⟩ := v
  have same : ∀ r, Q r _ r _ := fun r => hQ r _ _ ⟨S, len, ent, pn, pd, py, pz, pk, tn, td, ty, tz, tk, G, hX, hY⟩
  have G' := G
  obtain ⟨ok, F, p7, p6, p10, T, t24, t8, t6⟩ := G
  obtain ⟨xr, xp, xt⟩ := hX
  obtain ⟨yr, yp, yt, cc⟩ := hY
  have hn : tc_tn ty tz tn := fun i hi => ⟨t6 i hi, T.2.2.2.2.2 i hi⟩
  refine pk_le 2 td (fun h => ?_) (fun h => ?_) rfl xt.1 (by omega) (by omega)
  · obtain ⟨s1, s2⟩ := tc_fo_t1 T (by omega)
    obtain ⟨s3, s4⟩ := tc_fo_t2 T h
    have s5 := (T.2.2.2.2.2 (tn - 1) (by omega)).1
    refine xq_ft ok hn t24 xr xt (fun a' ha => ?_)
    have w1 : f_treeDepth - 1 = nI (td - 1) := by rw [xt.1, show (1 : Int32) = nI 1 from rfl, pk_sub (by omega)]
    have w2 : f_treeDepth - 2 = nI (td - 2) := by rw [xt.1, show (2 : Int32) = nI 2 from rfl, pk_sub (by omega)]
    have w3 : f_planted - 1 = nI (tn - 1) := by rw [yt.1, show (1 : Int32) = nI 1 from rfl, pk_sub (by omega)]
    refine ⟨by rw [w1]; exact vp_in_nI (by omega) (by decide), by rw [w2]; exact vp_in_nI (by omega) (by decide), ?_⟩
    rw [w1, w2, nI_clamp (by omega), nI_clamp (by omega), xt.2.2.1 (td - 1) (by omega), xt.2.2.1 (td - 2) (by omega), s2, s4]
    have vl : ∀ K m, m < tn → ∀ e, tc_v S K ty tz m e ≤ K := fun K m hm e => tc_v_le (fun h => (hn m hm).2.2.2.1 h (hn m hm).1) e
    have hsa := tc_sa_q (tc_v_q ok hn t24 (K1 := 536870912) (K2 := 1000000) (by omega) (by omega) (tn - 1) (by omega)) (tc_v_q ok hn t24 (K1 := 536870912) (K2 := 1000000) (by omega) (by omega) (tn - 1 - tz (tn - 1)) (by omega))
    have rel : ∀ b : Nat → Int32, tc_rel (f_patternDepth, f_patternNodes, f_ruleCount, f_entryCount, f_treeDepth, f_treeNodes, f_stateCount, f_coverLength, f_pendingCount, a_patternStack, a_patternSymbol, a_patternFirst, a_patternLast, a_patternEntry, a_ruleLeft, a_ruleCost, a_ruleEntry, a_ruleStart, a_entryOperator, a_entryFirst, a_entryLast, a_treeStack, a_treeOperator, a_treeFirst, a_treeLast, a_treeSize, a', a_treeWays, a_stateCosts, a_cover, a_pendingEntry, a_pendingNode) (f_noted, f_depth, f_rules, f_planted, f_trees, g_stateCount, f_known, f_listed, a_marks, a_sizes, a_lefts, a_costs, a_lengths, a_operators, a_spans, b, a_ways, a_tasks, a_list) := fun b => ⟨S, len, ent, pn, pd, py, pz, pk, tn, td, ty, tz, tk, G', ⟨xr, xp, xt⟩, ⟨yr, yp, yt, cc⟩⟩
    have yside : ∀ P : Int32 → SY → Prop, (∀ b, (tc_sa 1000000 (tc_E S) (tc_v S 1000000 ty tz (tn - 1)) (tc_v S 1000000 ty tz (tn - 1 - tz (tn - 1))) → P 1 (f_noted, f_depth, f_rules, f_planted, f_trees, g_stateCount, f_known, f_listed, a_marks, a_sizes, a_lefts, a_costs, a_lengths, a_operators, a_spans, b, a_ways, a_tasks, a_list)) ∧ (¬ tc_sa 1000000 (tc_E S) (tc_v S 1000000 ty tz (tn - 1)) (tc_v S 1000000 ty tz (tn - 1 - tz (tn - 1))) → P 0 (f_noted, f_depth, f_rules, f_planted, f_trees, g_stateCount, f_known, f_listed, a_marks, a_sizes, a_lefts, a_costs, a_lengths, a_operators, a_spans, b, a_ways, a_tasks, a_list))) → wpY_alike P (f_noted, f_depth, f_rules, f_planted, f_trees, g_stateCount, f_known, f_listed, a_marks, a_sizes, a_lefts, a_costs, a_lengths, a_operators, a_spans, a_least, a_ways, a_tasks, a_list) := fun P hP => by
      refine br_t (by rw [yt.2.1]; exact nI_le (a := 2) h (by omega)) ?_
      refine yq_wt ok hn t24 t8 yr yt (fun b hb _ => ?_)
      refine nm_r w3 ⟨vp_in_nI (by omega) (by decide), ?_⟩
      rw [nI_clamp (by omega), (yt.2.2 (tn - 1) (by omega)).2, pk_sub (by omega)]
      exact ym_same ok yr (by omega) (by omega) (vl _ _ (by omega)) (vl _ _ (by omega)) (hb _ (by omega)) (hb _ (by omega)) (fun z => ⟨tc_nb1, (hP b).1 z⟩) (fun z => ⟨tc_nb0, (hP b).2 z⟩)
    refine xtc_s_wp ok (by omega) (by omega) xr.2.1 (vl _ _ (by omega)) (vl _ _ (by omega)) (ha _ (by omega)) (ha _ (by omega)) (fun z => ⟨tc_nb1, ?_⟩) (fun z => ⟨tc_nb0, ?_⟩)
    · exact yside _ (fun b => ⟨fun _ => hQ _ _ _ (rel b), fun y => absurd (hsa.mp z) y⟩)
    · exact yside _ (fun b => ⟨fun y => absurd (hsa.mpr y) z, fun _ => hQ _ _ _ (rel b)⟩)
  · exact br_f (by rw [yt.2.1]; exact nI_ge (b := 2) h (by decide)) (same _)
theorem cm_ways {u : SX} {v : SY} (I : tc_rel u v) (hQ : ∀ r u' v', tc_rel u' v' → Q r u' r v') (v1 : Int32) : wpX_ways (fun r u' => wpY_ways (fun r' v' => Q r u' r' v') v v1) u v1 := by
  obtain ⟨S, len, ent, pn, pd, py, pz, pk, tn, td, ty, tz, tk, G, hX, hY⟩ := I
  obtain ⟨f_patternDepth, f_patternNodes, f_ruleCount, f_entryCount, f_treeDepth, f_treeNodes, f_stateCount, f_coverLength, f_pendingCount, a_patternStack, a_patternSymbol, a_patternFirst, a_patternLast, a_patternEntry, a_ruleLeft, a_ruleCost, a_ruleEntry, a_ruleStart, a_entryOperator, a_entryFirst, a_entryLast, a_treeStack, a_treeOperator, a_treeFirst, a_treeLast, a_treeSize, a_treeCosts, a_treeWays, a_stateCosts, a_cover, a_pendingEntry, a_pendingNode⟩ := u
  obtain ⟨f_noted, f_depth, f_rules, f_planted, f_trees, g_stateCount, f_known, f_listed, a_marks, a_sizes, a_lefts, a_costs, a_lengths, a_operators, a_spans, a_least, a_ways, a_tasks, a_list⟩ := v
  have same : ∀ r, Q r _ r _ := fun r => hQ r _ _ ⟨S, len, ent, pn, pd, py, pz, pk, tn, td, ty, tz, tk, G, hX, hY⟩
  have G' := G
  obtain ⟨ok, F, p7, p6, p10, T, t24, t8, t6⟩ := G
  obtain ⟨xr, xp, xt⟩ := hX
  obtain ⟨yr, yp, yt, cc⟩ := hY
  have hn : tc_tn ty tz tn := fun i hi => ⟨t6 i hi, T.2.2.2.2.2 i hi⟩
  have hE := tc_ok_E ok
  unfold wpX_ways
  rcases pk_ix v1 (n := 4) (by decide) with h | h | ⟨g, hg, rfl⟩
  · exact xm_goal_lo h (br_t rfl (br_t h (same _)))
  · exact xm_goal_hi h (br_t rfl (br_f (tc_pos_hi h (by decide)) (br_f (tc_nle_hi (n := 3) h (by decide)) (same _))))
  · have q := tc_tp_q ok T t6 t24 hg
    unfold tc_q at q
    refine xm_goal_ok hg (br_f (by decide) ?_)
    refine xq_top ok T t6 t24 t8 hg xr xt (fun a' ha => ?_)
    have l1 := tc_tp_le (S := S) (K := 536870912) T t6 g
    have l2 := tc_tp_le (S := S) (K := 1000000) T t6 g
    have htd : tc_tp S 1000000 ty tz tn td g ≠ 1000000 → 0 < td := fun z => by
      unfold tc_tp at z
      rcases Nat.eq_zero_or_pos td with h | h
      · rw [if_pos h] at z
        exact absurd rfl z
      · exact h
    have yside : ∀ P : Int32 → SY → Prop, (∀ b w, (tc_tp S 1000000 ty tz tn td g = 1000000 → P 0 (f_noted, f_depth, f_rules, f_planted, f_trees, g_stateCount, f_known, f_listed, a_marks, a_sizes, a_lefts, a_costs, a_lengths, a_operators, a_spans, b, w, a_tasks, a_list)) ∧ (tc_tp S 1000000 ty tz tn td g ≠ 1000000 → P (tc_w S 1000000 ty tz (tn - 1) g) (f_noted, f_depth, f_rules, f_planted, f_trees, g_stateCount, f_known, f_listed, a_marks, a_sizes, a_lefts, a_costs, a_lengths, a_operators, a_spans, b, w, a_tasks, a_list))) → wpY_ways P (f_noted, f_depth, f_rules, f_planted, f_trees, g_stateCount, f_known, f_listed, a_marks, a_sizes, a_lefts, a_costs, a_lengths, a_operators, a_spans, a_least, a_ways, a_tasks, a_list) (nI g) := fun P hP => by
      refine br_f (nI_pos (by omega)) (br_t (nI_le (b := 3) (by omega) (by decide)) ?_)
      refine yq_top ok T t6 t24 t8 hg yr yt (fun b hb _ => ?_)
      refine pk_lt (tc_tp S 1000000 ty tz tn td g) 1000000 (fun h => ?_) (fun h => (hP b a_ways).1 (by omega)) rfl rfl (by omega) (by omega)
      have s1 := (tc_fo_t1 T (htd (by omega))).1
      exact ⟨tn + 1, ym_ways_25 ok hn t24 s1 hg yr yt hb tn 0 (by omega) a_ways (fun m hm => absurd hm (Nat.not_lt_zero _)) (fun w => (hP b w).2 (by omega)) _ (by omega)⟩
    refine pk_eq (tc_tp S 536870912 ty tz tn td g) 536870912 (fun h => ?_) (fun h => ?_) rfl rfl (by omega) (by omega)
    · exact yside _ (fun b w => ⟨fun _ => hQ _ _ _ ⟨S, len, ent, pn, pd, py, pz, pk, tn, td, ty, tz, tk, G', ⟨xr, xp, xt⟩, ⟨yr, yp, yt, cc⟩⟩, fun z => by omega⟩)
    · have h0 := htd (by omega)
      have s1 := (tc_fo_t1 T h0).1
      refine ⟨tn + 1, xm_ways_25 ok T t6 t24 t8 h0 hg xr xt (ha h0) tn 0 (by omega) a_treeWays (fun m hm => absurd hm (Nat.not_lt_zero _)) (fun w => ?_) _ (by omega)⟩
      refine yside _ (fun b w' => ⟨fun z => by omega, fun z => ?_⟩)
      rw [← tc_w_q ok hn t24 (K1 := 536870912) (K2 := 1000000) (by omega) (by omega) (tn - 1) (by omega) g (by omega)]
      exact hQ _ _ _ ⟨S, len, ent, pn, pd, py, pz, pk, tn, td, ty, tz, tk, G', ⟨xr, xp, xt⟩, ⟨yr, yp, yt, cc⟩⟩
end
end
section
section
variable {S : tc_S} {tn td : Nat} {ty tz tk : Nat → Nat}
theorem tc_cl_q (ok : tc_ok S) (T : tc_fo tn td ty tz tk) (t6 : ∀ i, i < tn → ty i < 6) (hN : tn ≤ 24) {g : Nat} (hg : g < 4) (h : tc_tp S 536870912 ty tz tn td g ≠ 536870912) :
    tc_cl S 536870912 ty tz tn td g = tc_cv S 1000000 ty tz [(tn - 1, g)] ∧ 0 < (tc_cl S 536870912 ty tz tn td g).length := by
  have hn : tc_tn ty tz tn := fun i hi => ⟨t6 i hi, T.2.2.2.2.2 i hi⟩
  have hE := tc_ok_E ok
  have htd : 0 < td := by
    unfold tc_tp at h
    rcases Nat.eq_zero_or_pos td with h' | h'
    · rw [if_pos h'] at h
      exact absurd rfl h
    · exact h'
  have s1 := (tc_fo_t1 T htd).1
  have hv : tc_v S 536870912 ty tz (tn - 1) g ≠ 536870912 := by
    unfold tc_tp at h
    rw [if_neg (by omega)] at h
    exact h
  have hgd : ∀ p, p ∈ [(tn - 1, g)] → tc_gd S 536870912 ty tz tn p.1 p.2 := fun p hp => by
    rw [List.mem_singleton] at hp
    rw [hp]
    exact ⟨by show tn - 1 < tn; omega, by show g < tc_E S; omega, hv⟩
  have e : tc_cl S 536870912 ty tz tn td g = tc_cv S 536870912 ty tz [(tn - 1, g)] := if_neg h
  rw [e]
  refine ⟨tc_cv_q ok hn hN (by omega) (by omega) hgd, ?_⟩
  rw [tc_cv_cons ok hn hgd]
  have e2 : tc_ou S 536870912 ty tz (tn - 1) g = [tc_lo S 536870912 (tc_v S 536870912 ty tz (tn - 1)) g] := if_pos hg
  rw [e2, List.length_append]
  show 0 < 1 + _
  omega
end
section
variable {Q : Int32 → SX → Int32 → SY → Prop}
theorem cm_uses {u : SX} {v : SY} (I : tc_rel u v) (hQ : ∀ r u' v', tc_rel u' v' → Q r u' r v') (v1 : Int32) : wpX_uses (fun r u' => wpY_uses (fun r' v' => Q r u' r' v') v v1) u v1 := by
  obtain ⟨S, len, ent, pn, pd, py, pz, pk, tn, td, ty, tz, tk, G, hX, hY⟩ := I
  obtain ⟨f_patternDepth, f_patternNodes, f_ruleCount, f_entryCount, f_treeDepth, f_treeNodes, f_stateCount, f_coverLength, f_pendingCount, a_patternStack, a_patternSymbol, a_patternFirst, a_patternLast, a_patternEntry, a_ruleLeft, a_ruleCost, a_ruleEntry, a_ruleStart, a_entryOperator, a_entryFirst, a_entryLast, a_treeStack, a_treeOperator, a_treeFirst, a_treeLast, a_treeSize, a_treeCosts, a_treeWays, a_stateCosts, a_cover, a_pendingEntry, a_pendingNode⟩ := u
  obtain ⟨f_noted, f_depth, f_rules, f_planted, f_trees, g_stateCount, f_known, f_listed, a_marks, a_sizes, a_lefts, a_costs, a_lengths, a_operators, a_spans, a_least, a_ways, a_tasks, a_list⟩ := v
  have same : ∀ r, Q r _ r _ := fun r => hQ r _ _ ⟨S, len, ent, pn, pd, py, pz, pk, tn, td, ty, tz, tk, G, hX, hY⟩
  have G' := G
  obtain ⟨ok, F, p7, p6, p10, T, t24, t8, t6⟩ := G
  obtain ⟨xr, xp, xt⟩ := hX
  obtain ⟨yr, yp, yt, cc⟩ := hY
  unfold wpX_uses
  rcases pk_ix v1 (n := 4) (by decide) with h | h | ⟨g, hg, rfl⟩
  · exact xm_goal_lo h (br_t rfl (br_t h (same _)))
  · exact xm_goal_hi h (br_t rfl (br_f (tc_pos_hi h (by decide)) (br_f (tc_nle_hi (n := 3) h (by decide)) (same _))))
  · have q := tc_tp_q ok T t6 t24 hg
    unfold tc_q at q
    refine xm_goal_ok hg (br_f (by decide) ?_)
    refine xm_lc ok T t6 t24 t8 hg xr xt (fun tc co pe pn' fp h96 hal => ?_)
    by_cases hK : tc_tp S 536870912 ty tz tn td g = 536870912
    · have e : tc_cl S 536870912 ty tz tn td g = [] := if_pos hK
      rw [e]
      refine br_t rfl (br_f (nI_pos (by omega)) (br_t (nI_le (b := 3) (by omega) (by decide)) ?_))
      exact ym_write ok T t6 t24 t8 hg yr yt (fun _ le hle => br_t rfl (hQ _ _ _ ⟨S, len, ent, pn, pd, py, pz, pk, tn, td, ty, tz, tk, G', ⟨xr, xp, xt⟩, ⟨yr, yp, yt, cc⟩⟩)) (fun z => by omega)
    · obtain ⟨e1, e2⟩ := tc_cl_q ok T t6 t24 hg hK
      refine br_f (nI_ne0 e2 (by omega)) (br_f (nI_pos (by omega)) (br_t (nI_le (b := 3) (by omega) (by decide)) ?_))
      refine ym_write ok T t6 t24 t8 hg yr yt (fun z => by omega) (fun _ le ta li hle hal' => br_f (by decide) ?_)
      rw [← e1]
      exact hQ _ _ _ ⟨S, len, ent, pn, pd, py, pz, pk, tn, td, ty, tz, tk, G', ⟨xr, xp, xt⟩, ⟨yr, yp, yt, cc⟩⟩
theorem cm_used {u : SX} {v : SY} (I : tc_rel u v) (hQ : ∀ r u' v', tc_rel u' v' → Q r u' r v') (v1 v2 : Int32) : wpX_used (fun r u' => wpY_used (fun r' v' => Q r u' r' v') v v1 v2) u v1 v2 := by
  obtain ⟨S, len, ent, pn, pd, py, pz, pk, tn, td, ty, tz, tk, G, hX, hY⟩ := I
  obtain ⟨f_patternDepth, f_patternNodes, f_ruleCount, f_entryCount, f_treeDepth, f_treeNodes, f_stateCount, f_coverLength, f_pendingCount, a_patternStack, a_patternSymbol, a_patternFirst, a_patternLast, a_patternEntry, a_ruleLeft, a_ruleCost, a_ruleEntry, a_ruleStart, a_entryOperator, a_entryFirst, a_entryLast, a_treeStack, a_treeOperator, a_treeFirst, a_treeLast, a_treeSize, a_treeCosts, a_treeWays, a_stateCosts, a_cover, a_pendingEntry, a_pendingNode⟩ := u
  obtain ⟨f_noted, f_depth, f_rules, f_planted, f_trees, g_stateCount, f_known, f_listed, a_marks, a_sizes, a_lefts, a_costs, a_lengths, a_operators, a_spans, a_least, a_ways, a_tasks, a_list⟩ := v
  have same : ∀ r, Q r _ r _ := fun r => hQ r _ _ ⟨S, len, ent, pn, pd, py, pz, pk, tn, td, ty, tz, tk, G, hX, hY⟩
  have G' := G
  obtain ⟨ok, F, p7, p6, p10, T, t24, t8, t6⟩ := G
  obtain ⟨xr, xp, xt⟩ := hX
  obtain ⟨yr, yp, yt, cc⟩ := hY
  unfold wpX_used
  rcases pk_ix v1 (n := 4) (by decide) with h | h | ⟨g, hg, rfl⟩
  · exact xm_goal_lo h (br_t rfl (br_t h (same _)))
  · exact xm_goal_hi h (br_t rfl (br_f (tc_pos_hi h (by decide)) (br_f (tc_nle_hi (n := 3) h (by decide)) (same _))))
  · have q := tc_tp_q ok T t6 t24 hg
    unfold tc_q at q
    refine xm_goal_ok hg (br_f (by decide) ?_)
    refine xm_lc ok T t6 t24 t8 hg xr xt (fun tc co pe pn' fp h96 hal => ?_)
    by_cases hK : tc_tp S 536870912 ty tz tn td g = 536870912
    · have e : tc_cl S 536870912 ty tz tn td g = [] := if_pos hK
      have yside : ∀ P : Int32 → SY → Prop, (∀ le, P (-4) (f_noted, f_depth, f_rules, f_planted, f_trees, g_stateCount, f_known, f_listed, a_marks, a_sizes, a_lefts, a_costs, a_lengths, a_operators, a_spans, le, a_ways, a_tasks, a_list)) → wpY_used P (f_noted, f_depth, f_rules, f_planted, f_trees, g_stateCount, f_known, f_listed, a_marks, a_sizes, a_lefts, a_costs, a_lengths, a_operators, a_spans, a_least, a_ways, a_tasks, a_list) (nI g) v2 := fun P hP => by
        refine br_f (nI_pos (by omega)) (br_t (nI_le (b := 3) (by omega) (by decide)) ?_)
        exact ym_write ok T t6 t24 t8 hg yr yt (fun _ le hle => br_t rfl (hP le)) (fun z => by omega)
      have fin : ∀ le : Nat → Int32, Q (-4) (f_patternDepth, f_patternNodes, f_ruleCount, f_entryCount, f_treeDepth, f_treeNodes, f_stateCount, nI (tc_cl S 536870912 ty tz tn td g).length, fp, a_patternStack, a_patternSymbol, a_patternFirst, a_patternLast, a_patternEntry, a_ruleLeft, a_ruleCost, a_ruleEntry, a_ruleStart, a_entryOperator, a_entryFirst, a_entryLast, a_treeStack, a_treeOperator, a_treeFirst, a_treeLast, a_treeSize, tc, a_treeWays, a_stateCosts, co, pe, pn') (-4) (f_noted, f_depth, f_rules, f_planted, f_trees, g_stateCount, f_known, f_listed, a_marks, a_sizes, a_lefts, a_costs, a_lengths, a_operators, a_spans, le, a_ways, a_tasks, a_list) := fun le => hQ _ _ _ ⟨S, len, ent, pn, pd, py, pz, pk, tn, td, ty, tz, tk, G', ⟨xr, xp, xt⟩, ⟨yr, yp, yt, cc⟩⟩
      refine br_c (fun _ => yside _ fin) (fun hneg => br_f ?_ (yside _ fin))
      rw [e]
      exact hneg
    · obtain ⟨e1, e2⟩ := tc_cl_q ok T t6 t24 hg hK
      rw [e1] at h96 hal e2 ⊢
      have yside : ∀ P : Int32 → SY → Prop, (∀ le ta li, tc_al li (tc_cv S 1000000 ty tz [(tn - 1, g)]) → (v2 < 0 → P (-4) (f_noted, f_depth, f_rules, f_planted, f_trees, g_stateCount, f_known, nI (tc_cv S 1000000 ty tz [(tn - 1, g)]).length, a_marks, a_sizes, a_lefts, a_costs, a_lengths, a_operators, a_spans, le, a_ways, ta, li)) ∧ (¬ v2 < 0 → (nI (tc_cv S 1000000 ty tz [(tn - 1, g)]).length ≤ v2 → P (-4) (f_noted, f_depth, f_rules, f_planted, f_trees, g_stateCount, f_known, nI (tc_cv S 1000000 ty tz [(tn - 1, g)]).length, a_marks, a_sizes, a_lefts, a_costs, a_lengths, a_operators, a_spans, le, a_ways, ta, li)) ∧ (¬ nI (tc_cv S 1000000 ty tz [(tn - 1, g)]).length ≤ v2 → vp_in v2 400 ∧ P (li v2.toNatClampNeg) (f_noted, f_depth, f_rules, f_planted, f_trees, g_stateCount, f_known, nI (tc_cv S 1000000 ty tz [(tn - 1, g)]).length, a_marks, a_sizes, a_lefts, a_costs, a_lengths, a_operators, a_spans, le, a_ways, ta, li)))) → wpY_used P (f_noted, f_depth, f_rules, f_planted, f_trees, g_stateCount, f_known, f_listed, a_marks, a_sizes, a_lefts, a_costs, a_lengths, a_operators, a_spans, a_least, a_ways, a_tasks, a_list) (nI g) v2 := fun P hP => by
        refine br_f (nI_pos (by omega)) (br_t (nI_le (b := 3) (by omega) (by decide)) ?_)
        exact ym_write ok T t6 t24 t8 hg yr yt (fun z => by omega) (fun _ le ta li hle hal' => br_f (by decide) (hP le ta li hal'))
      have rel : ∀ (r fl : Int32) (le ta li : Nat → Int32), Q r (f_patternDepth, f_patternNodes, f_ruleCount, f_entryCount, f_treeDepth, f_treeNodes, f_stateCount, nI (tc_cv S 1000000 ty tz [(tn - 1, g)]).length, fp, a_patternStack, a_patternSymbol, a_patternFirst, a_patternLast, a_patternEntry, a_ruleLeft, a_ruleCost, a_ruleEntry, a_ruleStart, a_entryOperator, a_entryFirst, a_entryLast, a_treeStack, a_treeOperator, a_treeFirst, a_treeLast, a_treeSize, tc, a_treeWays, a_stateCosts, co, pe, pn') r (f_noted, f_depth, f_rules, f_planted, f_trees, g_stateCount, f_known, fl, a_marks, a_sizes, a_lefts, a_costs, a_lengths, a_operators, a_spans, le, a_ways, ta, li) := fun r fl le ta li => hQ _ _ _ ⟨S, len, ent, pn, pd, py, pz, pk, tn, td, ty, tz, tk, G', ⟨xr, xp, xt⟩, ⟨yr, yp, yt, cc⟩⟩
      refine br_c (fun hneg => yside _ (fun le ta li hal' => br_t hneg (rel _ _ le ta li))) (fun hneg => ?_)
      rcases pk_ix v2 (n := (tc_cv S 1000000 ty tz [(tn - 1, g)]).length) (by omega) with h | h | ⟨j, hj, rfl⟩
      · exact absurd h hneg
      · refine br_f (fun z => ?_) (yside _ (fun le ta li hal' => br_f hneg (br_t h (rel _ _ le ta li))))
        exact Int32.lt_irrefl (Int32.lt_of_lt_of_le z h)
      · refine br_t (nI_lt hj (by omega)) ⟨vp_in_nI (by omega) (by decide), ?_⟩
        rw [nI_clamp (by omega), hal j hj]
        refine yside _ (fun le ta li hal' => br_f hneg (br_f (nI_ge hj (by omega)) ⟨vp_in_nI (by omega) (by decide), ?_⟩))
        rw [nI_clamp (by omega), hal' j hj]
        exact rel _ _ le ta li
theorem cm_states {u : SX} {v : SY} (I : tc_rel u v) (hQ : ∀ r u' r' v', tc_rel u' v' → Q r u' r' v') : wpX_states (fun r u' => wpY_states (fun r' v' => Q r u' r' v') v) u := by
  obtain ⟨S, len, ent, pn, pd, py, pz, pk, tn, td, ty, tz, tk, G, hX, hY⟩ := I
  obtain ⟨f_patternDepth, f_patternNodes, f_ruleCount, f_entryCount, f_treeDepth, f_treeNodes, f_stateCount, f_coverLength, f_pendingCount, a_patternStack, a_patternSymbol, a_patternFirst, a_patternLast, a_patternEntry, a_ruleLeft, a_ruleCost, a_ruleEntry, a_ruleStart, a_entryOperator, a_entryFirst, a_entryLast, a_treeStack, a_treeOperator, a_treeFirst, a_treeLast, a_treeSize, a_treeCosts, a_treeWays, a_stateCosts, a_cover, a_pendingEntry, a_pendingNode⟩ := u
  obtain ⟨f_noted, f_depth, f_rules, f_planted, f_trees, g_stateCount, f_known, f_listed, a_marks, a_sizes, a_lefts, a_costs, a_lengths, a_operators, a_spans, a_least, a_ways, a_tasks, a_list⟩ := v
  have G' := G
  obtain ⟨ok, F, p7, p6, p10, T, t24, t8, t6⟩ := G
  obtain ⟨xr, xp, xt⟩ := hX
  obtain ⟨yr, yp, yt, c0, cc, c21⟩ := hY
  have yside : ∀ P : Int32 → SY → Prop, (∀ r v', tc_RY S len ent pn pd py pz tn td ty tz v' → P r v') → wpY_states P (f_noted, f_depth, f_rules, f_planted, f_trees, g_stateCount, f_known, f_listed, a_marks, a_sizes, a_lefts, a_costs, a_lengths, a_operators, a_spans, a_least, a_ways, a_tasks, a_list) := fun P hP => by
    unfold wpY_states
    refine yk_find ok yr c21 cc (fun a' c' kn h1 h2 => ?_)
    exact br_c (fun _ => hP _ _ ⟨yr, yp, yt, c', rfl, h1⟩) (fun _ => hP _ _ ⟨yr, yp, yt, c', rfl, h1⟩)
  unfold wpX_states
  refine xs_coll ok xr (fun a' c' h1 h2 => ?_)
  exact br_c (fun _ => yside _ (fun r v' hv => hQ _ _ _ _ ⟨S, len, ent, pn, pd, py, pz, pk, tn, td, ty, tz, tk, G', ⟨xr, xp, xt⟩, hv⟩)) (fun _ => yside _ (fun r v' hv => hQ _ _ _ _ ⟨S, len, ent, pn, pd, py, pz, pk, tn, td, ty, tz, tk, G', ⟨xr, xp, xt⟩, hv⟩))
theorem cm_covering {u : SX} {v : SY} (I : tc_rel u v) (hQ : ∀ r u' r' v', tc_rel u' v' → Q r u' r' v') (v1 : Int32) : wpX_covering (fun r u' => wpY_covering (fun r' v' => Q r u' r' v') v v1) u v1 := by
  obtain ⟨S, len, ent, pn, pd, py, pz, pk, tn, td, ty, tz, tk, G, hX, hY⟩ := I
  obtain ⟨f_patternDepth, f_patternNodes, f_ruleCount, f_entryCount, f_treeDepth, f_treeNodes, f_stateCount, f_coverLength, f_pendingCount, a_patternStack, a_patternSymbol, a_patternFirst, a_patternLast, a_patternEntry, a_ruleLeft, a_ruleCost, a_ruleEntry, a_ruleStart, a_entryOperator, a_entryFirst, a_entryLast, a_treeStack, a_treeOperator, a_treeFirst, a_treeLast, a_treeSize, a_treeCosts, a_treeWays, a_stateCosts, a_cover, a_pendingEntry, a_pendingNode⟩ := u
  obtain ⟨f_noted, f_depth, f_rules, f_planted, f_trees, g_stateCount, f_known, f_listed, a_marks, a_sizes, a_lefts, a_costs, a_lengths, a_operators, a_spans, a_least, a_ways, a_tasks, a_list⟩ := v
  have same : ∀ r, Q r _ r _ := fun r => hQ r _ r _ ⟨S, len, ent, pn, pd, py, pz, pk, tn, td, ty, tz, tk, G, hX, hY⟩
  have G' := G
  obtain ⟨ok, F, p7, p6, p10, T, t24, t8, t6⟩ := G
  obtain ⟨xr, xp, xt⟩ := hX
  obtain ⟨yr, yp, yt, c0, cc, c21⟩ := hY
  unfold wpX_covering
  rcases pk_ix v1 (n := 4) (by decide) with h | h | ⟨g, hg, rfl⟩
  · exact xm_goal_lo h (br_t rfl (br_t h (same _)))
  · exact xm_goal_hi h (br_t rfl (br_f (tc_pos_hi h (by decide)) (br_f (tc_nle_hi (n := 3) h (by decide)) (same _))))
  · have yside : ∀ P : Int32 → SY → Prop, (∀ r v', tc_RY S len ent pn pd py pz tn td ty tz v' → P r v') → wpY_covering P (f_noted, f_depth, f_rules, f_planted, f_trees, g_stateCount, f_known, f_listed, a_marks, a_sizes, a_lefts, a_costs, a_lengths, a_operators, a_spans, a_least, a_ways, a_tasks, a_list) (nI g) := fun P hP => by
      refine br_f (nI_pos (by omega)) (br_t (nI_le (b := 3) (by omega) (by decide)) ?_)
      refine yk_find ok yr c21 cc (fun a' c' kn h1 h2 => ?_)
      exact ⟨c' + 1, yk_cov_19 hg h1 rfl (fun r => hP _ _ ⟨yr, yp, yt, c', rfl, h1⟩) c' 0 (by omega) 0 _ (by omega)⟩
    refine xm_goal_ok hg (br_f (by decide) ?_)
    refine xs_coll ok xr (fun a' c' h1 h2 => ?_)
    refine br_c (fun _ => ?_) (fun _ => yside _ (fun r v' hv => hQ _ _ _ _ ⟨S, len, ent, pn, pd, py, pz, pk, tn, td, ty, tz, tk, G', ⟨xr, xp, xt⟩, hv⟩))
    exact ⟨c' + 1, xs_cov_29 ok hg h1 rfl (fun r => yside _ (fun r v' hv => hQ _ _ _ _ ⟨S, len, ent, pn, pd, py, pz, pk, tn, td, ty, tz, tk, G', ⟨xr, xp, xt⟩, hv⟩)) c' 0 (by omega) 0 _ (by omega)⟩
theorem cm_rule {u : SX} {v : SY} (I : tc_rel u v) (hQ : ∀ r u' v', tc_rel u' v' → Q r u' r v') (v1 v2 : Int32) : wpX_rule (fun r u' => wpY_rule (fun r' v' => Q r u' r' v') v v1 v2) u v1 v2 := by
  obtain ⟨S, len, ent, pn, pd, py, pz, pk, tn, td, ty, tz, tk, G, hX, hY⟩ := I
  obtain ⟨f_patternDepth, f_patternNodes, f_ruleCount, f_entryCount, f_treeDepth, f_treeNodes, f_stateCount, f_coverLength, f_pendingCount, a_patternStack, a_patternSymbol, a_patternFirst, a_patternLast, a_patternEntry, a_ruleLeft, a_ruleCost, a_ruleEntry, a_ruleStart, a_entryOperator, a_entryFirst, a_entryLast, a_treeStack, a_treeOperator, a_treeFirst, a_treeLast, a_treeSize, a_treeCosts, a_treeWays, a_stateCosts, a_cover, a_pendingEntry, a_pendingNode⟩ := u
  obtain ⟨f_noted, f_depth, f_rules, f_planted, f_trees, g_stateCount, f_known, f_listed, a_marks, a_sizes, a_lefts, a_costs, a_lengths, a_operators, a_spans, a_least, a_ways, a_tasks, a_list⟩ := v
  have same : ∀ r, Q r _ r _ := fun r => hQ r _ _ ⟨S, len, ent, pn, pd, py, pz, pk, tn, td, ty, tz, tk, G, hX, hY⟩
  obtain ⟨ok, F, p7, p6, p10, T, t24, t8, t6⟩ := G
  obtain ⟨xr, xp, xt⟩ := hX
  obtain ⟨yr, yp, yt, cc⟩ := hY
  have hR := ok.1
  unfold wpX_rule
  rcases pk_ix v1 (n := 4) (by decide) with h | h | ⟨g, hg, rfl⟩
  · exact xm_goal_lo h (br_t rfl (br_t h (same _)))
  · refine xm_goal_hi h (br_t rfl (br_f (tc_pos_hi h (by decide)) (br_t ?_ (same _))))
    exact Int32.lt_of_lt_of_le (show (3 : Int32) < nI 4 by decide) h
  · refine xm_goal_ok hg (br_f (by decide) ?_)
    have y0 : ∀ (A B C : Prop), C → (nI g < 0 → A) ∧ (¬ nI g < 0 → ((3 : Int32) < nI g → B) ∧ (¬ (3 : Int32) < nI g → C)) := fun A B C hC => br_f (nI_pos (by omega)) (br_f (nI_nlt (a := 3) (by omega) (by decide)) hC)
    rcases pk_ix v2 (n := 10) (by decide) with h | h | ⟨co, hco, rfl⟩
    · exact br_t h (y0 _ _ _ (br_t h (same _)))
    · exact br_f (tc_pos_hi h (by decide)) (br_f (tc_nle_hi (n := 9) h (by decide)) (y0 _ _ _ (br_f (tc_pos_hi h (by decide)) (br_f (tc_nle_hi (n := 9) h (by decide)) (same _)))))
    · refine br_f (nI_pos (by omega)) (br_t (nI_le (b := 9) (by omega) (by decide)) ?_)
      have y1 : ∀ (A B C D : Prop), C → (nI co < 0 → A) ∧ (¬ nI co < 0 → (nI co ≤ (9 : Int32) → C) ∧ (¬ nI co ≤ (9 : Int32) → D)) := fun A B C D hC => br_f (nI_pos (by omega)) (br_t (nI_le (b := 9) (by omega) (by decide)) hC)
      refine pk_eq pd 1 (fun hd => ?_) (fun hd => ?_) xp.1 rfl (by omega) (by omega)
      · refine pk_lt (tc_R S) 10 (fun hr10 => ?_) (fun hr10 => ?_) xr.1 rfl (by omega) (by omega)
        · obtain ⟨s1, s2⟩ := tc_fo_t1 F (by omega)
          have hE := tc_ok_sr ok (tc_R S) (Nat.le_refl _)
          have hE4 := tc_ok_E ok
          have hE67 : tc_E S ≤ 67 := by
            show tc_sr S (tc_R S) ≤ 67
            omega
          have hb := p10 (pn - 1) (by omega)
          obtain ⟨m1, m2⟩ := yp.2.2 (pn - 1) (by omega)
          have w69 : (69 : Int32) + f_noted = nI (70 + (pn - 1)) := by
            rw [yp.1, show (69 : Int32) = nI 69 from rfl, nI_add]
            exact congrArg nI (by omega)
          have main : py (pn - 1) < 6 ∨ 1 ≤ co → wX_rule_66 (fun r u' => wpY_rule (fun r' v' => Q r u' r' v') (f_noted, f_depth, f_rules, f_planted, f_trees, g_stateCount, f_known, f_listed, a_marks, a_sizes, a_lefts, a_costs, a_lengths, a_operators, a_spans, a_least, a_ways, a_tasks, a_list) (nI g) (nI co)) (nI g) (nI co) (nI (pn - 1)) f_patternDepth f_patternNodes f_ruleCount f_entryCount f_treeDepth f_treeNodes f_stateCount f_coverLength f_pendingCount a_patternStack a_patternSymbol a_patternFirst a_patternLast a_patternEntry a_ruleLeft a_ruleCost a_ruleEntry a_ruleStart a_entryOperator a_entryFirst a_entryLast a_treeStack a_treeOperator a_treeFirst a_treeLast a_treeSize a_treeCosts a_treeWays a_stateCosts a_cover a_pendingEntry a_pendingNode := fun hc0 => by
            obtain ⟨xr1, xr2, xr3, xr4⟩ := xr
            subst xr1 xr2
            have cr : (nI (tc_R S)).toNatClampNeg = tc_R S := nI_clamp (by omega)
            refine ⟨vp_in_nI hr10 (by decide), nm_r (e' := upd a_ruleLeft (tc_R S) (nI g)) (by rw [cr]) ⟨vp_in_nI hr10 (by decide), nm_r (e' := upd a_ruleCost (tc_R S) (nI co)) (by rw [cr]) ⟨vp_in_nI hr10 (by decide), nm_r (e' := upd a_ruleStart (tc_R S) (nI (tc_E S))) (by rw [cr]) ⟨pn + 1, ?_⟩⟩⟩⟩
            refine xe_2 F p10 p7 hE4.1 hE67 xp (eo0 := a_entryOperator) (ef0 := a_entryFirst) (el0 := a_entryLast) pn 0 (by omega) a_patternEntry a_entryOperator a_entryFirst a_entryLast ⟨fun j hj => absurd hj (Nat.not_lt_zero _), fun j hj => absurd hj (Nat.not_lt_zero _), fun e _ => ⟨rfl, rfl, rfl⟩⟩ (fun pe eo ef el A => ?_) (pn + 1) (by omega)
            refine ⟨vp_in_nI (by omega) (by decide), vp_in_nI hr10 (by decide), nm_r (e' := upd a_ruleEntry (tc_R S) (nI (tc_pe (tc_E S) py (pn - 1)))) (by rw [cr, nI_clamp (by omega), A.1 (pn - 1) (by omega)]) (nm_r (nI_1 _) ?_)⟩
            show wpY_rule (fun r' v' => Q (nI (tc_R S + 1) - 1) _ r' v') (f_noted, f_depth, f_rules, f_planted, f_trees, g_stateCount, f_known, f_listed, a_marks, a_sizes, a_lefts, a_costs, a_lengths, a_operators, a_spans, a_least, a_ways, a_tasks, a_list) (nI g) (nI co)
            rw [nI_pred]
            have fin : ∃ n69 : Nat, wY_rule_69 (fun r' v' => Q (nI (tc_R S)) (0, 0, nI (tc_R S + 1), nI (tc_E S + tc_cn py pn), f_treeDepth, f_treeNodes, f_stateCount, f_coverLength, f_pendingCount, a_patternStack, a_patternSymbol, a_patternFirst, a_patternLast, pe, upd a_ruleLeft (tc_R S) (nI g), upd a_ruleCost (tc_R S) (nI co), upd a_ruleEntry (tc_R S) (nI (tc_pe (tc_E S) py (pn - 1))), upd a_ruleStart (tc_R S) (nI (tc_E S)), eo, ef, el, a_treeStack, a_treeOperator, a_treeFirst, a_treeLast, a_treeSize, a_treeCosts, a_treeWays, a_stateCosts, a_cover, a_pendingEntry, a_pendingNode) r' v') (nI g) (nI co) f_noted f_depth f_rules f_planted f_trees g_stateCount f_known f_listed n69 0 a_marks a_sizes a_lefts a_costs a_lengths a_operators a_spans a_least a_ways a_tasks a_list := by
              refine ⟨pn + 1, yr_69 hr10 s1 p7 yr.1 yp.1 (mk := a_marks) (sz := a_sizes) yp.2.2 pn 0 (by omega) a_marks a_sizes (fun _ _ => ⟨rfl, rfl⟩) (fun j hj => absurd hj (Nat.not_lt_zero _)) (fun mk' sz' q1 q2 => ?_) (pn + 1) (by omega)⟩
              refine hQ _ _ _ ⟨tc_Sn S g co pn py eo ef el, tc_un len (tc_R S) pn, tc_en S ent py, 0, 0, py, pz, pk, tn, td, ty, tz, tk, ⟨tc_Sn_ok ok hr10 s1 p7 p10 F hg (by omega) hc0 xr4 A, tc_fo_nil _ _ _, by omega, by omega, fun i hi => absurd hi (Nat.not_lt_zero _), T, t24, t8, t6⟩,
                ⟨tc_Sn_x ok hr10 s1 p7 p10 F ⟨rfl, rfl, xr3, xr4⟩ A, ⟨rfl, rfl, fun k hk => absurd hk (Nat.not_lt_zero _), fun i hi => absurd hi (Nat.not_lt_zero _)⟩, xt⟩, ⟨tc_Sn_y ok hr10 s1 p7 p10 F yr xr4 A q1 q2, ⟨rfl, rfl, fun i hi => absurd hi (Nat.not_lt_zero _)⟩, yt, cc⟩⟩
            refine y0 _ _ _ (y1 _ True _ _ (br_t (by rw [yp.2.1, hd]; rfl) (br_f (by rw [yr.1]; exact fun z => by have := (nI_eq (b := 10) (by omega) (by decide)).mp z; omega) ⟨by rw [w69]; exact vp_in_nI (by omega) (by decide), ?_⟩)))
            refine br_c (fun _ => fin) (fun z => br_f (fun z2 => ?_) fin)
            rcases hc0 with h6 | h6
            · refine z ?_
              rw [w69, nI_clamp (by omega), m1]
              unfold tc_mk
              rw [if_pos h6]
              exact nI_le (b := 9) (by omega) (by decide)
            · exact absurd z2 (nI_ne0 (by omega) (by omega))
          refine nm_r (e' := nI (pn - 1)) (by rw [xp.2.2.1 0 (by omega)]; rw [hd] at s2; exact congrArg nI s2) ⟨vp_in_nI (by omega) (by decide), ?_⟩
          refine pk_lt (py (pn - 1)) 6 (fun h6 => main (Or.inl h6)) (fun h6 => ?_) (by rw [nI_clamp (by omega), (xp.2.2.2 (pn - 1) (by omega)).1]) rfl (by omega) (by omega)
          refine pk_eq co 0 (fun hz => ?_) (fun hz => main (Or.inr (by omega))) rfl rfl (by omega) (by omega)
          refine y0 _ _ _ (y1 _ True _ _ (br_t (by rw [yp.2.1, hd]; rfl) (br_f (by rw [yr.1]; exact fun z => by have := (nI_eq (b := 10) (by omega) (by decide)).mp z; omega) ⟨by rw [w69]; exact vp_in_nI (by omega) (by decide), br_f ?_ (br_t (by rw [hz]; rfl) (same _))⟩)))
          rw [w69, nI_clamp (by omega), m1]
          unfold tc_mk
          rw [if_neg (by omega)]
          exact nI_ge (a := 9) (by omega) (by omega)
        · refine y0 _ _ _ (y1 _ True _ _ (br_t (by rw [yp.2.1, hd]; rfl) (br_t (by rw [yr.1]; exact congrArg nI (show tc_R S = 10 by omega)) (same _))))
      · exact y0 _ _ _ (y1 _ True _ _ (br_f (by rw [yp.2.1]; exact fun z => hd ((nI_eq (b := 1) (by omega) (by decide)).mp z)) (same _)))
end
end
section
/-! the owed statements -/
def i_Rel (k : Nat) (u : SX) (v : SY) : Prop := tc_rel u v
theorem i_up {k : Nat} {u : SX} {v : SY} (h : i_Rel k u v) : i_Rel (k + 3) u v := h
theorem i_vc0 : wpX_init (fun u => wpY_init (fun v => i_Rel 0 u v)) := cm_init
theorem i_vc_goal {k : Nat} {u : SX} {v : SY} (I : i_Rel k u v) (hk : k + 3 ≤ 1536) (v1 : Int32) : wpX_goal (fun r u' => wpY_goal (fun r' v' => i_Rel (k + 3) u' v') v v1) u v1 := cm_goal (Q := fun r u' r' v' => i_Rel (k + 3) u' v') I (fun r u' v' J => J) v1
theorem i_vc_pattern {k : Nat} {u : SX} {v : SY} (I : i_Rel k u v) (hk : k + 3 ≤ 1536) (v1 : Int32) : wpX_pattern (fun r u' => wpY_pattern (fun r' v' => i_Rel (k + 3) u' v') v v1) u v1 := cm_pattern (Q := fun r u' r' v' => i_Rel (k + 3) u' v') I (fun r u' v' J => J) v1
theorem i_vc_rule {k : Nat} {u : SX} {v : SY} (I : i_Rel k u v) (hk : k + 3 ≤ 1536) (v1 : Int32) (v2 : Int32) : wpX_rule (fun r u' => wpY_rule (fun r' v' => i_Rel (k + 3) u' v') v v1 v2) u v1 v2 := cm_rule (Q := fun r u' r' v' => i_Rel (k + 3) u' v') I (fun r u' v' J => J) v1 v2
theorem i_vc_unrule {k : Nat} {u : SX} {v : SY} (I : i_Rel k u v) (hk : k + 3 ≤ 1536) : wpX_unrule (fun r u' => wpY_unrule (fun r' v' => i_Rel (k + 3) u' v') v) u := cm_unrule (Q := fun r u' r' v' => i_Rel (k + 3) u' v') I (fun r u' v' J => J)
theorem i_vc_scrap {k : Nat} {u : SX} {v : SY} (I : i_Rel k u v) (hk : k + 3 ≤ 1536) : wpX_scrap (fun r u' => wpY_scrap (fun r' v' => i_Rel (k + 3) u' v') v) u := cm_scrap (Q := fun r u' r' v' => i_Rel (k + 3) u' v') I (fun r u' v' J => J)
theorem i_vc_tree {k : Nat} {u : SX} {v : SY} (I : i_Rel k u v) (hk : k + 3 ≤ 1536) (v1 : Int32) : wpX_tree (fun r u' => wpY_tree (fun r' v' => i_Rel (k + 3) u' v') v v1) u v1 := cm_tree (Q := fun r u' r' v' => i_Rel (k + 3) u' v') I (fun r u' v' J => J) v1
theorem i_vc_fell {k : Nat} {u : SX} {v : SY} (I : i_Rel k u v) (hk : k + 3 ≤ 1536) : wpX_fell (fun r u' => wpY_fell (fun r' v' => i_Rel (k + 3) u' v') v) u := cm_fell (Q := fun r u' r' v' => i_Rel (k + 3) u' v') I (fun r u' v' J => J)
theorem i_vc_size {k : Nat} {u : SX} {v : SY} (I : i_Rel k u v) (hk : k + 3 ≤ 1536) : wpX_size (fun r => wpY_size (fun r' => i_Rel (k + 3) u v) v) u := cm_size (P := fun r r' => i_Rel (k + 3) u v) I (fun r J => J)
theorem i_vc_states {k : Nat} {u : SX} {v : SY} (I : i_Rel k u v) (hk : k + 3 ≤ 1536) : wpX_states (fun r u' => wpY_states (fun r' v' => i_Rel (k + 3) u' v') v) u := cm_states (Q := fun r u' r' v' => i_Rel (k + 3) u' v') I (fun r u' r' v' J => J)
theorem i_vc_covering {k : Nat} {u : SX} {v : SY} (I : i_Rel k u v) (hk : k + 3 ≤ 1536) (v1 : Int32) : wpX_covering (fun r u' => wpY_covering (fun r' v' => i_Rel (k + 3) u' v') v v1) u v1 := cm_covering (Q := fun r u' r' v' => i_Rel (k + 3) u' v') I (fun r u' r' v' J => J) v1
theorem i_vc_cost {k : Nat} {u : SX} {v : SY} (I : i_Rel k u v) (hk : k + 3 ≤ 1536) (v1 : Int32) : wpX_cost (fun r u' => wpY_cost (fun r' v' => i_Rel (k + 3) u' v') v v1) u v1 := cm_cost (Q := fun r u' r' v' => i_Rel (k + 3) u' v') I (fun r u' v' J => J) v1
theorem i_vc_goals {k : Nat} {u : SX} {v : SY} (I : i_Rel k u v) (hk : k + 3 ≤ 1536) : wpX_goals (fun r u' => wpY_goals (fun r' v' => i_Rel (k + 3) u' v') v) u := cm_goals (Q := fun r u' r' v' => i_Rel (k + 3) u' v') I (fun r u' v' J => J)
theorem i_vc_alike {k : Nat} {u : SX} {v : SY} (I : i_Rel k u v) (hk : k + 3 ≤ 1536) : wpX_alike (fun r u' => wpY_alike (fun r' v' => i_Rel (k + 3) u' v') v) u := cm_alike (Q := fun r u' r' v' => i_Rel (k + 3) u' v') I (fun r u' v' J => J)
theorem i_vc_ways {k : Nat} {u : SX} {v : SY} (I : i_Rel k u v) (hk : k + 3 ≤ 1536) (v1 : Int32) : wpX_ways (fun r u' => wpY_ways (fun r' v' => i_Rel (k + 3) u' v') v v1) u v1 := cm_ways (Q := fun r u' r' v' => i_Rel (k + 3) u' v') I (fun r u' v' J => J) v1
theorem i_vc_used {k : Nat} {u : SX} {v : SY} (I : i_Rel k u v) (hk : k + 3 ≤ 1536) (v1 : Int32) (v2 : Int32) : wpX_used (fun r u' => wpY_used (fun r' v' => i_Rel (k + 3) u' v') v v1 v2) u v1 v2 := cm_used (Q := fun r u' r' v' => i_Rel (k + 3) u' v') I (fun r u' v' J => J) v1 v2
theorem i_vc_uses {k : Nat} {u : SX} {v : SY} (I : i_Rel k u v) (hk : k + 3 ≤ 1536) (v1 : Int32) : wpX_uses (fun r u' => wpY_uses (fun r' v' => r' = r ∧ i_Rel (k + 3) u' v') v v1) u v1 := cm_uses (Q := fun r u' r' v' => r' = r ∧ i_Rel (k + 3) u' v') I (fun r u' v' J => ⟨rfl, J⟩) v1
end
