/-! pushing a node on a stack of trees -/
def tc_un (f : Nat → Nat) (k x : Nat) : Nat → Nat := fun j => if j = k then x else f j
theorem tc_us {f : Nat → Nat} {k x : Nat} : tc_un f k x k = x := if_pos rfl
theorem tc_ne {f : Nat → Nat} {k x j : Nat} (h : j ≠ k) : tc_un f k x j = f j := if_neg h
theorem tc_nd_congr {sy ps sy' ps' : Nat → Nat} {i : Nat} (h : ∀ j, j ≤ i → sy' j = sy j ∧ ps' j = ps j) (H : tc_nd sy ps i) : tc_nd sy' ps' i := by
  have a := h i (Nat.le_refl _)
  have b := h (i - 1) (by omega)
  have c := h (i - 1 - ps (i - 1)) (by omega)
  unfold tc_nd at H ⊢
  rw [b.2, c.2, a.1, a.2]
  exact H
theorem tc_fo_gen {nn dd d sy ps sk s sz} (F : tc_fo nn dd sy ps sk) (hd : d ≤ dd) (h1 : ∀ k, k + 1 = d → sk k + sz = nn) (h2 : d = 0 → nn + 1 = sz)
    (hn : tc_nd (tc_un sy nn s) (tc_un ps nn sz) nn) : tc_fo (nn + 1) (d + 1) (tc_un sy nn s) (tc_un ps nn sz) (tc_un sk d nn) := by
  obtain ⟨F1, F2, F3, F4, F5, F6⟩ := F
  refine ⟨fun h => by omega, fun k hk => ?_, fun k hk => ?_, fun _ => ?_, fun k hk => ?_, fun i hi => ?_⟩
  · have e : k = d := by omega
    rw [e, tc_us]
  · have hkd : k ≠ d := by omega
    by_cases e : k + 1 = d
    · rw [e, tc_us, tc_us, tc_ne hkd]
      exact h1 k e
    · rw [tc_ne hkd, tc_ne e]
      have hb := F5 (k + 1) (by omega)
      rw [tc_ne (by omega)]
      exact F3 k (by omega)
  · by_cases e : d = 0
    · rw [e, tc_us, tc_us]
      exact h2 e
    · have hb := F5 0 (by omega)
      rw [tc_ne (by omega), tc_ne (by omega)]
      exact F4 (by omega)
  · by_cases e : k = d
    · rw [e, tc_us]
      omega
    · have hb := F5 k (by omega)
      rw [tc_ne e]
      omega
  · by_cases e : i = nn
    · rw [e]
      exact hn
    · exact tc_nd_congr (fun j hj => ⟨tc_ne (by omega), tc_ne (by omega)⟩) (F6 i (by omega))
theorem tc_fo_t1 {nn dd sy ps sk} (F : tc_fo nn dd sy ps sk) (h : 1 ≤ dd) : 1 ≤ nn ∧ sk (dd - 1) = nn - 1 := by
  have h1 := F.2.1 (dd - 1) (by omega)
  omega
theorem tc_fo_t2 {nn dd sy ps sk} (F : tc_fo nn dd sy ps sk) (h : 2 ≤ dd) : ps (nn - 1) < nn ∧ sk (dd - 2) = nn - 1 - ps (nn - 1) := by
  have h1 := tc_fo_t1 F (by omega)
  have h2 := F.2.2.1 (dd - 2) (by omega)
  have e : dd - 2 + 1 = dd - 1 := by omega
  rw [e, h1.2] at h2
  omega
theorem tc_fo_0 {nn dd sy ps sk s} (F : tc_fo nn dd sy ps sk) (hs : s < 2 ∨ 6 ≤ s) : tc_fo (nn + 1) (dd + 1) (tc_un sy nn s) (tc_un ps nn 1) (tc_un sk dd nn) := by
  refine tc_fo_gen F (Nat.le_refl _) (fun k hk => F.2.1 k hk) (fun h => by have := F.1 h; omega) ?_
  unfold tc_nd
  rw [tc_us, tc_us]
  exact ⟨by omega, by omega, by omega, by omega, by omega, by omega, by omega⟩
theorem tc_fo_1 {nn dd sy ps sk s} (F : tc_fo nn dd sy ps sk) (hd : 1 ≤ dd) (hs : 2 ≤ s) (hs4 : s < 4) : tc_fo (nn + 1) dd (tc_un sy nn s) (tc_un ps nn (1 + ps (nn - 1))) (tc_un sk (dd - 1) nn) := by
  obtain ⟨hn1, ht⟩ := tc_fo_t1 F hd
  have h1 : ∀ k, k + 1 = dd - 1 → sk k + (1 + ps (nn - 1)) = nn := fun k hk => by
    have h := F.2.2.1 k (by omega)
    rw [hk, ht] at h
    omega
  have h2 : dd - 1 = 0 → nn + 1 = 1 + ps (nn - 1) := fun h => by
    have h4 := F.2.2.2.1 (by omega)
    rw [← h, ht] at h4
    omega
  have hz : 1 + ps (nn - 1) ≤ nn + 1 := by
    rcases Nat.eq_zero_or_pos (dd - 1) with h | h
    · have := h2 h
      omega
    · have := h1 (dd - 1 - 1) (by omega)
      omega
  have key := tc_fo_gen (s := s) F (show dd - 1 ≤ dd by omega) h1 h2 (by
    unfold tc_nd
    rw [tc_us, tc_us, tc_ne (show nn - 1 ≠ nn by omega)]
    exact ⟨by omega, by omega, by omega, by omega, by omega, by omega, by omega⟩)
  have e : dd - 1 + 1 = dd := by omega
  rw [e] at key
  exact key
theorem tc_fo_2 {nn dd sy ps sk s} (F : tc_fo nn dd sy ps sk) (hd : 2 ≤ dd) (hs : 4 ≤ s) (hs6 : s < 6) :
    tc_fo (nn + 1) (dd - 1) (tc_un sy nn s) (tc_un ps nn (1 + ps (nn - 1) + ps (nn - 1 - ps (nn - 1)))) (tc_un sk (dd - 2) nn) := by
  obtain ⟨hn1, ht⟩ := tc_fo_t1 F (by omega)
  obtain ⟨hp, ht2⟩ := tc_fo_t2 F hd
  have h1 : ∀ k, k + 1 = dd - 2 → sk k + (1 + ps (nn - 1) + ps (nn - 1 - ps (nn - 1))) = nn := fun k hk => by
    have h := F.2.2.1 k (by omega)
    rw [hk, ht2] at h
    omega
  have h2 : dd - 2 = 0 → nn + 1 = 1 + ps (nn - 1) + ps (nn - 1 - ps (nn - 1)) := fun h => by
    have h4 := F.2.2.2.1 (by omega)
    rw [← h, ht2] at h4
    omega
  have hz : 1 + ps (nn - 1) + ps (nn - 1 - ps (nn - 1)) ≤ nn + 1 := by
    rcases Nat.eq_zero_or_pos (dd - 2) with h | h
    · have := h2 h
      omega
    · have := h1 (dd - 2 - 1) (by omega)
      omega
  have key := tc_fo_gen (s := s) F (show dd - 2 ≤ dd by omega) h1 h2 (by
    unfold tc_nd
    rw [tc_us, tc_us, tc_ne (show nn - 1 ≠ nn by omega), tc_ne (show nn - 1 - ps (nn - 1) ≠ nn by omega)]
    exact ⟨by omega, by omega, by omega, by omega, by omega, by omega, by omega⟩)
  have e : dd - 2 + 1 = dd - 1 := by omega
  rw [e] at key
  exact key
theorem tc_fo_nil (sy ps sk : Nat → Nat) : tc_fo 0 0 sy ps sk :=
  ⟨fun _ => rfl, fun k h => by omega, fun k h => by omega, fun h => by omega, fun k h => by omega, fun i h => by omega⟩
/-! the entries of a new rule -/
def tc_cn (py : Nat → Nat) : Nat → Nat
  | 0 => 0
  | i + 1 => tc_cn py i + (if py i < 6 then 1 else 0)
def tc_pe (E : Nat) (py : Nat → Nat) (i : Nat) : Nat := if py i < 6 then E + tc_cn py i else py i - 6
theorem tc_cn_y {py : Nat → Nat} {i : Nat} (h : py i < 6) : tc_cn py (i + 1) = tc_cn py i + 1 := by
  show tc_cn py i + (if py i < 6 then 1 else 0) = _
  rw [if_pos h]
theorem tc_cn_n {py : Nat → Nat} {i : Nat} (h : ¬ py i < 6) : tc_cn py (i + 1) = tc_cn py i := by
  show tc_cn py i + (if py i < 6 then 1 else 0) = _
  rw [if_neg h]
  rfl
theorem tc_cn_le {py : Nat → Nat} : ∀ i, tc_cn py i ≤ i := by
  intro i
  induction i with
  | zero => exact Nat.le_refl _
  | succ i ih =>
    by_cases h : py i < 6
    · rw [tc_cn_y h]
      omega
    · rw [tc_cn_n h]
      omega
theorem tc_cn_mono {py : Nat → Nat} {i : Nat} : ∀ d, tc_cn py i ≤ tc_cn py (i + d) := by
  intro d
  induction d with
  | zero => exact Nat.le_refl _
  | succ d ih =>
    show tc_cn py i ≤ tc_cn py (i + d + 1)
    by_cases h : py (i + d) < 6
    · rw [tc_cn_y h]
      omega
    · rw [tc_cn_n h]
      exact ih
theorem tc_cn_lt {py : Nat → Nat} {i j : Nat} (h : py i < 6) (hj : i < j) : tc_cn py i < tc_cn py j := by
  have h1 := tc_cn_mono (py := py) (i := i + 1) (j - (i + 1))
  rw [tc_cn_y h, show i + 1 + (j - (i + 1)) = j by omega] at h1
  omega
theorem tc_cn_su {py : Nat → Nat} {c : Nat} : ∀ n, c < tc_cn py n → ∃ i, i < n ∧ py i < 6 ∧ tc_cn py i = c := by
  intro n
  induction n with
  | zero => intro h; exact absurd h (Nat.not_lt_zero _)
  | succ n ih =>
    intro h
    by_cases hp : py n < 6
    · rw [tc_cn_y hp] at h
      by_cases e : c = tc_cn py n
      · exact ⟨n, by omega, hp, e.symm⟩
      · obtain ⟨i, a, b, d⟩ := ih (by omega)
        exact ⟨i, by omega, b, d⟩
    · rw [tc_cn_n hp] at h
      obtain ⟨i, a, b, d⟩ := ih h
      exact ⟨i, by omega, b, d⟩
theorem tc_pe_lt {E i n : Nat} {py : Nat → Nat} (hE : 4 ≤ E) (h10 : py i < 10) (hi : i < n) : tc_pe E py i < E + tc_cn py n := by
  unfold tc_pe
  by_cases h : py i < 6
  · have := tc_cn_lt h hi
    rw [if_pos h]
    omega
  · rw [if_neg h]
    omega
