/-! the lowest rule that begins a least cover -/
def tc_fd (p : Nat → Bool) : Nat → Nat → Nat
  | 0, _ => 0
  | n + 1, i => if p i = true then i else tc_fd p n (i + 1)
theorem tc_fd_eq {p : Nat → Bool} {r : Nat} (hp : p r = true) (hm : ∀ j, j < r → p j = false) : ∀ n i, i ≤ r → r < i + n → tc_fd p n i = r := by
  intro n
  induction n with
  | zero => intro i h1 h2; omega
  | succ n ih =>
    intro i h1 h2
    by_cases e : i = r
    · rw [e]
      exact if_pos hp
    · have e2 : tc_fd p (n + 1) i = tc_fd p n (i + 1) := if_neg (by rw [hm i (by omega)]; exact Bool.false_ne_true)
      rw [e2]
      exact ih (i + 1) (by omega) (by omega)
theorem tc_fd_congr {p p' : Nat → Bool} : ∀ n i, (∀ j, j < i + n → p j = p' j) → tc_fd p n i = tc_fd p' n i := by
  intro n
  induction n with
  | zero => intro i _; rfl
  | succ n ih =>
    intro i h
    unfold tc_fd
    rw [h i (by omega), ih (i + 1) (fun j hj => h j (by omega))]
abbrev tc_pb (S : tc_S) (K : Nat) (t : Nat → Nat) (g r : Nat) : Prop := tc_lf S r = g ∧ tc_bs S K t r
def tc_lo (S : tc_S) (K : Nat) (t : Nat → Nat) (g : Nat) : Nat := tc_fd (fun r => decide (tc_pb S K t g r)) (tc_R S) 0
theorem tc_lo_eq {S : tc_S} {K g r : Nat} {t : Nat → Nat} (hr : r < tc_R S) (hp : tc_pb S K t g r) (hm : ∀ j, j < r → ¬ tc_pb S K t g j) : tc_lo S K t g = r :=
  tc_fd_eq (decide_eq_true hp) (fun j hj => decide_eq_false (hm j hj)) (tc_R S) 0 (Nat.zero_le _) (by omega)
theorem tc_lo_ex {S : tc_S} {K g : Nat} {t : Nat → Nat} (h : ∃ r, r < tc_R S ∧ tc_pb S K t g r) : tc_lo S K t g < tc_R S ∧ tc_pb S K t g (tc_lo S K t g) ∧ ∀ j, j < tc_lo S K t g → ¬ tc_pb S K t g j := by
  obtain ⟨r, ⟨hr, hp⟩, hm⟩ := pk_least (fun r => r < tc_R S ∧ tc_pb S K t g r) h
  have e := tc_lo_eq hr hp (fun j hj hb => hm j hj ⟨by omega, hb⟩)
  rw [e]
  exact ⟨hr, hp, fun j hj hb => hm j hj ⟨by omega, hb⟩⟩
theorem tc_v_ex {S : tc_S} (ok : tc_ok S) {K g m : Nat} {sy ps : Nat → Nat} (h1 : 2 ≤ sy m → 1 ≤ m) (hg : g < 4) (h : tc_v S K sy ps m g ≠ K) : ∃ r, r < tc_R S ∧ tc_pb S K (tc_v S K sy ps m) g r := by
  rw [tc_v_eq h1] at h ⊢
  rcases tc_row_X (S := S) (K := K) (o := sy m) (x := tc_v S K sy ps (m - 1 - ps (m - 1))) (y := tc_v S K sy ps (m - 1)) 4 g hg with e | ⟨r, hr, hl, hc⟩
  · exact absurd e h
  · have hs := tc_stab ok (tc_i0 S K (sy m) (tc_v S K sy ps (m - 1 - ps (m - 1))) (tc_v S K sy ps (m - 1))) hr
    refine ⟨r, hr, hl, by rw [hl]; exact h, ?_⟩
    unfold tc_row
    rw [hl] at hs ⊢
    omega
/-! the first least cover, by a stack of what is still to be covered -/
def tc_gd (S : tc_S) (K : Nat) (sy ps : Nat → Nat) (N n e : Nat) : Prop := n < N ∧ e < tc_E S ∧ tc_v S K sy ps n e ≠ K
def tc_m1 (S : tc_S) (K : Nat) (sy ps : Nat → Nat) (n e : Nat) : Nat := 10 * ps n + (if e < 4 then tc_L (tc_v S K sy ps n) e + 1 else 0)
def tc_mu (S : tc_S) (K : Nat) (sy ps : Nat → Nat) : List (Nat × Nat) → Nat
  | [] => 0
  | p :: s => tc_m1 S K sy ps p.1 p.2 + tc_mu S K sy ps s
def tc_ou (S : tc_S) (K : Nat) (sy ps : Nat → Nat) (n e : Nat) : List Nat := if e < 4 then [tc_lo S K (tc_v S K sy ps n) e] else []
def tc_nx (S : tc_S) (K : Nat) (sy ps : Nat → Nat) (n e : Nat) : List (Nat × Nat) :=
  if e < 4 then [(n, tc_rt S (tc_lo S K (tc_v S K sy ps n) e))] else if sy n < 2 then [] else if sy n < 4 then [(n - 1, tc_el S e)] else [(n - 1 - ps (n - 1), tc_ef S e), (n - 1, tc_el S e)]
def tc_run (S : tc_S) (K : Nat) (sy ps : Nat → Nat) : Nat → List (Nat × Nat) → List Nat
  | 0, _ => []
  | _ + 1, [] => []
  | f + 1, p :: s => tc_ou S K sy ps p.1 p.2 ++ tc_run S K sy ps f (tc_nx S K sy ps p.1 p.2 ++ s)
def tc_cv (S : tc_S) (K : Nat) (sy ps : Nat → Nat) (s : List (Nat × Nat)) : List Nat := tc_run S K sy ps (tc_mu S K sy ps s) s
theorem tc_mu_app {S : tc_S} {K : Nat} {sy ps : Nat → Nat} : ∀ a b : List (Nat × Nat), tc_mu S K sy ps (a ++ b) = tc_mu S K sy ps a + tc_mu S K sy ps b := by
  intro a b
  induction a with
  | nil => show tc_mu S K sy ps b = 0 + tc_mu S K sy ps b; omega
  | cons p a ih =>
    show tc_m1 S K sy ps p.1 p.2 + tc_mu S K sy ps (a ++ b) = tc_m1 S K sy ps p.1 p.2 + tc_mu S K sy ps a + tc_mu S K sy ps b
    omega
section
variable {S : tc_S} {K N : Nat} {sy ps : Nat → Nat}
theorem tc_gd_lo {n e : Nat} (ok : tc_ok S) (hn : tc_tn sy ps N) (h : tc_gd S K sy ps N n e) (he : e < 4) :
    tc_lo S K (tc_v S K sy ps n) e < tc_R S ∧ tc_pb S K (tc_v S K sy ps n) e (tc_lo S K (tc_v S K sy ps n) e) ∧ (∀ j, j < tc_lo S K (tc_v S K sy ps n) e → ¬ tc_pb S K (tc_v S K sy ps n) e j) ∧
    tc_gd S K sy ps N n (tc_rt S (tc_lo S K (tc_v S K sy ps n) e)) := by
  obtain ⟨h6, hd⟩ := hn n h.1
  have h1 : 2 ≤ sy n → 1 ≤ n := fun h => hd.2.2.1 h h6
  obtain ⟨a, b, c⟩ := tc_lo_ex (tc_v_ex ok h1 he h.2.2)
  refine ⟨a, b, c, h.1, (tc_ok_r ok a).2.2.1, ?_⟩
  have h3 := b.2.1
  have h2 := b.2.2
  have hle := tc_v_le (S := S) (K := K) (ps := ps) h1 (tc_lf S (tc_lo S K (tc_v S K sy ps n) e))
  omega
theorem tc_gd_op {n e : Nat} (ok : tc_ok S) (hn : tc_tn sy ps N) (h : tc_gd S K sy ps N n e) (he : ¬ e < 4) :
    tc_eo S e = sy n ∧ (2 ≤ sy n → 1 ≤ n ∧ tc_gd S K sy ps N (n - 1) (tc_el S e)) ∧ (4 ≤ sy n → ps (n - 1) < n ∧ tc_gd S K sy ps N (n - 1 - ps (n - 1)) (tc_ef S e)) := by
  obtain ⟨h6, hd⟩ := hn n h.1
  have h1 : 2 ≤ sy n → 1 ≤ n := fun h => hd.2.2.1 h h6
  obtain ⟨a, b, c⟩ := tc_v_op ok h1 (by omega) h.2.2
  have hk := ok.2.2.2 e (by omega) h.2.1
  have hN := h.1
  have hE := h.2.1
  refine ⟨a, fun h2 => ⟨h1 h2, by have := h1 h2; omega, by omega, ?_⟩, fun h4 => ⟨hd.2.2.2.1 h4 h6, by have := h1 (by omega); omega, by omega, ?_⟩⟩
  · have := b h2
    omega
  · have := c h4
    omega
theorem tc_gd_nx {n e : Nat} (ok : tc_ok S) (hn : tc_tn sy ps N) (h : tc_gd S K sy ps N n e) :
    (∀ p, p ∈ tc_nx S K sy ps n e → tc_gd S K sy ps N p.1 p.2) ∧ tc_mu S K sy ps (tc_nx S K sy ps n e) < tc_m1 S K sy ps n e := by
  obtain ⟨h6, d1, d2, d3, d4, d5, d6, d7⟩ := hn n h.1
  by_cases he : e < 4
  · obtain ⟨a, b, c, d⟩ := tc_gd_lo ok hn h he
    have e1 : tc_nx S K sy ps n e = [(n, tc_rt S (tc_lo S K (tc_v S K sy ps n) e))] := if_pos he
    rw [e1]
    refine ⟨fun p hp => ?_, ?_⟩
    · rw [List.mem_singleton] at hp
      rw [hp]
      exact d
    · show tc_m1 S K sy ps n (tc_rt S (tc_lo S K (tc_v S K sy ps n) e)) + 0 < tc_m1 S K sy ps n e
      unfold tc_m1
      rw [if_pos he]
      by_cases hc : tc_rt S (tc_lo S K (tc_v S K sy ps n) e) < 4
      · have hL := tc_bs_L ok a hc b.2
        rw [b.1] at hL
        rw [if_pos hc]
        omega
      · rw [if_neg hc]
        omega
  · obtain ⟨a, b, c⟩ := tc_gd_op ok hn h he
    have hm : tc_m1 S K sy ps n e = 10 * ps n := by
      unfold tc_m1
      rw [if_neg he]
      rfl
    have hm5 : ∀ m f, tc_m1 S K sy ps m f ≤ 10 * ps m + 4 := by
      intro m f
      unfold tc_m1
      split
      · next z =>
        have := tc_L_le3 (t := tc_v S K sy ps m) z
        omega
      · omega
    rw [hm]
    by_cases h2 : sy n < 2
    · have e1 : tc_nx S K sy ps n e = [] := by
        unfold tc_nx
        rw [if_neg he, if_pos h2]
      rw [e1]
      refine ⟨fun p hp => absurd hp List.not_mem_nil, ?_⟩
      show 0 < 10 * ps n
      omega
    · by_cases h4 : sy n < 4
      · have e1 : tc_nx S K sy ps n e = [(n - 1, tc_el S e)] := by
          unfold tc_nx
          rw [if_neg he, if_neg h2, if_pos h4]
        rw [e1]
        refine ⟨fun p hp => ?_, ?_⟩
        · rw [List.mem_singleton] at hp
          rw [hp]
          exact (b (by omega)).2
        · show tc_m1 S K sy ps (n - 1) (tc_el S e) + 0 < 10 * ps n
          have := hm5 (n - 1) (tc_el S e)
          have := d6 (by omega) h4
          omega
      · have e1 : tc_nx S K sy ps n e = [(n - 1 - ps (n - 1), tc_ef S e), (n - 1, tc_el S e)] := by
          unfold tc_nx
          rw [if_neg he, if_neg h2, if_neg h4]
        rw [e1]
        refine ⟨fun p hp => ?_, ?_⟩
        · rcases List.mem_cons.mp hp with hp | hp
          · rw [hp]
            exact (c (by omega)).2
          · rw [List.mem_singleton] at hp
            rw [hp]
            exact (b (by omega)).2
        · show tc_m1 S K sy ps (n - 1 - ps (n - 1)) (tc_ef S e) + (tc_m1 S K sy ps (n - 1) (tc_el S e) + 0) < 10 * ps n
          have := hm5 (n - 1) (tc_el S e)
          have := hm5 (n - 1 - ps (n - 1)) (tc_ef S e)
          have := d7 (by omega) h6
          omega
theorem tc_run_ir (ok : tc_ok S) (hn : tc_tn sy ps N) : ∀ f f' s, (∀ p, p ∈ s → tc_gd S K sy ps N p.1 p.2) → tc_mu S K sy ps s ≤ f → tc_mu S K sy ps s ≤ f' → tc_run S K sy ps f s = tc_run S K sy ps f' s := by
  intro f
  induction f with
  | zero =>
    intro f' s hs h1 h2
    cases s with
    | nil =>
      cases f' with
      | zero => rfl
      | succ f' => rfl
    | cons p s =>
      have h3 := (tc_gd_nx ok hn (hs p List.mem_cons_self)).2
      have h4 : tc_mu S K sy ps (p :: s) = tc_m1 S K sy ps p.1 p.2 + tc_mu S K sy ps s := rfl
      omega
  | succ f ih =>
    intro f' s hs h1 h2
    cases s with
    | nil =>
      cases f' with
      | zero => rfl
      | succ f' => rfl
    | cons p s =>
      obtain ⟨hg, h3⟩ := tc_gd_nx ok hn (hs p List.mem_cons_self)
      have h4 : tc_mu S K sy ps (p :: s) = tc_m1 S K sy ps p.1 p.2 + tc_mu S K sy ps s := rfl
      cases f' with
      | zero => omega
      | succ f' =>
        show tc_ou S K sy ps p.1 p.2 ++ tc_run S K sy ps f (tc_nx S K sy ps p.1 p.2 ++ s) = tc_ou S K sy ps p.1 p.2 ++ tc_run S K sy ps f' (tc_nx S K sy ps p.1 p.2 ++ s)
        have h5 := tc_mu_app (S := S) (K := K) (sy := sy) (ps := ps) (tc_nx S K sy ps p.1 p.2) s
        rw [ih f' (tc_nx S K sy ps p.1 p.2 ++ s) (fun q hq => by
          rcases List.mem_append.mp hq with h | h
          · exact hg q h
          · exact hs q (List.mem_cons_of_mem _ h)) (by omega) (by omega)]
theorem tc_cv_cons (ok : tc_ok S) (hn : tc_tn sy ps N) {n e : Nat} {s : List (Nat × Nat)} (hs : ∀ p, p ∈ (n, e) :: s → tc_gd S K sy ps N p.1 p.2) :
    tc_cv S K sy ps ((n, e) :: s) = tc_ou S K sy ps n e ++ tc_cv S K sy ps (tc_nx S K sy ps n e ++ s) := by
  obtain ⟨hg, h3⟩ := tc_gd_nx ok hn (hs (n, e) List.mem_cons_self)
  have h4 : tc_mu S K sy ps ((n, e) :: s) = tc_m1 S K sy ps n e + tc_mu S K sy ps s := rfl
  have h5 := tc_mu_app (S := S) (K := K) (sy := sy) (ps := ps) (tc_nx S K sy ps n e) s
  dsimp only at hg h3
  have hs2 : ∀ p, p ∈ tc_nx S K sy ps n e ++ s → tc_gd S K sy ps N p.1 p.2 := fun q hq => by
    rcases List.mem_append.mp hq with h | h
    · exact hg q h
    · exact hs q (List.mem_cons_of_mem _ h)
  obtain ⟨k, hk⟩ : ∃ k, tc_mu S K sy ps ((n, e) :: s) = k + 1 := ⟨tc_mu S K sy ps ((n, e) :: s) - 1, by omega⟩
  have e1 : tc_cv S K sy ps ((n, e) :: s) = tc_run S K sy ps (k + 1) ((n, e) :: s) := by
    unfold tc_cv
    rw [hk]
  rw [e1]
  show tc_ou S K sy ps n e ++ tc_run S K sy ps k (tc_nx S K sy ps n e ++ s) = _
  rw [tc_run_ir ok hn k (tc_mu S K sy ps (tc_nx S K sy ps n e ++ s)) _ hs2 (by omega) (Nat.le_refl _)]
  rfl
end
theorem tc_run_len {S : tc_S} {K : Nat} {sy ps : Nat → Nat} : ∀ f s, (tc_run S K sy ps f s).length ≤ f := by
  intro f
  induction f with
  | zero => intro s; exact Nat.le_refl _
  | succ f ih =>
    intro s
    cases s with
    | nil => exact Nat.zero_le _
    | cons p s =>
      show (tc_ou S K sy ps p.1 p.2 ++ tc_run S K sy ps f (tc_nx S K sy ps p.1 p.2 ++ s)).length ≤ f + 1
      rw [List.length_append]
      have h1 := ih (tc_nx S K sy ps p.1 p.2 ++ s)
      have h2 : (tc_ou S K sy ps p.1 p.2).length ≤ 1 := by
        unfold tc_ou
        split
        · exact Nat.le_refl _
        · exact Nat.zero_le _
      omega
theorem tc_L_q {S : tc_S} {K1 K2 h : Nat} {t1 t2 : Nat → Nat} (h4 : 4 ≤ tc_E S) (hh : h < 4) (q : ∀ e, e < tc_E S → tc_q K1 K2 (t1 e) (t2 e)) : tc_L t1 h = tc_L t2 h := by
  have qh := q h (by omega)
  refine Nat.le_antisymm (tc_L_mono (fun j hj hl => ?_)) (tc_L_mono (fun j hj hl => ?_))
  · have qj := q j (by omega)
    unfold tc_q at qj qh
    omega
  · have qj := q j (by omega)
    unfold tc_q at qj qh
    omega
theorem tc_lo_q {S : tc_S} (ok : tc_ok S) {K1 K2 g : Nat} {t1 t2 : Nat → Nat} (q : ∀ e, e < tc_E S → tc_q K1 K2 (t1 e) (t2 e)) : tc_lo S K1 t1 g = tc_lo S K2 t2 g := by
  refine tc_fd_congr _ _ (fun k hk => ?_)
  obtain ⟨a, b, c, d⟩ := tc_ok_r ok (show k < tc_R S by omega)
  have q1 := q (tc_lf S k) (by have := tc_ok_E ok; omega)
  have q2 := q (tc_rt S k) c
  have e : tc_pb S K1 t1 g k ↔ tc_pb S K2 t2 g k := by
    unfold tc_q at q1 q2
    constructor
    · intro ⟨h1, h2, h3⟩
      exact ⟨h1, by omega, by omega⟩
    · intro ⟨h1, h2, h3⟩
      exact ⟨h1, by omega, by omega⟩
  exact decide_eq_decide.mpr e
theorem tc_cv_q {S : tc_S} (ok : tc_ok S) {K1 K2 N : Nat} {sy ps : Nat → Nat} (hn : tc_tn sy ps N) (hN : N ≤ 24) (h1 : 1000 ≤ K1) (h2 : 1000 ≤ K2) {s : List (Nat × Nat)}
    (hs : ∀ p, p ∈ s → tc_gd S K1 sy ps N p.1 p.2) : tc_cv S K1 sy ps s = tc_cv S K2 sy ps s := by
  have hE := (tc_ok_E ok).1
  have hmu : ∀ s : List (Nat × Nat), (∀ p, p ∈ s → tc_gd S K1 sy ps N p.1 p.2) → tc_mu S K1 sy ps s = tc_mu S K2 sy ps s := by
    intro s
    induction s with
    | nil => intro _; rfl
    | cons p s ih =>
      intro hs
      show tc_m1 S K1 sy ps p.1 p.2 + tc_mu S K1 sy ps s = tc_m1 S K2 sy ps p.1 p.2 + tc_mu S K2 sy ps s
      rw [ih (fun q hq => hs q (List.mem_cons_of_mem _ hq))]
      unfold tc_m1
      by_cases c : p.2 < 4
      · rw [if_pos c, if_pos c, tc_L_q hE c (tc_v_q ok hn hN h1 h2 p.1 (hs p List.mem_cons_self).1)]
      · rw [if_neg c, if_neg c]
  have hrun : ∀ f (s : List (Nat × Nat)), (∀ p, p ∈ s → tc_gd S K1 sy ps N p.1 p.2) → tc_run S K1 sy ps f s = tc_run S K2 sy ps f s := by
    intro f
    induction f with
    | zero => intro s _; rfl
    | succ f ih =>
      intro s hs
      cases s with
      | nil => rfl
      | cons p s =>
        have hp := hs p List.mem_cons_self
        have e0 := tc_lo_q ok (g := p.2) (tc_v_q ok hn hN h1 h2 p.1 hp.1)
        have e1 : tc_ou S K1 sy ps p.1 p.2 = tc_ou S K2 sy ps p.1 p.2 := by
          unfold tc_ou
          rw [e0]
        have e2 : tc_nx S K1 sy ps p.1 p.2 = tc_nx S K2 sy ps p.1 p.2 := by
          unfold tc_nx
          rw [e0]
        show tc_ou S K1 sy ps p.1 p.2 ++ tc_run S K1 sy ps f (tc_nx S K1 sy ps p.1 p.2 ++ s) = tc_ou S K2 sy ps p.1 p.2 ++ tc_run S K2 sy ps f (tc_nx S K2 sy ps p.1 p.2 ++ s)
        rw [← e1, ← e2, ih _ (fun q hq => by
          rcases List.mem_append.mp hq with h | h
          · exact (tc_gd_nx ok hn hp).1 q h
          · exact hs q (List.mem_cons_of_mem _ h))]
  unfold tc_cv
  rw [hmu s hs, hrun _ s hs]
/-! the state of a tree -/
def tc_lw (K : Nat) (t : Nat → Nat) : Nat → Nat
  | 0 => K
  | e + 1 => min (tc_lw K t e) (t e)
theorem tc_lw_le {K : Nat} {t : Nat → Nat} : ∀ E, tc_lw K t E ≤ K ∧ ∀ e, e < E → tc_lw K t E ≤ t e := by
  intro E
  induction E with
  | zero => exact ⟨Nat.le_refl _, fun e h => by omega⟩
  | succ E ih =>
    have h1 : tc_lw K t (E + 1) ≤ tc_lw K t E := Nat.min_le_left _ _
    have h2 : tc_lw K t (E + 1) ≤ t E := Nat.min_le_right _ _
    refine ⟨by omega, fun e he => ?_⟩
    by_cases c : e = E
    · rw [c]
      exact h2
    · have := ih.2 e (by omega)
      omega
theorem tc_lw_ex {K : Nat} {t : Nat → Nat} : ∀ E, tc_lw K t E = K ∨ ∃ e, e < E ∧ tc_lw K t E = t e := by
  intro E
  induction E with
  | zero => exact Or.inl rfl
  | succ E ih =>
    by_cases c : tc_lw K t E ≤ t E
    · have e : tc_lw K t (E + 1) = tc_lw K t E := Nat.min_eq_left c
      rw [e]
      rcases ih with h | ⟨e, he, h⟩
      · exact Or.inl h
      · exact Or.inr ⟨e, by omega, h⟩
    · have e : tc_lw K t (E + 1) = t E := Nat.min_eq_right (by omega)
      exact Or.inr ⟨E, by omega, e⟩
theorem tc_lw_uq {K E x : Nat} {t : Nat → Nat} (h1 : ∀ e, e < E → x ≤ t e) (h2 : x ≤ K) (h3 : x = K ∨ ∃ e, e < E ∧ x = t e) : x = tc_lw K t E := by
  obtain ⟨a, b⟩ := tc_lw_le (K := K) (t := t) E
  refine Nat.le_antisymm ?_ ?_
  · rcases tc_lw_ex (K := K) (t := t) E with h | ⟨e, he, h⟩
    · omega
    · have := h1 e he
      omega
  · rcases h3 with h | ⟨e, he, h⟩
    · omega
    · have := b e he
      omega
theorem tc_lw_q {K1 K2 E : Nat} {t1 t2 : Nat → Nat} (q : ∀ e, e < E → tc_q K1 K2 (t1 e) (t2 e)) : ∀ n, n ≤ E → tc_q K1 K2 (tc_lw K1 t1 n) (tc_lw K2 t2 n) := by
  intro n
  induction n with
  | zero => intro _; exact Or.inl ⟨rfl, rfl⟩
  | succ n ih =>
    intro hn
    have q1 := ih (by omega)
    have q2 := q n (by omega)
    show tc_q K1 K2 (min (tc_lw K1 t1 n) (t1 n)) (min (tc_lw K2 t2 n) (t2 n))
    unfold tc_q at q1 q2 ⊢
    simp only [Nat.min_def]
    split <;> split <;> omega
def tc_sa (K E : Nat) (t u : Nat → Nat) : Prop := ∀ e, e < E → ((t e = K ↔ u e = K) ∧ (t e ≠ K → t e + tc_lw K u E = u e + tc_lw K t E))
theorem tc_sa_q {K1 K2 E : Nat} {t1 t2 u1 u2 : Nat → Nat} (q : ∀ e, e < E → tc_q K1 K2 (t1 e) (t2 e)) (p : ∀ e, e < E → tc_q K1 K2 (u1 e) (u2 e)) : tc_sa K1 E t1 u1 ↔ tc_sa K2 E t2 u2 := by
  have a := tc_lw_q q E (Nat.le_refl _)
  have b := tc_lw_q p E (Nat.le_refl _)
  have a1 := (tc_lw_le (K := K1) (t := t1) E).2
  have b1 := (tc_lw_le (K := K1) (t := u1) E).2
  have a2 := (tc_lw_le (K := K2) (t := t2) E).2
  have b2 := (tc_lw_le (K := K2) (t := u2) E).2
  unfold tc_q at a b
  constructor
  · intro h e he
    have h1 := h e he
    have q1 := q e he
    have p1 := p e he
    have := a1 e he
    have := b1 e he
    unfold tc_q at q1 p1
    omega
  · intro h e he
    have h1 := h e he
    have q1 := q e he
    have p1 := p e he
    have := a2 e he
    have := b2 e he
    unfold tc_q at q1 p1
    omega
