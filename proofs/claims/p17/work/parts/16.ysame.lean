/-! Y's entries e and the entries x that they stand for -/
def tc_mp (S : tc_S) (len : Nat → Nat) (ent : Nat → Nat → Nat) (e x : Nat) : Prop := (e < 4 ∧ x = e) ∨ ∃ r i, r < tc_R S ∧ i < len r ∧ e = 4 + 7 * r + i ∧ x = ent r i
theorem tc_sr_fi {S : tc_S} (ok : tc_ok S) {x : Nat} (hx : 4 ≤ x) : ∀ n, n ≤ tc_R S → x < tc_sr S n → ∃ r, r < n ∧ tc_sr S r ≤ x ∧ x < tc_sr S (r + 1) := by
  intro n
  induction n with
  | zero => intro _ h; have := ok.2.1; omega
  | succ n ih =>
    intro hn h
    by_cases c : x < tc_sr S n
    · obtain ⟨r, a, b, d⟩ := ih (by omega) c
      exact ⟨r, by omega, b, d⟩
    · exact ⟨n, by omega, by omega, h⟩
section
variable {S : tc_S} {len : Nat → Nat} {ent : Nat → Nat → Nat}
theorem tc_mp_ex {ru : Int32} {le co ln mk sz : Nat → Int32} (ok : tc_ok S) (h : tc_yr S len ent ru le co ln mk sz) {x : Nat} (hx : x < tc_E S) : ∃ e, e < 74 ∧ tc_mp S len ent e x := by
  have hR := ok.1
  by_cases c : x < 4
  · exact ⟨x, by omega, Or.inl ⟨c, rfl⟩⟩
  · obtain ⟨r, hr, a, b⟩ := tc_sr_fi ok (show 4 ≤ x by omega) (tc_R S) (Nat.le_refl _) hx
    obtain ⟨i, hi, e⟩ := h.2.2 r x hr a b
    have hl := (h.2.1 r hr).2.2.2.2.1
    exact ⟨4 + 7 * r + i, by omega, Or.inr ⟨r, i, hr, hi, rfl, e.symm⟩⟩
theorem tc_mp_val {ru : Int32} {le co ln mk sz : Nat → Int32} (ok : tc_ok S) (h : tc_yr S len ent ru le co ln mk sz) {a : Nat → Int32} {n e x : Nat} {t : Nat → Nat} (hw : tc_yw S len ent a n t) (hm : tc_mp S len ent e x) : a (74 * n + e) = nI (t x) ∧ x < tc_E S := by
  have hE := tc_ok_E ok
  rcases hm with ⟨h1, h2⟩ | ⟨r, i, hr, hi, h1, h2⟩
  · rw [h2]
    exact ⟨hw.1 e h1, by omega⟩
  · rw [h1, h2, ← Nat.add_assoc, ← Nat.add_assoc]
    exact ⟨hw.2 r hr i hi, tc_yr_ent ok h hr hi⟩
theorem ym_used (ok : tc_ok S) {post : Int32 → Prop} {f_noted : Int32} {f_depth : Int32} {f_rules : Int32} {f_planted : Int32} {f_trees : Int32} {f_stateCount : Int32} {f_known : Int32} {f_listed : Int32} {a_marks : Nat → Int32} {a_sizes : Nat → Int32} {a_lefts : Nat → Int32} {a_costs : Nat → Int32} {a_lengths : Nat → Int32} {a_operators : Nat → Int32} {a_spans : Nat → Int32} {a_least : Nat → Int32} {a_ways : Nat → Int32} {a_tasks : Nat → Int32} {a_list : Nat → Int32} (hy : tc_yr S len ent f_rules a_lefts a_costs a_lengths a_marks a_sizes) {e : Nat} (he : e < 74)
    (h1 : ∀ x, tc_mp S len ent e x → post 1) (h0 : (¬ ∃ x, tc_mp S len ent e x) → post 0) : wpY_isUsed post (f_noted, f_depth, f_rules, f_planted, f_trees, f_stateCount, f_known, f_listed, a_marks, a_sizes, a_lefts, a_costs, a_lengths, a_operators, a_spans, a_least, a_ways, a_tasks, a_list) (nI e) := by
  have hR := ok.1
  refine pk_lt e 4 (fun h => h1 e (Or.inl ⟨h, rfl⟩)) (fun h => ?_)
  have w : (nI e - 4) / 7 = nI ((e - 4) / 7) := by
    rw [show (4 : Int32) = nI 4 from rfl, pk_sub h, show (7 : Int32) = nI 7 from rfl, pk_div (by omega) (by decide) (by decide)]
  have w2 : nI e - 4 - (nI e - 4) / 7 * 7 = nI ((e - 4) % 7) := by
    rw [show (4 : Int32) = nI 4 from rfl, pk_sub h, show (7 : Int32) = nI 7 from rfl, pk_rem (by omega) (by decide) (by decide)]
  refine ⟨by decide, ?_⟩
  refine pk_le (tc_R S) ((e - 4) / 7) (fun hr => ?_) (fun hr => ?_) hy.1 w (by omega) (by omega)
  · refine h0 (fun ⟨x, hx⟩ => ?_)
    rcases hx with ⟨a, _⟩ | ⟨r, i, hr2, hi, a, _⟩
    · omega
    · have hl := (hy.2.1 r hr2).2.2.2.2.1
      omega
  · obtain ⟨l1, l2, l3, l4, l5, l6, l7⟩ := hy.2.1 _ hr
    refine ⟨by decide, by decide, by rw [w]; exact vp_in_nI (by omega) (by decide), ?_⟩
    refine pk_le (len ((e - 4) / 7)) ((e - 4) % 7) (fun hl => ?_) (fun hl => ?_) (by rw [w, nI_clamp (by omega), l3]) w2 (by omega) (by omega)
    · refine h0 (fun ⟨x, hx⟩ => ?_)
      rcases hx with ⟨a, _⟩ | ⟨r, i, hr2, hi, a, _⟩
      · omega
      · have hl7 := (hy.2.1 r hr2).2.2.2.2.1
        have e1 : (e - 4) / 7 = r := by omega
        rw [e1] at hl
        omega
    · exact h1 (ent ((e - 4) / 7) ((e - 4) % 7)) (Or.inr ⟨(e - 4) / 7, (e - 4) % 7, hr, hl, by omega, rfl⟩)
theorem ym_lowest_5 (ok : tc_ok S) {post : Int32 → Prop} {f_noted : Int32} {f_depth : Int32} {f_rules : Int32} {f_planted : Int32} {f_trees : Int32} {f_stateCount : Int32} {f_known : Int32} {f_listed : Int32} {a_marks : Nat → Int32} {a_sizes : Nat → Int32} {a_lefts : Nat → Int32} {a_costs : Nat → Int32} {a_lengths : Nat → Int32} {a_operators : Nat → Int32} {a_spans : Nat → Int32} {a_least : Nat → Int32} {a_ways : Nat → Int32} {a_tasks : Nat → Int32} {a_list : Nat → Int32} (hy : tc_yr S len ent f_rules a_lefts a_costs a_lengths a_marks a_sizes) {n : Nat} (hn : n < 46) {t : Nat → Nat} (hK : ∀ e, t e ≤ 1000000)
    (hw : tc_yw S len ent a_least n t) (hp : post (nI (tc_lw 1000000 t (tc_E S)))) : ∀ (d e : Nat), e + d = 74 → ∀ l : Nat, l ≤ 1000000 → (∀ j x, j < e → tc_mp S len ent j x → l ≤ t x) →
    (l = 1000000 ∨ ∃ x, x < tc_E S ∧ l = t x) → ∀ m, d < m → wY_lowest_5 post (nI n) f_noted f_depth f_rules f_planted f_trees f_stateCount f_known f_listed a_marks a_sizes a_lefts a_costs a_lengths a_operators a_spans a_least a_ways a_tasks a_list m (nI l) (nI e) := by
  intro d
  induction d with
  | zero =>
    intro e he l hl hm1 hm2 m hm
    obtain ⟨m', rfl⟩ : ∃ m', m = m' + 1 := ⟨m - 1, by omega⟩
    have e1 : e = 74 := by omega
    subst e1
    refine br_t (nI_le (a := 74) (Nat.le_refl _) (by decide)) ?_
    have e2 : l = tc_lw 1000000 t (tc_E S) := tc_lw_uq (fun x hx => by
      obtain ⟨j, hj, hmp⟩ := tc_mp_ex ok hy hx
      exact hm1 j x hj hmp) hl hm2
    rw [e2]
    exact hp
  | succ d ih =>
    intro e he l hl hm1 hm2 m hm
    obtain ⟨m', rfl⟩ : ∃ m', m = m' + 1 := ⟨m - 1, by omega⟩
    have w : (74 : Int32) * nI n + nI e = nI (74 * n + e) := by rw [show (74 : Int32) = nI 74 from rfl, pk_mul, nI_add]
    refine br_f (nI_ge (b := 74) (by omega) (by decide)) ?_
    refine ym_used ok hy (by omega) (fun x hx => ?_) (fun hx => ?_)
    · obtain ⟨v1, v2⟩ := tc_mp_val ok hy hw hx
      have v3 := hK x
      have uq : ∀ x', tc_mp S len ent e x' → t x' = t x := fun x' hx' => by
        obtain ⟨u1, u2⟩ := tc_mp_val ok hy hw hx'
        have u3 := hK x'
        rw [v1] at u1
        exact ((nI_eq (by omega) (by omega)).mp u1).symm
      refine br_f (by decide) ⟨by rw [w]; exact vp_in_nI (by omega) (by decide), ?_⟩
      refine pk_le l (t x) (fun h => nm_r (nI_1 e) ?_) (fun h => ?_) rfl (by rw [w, nI_clamp (by omega)]; exact v1) (by omega) (by omega)
      · refine ih (e + 1) (by omega) l hl (fun j x' hj hmp => ?_) hm2 m' (by omega)
        by_cases c : j = e
        · rw [c] at hmp
          rw [uq x' hmp]
          exact h
        · exact hm1 j x' (by omega) hmp
      · refine ⟨by rw [w]; exact vp_in_nI (by omega) (by decide), nm_r (e' := nI (t x)) (by rw [w, nI_clamp (by omega)]; exact v1) (nm_r (nI_1 e) ?_)⟩
        refine ih (e + 1) (by omega) (t x) v3 (fun j x' hj hmp => ?_) (Or.inr ⟨x, v2, rfl⟩) m' (by omega)
        by_cases c : j = e
        · rw [c] at hmp
          rw [uq x' hmp]
          exact Nat.le_refl _
        · have := hm1 j x' (by omega) hmp
          omega
    · refine br_t rfl (nm_r (nI_1 e) (ih (e + 1) (by omega) l hl (fun j x' hj hmp => ?_) hm2 m' (by omega)))
      by_cases c : j = e
      · rw [c] at hmp
        exact absurd ⟨x', hmp⟩ hx
      · exact hm1 j x' (by omega) hmp
theorem ym_lowest (ok : tc_ok S) {post : Int32 → Prop} {f_noted : Int32} {f_depth : Int32} {f_rules : Int32} {f_planted : Int32} {f_trees : Int32} {f_stateCount : Int32} {f_known : Int32} {f_listed : Int32} {a_marks : Nat → Int32} {a_sizes : Nat → Int32} {a_lefts : Nat → Int32} {a_costs : Nat → Int32} {a_lengths : Nat → Int32} {a_operators : Nat → Int32} {a_spans : Nat → Int32} {a_least : Nat → Int32} {a_ways : Nat → Int32} {a_tasks : Nat → Int32} {a_list : Nat → Int32} (hy : tc_yr S len ent f_rules a_lefts a_costs a_lengths a_marks a_sizes) {n : Nat} (hn : n < 46) {t : Nat → Nat} (hK : ∀ e, t e ≤ 1000000)
    (hw : tc_yw S len ent a_least n t) (hp : post (nI (tc_lw 1000000 t (tc_E S)))) : wpY_lowest post (f_noted, f_depth, f_rules, f_planted, f_trees, f_stateCount, f_known, f_listed, a_marks, a_sizes, a_lefts, a_costs, a_lengths, a_operators, a_spans, a_least, a_ways, a_tasks, a_list) (nI n) :=
  ⟨75, ym_lowest_5 ok hy hn hK hw hp 74 0 (by omega) 1000000 (Nat.le_refl _) (fun j x hj => absurd hj (Nat.not_lt_zero _)) (Or.inl rfl) 75 (by omega)⟩
theorem ym_same_16 (ok : tc_ok S) {post : Int32 → Prop} {f_noted : Int32} {f_depth : Int32} {f_rules : Int32} {f_planted : Int32} {f_trees : Int32} {f_stateCount : Int32} {f_known : Int32} {f_listed : Int32} {a_marks : Nat → Int32} {a_sizes : Nat → Int32} {a_lefts : Nat → Int32} {a_costs : Nat → Int32} {a_lengths : Nat → Int32} {a_operators : Nat → Int32} {a_spans : Nat → Int32} {a_least : Nat → Int32} {a_ways : Nat → Int32} {a_tasks : Nat → Int32} {a_list : Nat → Int32} (hy : tc_yr S len ent f_rules a_lefts a_costs a_lengths a_marks a_sizes) {n k : Nat} (hn : n < 46) (hk : k < 46) {t u : Nat → Nat} (hK : ∀ e, t e ≤ 1000000) (hL : ∀ e, u e ≤ 1000000)
    (hw : tc_yw S len ent a_least n t) (hv : tc_yw S len ent a_least k u) (hp1 : tc_sa 1000000 (tc_E S) t u → post 1) (hp0 : ¬ tc_sa 1000000 (tc_E S) t u → post 0) :
    ∀ (d e : Nat), e + d = 74 → (∀ j x, j < e → tc_mp S len ent j x → tc_sc 1000000 (tc_E S) t u x) →
    ∀ m, d < m → wY_isSameState_16 post (nI n) (nI k) (nI (tc_lw 1000000 t (tc_E S))) (nI (tc_lw 1000000 u (tc_E S))) f_noted f_depth f_rules f_planted f_trees f_stateCount f_known f_listed a_marks a_sizes a_lefts a_costs a_lengths a_operators a_spans a_least a_ways a_tasks a_list m (nI e) := by
  have b1 := (tc_lw_le (K := 1000000) (t := t) (tc_E S)).1
  have b2 := (tc_lw_le (K := 1000000) (t := u) (tc_E S)).1
  intro d
  induction d with
  | zero =>
    intro e he hc m hm
    obtain ⟨m', rfl⟩ : ∃ m', m = m' + 1 := ⟨m - 1, by omega⟩
    have e1 : e = 74 := by omega
    subst e1
    refine br_t (nI_le (a := 74) (Nat.le_refl _) (by decide)) (hp1 (fun x hx => ?_))
    obtain ⟨j, hj, hmp⟩ := tc_mp_ex ok hy hx
    exact hc j x hj hmp
  | succ d ih =>
    intro e he hc m hm
    obtain ⟨m', rfl⟩ : ∃ m', m = m' + 1 := ⟨m - 1, by omega⟩
    have w1 : (74 : Int32) * nI n + nI e = nI (74 * n + e) := by rw [show (74 : Int32) = nI 74 from rfl, pk_mul, nI_add]
    have w2 : (74 : Int32) * nI k + nI e = nI (74 * k + e) := by rw [show (74 : Int32) = nI 74 from rfl, pk_mul, nI_add]
    have go : (∀ x, tc_mp S len ent e x → tc_sc 1000000 (tc_E S) t u x) → wY_isSameState_16 post (nI n) (nI k) (nI (tc_lw 1000000 t (tc_E S))) (nI (tc_lw 1000000 u (tc_E S))) f_noted f_depth f_rules f_planted f_trees f_stateCount f_known f_listed a_marks a_sizes a_lefts a_costs a_lengths a_operators a_spans a_least a_ways a_tasks a_list m' (nI (e + 1)) := fun hh =>
      ih (e + 1) (by omega) (fun j x hj hmp => by
        by_cases c : j = e
        · rw [c] at hmp
          exact hh x hmp
        · exact hc j x (by omega) hmp) m' (by omega)
    refine br_f (nI_ge (b := 74) (by omega) (by decide)) ⟨by rw [w1]; exact vp_in_nI (by omega) (by decide), nm_r (e' := a_least (74 * n + e)) (by rw [w1, nI_clamp (by omega)]) ⟨by rw [w2]; exact vp_in_nI (by omega) (by decide), nm_r (e' := a_least (74 * k + e)) (by rw [w2, nI_clamp (by omega)]) ?_⟩⟩
    by_cases hu : ∃ x, tc_mp S len ent e x
    · obtain ⟨x, hx⟩ := hu
      obtain ⟨v1, v2⟩ := tc_mp_val ok hy hw hx
      obtain ⟨u1, u2⟩ := tc_mp_val ok hy hv hx
      have v3 := hK x
      have u3 := hL x
      have go2 : tc_sc 1000000 (tc_E S) t u x → wY_isSameState_16 post (nI n) (nI k) (nI (tc_lw 1000000 t (tc_E S))) (nI (tc_lw 1000000 u (tc_E S))) f_noted f_depth f_rules f_planted f_trees f_stateCount f_known f_listed a_marks a_sizes a_lefts a_costs a_lengths a_operators a_spans a_least a_ways a_tasks a_list m' (nI (e + 1)) := fun hh => go (fun x' hx' => by
        obtain ⟨y1, y2⟩ := tc_mp_val ok hy hw hx'
        obtain ⟨z1, z2⟩ := tc_mp_val ok hy hv hx'
        have y3 := hK x'
        have z3 := hL x'
        rw [v1] at y1
        rw [u1] at z1
        have e1 : t x = t x' := (nI_eq (by omega) (by omega)).mp y1
        have e2 : u x = u x' := (nI_eq (by omega) (by omega)).mp z1
        unfold tc_sc at hh ⊢
        rw [← e1, ← e2]
        exact hh)
      have no : ¬ tc_sc 1000000 (tc_E S) t u x → post 0 := fun hh => hp0 (fun z => hh (z x v2))
      rw [v1, u1]
      have key : ∀ z : Int32, (z = 0 → ¬ (t x = 1000000 ∧ u x = 1000000)) → (¬ z = 0 → t x = 1000000 ∧ u x = 1000000) →
          wY_isSameState_70 post (wY_isSameState_16 post (nI n) (nI k) (nI (tc_lw 1000000 t (tc_E S))) (nI (tc_lw 1000000 u (tc_E S))) f_noted f_depth f_rules f_planted f_trees f_stateCount f_known f_listed a_marks a_sizes a_lefts a_costs a_lengths a_operators a_spans a_least a_ways a_tasks a_list m') (nI n) (nI k) (nI (tc_lw 1000000 t (tc_E S))) (nI (tc_lw 1000000 u (tc_E S))) (nI e) (nI (t x)) (nI (u x)) z f_noted f_depth f_rules f_planted f_trees f_stateCount f_known f_listed a_marks a_sizes a_lefts a_costs a_lengths a_operators a_spans a_least a_ways a_tasks a_list := fun z hz0 hz1 => by
        unfold wY_isSameState_70
        refine ym_used ok hy (by omega) (fun x' hx' => ?_) (fun hn => absurd ⟨x, hx⟩ hn)
        refine br_f (by decide) (br_c (fun z0 => ?_) (fun z1 => nm_r (nI_1 e) (go2 ?_)))
        · have hz := hz0 z0
          refine pk_le 1000000 (t x) (fun h => no (fun hh => hz ⟨by omega, hh.1.mp (by omega)⟩)) (fun h => ?_) rfl rfl (by omega) (by omega)
          refine pk_le 1000000 (u x) (fun h' => no (fun hh => hz ⟨hh.1.mpr (by omega), by omega⟩)) (fun h' => ?_) rfl rfl (by omega) (by omega)
          by_cases q : t x + tc_lw 1000000 u (tc_E S) = u x + tc_lw 1000000 t (tc_E S)
          · exact br_t ((tc_subeq (by omega) (by omega) (by omega) (by omega)).mpr q) (nm_r (nI_1 e) (go2 ⟨⟨fun h => by omega, fun h => by omega⟩, fun _ => q⟩))
          · exact br_f (fun z => q ((tc_subeq (by omega) (by omega) (by omega) (by omega)).mp z)) (no (fun z => q (z.2 (by omega))))
        · have hz := hz1 z1
          exact ⟨⟨fun _ => hz.2, fun _ => hz.1⟩, fun h => absurd hz.1 h⟩
      refine pk_lt (t x) 1000000 (fun h => ?_) (fun h => ?_) rfl rfl (by omega) (by omega)
      · exact key 0 (fun _ hh => by omega) (fun hh => absurd rfl hh)
      · refine pk_lt (u x) 1000000 (fun h' => ?_) (fun h' => ?_) rfl rfl (by omega) (by omega)
        · exact key 0 (fun _ hh => by omega) (fun hh => absurd rfl hh)
        · exact key 1 (fun hh => absurd hh (by decide)) (fun _ => ⟨by omega, by omega⟩)
    · have key : ∀ x y z : Int32, wY_isSameState_70 post (wY_isSameState_16 post (nI n) (nI k) (nI (tc_lw 1000000 t (tc_E S))) (nI (tc_lw 1000000 u (tc_E S))) f_noted f_depth f_rules f_planted f_trees f_stateCount f_known f_listed a_marks a_sizes a_lefts a_costs a_lengths a_operators a_spans a_least a_ways a_tasks a_list m') (nI n) (nI k) (nI (tc_lw 1000000 t (tc_E S))) (nI (tc_lw 1000000 u (tc_E S))) (nI e) x y z f_noted f_depth f_rules f_planted f_trees f_stateCount f_known f_listed a_marks a_sizes a_lefts a_costs a_lengths a_operators a_spans a_least a_ways a_tasks a_list := fun x y z => by
        unfold wY_isSameState_70
        refine ym_used ok hy (by omega) (fun x' hx' => absurd ⟨x', hx'⟩ hu) (fun hn => br_t rfl (nm_r (nI_1 e) (go (fun x' hx' => absurd ⟨x', hx'⟩ hn))))
      exact br_c (fun _ => key _ _ 0) (fun _ => br_c (fun _ => key _ _ 0) (fun _ => key _ _ 1))
theorem ym_same (ok : tc_ok S) {post : Int32 → Prop} {f_noted : Int32} {f_depth : Int32} {f_rules : Int32} {f_planted : Int32} {f_trees : Int32} {f_stateCount : Int32} {f_known : Int32} {f_listed : Int32} {a_marks : Nat → Int32} {a_sizes : Nat → Int32} {a_lefts : Nat → Int32} {a_costs : Nat → Int32} {a_lengths : Nat → Int32} {a_operators : Nat → Int32} {a_spans : Nat → Int32} {a_least : Nat → Int32} {a_ways : Nat → Int32} {a_tasks : Nat → Int32} {a_list : Nat → Int32} (hy : tc_yr S len ent f_rules a_lefts a_costs a_lengths a_marks a_sizes) {n k : Nat} (hn : n < 46) (hk : k < 46) {t u : Nat → Nat} (hK : ∀ e, t e ≤ 1000000) (hL : ∀ e, u e ≤ 1000000)
    (hw : tc_yw S len ent a_least n t) (hv : tc_yw S len ent a_least k u) (hp1 : tc_sa 1000000 (tc_E S) t u → post 1) (hp0 : ¬ tc_sa 1000000 (tc_E S) t u → post 0) :
    wpY_isSameState post (f_noted, f_depth, f_rules, f_planted, f_trees, f_stateCount, f_known, f_listed, a_marks, a_sizes, a_lefts, a_costs, a_lengths, a_operators, a_spans, a_least, a_ways, a_tasks, a_list) (nI n) (nI k) := by
  unfold wpY_isSameState
  refine ym_lowest ok hy hn hK hw ?_
  refine ym_lowest ok hy hk hL hv ?_
  exact ⟨75, ym_same_16 ok hy hn hk hK hL hw hv hp1 hp0 74 0 (by omega) (fun j x hj => absurd hj (Nat.not_lt_zero _)) 75 (by omega)⟩
end
