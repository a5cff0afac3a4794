section
variable {S : tc_S} {len : Nat → Nat} {ent : Nat → Nat → Nat} {tn td : Nat} {ty tz tk : Nat → Nat}
/-- what patternWays answers at node n, with cw for the goals -/
def tc_pw (S : tc_S) (ty tz : Nat → Nat) (n : Nat) (cw : Nat → Int32) (e : Nat) : Int32 :=
  if e < 4 then cw e else tc_wo S 1000000 (tc_v S 1000000 ty tz n) (ty n) (tc_w S 1000000 ty tz (n - 1 - tz (n - 1))) (tc_w S 1000000 ty tz (n - 1)) e
theorem tc_v_900 (ok : tc_ok S) (hn : tc_tn ty tz tn) (hN : tn ≤ 24) {n : Nat} (hnt : n < tn) : ∀ e, e < tc_E S → tc_v S 1000000 ty tz n e = 1000000 ∨ tc_v S 1000000 ty tz n e ≤ 900 := fun e he => by
  have h1 := tc_v_B ok (K := 1000000) hn n hnt e he
  have h2 := (hn n hnt).2.2.1
  omega
theorem ym_sum_5 (ok : tc_ok S) (hn : tc_tn ty tz tn) (hN : tn ≤ 24) {post : Int32 → Prop} {f_noted : Int32} {f_depth : Int32} {f_rules : Int32} {f_planted : Int32} {f_trees : Int32} {f_stateCount : Int32} {f_known : Int32} {f_listed : Int32} {a_marks : Nat → Int32} {a_sizes : Nat → Int32} {a_lefts : Nat → Int32} {a_costs : Nat → Int32} {a_lengths : Nat → Int32} {a_operators : Nat → Int32} {a_spans : Nat → Int32} {a_least : Nat → Int32} {a_ways : Nat → Int32} {a_tasks : Nat → Int32} {a_list : Nat → Int32} (hy : tc_yr S len ent f_rules a_lefts a_costs a_lengths a_marks a_sizes)
    (ht : tc_yt tn td ty tz f_planted f_trees a_operators a_spans) {n g : Nat} (hnt : n < tn) (hg4 : g < 4) {cw : Nat → Int32} (hg : ∀ g, g < 4 → a_ways (74 * n + g) = cw g)
    (hw : ∀ m, m < n → tc_yww S len ent a_ways m (tc_w S 1000000 ty tz m)) (hr : tc_yw S len ent a_least n (tc_v S 1000000 ty tz n))
    (hp : post (tc_ws S 1000000 (tc_v S 1000000 ty tz n) (tc_pw S ty tz n cw) g (tc_R S))) :
    ∀ (d k : Nat), k + d = tc_R S → ∀ m, d < m → wY_sumRules_5 post (nI n) (nI g) f_noted f_depth f_rules f_planted f_trees f_stateCount f_known f_listed a_marks a_sizes a_lefts a_costs a_lengths a_operators a_spans a_least a_ways a_tasks a_list m (tc_ws S 1000000 (tc_v S 1000000 ty tz n) (tc_pw S ty tz n cw) g k) (nI k) := by
  have hR := ok.1
  have vle : ∀ e, tc_v S 1000000 ty tz n e ≤ 1000000 := fun e => tc_v_le (fun h => (hn n hnt).2.2.2.1 h (hn n hnt).1) e
  intro d
  induction d with
  | zero =>
    intro k hk m hm
    obtain ⟨m', rfl⟩ : ∃ m', m = m' + 1 := ⟨m - 1, by omega⟩
    have e : k = tc_R S := by omega
    subst e
    exact br_t (by rw [hy.1]; exact nI_le (Nat.le_refl _) (by omega)) hp
  | succ d ih =>
    intro k hk m hm
    obtain ⟨m', rfl⟩ : ∃ m', m = m' + 1 := ⟨m - 1, by omega⟩
    have hk' : k < tc_R S := by omega
    obtain ⟨l1, l2, l3, l4, l5, l6, l7⟩ := hy.2.1 k hk'
    have c : (nI k).toNatClampNeg = k := nI_clamp (by omega)
    have nxt := ih (k + 1) (by omega) m' (by omega)
    unfold tc_ws at nxt
    refine br_f (by rw [hy.1]; exact nI_ge hk' (by omega)) ?_
    refine ym_best1 ok hy (by omega) hg4 hk' vle (tc_v_900 ok hn hN hnt) hr (fun hb => ?_) (fun hb => ?_)
    · rw [if_pos hb] at nxt
      refine br_f (by decide) ⟨vp_in_nI (by omega) (by decide), ?_⟩
      rw [c, l3, show (1 : Int32) = nI 1 from rfl, pk_sub (by omega)]
      refine ym_pw ok hn hN hy ht hnt hk' (by omega) hg hw ?_
      rw [l6]
      exact nm_e (nm_r (nI_1 k) nxt)
    · rw [if_neg hb] at nxt
      exact br_t rfl (nm_r (nI_1 k) nxt)
theorem ym_sum (ok : tc_ok S) (hn : tc_tn ty tz tn) (hN : tn ≤ 24) {post : Int32 → Prop} {f_noted : Int32} {f_depth : Int32} {f_rules : Int32} {f_planted : Int32} {f_trees : Int32} {f_stateCount : Int32} {f_known : Int32} {f_listed : Int32} {a_marks : Nat → Int32} {a_sizes : Nat → Int32} {a_lefts : Nat → Int32} {a_costs : Nat → Int32} {a_lengths : Nat → Int32} {a_operators : Nat → Int32} {a_spans : Nat → Int32} {a_least : Nat → Int32} {a_ways : Nat → Int32} {a_tasks : Nat → Int32} {a_list : Nat → Int32} (hy : tc_yr S len ent f_rules a_lefts a_costs a_lengths a_marks a_sizes)
    (ht : tc_yt tn td ty tz f_planted f_trees a_operators a_spans) {n g : Nat} (hnt : n < tn) (hg4 : g < 4) {cw : Nat → Int32} (hg : ∀ g, g < 4 → a_ways (74 * n + g) = cw g)
    (hw : ∀ m, m < n → tc_yww S len ent a_ways m (tc_w S 1000000 ty tz m)) (hr : tc_yw S len ent a_least n (tc_v S 1000000 ty tz n))
    (hp : post (tc_ws S 1000000 (tc_v S 1000000 ty tz n) (tc_pw S ty tz n cw) g (tc_R S))) : wpY_sumRules post (f_noted, f_depth, f_rules, f_planted, f_trees, f_stateCount, f_known, f_listed, a_marks, a_sizes, a_lefts, a_costs, a_lengths, a_operators, a_spans, a_least, a_ways, a_tasks, a_list) (nI n) (nI g) :=
  ⟨tc_R S + 1, ym_sum_5 ok hn hN hy ht hnt hg4 hg hw hr hp (tc_R S) 0 (by omega) _ (by omega)⟩
theorem ym_ca_110 (ok : tc_ok S) (hn : tc_tn ty tz tn) (hN : tn ≤ 24) {post : SY → Prop} {J : Int32 → (Nat → Int32) → (Nat → Int32) → (Nat → Int32) → (Nat → Int32) → (Nat → Int32) → (Nat → Int32) → (Nat → Int32) → (Nat → Int32) → (Nat → Int32) → (Nat → Int32) → (Nat → Int32) → Prop} {f_noted : Int32} {f_depth : Int32} {f_rules : Int32} {f_planted : Int32} {f_trees : Int32} {f_stateCount : Int32} {f_known : Int32} {f_listed : Int32} {a_marks : Nat → Int32} {a_sizes : Nat → Int32} {a_lefts : Nat → Int32} {a_costs : Nat → Int32} {a_lengths : Nat → Int32} {a_operators : Nat → Int32} {a_spans : Nat → Int32} {a_least : Nat → Int32} {a_tasks : Nat → Int32} {a_list : Nat → Int32} (hy : tc_yr S len ent f_rules a_lefts a_costs a_lengths a_marks a_sizes)
    (ht : tc_yt tn td ty tz f_planted f_trees a_operators a_spans) {n r : Nat} (hnt : n < tn) (hr : r < tc_R S) {cw : Nat → Int32} :
    ∀ (d i : Nat), i + d = len r → ∀ a_ways : Nat → Int32, (∀ g, g < 4 → a_ways (74 * n + g) = cw g) → (∀ m, m < n → tc_yww S len ent a_ways m (tc_w S 1000000 ty tz m)) →
    (∀ j, j < i → a_ways (74 * n + 4 + 7 * r + j) = tc_pw S ty tz n cw (ent r j)) →
    (∀ a', (∀ j, (j < 74 * n + 4 + 7 * r ∨ 74 * n + 4 + 7 * r + 7 ≤ j) → a' j = a_ways j) → (∀ j, j < len r → a' (74 * n + 4 + 7 * r + j) = tc_pw S ty tz n cw (ent r j)) → J (nI (r + 1)) a_marks a_sizes a_lefts a_costs a_lengths a_operators a_spans a_least a' a_tasks a_list) →
    ∀ m, d < m → wY_countAt_110 post J (nI n) (nI r) f_noted f_depth f_rules f_planted f_trees f_stateCount f_known f_listed m (nI i) a_marks a_sizes a_lefts a_costs a_lengths a_operators a_spans a_least a_ways a_tasks a_list := by
  have hR := ok.1
  obtain ⟨l1, l2, l3, l4, l5, l6, l7⟩ := hy.2.1 r hr
  have c : (nI r).toNatClampNeg = r := nI_clamp (by omega)
  intro d
  induction d with
  | zero =>
    intro i hi a_ways hg hw he hp m hm
    obtain ⟨m', rfl⟩ : ∃ m', m = m' + 1 := ⟨m - 1, by omega⟩
    have e : i = len r := by omega
    subst e
    exact ⟨vp_in_nI (by omega) (by decide), br_t (by rw [c, l3]; exact nI_le (Nat.le_refl _) (by omega)) (nm_r (nI_1 r) (hp _ (fun _ _ => rfl) he))⟩
  | succ d ih =>
    intro i hi a_ways hg hw he hp m hm
    obtain ⟨m', rfl⟩ : ∃ m', m = m' + 1 := ⟨m - 1, by omega⟩
    refine ⟨vp_in_nI (by omega) (by decide), br_f (by rw [c, l3]; exact nI_ge (by omega) (by omega)) ?_⟩
    refine ym_pw ok hn hN hy ht hnt hr (by omega) hg hw ?_
    have w : (74 : Int32) * nI n + 4 + 7 * nI r + nI i = nI (74 * n + 4 + 7 * r + i) := by
      rw [show (74 : Int32) = nI 74 from rfl, show (7 : Int32) = nI 7 from rfl, show (4 : Int32) = nI 4 from rfl, pk_mul, pk_mul, nI_add, nI_add, nI_add]
    refine ⟨by rw [w]; exact vp_in_nI (by omega) (by decide), nm_r (e' := upd a_ways (74 * n + 4 + 7 * r + i) (tc_pw S ty tz n cw (ent r i))) (by rw [w, nI_clamp (by omega)]; rfl) (nm_r (nI_1 i) ?_)⟩
    have hfr : tc_fr a_ways (upd a_ways (74 * n + 4 + 7 * r + i) (tc_pw S ty tz n cw (ent r i))) (74 * n) := fun j hj => pk_un (by omega)
    refine ih (i + 1) (by omega) _ (fun g hg4 => ?_) (fun k hk => tc_yww_fr ok hy hfr (by omega) (hw k hk)) (fun j hj => ?_) (fun a' f1 f2 => hp a' (fun j hj => ?_) f2) m' (by omega)
    · rw [pk_un (by omega)]
      exact hg g hg4
    · by_cases cj : j = i
      · rw [cj, pk_us]
      · rw [pk_un (by omega)]
        exact he j (by omega)
    · rw [f1 j hj, pk_un (by omega)]
theorem ym_ca_100 (ok : tc_ok S) (hn : tc_tn ty tz tn) (hN : tn ≤ 24) {post : SY → Prop} {f_noted : Int32} {f_depth : Int32} {f_rules : Int32} {f_planted : Int32} {f_trees : Int32} {f_stateCount : Int32} {f_known : Int32} {f_listed : Int32} {a_marks : Nat → Int32} {a_sizes : Nat → Int32} {a_lefts : Nat → Int32} {a_costs : Nat → Int32} {a_lengths : Nat → Int32} {a_operators : Nat → Int32} {a_spans : Nat → Int32} {a_least : Nat → Int32} {a_tasks : Nat → Int32} {a_list : Nat → Int32} (hy : tc_yr S len ent f_rules a_lefts a_costs a_lengths a_marks a_sizes)
    (ht : tc_yt tn td ty tz f_planted f_trees a_operators a_spans) {n : Nat} (hnt : n < tn) {cw : Nat → Int32} :
    ∀ (d r : Nat), r + d = tc_R S → ∀ a_ways : Nat → Int32, (∀ g, g < 4 → a_ways (74 * n + g) = cw g) → (∀ m, m < n → tc_yww S len ent a_ways m (tc_w S 1000000 ty tz m)) →
    (∀ k, k < r → ∀ j, j < len k → a_ways (74 * n + 4 + 7 * k + j) = tc_pw S ty tz n cw (ent k j)) →
    (∀ a', tc_fr a_ways a' (74 * n) → tc_yww S len ent a' n (tc_pw S ty tz n cw) → post (f_noted, f_depth, f_rules, f_planted, f_trees, f_stateCount, f_known, f_listed, a_marks, a_sizes, a_lefts, a_costs, a_lengths, a_operators, a_spans, a_least, a', a_tasks, a_list)) →
    ∀ m, d < m → wY_countAt_100 post (nI n) f_noted f_depth f_rules f_planted f_trees f_stateCount f_known f_listed m (nI r) a_marks a_sizes a_lefts a_costs a_lengths a_operators a_spans a_least a_ways a_tasks a_list := by
  have hR := ok.1
  intro d
  induction d with
  | zero =>
    intro r hr a_ways hg hw he hp m hm
    obtain ⟨m', rfl⟩ : ∃ m', m = m' + 1 := ⟨m - 1, by omega⟩
    have e : r = tc_R S := by omega
    subst e
    exact br_t (by rw [hy.1]; exact nI_le (Nat.le_refl _) (by omega)) (hp _ (tc_fr_refl _ _) ⟨fun g hg4 => by rw [hg g hg4]; exact (if_pos hg4).symm, he⟩)
  | succ d ih =>
    intro r hr a_ways hg hw he hp m hm
    obtain ⟨m', rfl⟩ : ∃ m', m = m' + 1 := ⟨m - 1, by omega⟩
    have hr' : r < tc_R S := by omega
    have hl := (hy.2.1 r hr').2.2.2.2.1
    refine br_f (by rw [hy.1]; exact nI_ge hr' (by omega)) ⟨len r + 1, ?_⟩
    refine ym_ca_110 ok hn hN hy ht hnt hr' (len r) 0 (by omega) a_ways hg hw (fun j hj => absurd hj (Nat.not_lt_zero _)) (fun a' f1 f2 => ?_) _ (by omega)
    have hfr : tc_fr a_ways a' (74 * n) := fun j hj => f1 j (by omega)
    refine ih (r + 1) (by omega) a' (fun g hg4 => ?_) (fun k hk => tc_yww_fr ok hy hfr (by omega) (hw k hk)) (fun k hk j hj => ?_) (fun a2 s1 s2 => hp a2 (tc_fr_trans hfr s1) s2) m' (by omega)
    · rw [f1 _ (by omega)]
      exact hg g hg4
    · by_cases ck : k = r
      · subst ck
        exact f2 j hj
      · have hlk := (hy.2.1 k (by omega)).2.2.2.2.1
        rw [f1 _ (by omega)]
        exact he k (by omega) j hj
/-- the goals' ways once rank k is reached, up to goal g -/
def tc_ci (S : tc_S) (ty tz : Nat → Nat) (n : Nat) (a : Nat → Int32) (k g : Nat) : Prop :=
  ∀ h, h < 4 → (tc_v S 1000000 ty tz n h = 1000000 → a (74 * n + h) = 0) ∧
    ((tc_L (tc_v S 1000000 ty tz n) h < k ∨ (tc_L (tc_v S 1000000 ty tz n) h = k ∧ h < g)) → a (74 * n + h) = tc_w S 1000000 ty tz n h)
theorem ym_ca_34 (ok : tc_ok S) (hn : tc_tn ty tz tn) (hN : tn ≤ 24) {post : SY → Prop} {J : Int32 → (Nat → Int32) → (Nat → Int32) → (Nat → Int32) → (Nat → Int32) → (Nat → Int32) → (Nat → Int32) → (Nat → Int32) → (Nat → Int32) → (Nat → Int32) → (Nat → Int32) → (Nat → Int32) → Prop} {f_noted : Int32} {f_depth : Int32} {f_rules : Int32} {f_planted : Int32} {f_trees : Int32} {f_stateCount : Int32} {f_known : Int32} {f_listed : Int32} {a_marks : Nat → Int32} {a_sizes : Nat → Int32} {a_lefts : Nat → Int32} {a_costs : Nat → Int32} {a_lengths : Nat → Int32} {a_operators : Nat → Int32} {a_spans : Nat → Int32} {a_least : Nat → Int32} {a_tasks : Nat → Int32} {a_list : Nat → Int32} (hy : tc_yr S len ent f_rules a_lefts a_costs a_lengths a_marks a_sizes)
    (ht : tc_yt tn td ty tz f_planted f_trees a_operators a_spans) {n k : Nat} (hnt : n < tn) (hk : k < 5) (hr : tc_yw S len ent a_least n (tc_v S 1000000 ty tz n)) :
    ∀ (d g : Nat), g + d = 4 → ∀ a_ways : Nat → Int32, tc_ci S ty tz n a_ways k g → (∀ m, m < n → tc_yww S len ent a_ways m (tc_w S 1000000 ty tz m)) →
    (∀ a', tc_fr a_ways a' (74 * n) → tc_ci S ty tz n a' (k + 1) 0 → J (nI (k + 1)) a_marks a_sizes a_lefts a_costs a_lengths a_operators a_spans a_least a' a_tasks a_list) → ∀ m, d < m → wY_countAt_34 post J (nI n) (nI k) f_noted f_depth f_rules f_planted f_trees f_stateCount f_known f_listed m (nI g) a_marks a_sizes a_lefts a_costs a_lengths a_operators a_spans a_least a_ways a_tasks a_list := by
  have hE := tc_ok_E ok
  have h1n : 2 ≤ ty n → 1 ≤ n := fun h => (hn n hnt).2.2.2.1 h (hn n hnt).1
  have vle : ∀ e, tc_v S 1000000 ty tz n e ≤ 1000000 := fun e => tc_v_le h1n e
  intro d
  induction d with
  | zero =>
    intro g hg a_ways hc hw hp m hm
    obtain ⟨m', rfl⟩ : ∃ m', m = m' + 1 := ⟨m - 1, by omega⟩
    have e : g = 4 := by omega
    subst e
    refine br_t (nI_le (a := 4) (Nat.le_refl _) (by decide)) (nm_r (nI_1 k) (hp _ (tc_fr_refl _ _) (fun h hh => ⟨(hc h hh).1, fun z => (hc h hh).2 ?_⟩)))
    omega
  | succ d ih =>
    intro g hg a_ways hc hw hp m hm
    obtain ⟨m', rfl⟩ : ∃ m', m = m' + 1 := ⟨m - 1, by omega⟩
    have w : (74 : Int32) * nI n + nI g = nI (74 * n + g) := by rw [show (74 : Int32) = nI 74 from rfl, pk_mul, nI_add]
    have vg := vle g
    have l3 := tc_L_le3 (t := tc_v S 1000000 ty tz n) (show g < 4 by omega)
    refine br_f (nI_ge (b := 4) (by omega) (by decide)) ?_
    refine ym_rank (by omega) (by omega) vle hr.1 ?_
    refine pk_eq (tc_L (tc_v S 1000000 ty tz n) g) k (fun hL => ?_) (fun hL => ?_) rfl rfl (by omega) (by omega)
    · refine ⟨by rw [w]; exact vp_in_nI (by omega) (by decide), ?_⟩
      refine pk_le 1000000 (tc_v S 1000000 ty tz n g) (fun hz => nm_r (nI_1 g) ?_) (fun hz => ?_) rfl (by rw [w, nI_clamp (by omega), hr.1 g (by omega)]) (by omega) (by omega)
      · refine ih (g + 1) (by omega) a_ways (fun h hh => ⟨(hc h hh).1, fun z => ?_⟩) hw hp m' (by omega)
        by_cases ch : h = g
        · subst ch
          rw [(hc h hh).1 (by omega), tc_w_0 h1n (by omega)]
        · exact (hc h hh).2 (by omega)
      · refine ym_sum ok hn hN hy ht hnt (by omega) (cw := fun g => a_ways (74 * n + g)) (fun _ _ => rfl) hw hr ?_
        have es : tc_ws S 1000000 (tc_v S 1000000 ty tz n) (tc_pw S ty tz n (fun g => a_ways (74 * n + g))) g (tc_R S) = tc_w S 1000000 ty tz n g := by
          rw [tc_w_eq h1n]
          refine tc_wf_settle ok (k := k) (fun e h4 h5 => if_neg (by omega)) (fun h hh hl => ?_) (by omega) (by omega)
          show (if h < 4 then a_ways (74 * n + h) else _) = _
          rw [if_pos hh, (hc h hh).2 (Or.inl hl), tc_w_eq h1n]
          rfl
        rw [es]
        refine ⟨by rw [w]; exact vp_in_nI (by omega) (by decide), nm_r (e' := upd a_ways (74 * n + g) (tc_w S 1000000 ty tz n g)) (by rw [w, nI_clamp (by omega)]) (nm_r (nI_1 g) ?_)⟩
        have hfr : tc_fr a_ways (upd a_ways (74 * n + g) (tc_w S 1000000 ty tz n g)) (74 * n) := tc_fr_upd (by omega)
        refine ih (g + 1) (by omega) _ (fun h hh => ?_) (fun k hk => tc_yww_fr ok hy hfr (by omega) (hw k hk)) (fun a2 s1 s2 => hp a2 (tc_fr_trans hfr s1) s2) m' (by omega)
        by_cases ch : h = g
        · subst ch
          rw [pk_us]
          exact ⟨fun z => by omega, fun _ => rfl⟩
        · rw [pk_un (by omega)]
          exact ⟨(hc h hh).1, fun z => (hc h hh).2 (by omega)⟩
    · refine nm_r (nI_1 g) (ih (g + 1) (by omega) a_ways (fun h hh => ⟨(hc h hh).1, fun z => (hc h hh).2 ?_⟩) hw hp m' (by omega))
      by_cases ch : h = g
      · subst ch
        omega
      · omega
theorem ym_ca_27 (ok : tc_ok S) (hn : tc_tn ty tz tn) (hN : tn ≤ 24) {post : SY → Prop} {f_noted : Int32} {f_depth : Int32} {f_rules : Int32} {f_planted : Int32} {f_trees : Int32} {f_stateCount : Int32} {f_known : Int32} {f_listed : Int32} {a_marks : Nat → Int32} {a_sizes : Nat → Int32} {a_lefts : Nat → Int32} {a_costs : Nat → Int32} {a_lengths : Nat → Int32} {a_operators : Nat → Int32} {a_spans : Nat → Int32} {a_least : Nat → Int32} {a_tasks : Nat → Int32} {a_list : Nat → Int32} (hy : tc_yr S len ent f_rules a_lefts a_costs a_lengths a_marks a_sizes)
    (ht : tc_yt tn td ty tz f_planted f_trees a_operators a_spans) {n : Nat} (hnt : n < tn) (hr : tc_yw S len ent a_least n (tc_v S 1000000 ty tz n)) :
    ∀ (d k : Nat), k + d = 5 → ∀ a_ways : Nat → Int32, tc_ci S ty tz n a_ways k 0 → (∀ m, m < n → tc_yww S len ent a_ways m (tc_w S 1000000 ty tz m)) →
    (∀ a', tc_fr a_ways a' (74 * n) → tc_yww S len ent a' n (tc_w S 1000000 ty tz n) → post (f_noted, f_depth, f_rules, f_planted, f_trees, f_stateCount, f_known, f_listed, a_marks, a_sizes, a_lefts, a_costs, a_lengths, a_operators, a_spans, a_least, a', a_tasks, a_list)) → ∀ m, d < m → wY_countAt_27 post (nI n) f_noted f_depth f_rules f_planted f_trees f_stateCount f_known f_listed m (nI k) a_marks a_sizes a_lefts a_costs a_lengths a_operators a_spans a_least a_ways a_tasks a_list := by
  have h1n : 2 ≤ ty n → 1 ≤ n := fun h => (hn n hnt).2.2.2.1 h (hn n hnt).1
  intro d
  induction d with
  | zero =>
    intro k hk a_ways hc hw hp m hm
    obtain ⟨m', rfl⟩ : ∃ m', m = m' + 1 := ⟨m - 1, by omega⟩
    have e : k = 5 := by omega
    subst e
    refine br_t (nI_le (a := 5) (Nat.le_refl _) (by decide)) ⟨tc_R S + 1, ?_⟩
    refine ym_ca_100 ok hn hN hy ht hnt (cw := tc_w S 1000000 ty tz n) (tc_R S) 0 (by omega) a_ways (fun g hg => (hc g hg).2 (Or.inl ?_)) hw (fun k hk => absurd hk (Nat.not_lt_zero _)) (fun a' f1 f2 => hp a' f1 ?_) _ (by omega)
    · have := tc_L_le3 (t := tc_v S 1000000 ty tz n) hg
      omega
    · have e1 : tc_pw S ty tz n (tc_w S 1000000 ty tz n) = tc_w S 1000000 ty tz n := by
        funext e
        unfold tc_pw
        by_cases c : e < 4
        · rw [if_pos c]
        · rw [if_neg c]
          have e2 : tc_w S 1000000 ty tz n e = tc_wr S 1000000 (tc_v S 1000000 ty tz n) (ty n) (tc_w S 1000000 ty tz (n - 1 - tz (n - 1))) (tc_w S 1000000 ty tz (n - 1)) e := by rw [← tc_w_eq h1n]
          rw [e2]
          exact (tc_wf_ge (by omega) 4).symm
      rw [e1] at f2
      exact f2
  | succ d ih =>
    intro k hk a_ways hc hw hp m hm
    obtain ⟨m', rfl⟩ : ∃ m', m = m' + 1 := ⟨m - 1, by omega⟩
    refine br_f (nI_ge (b := 5) (by omega) (by decide)) ⟨5, ?_⟩
    refine ym_ca_34 ok hn hN hy ht hnt (by omega) hr 4 0 (by omega) a_ways hc hw (fun a' f1 f2 => ?_) 5 (by omega)
    exact ih (k + 1) (by omega) a' f2 (fun k hk => tc_yww_fr ok hy f1 (by omega) (hw k hk)) (fun a2 s1 s2 => hp a2 (tc_fr_trans f1 s1) s2) m' (by omega)
theorem ym_ca_2 (ok : tc_ok S) (hn : tc_tn ty tz tn) (hN : tn ≤ 24) {post : SY → Prop} {f_noted : Int32} {f_depth : Int32} {f_rules : Int32} {f_planted : Int32} {f_trees : Int32} {f_stateCount : Int32} {f_known : Int32} {f_listed : Int32} {a_marks : Nat → Int32} {a_sizes : Nat → Int32} {a_lefts : Nat → Int32} {a_costs : Nat → Int32} {a_lengths : Nat → Int32} {a_operators : Nat → Int32} {a_spans : Nat → Int32} {a_least : Nat → Int32} {a_tasks : Nat → Int32} {a_list : Nat → Int32} (hy : tc_yr S len ent f_rules a_lefts a_costs a_lengths a_marks a_sizes)
    (ht : tc_yt tn td ty tz f_planted f_trees a_operators a_spans) {n : Nat} (hnt : n < tn) (hr : tc_yw S len ent a_least n (tc_v S 1000000 ty tz n)) :
    ∀ (d g : Nat), g + d = 4 → ∀ a_ways : Nat → Int32, (∀ h, h < g → a_ways (74 * n + h) = 0) → (∀ m, m < n → tc_yww S len ent a_ways m (tc_w S 1000000 ty tz m)) →
    (∀ a', tc_fr a_ways a' (74 * n) → tc_yww S len ent a' n (tc_w S 1000000 ty tz n) → post (f_noted, f_depth, f_rules, f_planted, f_trees, f_stateCount, f_known, f_listed, a_marks, a_sizes, a_lefts, a_costs, a_lengths, a_operators, a_spans, a_least, a', a_tasks, a_list)) → ∀ m, d < m → wY_countAt_2 post (nI n) f_noted f_depth f_rules f_planted f_trees f_stateCount f_known f_listed m (nI g) a_marks a_sizes a_lefts a_costs a_lengths a_operators a_spans a_least a_ways a_tasks a_list := by
  intro d
  induction d with
  | zero =>
    intro g hg a_ways hc hw hp m hm
    obtain ⟨m', rfl⟩ : ∃ m', m = m' + 1 := ⟨m - 1, by omega⟩
    have e : g = 4 := by omega
    subst e
    refine br_t (nI_le (a := 4) (Nat.le_refl _) (by decide)) ⟨6, ?_⟩
    exact ym_ca_27 ok hn hN hy ht hnt hr 5 0 (by omega) a_ways (fun h hh => ⟨fun _ => hc h hh, fun z => by omega⟩) hw hp 6 (by omega)
  | succ d ih =>
    intro g hg a_ways hc hw hp m hm
    obtain ⟨m', rfl⟩ : ∃ m', m = m' + 1 := ⟨m - 1, by omega⟩
    have w : (74 : Int32) * nI n + nI g = nI (74 * n + g) := by rw [show (74 : Int32) = nI 74 from rfl, pk_mul, nI_add]
    refine br_f (nI_ge (b := 4) (by omega) (by decide)) ⟨by rw [w]; exact vp_in_nI (by omega) (by decide), nm_r (e' := upd a_ways (74 * n + g) 0) (by rw [w, nI_clamp (by omega)]) (nm_r (nI_1 g) ?_)⟩
    have hfr : tc_fr a_ways (upd a_ways (74 * n + g) 0) (74 * n) := tc_fr_upd (by omega)
    refine ih (g + 1) (by omega) _ (fun h hh => ?_) (fun k hk => tc_yww_fr ok hy hfr (by omega) (hw k hk)) (fun a2 s1 s2 => hp a2 (tc_fr_trans hfr s1) s2) m' (by omega)
    by_cases c : h = g
    · rw [c, pk_us]
    · rw [pk_un (by omega)]
      exact hc h (by omega)
theorem ym_ways_25 (ok : tc_ok S) (hn : tc_tn ty tz tn) (hN : tn ≤ 24) (hN1 : 1 ≤ tn) {g : Nat} (hg : g < 4) {post : Int32 → SY → Prop} {f_noted : Int32} {f_depth : Int32} {f_rules : Int32} {f_planted : Int32} {f_trees : Int32} {f_stateCount : Int32} {f_known : Int32} {f_listed : Int32} {a_marks : Nat → Int32} {a_sizes : Nat → Int32} {a_lefts : Nat → Int32} {a_costs : Nat → Int32} {a_lengths : Nat → Int32} {a_operators : Nat → Int32} {a_spans : Nat → Int32} {a_least : Nat → Int32} {a_tasks : Nat → Int32} {a_list : Nat → Int32} (hy : tc_yr S len ent f_rules a_lefts a_costs a_lengths a_marks a_sizes)
    (ht : tc_yt tn td ty tz f_planted f_trees a_operators a_spans) (hr : tc_yrows S 1000000 len ent ty tz a_least tn) :
    ∀ (d i : Nat), i + d = tn → ∀ a_ways : Nat → Int32, (∀ m, m < i → tc_yww S len ent a_ways m (tc_w S 1000000 ty tz m)) →
    (∀ a', post (tc_w S 1000000 ty tz (tn - 1) g) (f_noted, f_depth, f_rules, f_planted, f_trees, f_stateCount, f_known, f_listed, a_marks, a_sizes, a_lefts, a_costs, a_lengths, a_operators, a_spans, a_least, a', a_tasks, a_list)) → ∀ m, d < m → wY_ways_25 post (nI g) m (nI i) f_noted f_depth f_rules f_planted f_trees f_stateCount f_known f_listed a_marks a_sizes a_lefts a_costs a_lengths a_operators a_spans a_least a_ways a_tasks a_list := by
  intro d
  induction d with
  | zero =>
    intro i hi a_ways hw hp m hm
    obtain ⟨m', rfl⟩ : ∃ m', m = m' + 1 := ⟨m - 1, by omega⟩
    have e : i = tn := by omega
    subst e
    have w : (74 : Int32) * (f_planted - 1) + nI g = nI (74 * (i - 1) + g) := by
      rw [ht.1, show (1 : Int32) = nI 1 from rfl, pk_sub (by omega), show (74 : Int32) = nI 74 from rfl, pk_mul, nI_add]
    refine br_t (by rw [ht.1]; exact nI_le (Nat.le_refl _) (by omega)) ⟨by rw [w]; exact vp_in_nI (by omega) (by decide), ?_⟩
    rw [w, nI_clamp (by omega), (hw (i - 1) (by omega)).1 g hg]
    exact hp a_ways
  | succ d ih =>
    intro i hi a_ways hw hp m hm
    obtain ⟨m', rfl⟩ : ∃ m', m = m' + 1 := ⟨m - 1, by omega⟩
    have hit : i < tn := by omega
    refine br_f (by rw [ht.1]; exact nI_ge hit (by omega)) ⟨5, ?_⟩
    refine ym_ca_2 ok hn hN hy ht hit (hr i hit) 4 0 (by omega) a_ways (fun h hh => absurd hh (Nat.not_lt_zero _)) hw (fun a' f1 f2 => ?_) 5 (by omega)
    refine nm_r (nI_1 i) (ih (i + 1) (by omega) a' (fun k hk => ?_) hp m' (by omega))
    by_cases c : k = i
    · rw [c]
      exact f2
    · exact tc_yww_fr ok hy f1 c (hw k (by omega))
end
