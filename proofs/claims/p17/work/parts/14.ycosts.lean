/-! Y's arrays hold the ghosts: len r nodes in rule r, ent r i the entry of its node i -/
def tc_ym (S : tc_S) (ent : Nat → Nat → Nat) (mk sz : Nat → Int32) (r i : Nat) : Prop :=
  (∃ g, g < 4 ∧ mk (7 * r + i) = nI (10 + g) ∧ ent r i = g) ∨
  (∃ o, o < 6 ∧ mk (7 * r + i) = nI o ∧ 4 ≤ ent r i ∧ ent r i < tc_sr S (r + 1) ∧ tc_eo S (ent r i) = o ∧ (2 ≤ o → 1 ≤ i ∧ tc_el S (ent r i) = ent r (i - 1)) ∧
    (4 ≤ o → ∃ s, sz (7 * r + i - 1) = nI s ∧ 1 ≤ s ∧ s < i ∧ tc_ef S (ent r i) = ent r (i - 1 - s)))
def tc_yr (S : tc_S) (len : Nat → Nat) (ent : Nat → Nat → Nat) (ru : Int32) (le co ln mk sz : Nat → Int32) : Prop :=
  ru = nI (tc_R S) ∧ (∀ r, r < tc_R S → le r = nI (tc_lf S r) ∧ co r = nI (tc_co S r) ∧ ln r = nI (len r) ∧ 1 ≤ len r ∧ len r ≤ 7 ∧ ent r (len r - 1) = tc_rt S r ∧ ∀ i, i < len r → tc_ym S ent mk sz r i) ∧
  (∀ r e, r < tc_R S → tc_sr S r ≤ e → e < tc_sr S (r + 1) → ∃ i, i < len r ∧ ent r i = e)
/-- a row of least -/
def tc_yw (S : tc_S) (len : Nat → Nat) (ent : Nat → Nat → Nat) (a : Nat → Int32) (n : Nat) (t : Nat → Nat) : Prop :=
  (∀ g, g < 4 → a (74 * n + g) = nI (t g)) ∧ ∀ r, r < tc_R S → ∀ i, i < len r → a (74 * n + 4 + 7 * r + i) = nI (t (ent r i))
theorem tc_yr_ent {S : tc_S} {len : Nat → Nat} {ent : Nat → Nat → Nat} {ru : Int32} {le co ln mk sz : Nat → Int32} (ok : tc_ok S) (h : tc_yr S len ent ru le co ln mk sz) {r i : Nat} (hr : r < tc_R S) (hi : i < len r) : ent r i < tc_E S := by
  have hE := tc_ok_E ok
  have h2 := tc_ok_up ok (tc_R S - (r + 1)) (r + 1) (by omega)
  rcases (h.2.1 r hr).2.2.2.2.2.2 i hi with ⟨g, a, b, c⟩ | ⟨o, a, b, c, d, e⟩
  · omega
  · omega
theorem tc_yw_fr {S : tc_S} {len : Nat → Nat} {ent : Nat → Nat → Nat} {ru : Int32} {le co ln mk sz : Nat → Int32} (ok : tc_ok S) (h : tc_yr S len ent ru le co ln mk sz) {a a' : Nat → Int32} {n x : Nat} {t : Nat → Nat}
    (hf : tc_fr a a' (74 * n)) (hx : x ≠ n) (hw : tc_yw S len ent a x t) : tc_yw S len ent a' x t := by
  have hR := ok.1
  refine ⟨fun g hg => ?_, fun r hr i hi => ?_⟩
  · rw [hf _ (by omega)]
    exact hw.1 g hg
  · have hl := (h.2.1 r hr).2.2.2.2.1
    rw [hf _ (by omega)]
    exact hw.2 r hr i hi
section
variable {S : tc_S} {len : Nat → Nat} {ent : Nat → Nat → Nat}
theorem yc_pc (ok : tc_ok S) {post : Int32 → Prop} {f_noted : Int32} {f_depth : Int32} {f_rules : Int32} {f_planted : Int32} {f_trees : Int32} {f_stateCount : Int32} {f_known : Int32} {f_listed : Int32} {a_marks : Nat → Int32} {a_sizes : Nat → Int32} {a_lefts : Nat → Int32} {a_costs : Nat → Int32} {a_lengths : Nat → Int32} {a_operators : Nat → Int32} {a_spans : Nat → Int32} {a_least : Nat → Int32} {a_ways : Nat → Int32} {a_tasks : Nat → Int32} {a_list : Nat → Int32} (hy : tc_yr S len ent f_rules a_lefts a_costs a_lengths a_marks a_sizes)
    {n o x y r i : Nat} (hn : n < 46) (ho : o < 6) (hx : x < 46) (hyy : y < 46) (hr : r < tc_R S) (hi : i < len r) (hxy : o < 4 → x = y) {u xr yr : Nat → Nat}
    (hu : ∀ e, u e ≤ 1000000) (hxr : ∀ e, xr e ≤ 1000000) (hyr : ∀ e, yr e ≤ 1000000)
    (hg : ∀ g, g < 4 → a_least (74 * n + g) = nI (u g)) (h4 : ∀ e, 4 ≤ e → e < tc_E S → u e = tc_op S 1000000 o xr yr e)
    (rx : 4 ≤ o → tc_yw S len ent a_least x xr) (ry : 2 ≤ o → tc_yw S len ent a_least y yr)
    (hp : ∀ c, min 1000000 c = u (ent r i) → c ≤ 2000000 → post (nI c)) : wpY_patternCost post (f_noted, f_depth, f_rules, f_planted, f_trees, f_stateCount, f_known, f_listed, a_marks, a_sizes, a_lefts, a_costs, a_lengths, a_operators, a_spans, a_least, a_ways, a_tasks, a_list) (nI n) (nI o) (nI x) (nI y) (nI r) (nI i) := by
  have hR := ok.1
  obtain ⟨l1, l2, l3, l4, l5, l6, l7⟩ := hy.2.1 r hr
  have hent := tc_yr_ent ok hy hr hi
  have w : (7 : Int32) * nI r + nI i = nI (7 * r + i) := by rw [show (7 : Int32) = nI 7 from rfl, pk_mul, nI_add]
  refine ⟨by rw [w]; exact vp_in_nI (by omega) (by decide), ?_⟩
  rcases l7 i hi with ⟨g, hg4, e1, e2⟩ | ⟨m, hm6, e1, e2, e3, e4, e5, e6⟩
  · refine nm_r (e' := nI (10 + g)) (by rw [w, nI_clamp (by omega), e1]) ?_
    refine br_f (nI_ge (a := 9) (b := 10 + g) (by omega) (by omega)) ?_
    have w2 : (74 : Int32) * nI n + nI (10 + g) - 10 = nI (74 * n + g) := by
      rw [show (74 : Int32) = nI 74 from rfl, pk_mul, nI_add, show (10 : Int32) = nI 10 from rfl, pk_sub (by omega)]
      exact congrArg nI (by omega)
    refine ⟨by rw [w2]; exact vp_in_nI (by omega) (by decide), ?_⟩
    rw [w2, nI_clamp (by omega), hg g hg4]
    have := hu g
    exact hp _ (by rw [e2]; omega) (by omega)
  · have h4' := h4 (ent r i) e2 hent
    refine nm_r (e' := nI m) (by rw [w, nI_clamp (by omega), e1]) ?_
    refine br_t (nI_le (b := 9) (by omega) (by decide)) ?_
    unfold tc_op at h4'
    refine pk_eq m o (fun h => ?_) (fun h => ?_) rfl rfl (by omega) (by omega)
    · rw [if_pos (by omega)] at h4'
      subst h
      have hl : (4 : Int32) + 7 * nI r + nI i - 1 = nI (4 + 7 * r + i - 1) := by
        rw [show (7 : Int32) = nI 7 from rfl, show (4 : Int32) = nI 4 from rfl, show (1 : Int32) = nI 1 from rfl, pk_mul, nI_add, nI_add, pk_sub (by omega)]
      refine nm_r hl ?_
      refine pk_le 2 m (fun h2 => ?_) (fun h2 => ?_)
      · obtain ⟨f1, f2⟩ := e5 h2
        rw [if_neg (by omega)] at h4'
        refine pk_le 4 m (fun h4m => ?_) (fun h4m => ?_)
        · obtain ⟨s, s1, s2, s3, s4⟩ := e6 h4m
          rw [if_neg (by omega)] at h4'
          have w3 : (7 : Int32) * nI r + nI i - 1 = nI (7 * r + i - 1) := by
            rw [w, show (1 : Int32) = nI 1 from rfl, pk_sub (by omega)]
          refine ⟨by rw [w3]; exact vp_in_nI (by omega) (by decide), ?_⟩
          refine nm_r (e' := nI (4 + 7 * r + (i - 1 - s))) (by
            rw [w3, nI_clamp (by omega), s1, pk_sub (by omega)]
            exact congrArg nI (by omega)) ?_
          have w4 : (74 : Int32) * nI x + nI (4 + 7 * r + (i - 1 - s)) = nI (74 * x + 4 + 7 * r + (i - 1 - s)) := by
            rw [show (74 : Int32) = nI 74 from rfl, pk_mul, nI_add]
            exact congrArg nI (by omega)
          have w5 : (74 : Int32) * nI y + nI (4 + 7 * r + i - 1) = nI (74 * y + 4 + 7 * r + (i - 1)) := by
            rw [show (74 : Int32) = nI 74 from rfl, pk_mul, nI_add]
            exact congrArg nI (by omega)
          refine ⟨by rw [w4]; exact vp_in_nI (by omega) (by decide), by rw [w5]; exact vp_in_nI (by omega) (by decide), ?_⟩
          rw [w4, w5, nI_clamp (by omega), nI_clamp (by omega), (rx h4m).2 r hr (i - 1 - s) (by omega), (ry h2).2 r hr (i - 1) (by omega), nI_add]
          have a1 := hxr (ent r (i - 1 - s))
          have a2 := hyr (ent r (i - 1))
          rw [s4, f2] at h4'
          exact hp _ (by omega) (by omega)
        · rw [if_pos (by omega)] at h4'
          have w5 : (74 : Int32) * nI x + nI (4 + 7 * r + i - 1) = nI (74 * y + 4 + 7 * r + (i - 1)) := by
            rw [show (74 : Int32) = nI 74 from rfl, pk_mul, nI_add, hxy (by omega)]
            exact congrArg nI (by omega)
          refine ⟨by rw [w5]; exact vp_in_nI (by omega) (by decide), ?_⟩
          rw [w5, nI_clamp (by omega), (ry h2).2 r hr (i - 1) (by omega)]
          have a2 := hyr (ent r (i - 1))
          rw [f2] at h4'
          exact hp _ (by omega) (by omega)
      · rw [if_pos (by omega)] at h4'
        exact hp 0 (by omega) (by omega)
    · rw [if_neg (by omega)] at h4'
      exact hp 1000000 (by omega) (by omega)
/-- one rule's turn: goals at n as after the turn, the rule's own entries as the row was -/
theorem yc_wr_7 (ok : tc_ok S) {post : SY → Prop} {f_noted : Int32} {f_depth : Int32} {f_rules : Int32} {f_planted : Int32} {f_trees : Int32} {f_stateCount : Int32} {f_known : Int32} {f_listed : Int32} {a_marks : Nat → Int32} {a_sizes : Nat → Int32} {a_lefts : Nat → Int32} {a_costs : Nat → Int32} {a_lengths : Nat → Int32} {a_operators : Nat → Int32} {a_spans : Nat → Int32} {a_ways : Nat → Int32} {a_tasks : Nat → Int32} {a_list : Nat → Int32} (hy : tc_yr S len ent f_rules a_lefts a_costs a_lengths a_marks a_sizes)
    {n o x y r : Nat} (hn : n < 46) (ho : o < 6) (hx : x < 46) (hyy : y < 46) (hr : r < tc_R S) (hxy : o < 4 → x = y) (hxn : 4 ≤ o → x ≠ n) (hyn : 2 ≤ o → y ≠ n) {u xr yr : Nat → Nat}
    (hu : ∀ e, u e ≤ 1000000) (hxr : ∀ e, xr e ≤ 1000000) (hyr : ∀ e, yr e ≤ 1000000) (h4 : ∀ e, 4 ≤ e → e < tc_E S → u e = tc_op S 1000000 o xr yr e) :
    ∀ (d i : Nat), i + d = len r → ∀ (a_least : Nat → Int32) (z : Int32), (0 < i → z = nI (u (ent r (i - 1)))) →
    (∀ g, g < 4 → a_least (74 * n + g) = nI (u g)) → (∀ j, j < i → a_least (74 * n + 4 + 7 * r + j) = nI (u (ent r j))) →
    (4 ≤ o → tc_yw S len ent a_least x xr) → (2 ≤ o → tc_yw S len ent a_least y yr) →
    (∀ a', (∀ g, g < 4 → a' (74 * n + g) = nI (tc_st S u r g)) → (∀ j, j < len r → a' (74 * n + 4 + 7 * r + j) = nI (u (ent r j))) →
      (∀ j, (j < 74 * n ∨ 74 * n + 4 ≤ j) → (j < 74 * n + 4 + 7 * r ∨ 74 * n + 4 + 7 * r + 7 ≤ j) → a' j = a_least j) → post (f_noted, f_depth, f_rules, f_planted, f_trees, f_stateCount, f_known, f_listed, a_marks, a_sizes, a_lefts, a_costs, a_lengths, a_operators, a_spans, a', a_ways, a_tasks, a_list)) →
    ∀ m, d < m → wY_workRule_7 post (nI n) (nI o) (nI x) (nI y) (nI r) f_noted f_depth f_rules f_planted f_trees f_stateCount f_known f_listed m z (nI i) a_marks a_sizes a_lefts a_costs a_lengths a_operators a_spans a_least a_ways a_tasks a_list := by
  have hR := ok.1
  have hE := tc_ok_E ok
  obtain ⟨l1, l2, l3, l4, l5, l6, l7⟩ := hy.2.1 r hr
  obtain ⟨k1, k2, k3, k4⟩ := tc_ok_r ok hr
  have c : (nI r).toNatClampNeg = r := nI_clamp (by omega)
  intro d
  induction d with
  | zero =>
    intro i hi a_least z hz hg he rx ry hp m hm
    obtain ⟨m', rfl⟩ : ∃ m', m = m' + 1 := ⟨m - 1, by omega⟩
    have e : i = len r := by omega
    subst e
    have hz' : z = nI (u (tc_rt S r)) := by rw [hz (by omega), l6]
    have q1 := hu (tc_rt S r)
    have q2 := hu (tc_lf S r)
    refine ⟨vp_in_nI (by omega) (by decide), br_t (by rw [c, l3]; exact nI_le (Nat.le_refl _) (by omega)) ⟨vp_in_nI (by omega) (by decide), ?_⟩⟩
    refine nm_r (e' := nI (tc_co S r + u (tc_rt S r))) (by rw [c, hz', l2, nI_add, Nat.add_comm]) ⟨vp_in_nI (by omega) (by decide), ?_⟩
    refine nm_r (e' := nI (74 * n + tc_lf S r)) (by rw [c, l1, show (74 : Int32) = nI 74 from rfl, pk_mul, nI_add]) ⟨vp_in_nI (by omega) (by decide), ?_⟩
    have fin : ∀ v, v = tc_st S u r (tc_lf S r) → post (f_noted, f_depth, f_rules, f_planted, f_trees, f_stateCount, f_known, f_listed, a_marks, a_sizes, a_lefts, a_costs, a_lengths, a_operators, a_spans, upd a_least (74 * n + tc_lf S r) (nI v), a_ways, a_tasks, a_list) := fun v hv => by
      refine hp _ (fun g hg4 => ?_) (fun j hj => ?_) (fun j hj1 hj2 => ?_)
      · by_cases cg : g = tc_lf S r
        · rw [cg, pk_us, hv]
        · rw [pk_un (by omega), tc_st_ne cg]
          exact hg g hg4
      · rw [pk_un (by omega)]
        exact he j hj
      · rw [pk_un (by omega)]
    refine pk_le (u (tc_lf S r)) (tc_co S r + u (tc_rt S r)) (fun h => ?_) (fun h => ?_) (by rw [nI_clamp (by omega)]; exact hg _ k1) rfl (by omega) (by omega)
    · refine ⟨vp_in_nI (by omega) (by decide), vp_in_nI (by omega) (by decide), nm_r (e' := upd a_least (74 * n + tc_lf S r) (nI (u (tc_lf S r)))) (by rw [nI_clamp (by omega), hg _ k1]) ?_⟩
      exact fin _ (by rw [tc_st_eq]; omega)
    · refine ⟨vp_in_nI (by omega) (by decide), nm_r (e' := upd a_least (74 * n + tc_lf S r) (nI (tc_co S r + u (tc_rt S r)))) (by rw [nI_clamp (by omega)]) ?_⟩
      exact fin _ (by rw [tc_st_eq]; omega)
  | succ d ih =>
    intro i hi a_least z hz hg he rx ry hp m hm
    obtain ⟨m', rfl⟩ : ∃ m', m = m' + 1 := ⟨m - 1, by omega⟩
    refine ⟨vp_in_nI (by omega) (by decide), br_f (by rw [c, l3]; exact nI_ge (by omega) (by omega)) ?_⟩
    refine yc_pc ok hy hn ho hx hyy hr (by omega) hxy hu hxr hyr hg h4 rx ry (fun v hv hv2 => ?_)
    have w : (74 : Int32) * nI n + 4 + 7 * nI r + nI i = nI (74 * n + 4 + 7 * r + i) := by
      rw [show (74 : Int32) = nI 74 from rfl, show (7 : Int32) = nI 7 from rfl, show (4 : Int32) = nI 4 from rfl, pk_mul, pk_mul, nI_add, nI_add, nI_add]
    have key : ∀ z : Int32, z = nI (u (ent r i)) → wY_workRule_48 post (wY_workRule_7 post (nI n) (nI o) (nI x) (nI y) (nI r) f_noted f_depth f_rules f_planted f_trees f_stateCount f_known f_listed m') (nI n) (nI o) (nI x) (nI y) (nI r) (nI i) z f_noted f_depth f_rules f_planted f_trees f_stateCount f_known f_listed a_marks a_sizes a_lefts a_costs a_lengths a_operators a_spans a_least a_ways a_tasks a_list := fun z hz => by
      refine ⟨by rw [w]; exact vp_in_nI (by omega) (by decide), nm_r (e' := upd a_least (74 * n + 4 + 7 * r + i) z) (by rw [w, nI_clamp (by omega)]) (nm_r (nI_1 i) ?_)⟩
      have hfr : tc_fr a_least (upd a_least (74 * n + 4 + 7 * r + i) z) (74 * n) := fun j hj => pk_un (by omega)
      refine ih (i + 1) (by omega) _ z (fun _ => hz) (fun g hg4 => ?_) (fun j hj => ?_) (fun h => tc_yw_fr ok hy hfr (hxn h) (rx h)) (fun h => tc_yw_fr ok hy hfr (hyn h) (ry h)) (fun a' p1 p2 p3 => hp a' p1 p2 (fun j hj1 hj2 => ?_)) m' (by omega)
      · rw [pk_un (by omega)]
        exact hg g hg4
      · by_cases cj : j = i
        · rw [cj, pk_us]
          exact hz
        · rw [pk_un (by omega)]
          exact he j (by omega)
      · rw [p3 j hj1 hj2, pk_un (by omega)]
    refine pk_le v 1000000 (fun h => ?_) (fun h => ?_) rfl rfl (by omega) (by omega)
    · exact key _ (by rw [← hv]; exact congrArg nI (by omega))
    · exact key _ (by rw [← hv, Nat.min_eq_left (by omega)]; rfl)
theorem yc_wr (ok : tc_ok S) {post : SY → Prop} {f_noted : Int32} {f_depth : Int32} {f_rules : Int32} {f_planted : Int32} {f_trees : Int32} {f_stateCount : Int32} {f_known : Int32} {f_listed : Int32} {a_marks : Nat → Int32} {a_sizes : Nat → Int32} {a_lefts : Nat → Int32} {a_costs : Nat → Int32} {a_lengths : Nat → Int32} {a_operators : Nat → Int32} {a_spans : Nat → Int32} {a_least : Nat → Int32} {a_ways : Nat → Int32} {a_tasks : Nat → Int32} {a_list : Nat → Int32} (hy : tc_yr S len ent f_rules a_lefts a_costs a_lengths a_marks a_sizes)
    {n o x y r : Nat} (hn : n < 46) (ho : o < 6) (hx : x < 46) (hyy : y < 46) (hr : r < tc_R S) (hxy : o < 4 → x = y) (hxn : 4 ≤ o → x ≠ n) (hyn : 2 ≤ o → y ≠ n) {u xr yr : Nat → Nat}
    (hu : ∀ e, u e ≤ 1000000) (hxr : ∀ e, xr e ≤ 1000000) (hyr : ∀ e, yr e ≤ 1000000) (h4 : ∀ e, 4 ≤ e → e < tc_E S → u e = tc_op S 1000000 o xr yr e)
    (hg : ∀ g, g < 4 → a_least (74 * n + g) = nI (u g)) (rx : 4 ≤ o → tc_yw S len ent a_least x xr) (ry : 2 ≤ o → tc_yw S len ent a_least y yr)
    (hp : ∀ a', (∀ g, g < 4 → a' (74 * n + g) = nI (tc_st S u r g)) → (∀ j, j < len r → a' (74 * n + 4 + 7 * r + j) = nI (u (ent r j))) →
      (∀ j, (j < 74 * n ∨ 74 * n + 4 ≤ j) → (j < 74 * n + 4 + 7 * r ∨ 74 * n + 4 + 7 * r + 7 ≤ j) → a' j = a_least j) → post (f_noted, f_depth, f_rules, f_planted, f_trees, f_stateCount, f_known, f_listed, a_marks, a_sizes, a_lefts, a_costs, a_lengths, a_operators, a_spans, a', a_ways, a_tasks, a_list)) :
    wpY_workRule post (f_noted, f_depth, f_rules, f_planted, f_trees, f_stateCount, f_known, f_listed, a_marks, a_sizes, a_lefts, a_costs, a_lengths, a_operators, a_spans, a_least, a_ways, a_tasks, a_list) (nI n) (nI o) (nI x) (nI y) (nI r) :=
  ⟨len r + 1, yc_wr_7 ok hy hn ho hx hyy hr hxy hxn hyn hu hxr hyr h4 (len r) 0 (by omega) a_least _ (fun h => absurd h (Nat.lt_irrefl _)) hg (fun j hj => absurd hj (Nat.not_lt_zero _)) rx ry hp _ (by omega)⟩
end
