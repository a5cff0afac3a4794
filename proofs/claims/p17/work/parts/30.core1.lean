/-! the relation, and the methods that build -/
def tc_rel (u : SX) (v : SY) : Prop := ∃ (S : tc_S) (len : Nat → Nat) (ent : Nat → Nat → Nat) (pn pd : Nat) (py pz pk : Nat → Nat) (tn td : Nat) (ty tz tk : Nat → Nat),
  tc_G S pn pd py pz pk tn td ty tz tk ∧ tc_RX S pn pd py pz pk tn td ty tz tk u ∧ tc_RY S len ent pn pd py pz tn td ty tz v
theorem cm_init : wpX_init (fun u => wpY_init (fun v => tc_rel u v)) := by
  refine ⟨(0, fun _ => 4, fun _ => 0, fun _ => 0, fun _ => 0, fun _ => 0, fun _ => 0, fun _ => 0), fun _ => 0, fun _ _ => 0, 0, 0, fun _ => 0, fun _ => 0, fun _ => 0, 0, 0, fun _ => 0, fun _ => 0, fun _ => 0,
    ⟨⟨by show 0 ≤ 10; omega, rfl, fun r hr => absurd hr (Nat.not_lt_zero _), fun e h1 h2 => absurd (show e < 4 from h2) (by omega)⟩, tc_fo_nil _ _ _, by omega, by omega, fun i hi => absurd hi (Nat.not_lt_zero _), tc_fo_nil _ _ _, by omega, by omega, fun i hi => absurd hi (Nat.not_lt_zero _)⟩,
    ⟨⟨rfl, rfl, fun r hr => absurd hr (Nat.not_lt_zero _), fun e h1 h2 => absurd (show e < 4 from h2) (by omega)⟩, ⟨rfl, rfl, fun k hk => absurd hk (Nat.not_lt_zero _), fun i hi => absurd hi (Nat.not_lt_zero _)⟩, ⟨rfl, rfl, fun k hk => absurd hk (Nat.not_lt_zero _), fun i hi => absurd hi (Nat.not_lt_zero _)⟩⟩,
    ⟨⟨rfl, fun r hr => absurd hr (Nat.not_lt_zero _), fun r e hr => absurd hr (Nat.not_lt_zero _)⟩, ⟨rfl, rfl, fun i hi => absurd hi (Nat.not_lt_zero _)⟩, ⟨rfl, rfl, fun i hi => absurd hi (Nat.not_lt_zero _)⟩, 0, rfl, by omega⟩⟩
theorem xp_push' {pn pd : Nat} {py pz pk : Nat → Nat} {post : SX → Prop} {f_patternDepth : Int32} {f_patternNodes : Int32} {f_ruleCount : Int32} {f_entryCount : Int32} {f_treeDepth : Int32} {f_treeNodes : Int32} {f_stateCount : Int32} {f_coverLength : Int32} {f_pendingCount : Int32} {a_patternStack : Nat → Int32} {a_patternSymbol : Nat → Int32} {a_patternFirst : Nat → Int32} {a_patternLast : Nat → Int32} {a_patternEntry : Nat → Int32} {a_ruleLeft : Nat → Int32} {a_ruleCost : Nat → Int32} {a_ruleEntry : Nat → Int32} {a_ruleStart : Nat → Int32} {a_entryOperator : Nat → Int32} {a_entryFirst : Nat → Int32} {a_entryLast : Nat → Int32} {a_treeStack : Nat → Int32} {a_treeOperator : Nat → Int32} {a_treeFirst : Nat → Int32} {a_treeLast : Nat → Int32} {a_treeSize : Nat → Int32} {a_treeCosts : Nat → Int32} {a_treeWays : Nat → Int32} {a_stateCosts : Nat → Int32} {a_cover : Nat → Int32} {a_pendingEntry : Nat → Int32} {a_pendingNode : Nat → Int32} {si a : Int32} {s : Nat} (h1 : si = nI s) (h2 : a = nI (tc_as s)) (F : tc_fo pn pd py pz pk) (hN : pn < 7) (hp6 : pd ≤ 6) (hx : tc_xp pn pd py pz pk f_patternDepth f_patternNodes a_patternStack a_patternSymbol a_patternFirst a_patternLast)
    (hs : s < 10) (ha : tc_as s ≤ pd) (hd : pd - tc_as s < 6)
    (hp : ∀ (d n : Int32) (st sy fi la : Nat → Int32), tc_xp (pn + 1) (pd - tc_as s + 1) (tc_un py pn s) (tc_un pz pn (tc_sz pz pn (tc_as s))) (tc_un pk (pd - tc_as s) pn) d n st sy fi la →
      post (d, n, f_ruleCount, f_entryCount, f_treeDepth, f_treeNodes, f_stateCount, f_coverLength, f_pendingCount, st, sy, fi, la, a_patternEntry, a_ruleLeft, a_ruleCost, a_ruleEntry, a_ruleStart, a_entryOperator, a_entryFirst, a_entryLast, a_treeStack, a_treeOperator, a_treeFirst, a_treeLast, a_treeSize, a_treeCosts, a_treeWays, a_stateCosts, a_cover, a_pendingEntry, a_pendingNode)) :
    wpX_pushPattern post (f_patternDepth, f_patternNodes, f_ruleCount, f_entryCount, f_treeDepth, f_treeNodes, f_stateCount, f_coverLength, f_pendingCount, a_patternStack, a_patternSymbol, a_patternFirst, a_patternLast, a_patternEntry, a_ruleLeft, a_ruleCost, a_ruleEntry, a_ruleStart, a_entryOperator, a_entryFirst, a_entryLast, a_treeStack, a_treeOperator, a_treeFirst, a_treeLast, a_treeSize, a_treeCosts, a_treeWays, a_stateCosts, a_cover, a_pendingEntry, a_pendingNode) si a := by
  subst h1 h2
  exact xp_push F hN hp6 hx hs ha hd hp
theorem yp_push' {S : tc_S} {len : Nat → Nat} {ent : Nat → Nat → Nat} {pn pd : Nat} {py pz pk : Nat → Nat} (ok : tc_ok S) {post : Int32 → SY → Prop} {f_noted : Int32} {f_depth : Int32} {f_rules : Int32} {f_planted : Int32} {f_trees : Int32} {f_stateCount : Int32} {f_known : Int32} {f_listed : Int32} {a_marks : Nat → Int32} {a_sizes : Nat → Int32} {a_lefts : Nat → Int32} {a_costs : Nat → Int32} {a_lengths : Nat → Int32} {a_operators : Nat → Int32} {a_spans : Nat → Int32} {a_least : Nat → Int32} {a_ways : Nat → Int32} {a_tasks : Nat → Int32} {a_list : Nat → Int32} {mi a : Int32} {s : Nat} (h1 : mi = nI (tc_mk s)) (h2 : a = nI (tc_as s)) (F : tc_fo pn pd py pz pk) (hN : pn < 7) (hp6 : pd ≤ 6)
    (hr : tc_yr S len ent f_rules a_lefts a_costs a_lengths a_marks a_sizes) (hy : tc_yp pn pd py pz f_noted f_depth a_marks a_sizes) (hs : s < 10) (ha : tc_as s ≤ pd)
    (hp : ∀ (no de : Int32) (mk sz : Nat → Int32), tc_yr S len ent f_rules a_lefts a_costs a_lengths mk sz → tc_yp (pn + 1) (pd - tc_as s + 1) (tc_un py pn s) (tc_un pz pn (tc_sz pz pn (tc_as s))) no de mk sz →
      post (nI (pd - tc_as s + 1)) (no, de, f_rules, f_planted, f_trees, f_stateCount, f_known, f_listed, mk, sz, a_lefts, a_costs, a_lengths, a_operators, a_spans, a_least, a_ways, a_tasks, a_list)) :
    wpY_push post (f_noted, f_depth, f_rules, f_planted, f_trees, f_stateCount, f_known, f_listed, a_marks, a_sizes, a_lefts, a_costs, a_lengths, a_operators, a_spans, a_least, a_ways, a_tasks, a_list) mi a := by
  subst h1 h2
  exact yp_push ok F hN hp6 hr hy hs ha hp
theorem tc_pos_hi {x : Int32} {n : Nat} (h : nI n ≤ x) (hn : n < 2 ^ 31) : ¬ x < 0 := fun z => by
  have h2 : (0 : Int32) ≤ nI n := nI_pos' hn
  exact Int32.lt_irrefl (Int32.lt_of_le_of_lt (Int32.le_trans h2 h) z)
theorem tc_nle_hi {x : Int32} {n : Nat} (h : nI (n + 1) ≤ x) (hn : n + 1 < 2 ^ 31) : ¬ x ≤ nI n := fun z =>
  absurd (Int32.le_trans h z) (nI_ge (by omega) hn)
theorem tc_half {o : Nat} (h : o < 6) : o / 2 = tc_as o := by
  rcases tc_as_c o with ⟨e, h1⟩ | ⟨e, h1, h2⟩ | ⟨e, h1, h2⟩ <;> omega
theorem tc_un10 {py : Nat → Nat} {pn s n : Nat} (h : ∀ i, i < pn → py i < n) (hs : s < n) : ∀ i, i < pn + 1 → tc_un py pn s i < n := fun i hi => by
  by_cases c : i = pn
  · rw [c, tc_us]
    exact hs
  · rw [tc_ne c]
    exact h i (by omega)
section
variable {Q : Int32 → SX → Int32 → SY → Prop}
theorem cm_goal {u : SX} {v : SY} (I : tc_rel u v) (hQ : ∀ r u' v', tc_rel u' v' → Q r u' r v') (v1 : Int32) : wpX_goal (fun r u' => wpY_goal (fun r' v' => Q r u' r' v') v v1) u v1 := by
  obtain ⟨S, len, ent, pn, pd, py, pz, pk, tn, td, ty, tz, tk, G, hX, hY⟩ := I
  obtain ⟨f_patternDepth, f_patternNodes, f_ruleCount, f_entryCount, f_treeDepth, f_treeNodes, f_stateCount, f_coverLength, f_pendingCount, a_patternStack, a_patternSymbol, a_patternFirst, a_patternLast, a_patternEntry, a_ruleLeft, a_ruleCost, a_ruleEntry, a_ruleStart, a_entryOperator, a_entryFirst, a_entryLast, a_treeStack, a_treeOperator, a_treeFirst, a_treeLast, a_treeSize, a_treeCosts, a_treeWays, a_stateCosts, a_cover, a_pendingEntry, a_pendingNode⟩ := u
  obtain ⟨f_noted, f_depth, f_rules, f_planted, f_trees, g_stateCount, f_known, f_listed, a_marks, a_sizes, a_lefts, a_costs, a_lengths, a_operators, a_spans, a_least, a_ways, a_tasks, a_list⟩ := v
  have same : ∀ r, Q r _ r _ := fun r => hQ r _ _ ⟨S, len, ent, pn, pd, py, pz, pk, tn, td, ty, tz, tk, G, hX, hY⟩
  obtain ⟨ok, F, p7, p6, p10, T, t24, t8, t6⟩ := G
  obtain ⟨xr, xp, xt⟩ := hX
  obtain ⟨yr, yp, yt, cc⟩ := hY
  unfold wpX_goal
  rcases pk_ix v1 (n := 4) (by decide) with h | h | ⟨g, hg, rfl⟩
  · exact xm_goal_lo h (br_t rfl (br_t h (same _)))
  · exact xm_goal_hi h (br_t rfl (br_f (tc_pos_hi h (by decide)) (br_f (tc_nle_hi (n := 3) h (by decide)) (same _))))
  · refine xm_goal_ok hg (br_f (by decide) ?_)
    refine pk_le 6 pd (fun h => ?_) (fun h => ?_) rfl xp.1 (by omega) (by omega)
    · exact br_f (nI_pos (by omega)) (br_t (nI_le (b := 3) (by omega) (by decide)) (br_t (by rw [yp.2.1]; exact congrArg nI (show pd = 6 by omega)) (same _)))
    · refine pk_lt pn 7 (fun h7 => ?_) (fun h7 => ?_) xp.2.1 rfl (by omega) (by omega)
      · refine xp_push' (s := 6 + g) (by rw [show (6 : Int32) = nI 6 from rfl, nI_add]) (by rw [tc_as0 (by omega)]; rfl) F h7 p6 xp (by omega) (by rw [tc_as0 (by omega)]; omega) (by rw [tc_as0 (by omega)]; omega) (fun d n st sy fi la hx' => ?_)
        refine br_f (nI_pos (by omega)) (br_t (nI_le (b := 3) (by omega) (by decide)) (br_f (by rw [yp.2.1]; exact fun z => by have := (nI_eq (b := 6) (by omega) (by decide)).mp z; omega) (br_f (by rw [yp.1]; exact fun z => by have := (nI_eq (b := 7) (by omega) (by decide)).mp z; omega) ?_)))
        refine yp_push' (s := 6 + g) ok (by rw [show (10 : Int32) = nI 10 from rfl, nI_add]; unfold tc_mk; rw [if_neg (by omega)]; exact congrArg nI (by omega)) (by rw [tc_as0 (by omega)]; rfl) F h7 p6 yr yp (by omega) (by rw [tc_as0 (by omega)]; omega) (fun no de mk sz hr' hy' => ?_)
        rw [hx'.1]
        exact hQ _ _ _ ⟨S, len, ent, _, _, _, _, _, tn, td, ty, tz, tk, ⟨ok, tc_fo_push F (by rw [tc_as0 (by omega)]; omega), by omega, by rw [tc_as0 (by omega)]; omega, tc_un10 p10 (by omega), T, t24, t8, t6⟩, ⟨xr, by rw [← hx'.1]; exact hx', xt⟩, ⟨hr', hy', yt, cc⟩⟩
      · exact br_f (nI_pos (by omega)) (br_t (nI_le (b := 3) (by omega) (by decide)) (br_f (by rw [yp.2.1]; exact fun z => by have := (nI_eq (b := 6) (by omega) (by decide)).mp z; omega) (br_t (by rw [yp.1]; exact congrArg nI (show pn = 7 by omega)) (same _))))
theorem cm_pattern {u : SX} {v : SY} (I : tc_rel u v) (hQ : ∀ r u' v', tc_rel u' v' → Q r u' r v') (v1 : Int32) : wpX_pattern (fun r u' => wpY_pattern (fun r' v' => Q r u' r' v') v v1) u v1 := by
  obtain ⟨S, len, ent, pn, pd, py, pz, pk, tn, td, ty, tz, tk, G, hX, hY⟩ := I
  obtain ⟨f_patternDepth, f_patternNodes, f_ruleCount, f_entryCount, f_treeDepth, f_treeNodes, f_stateCount, f_coverLength, f_pendingCount, a_patternStack, a_patternSymbol, a_patternFirst, a_patternLast, a_patternEntry, a_ruleLeft, a_ruleCost, a_ruleEntry, a_ruleStart, a_entryOperator, a_entryFirst, a_entryLast, a_treeStack, a_treeOperator, a_treeFirst, a_treeLast, a_treeSize, a_treeCosts, a_treeWays, a_stateCosts, a_cover, a_pendingEntry, a_pendingNode⟩ := u
  obtain ⟨f_noted, f_depth, f_rules, f_planted, f_trees, g_stateCount, f_known, f_listed, a_marks, a_sizes, a_lefts, a_costs, a_lengths, a_operators, a_spans, a_least, a_ways, a_tasks, a_list⟩ := v
  have same : ∀ r, Q r _ r _ := fun r => hQ r _ _ ⟨S, len, ent, pn, pd, py, pz, pk, tn, td, ty, tz, tk, G, hX, hY⟩
  obtain ⟨ok, F, p7, p6, p10, T, t24, t8, t6⟩ := G
  obtain ⟨xr, xp, xt⟩ := hX
  obtain ⟨yr, yp, yt, cc⟩ := hY
  unfold wpX_pattern
  rcases pk_ix v1 (n := 6) (by decide) with h | h | ⟨o, ho, rfl⟩
  · exact xm_oper_lo h (br_t rfl (br_t h (same _)))
  · exact xm_oper_hi h (br_t rfl (br_f (tc_pos_hi h (by decide)) (br_f (tc_nle_hi (n := 5) h (by decide)) (same _))))
  · refine xm_oper_ok ho (br_f (by decide) ?_)
    refine xm_parts (by omega) ?_
    rw [← tc_as_ar ho]
    have hdiv : nI o / 2 = nI (tc_as o) := by rw [show (2 : Int32) = nI 2 from rfl, pk_div (by omega) (by decide) (by decide), tc_half ho]
    have h3 : tc_as o ≤ 2 := by rcases tc_as_c o with ⟨e, h1⟩ | ⟨e, h1, h2⟩ | ⟨e, h1, h2⟩ <;> omega
    have yy : ∀ P : Int32 → Prop, P (nI (tc_as o)) → wpY_partsOf P (f_noted, f_depth, f_rules, f_planted, f_trees, g_stateCount, f_known, f_listed, a_marks, a_sizes, a_lefts, a_costs, a_lengths, a_operators, a_spans, a_least, a_ways, a_tasks, a_list) (nI o) := fun P hP => ⟨by decide, by rw [hdiv]; exact hP⟩
    refine pk_le (tc_as o) pd (fun h => ?_) (fun h => ?_) rfl xp.1 (by omega) (by omega)
    · refine pk_le 6 (pd - tc_as o) (fun h6 => ?_) (fun h6 => ?_) rfl (by rw [xp.1, pk_sub h]) (by omega) (by omega)
      · refine br_f (nI_pos (by omega)) (br_t (nI_le (b := 5) (by omega) (by decide)) (yy _ (br_t (by rw [yp.2.1]; exact nI_le h (by omega)) (br_t ?_ (same _)))))
        rw [yp.2.1, nI_1, pk_sub (by omega)]
        exact nI_lt (a := 6) (by omega) (by omega)
      · have y6 : ¬ (6 : Int32) < f_depth + 1 - nI (tc_as o) := by
          rw [yp.2.1, nI_1, pk_sub (by omega)]
          exact nI_nlt (b := pd + 1 - tc_as o) (a := 6) (by omega) (by omega)
        refine pk_lt pn 7 (fun h7 => ?_) (fun h7 => ?_) xp.2.1 rfl (by omega) (by omega)
        · refine xp_push' (s := o) rfl rfl F h7 p6 xp (by omega) h h6 (fun d n st sy fi la hx' => ?_)
          refine br_f (nI_pos (by omega)) (br_t (nI_le (b := 5) (by omega) (by decide)) (yy _ (br_t (by rw [yp.2.1]; exact nI_le h (by omega)) (br_f y6 (br_f (by rw [yp.1]; exact fun z => by have := (nI_eq (b := 7) (by omega) (by decide)).mp z; omega) ?_)))))
          refine yp_push' (s := o) ok (by unfold tc_mk; rw [if_pos ho]) rfl F h7 p6 yr yp (by omega) h (fun no de mk sz hr' hy' => ?_)
          rw [hx'.1]
          exact hQ _ _ _ ⟨S, len, ent, _, _, _, _, _, tn, td, ty, tz, tk, ⟨ok, tc_fo_push F h, by omega, by omega, tc_un10 p10 (by omega), T, t24, t8, t6⟩, ⟨xr, by rw [← hx'.1]; exact hx', xt⟩, ⟨hr', hy', yt, cc⟩⟩
        · exact br_f (nI_pos (by omega)) (br_t (nI_le (b := 5) (by omega) (by decide)) (yy _ (br_t (by rw [yp.2.1]; exact nI_le h (by omega)) (br_f y6 (br_t (by rw [yp.1]; exact congrArg nI (show pn = 7 by omega)) (same _))))))
    · exact br_f (nI_pos (by omega)) (br_t (nI_le (b := 5) (by omega) (by decide)) (yy _ (br_f (by rw [yp.2.1]; exact nI_ge h (by omega)) (same _))))
theorem cm_scrap {u : SX} {v : SY} (I : tc_rel u v) (hQ : ∀ r u' v', tc_rel u' v' → Q r u' r v') : wpX_scrap (fun r u' => wpY_scrap (fun r' v' => Q r u' r' v') v) u := by
  obtain ⟨S, len, ent, pn, pd, py, pz, pk, tn, td, ty, tz, tk, G, hX, hY⟩ := I
  obtain ⟨f_patternDepth, f_patternNodes, f_ruleCount, f_entryCount, f_treeDepth, f_treeNodes, f_stateCount, f_coverLength, f_pendingCount, a_patternStack, a_patternSymbol, a_patternFirst, a_patternLast, a_patternEntry, a_ruleLeft, a_ruleCost, a_ruleEntry, a_ruleStart, a_entryOperator, a_entryFirst, a_entryLast, a_treeStack, a_treeOperator, a_treeFirst, a_treeLast, a_treeSize, a_treeCosts, a_treeWays, a_stateCosts, a_cover, a_pendingEntry, a_pendingNode⟩ := u
  obtain ⟨f_noted, f_depth, f_rules, f_planted, f_trees, g_stateCount, f_known, f_listed, a_marks, a_sizes, a_lefts, a_costs, a_lengths, a_operators, a_spans, a_least, a_ways, a_tasks, a_list⟩ := v
  obtain ⟨ok, F, p7, p6, p10, T, t24, t8, t6⟩ := G
  obtain ⟨xr, ⟨x1, x2, x3, x4⟩, xt⟩ := hX
  obtain ⟨yr, ⟨y1, y2, y3⟩, yt, cc⟩ := hY
  subst x1 y2
  exact hQ _ _ _ ⟨S, len, ent, 0, 0, py, pz, pk, tn, td, ty, tz, tk, ⟨ok, tc_fo_nil _ _ _, by omega, by omega, fun i hi => absurd hi (Nat.not_lt_zero _), T, t24, t8, t6⟩, ⟨xr, ⟨rfl, rfl, fun k hk => absurd hk (Nat.not_lt_zero _), fun i hi => absurd hi (Nat.not_lt_zero _)⟩, xt⟩, ⟨yr, ⟨rfl, rfl, fun i hi => absurd hi (Nat.not_lt_zero _)⟩, yt, cc⟩⟩
theorem cm_fell {u : SX} {v : SY} (I : tc_rel u v) (hQ : ∀ r u' v', tc_rel u' v' → Q r u' r v') : wpX_fell (fun r u' => wpY_fell (fun r' v' => Q r u' r' v') v) u := by
  obtain ⟨S, len, ent, pn, pd, py, pz, pk, tn, td, ty, tz, tk, G, hX, hY⟩ := I
  obtain ⟨f_patternDepth, f_patternNodes, f_ruleCount, f_entryCount, f_treeDepth, f_treeNodes, f_stateCount, f_coverLength, f_pendingCount, a_patternStack, a_patternSymbol, a_patternFirst, a_patternLast, a_patternEntry, a_ruleLeft, a_ruleCost, a_ruleEntry, a_ruleStart, a_entryOperator, a_entryFirst, a_entryLast, a_treeStack, a_treeOperator, a_treeFirst, a_treeLast, a_treeSize, a_treeCosts, a_treeWays, a_stateCosts, a_cover, a_pendingEntry, a_pendingNode⟩ := u
  obtain ⟨f_noted, f_depth, f_rules, f_planted, f_trees, g_stateCount, f_known, f_listed, a_marks, a_sizes, a_lefts, a_costs, a_lengths, a_operators, a_spans, a_least, a_ways, a_tasks, a_list⟩ := v
  obtain ⟨ok, F, p7, p6, p10, T, t24, t8, t6⟩ := G
  obtain ⟨xr, xp, ⟨x1, x2, x3, x4⟩⟩ := hX
  obtain ⟨yr, yp, ⟨y1, y2, y3⟩, cc⟩ := hY
  subst x1 y2
  exact hQ _ _ _ ⟨S, len, ent, pn, pd, py, pz, pk, 0, 0, ty, tz, tk, ⟨ok, F, p7, p6, p10, tc_fo_nil _ _ _, by omega, by omega, fun i hi => absurd hi (Nat.not_lt_zero _)⟩, ⟨xr, xp, ⟨rfl, rfl, fun k hk => absurd hk (Nat.not_lt_zero _), fun i hi => absurd hi (Nat.not_lt_zero _)⟩⟩, ⟨yr, yp, ⟨rfl, rfl, fun i hi => absurd hi (Nat.not_lt_zero _)⟩, cc⟩⟩
theorem cm_tree {u : SX} {v : SY} (I : tc_rel u v) (hQ : ∀ r u' v', tc_rel u' v' → Q r u' r v') (v1 : Int32) : wpX_tree (fun r u' => wpY_tree (fun r' v' => Q r u' r' v') v v1) u v1 := by
  obtain ⟨S, len, ent, pn, pd, py, pz, pk, tn, td, ty, tz, tk, G, hX, hY⟩ := I
  obtain ⟨f_patternDepth, f_patternNodes, f_ruleCount, f_entryCount, f_treeDepth, f_treeNodes, f_stateCount, f_coverLength, f_pendingCount, a_patternStack, a_patternSymbol, a_patternFirst, a_patternLast, a_patternEntry, a_ruleLeft, a_ruleCost, a_ruleEntry, a_ruleStart, a_entryOperator, a_entryFirst, a_entryLast, a_treeStack, a_treeOperator, a_treeFirst, a_treeLast, a_treeSize, a_treeCosts, a_treeWays, a_stateCosts, a_cover, a_pendingEntry, a_pendingNode⟩ := u
  obtain ⟨f_noted, f_depth, f_rules, f_planted, f_trees, g_stateCount, f_known, f_listed, a_marks, a_sizes, a_lefts, a_costs, a_lengths, a_operators, a_spans, a_least, a_ways, a_tasks, a_list⟩ := v
  have same : ∀ r, Q r _ r _ := fun r => hQ r _ _ ⟨S, len, ent, pn, pd, py, pz, pk, tn, td, ty, tz, tk, G, hX, hY⟩
  obtain ⟨ok, F, p7, p6, p10, T, t24, t8, t6⟩ := G
  obtain ⟨xr, xp, xt⟩ := hX
  obtain ⟨yr, yp, yt, cc⟩ := hY
  unfold wpX_tree
  rcases pk_ix v1 (n := 6) (by decide) with h | h | ⟨o, ho, rfl⟩
  · exact xm_oper_lo h (br_t rfl (br_t h (same _)))
  · exact xm_oper_hi h (br_t rfl (br_f (tc_pos_hi h (by decide)) (br_f (tc_nle_hi (n := 5) h (by decide)) (same _))))
  · refine xm_oper_ok ho (br_f (by decide) ?_)
    refine xm_parts (by omega) ?_
    rw [← tc_as_ar ho]
    have hdiv : nI o / 2 = nI (tc_as o) := by rw [show (2 : Int32) = nI 2 from rfl, pk_div (by omega) (by decide) (by decide), tc_half ho]
    have h3 : tc_as o ≤ 2 := by rcases tc_as_c o with ⟨e, h1⟩ | ⟨e, h1, h2⟩ | ⟨e, h1, h2⟩ <;> omega
    have yy : ∀ P : Int32 → Prop, P (nI (tc_as o)) → wpY_partsOf P (f_noted, f_depth, f_rules, f_planted, f_trees, g_stateCount, f_known, f_listed, a_marks, a_sizes, a_lefts, a_costs, a_lengths, a_operators, a_spans, a_least, a_ways, a_tasks, a_list) (nI o) := fun P hP => ⟨by decide, by rw [hdiv]; exact hP⟩
    refine pk_le (tc_as o) td (fun h => ?_) (fun h => ?_) rfl xt.1 (by omega) (by omega)
    · refine pk_le 8 (td - tc_as o) (fun h8 => ?_) (fun h8 => ?_) rfl (by rw [xt.1, pk_sub h]) (by omega) (by omega)
      · refine br_f (nI_pos (by omega)) (br_t (nI_le (b := 5) (by omega) (by decide)) (yy _ (br_t (by rw [yt.2.1]; exact nI_le h (by omega)) (br_t ?_ (same _)))))
        rw [yt.2.1, nI_1, pk_sub (by omega)]
        exact nI_lt (a := 8) (by omega) (by omega)
      · have y8 : ¬ (8 : Int32) < f_trees + 1 - nI (tc_as o) := by
          rw [yt.2.1, nI_1, pk_sub (by omega)]
          exact nI_nlt (b := td + 1 - tc_as o) (a := 8) (by omega) (by omega)
        refine pk_lt tn 24 (fun h7 => ?_) (fun h7 => ?_) xt.2.1 rfl (by omega) (by omega)
        · refine xt_push (s := o) T h7 t8 xt ho h h8 (fun d n st op fi la sz hx' => ?_)
          refine br_f (nI_pos (by omega)) (br_t (nI_le (b := 5) (by omega) (by decide)) (yy _ (br_t (by rw [yt.2.1]; exact nI_le h (by omega)) (br_f y8 (br_f (by rw [yt.1]; exact fun z => by have := (nI_eq (b := 24) (by omega) (by decide)).mp z; omega) ?_)))))
          refine yt_push (s := o) T h7 t8 yt ho h (fun pl tr op' sp hy' => ?_)
          rw [hx'.1]
          exact hQ _ _ _ ⟨S, len, ent, pn, pd, py, pz, pk, _, _, _, _, _, ⟨ok, F, p7, p6, p10, tc_fo_push T h, by omega, by omega, tc_un10 t6 ho⟩, ⟨xr, xp, by rw [← hx'.1]; exact hx'⟩, ⟨yr, yp, hy', cc⟩⟩
        · exact br_f (nI_pos (by omega)) (br_t (nI_le (b := 5) (by omega) (by decide)) (yy _ (br_t (by rw [yt.2.1]; exact nI_le h (by omega)) (br_f y8 (br_t (by rw [yt.1]; exact congrArg nI (show tn = 24 by omega)) (same _))))))
    · exact br_f (nI_pos (by omega)) (br_t (nI_le (b := 5) (by omega) (by decide)) (yy _ (br_f (by rw [yt.2.1]; exact nI_ge h (by omega)) (same _))))
theorem cm_unrule {u : SX} {v : SY} (I : tc_rel u v) (hQ : ∀ r u' v', tc_rel u' v' → Q r u' r v') : wpX_unrule (fun r u' => wpY_unrule (fun r' v' => Q r u' r' v') v) u := by
  obtain ⟨S, len, ent, pn, pd, py, pz, pk, tn, td, ty, tz, tk, G, hX, hY⟩ := I
  obtain ⟨f_patternDepth, f_patternNodes, f_ruleCount, f_entryCount, f_treeDepth, f_treeNodes, f_stateCount, f_coverLength, f_pendingCount, a_patternStack, a_patternSymbol, a_patternFirst, a_patternLast, a_patternEntry, a_ruleLeft, a_ruleCost, a_ruleEntry, a_ruleStart, a_entryOperator, a_entryFirst, a_entryLast, a_treeStack, a_treeOperator, a_treeFirst, a_treeLast, a_treeSize, a_treeCosts, a_treeWays, a_stateCosts, a_cover, a_pendingEntry, a_pendingNode⟩ := u
  obtain ⟨f_noted, f_depth, f_rules, f_planted, f_trees, g_stateCount, f_known, f_listed, a_marks, a_sizes, a_lefts, a_costs, a_lengths, a_operators, a_spans, a_least, a_ways, a_tasks, a_list⟩ := v
  have same : ∀ r, Q r _ r _ := fun r => hQ r _ _ ⟨S, len, ent, pn, pd, py, pz, pk, tn, td, ty, tz, tk, G, hX, hY⟩
  obtain ⟨ok, F, p7, p6, p10, T, t24, t8, t6⟩ := G
  obtain ⟨xr, xp, xt⟩ := hX
  obtain ⟨yr, yp, yt, cc⟩ := hY
  have hR := ok.1
  refine pk_eq (tc_R S) 0 (fun h => ?_) (fun h => ?_) xr.1 rfl (by omega) (by omega)
  · exact br_t (by rw [yr.1, h]; rfl) (same _)
  · obtain ⟨k, hk⟩ : ∃ k, tc_R S = k + 1 := ⟨tc_R S - 1, by omega⟩
    have w : f_ruleCount - 1 = nI k := by rw [xr.1, hk, nI_pred]
    have wy : f_rules - 1 = nI k := by rw [yr.1, hk, nI_pred]
    have hup := tc_ok_up ok 1 k (by omega)
    refine nm_r w ⟨vp_in_nI (by omega) (by decide), nm_r (e' := nI (tc_sr S k)) (by rw [nI_clamp (by omega), (xr.2.2.1 k (by omega)).2.2.2]) ?_⟩
    refine br_f (by rw [yr.1]; exact nI_ne0 (by omega) (by omega)) (nm_r wy ?_)
    obtain ⟨R, sr, lf, co, rt, eo, ef, el⟩ := S
    have hk' : R = k + 1 := hk
    have hup' : sr k ≤ sr R := hup
    subst hk'
    refine hQ _ _ _ ⟨(k, sr, lf, co, rt, eo, ef, el), len, ent, pn, pd, py, pz, pk, tn, td, ty, tz, tk, ⟨⟨by show k ≤ 10; have : k + 1 ≤ 10 := hR; omega, ok.2.1, fun r hr => ok.2.2.1 r (Nat.lt_succ_of_lt hr), fun e h1 h2 => ok.2.2.2 e h1 (Nat.lt_of_lt_of_le h2 hup')⟩, F, p7, p6, p10, T, t24, t8, t6⟩,
      ⟨⟨rfl, rfl, fun r hr => xr.2.2.1 r (Nat.lt_succ_of_lt hr), fun e h1 h2 => xr.2.2.2 e h1 (Nat.lt_of_lt_of_le h2 hup')⟩, xp, xt⟩, ⟨⟨rfl, fun r hr => yr.2.1 r (Nat.lt_succ_of_lt hr), fun r e hr => yr.2.2 r e (Nat.lt_succ_of_lt hr)⟩, yp, yt, cc⟩⟩
theorem cm_size {u : SX} {v : SY} {P : Int32 → Int32 → Prop} (I : tc_rel u v) (hQ : ∀ r, tc_rel u v → P r r) : wpX_size (fun r => wpY_size (fun r' => P r r') v) u := by
  have I' := I
  obtain ⟨S, len, ent, pn, pd, py, pz, pk, tn, td, ty, tz, tk, G, hX, hY⟩ := I
  obtain ⟨f_patternDepth, f_patternNodes, f_ruleCount, f_entryCount, f_treeDepth, f_treeNodes, f_stateCount, f_coverLength, f_pendingCount, a_patternStack, a_patternSymbol, a_patternFirst, a_patternLast, a_patternEntry, a_ruleLeft, a_ruleCost, a_ruleEntry, a_ruleStart, a_entryOperator, a_entryFirst, a_entryLast, a_treeStack, a_treeOperator, a_treeFirst, a_treeLast, a_treeSize, a_treeCosts, a_treeWays, a_stateCosts, a_cover, a_pendingEntry, a_pendingNode⟩ := u
  obtain ⟨f_noted, f_depth, f_rules, f_planted, f_trees, g_stateCount, f_known, f_listed, a_marks, a_sizes, a_lefts, a_costs, a_lengths, a_operators, a_spans, a_least, a_ways, a_tasks, a_list⟩ := v
  obtain ⟨ok, F, p7, p6, p10, T, t24, t8, t6⟩ := G
  obtain ⟨xr, xp, xt⟩ := hX
  obtain ⟨yr, yp, yt, cc⟩ := hY
  refine pk_eq td 0 (fun h => ?_) (fun h => ?_) xt.1 rfl (by omega) (by omega)
  · exact br_t (by rw [yt.2.1, h]; rfl) (hQ _ I')
  · obtain ⟨s1, s2⟩ := tc_fo_t1 T (by omega)
    have w : f_treeDepth - 1 = nI (td - 1) := by rw [xt.1, show (1 : Int32) = nI 1 from rfl, pk_sub (by omega)]
    have w2 : f_planted - 1 = nI (tn - 1) := by rw [yt.1, show (1 : Int32) = nI 1 from rfl, pk_sub (by omega)]
    have w3 : a_treeStack (f_treeDepth - 1).toNatClampNeg = nI (tn - 1) := by rw [w, nI_clamp (by omega), xt.2.2.1 (td - 1) (by omega), s2]
    refine ⟨by rw [w]; exact vp_in_nI (by omega) (by decide), by rw [w3]; exact vp_in_nI (by omega) (by decide), ?_⟩
    rw [w3, nI_clamp (by omega), (xt.2.2.2 (tn - 1) (by omega)).2.1]
    refine br_f (by rw [yt.2.1]; exact nI_ne0 (by omega) (by omega)) ⟨by rw [w2]; exact vp_in_nI (by omega) (by decide), ?_⟩
    rw [w2, nI_clamp (by omega), (yt.2.2 (tn - 1) (by omega)).2]
    exact hQ _ I'
end
