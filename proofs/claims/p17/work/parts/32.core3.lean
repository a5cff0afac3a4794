section
variable {S : tc_S} {tn td : Nat} {ty tz tk : Nat → Nat}
theorem tc_cl_q (ok : tc_ok S) (T : tc_fo tn td ty tz tk) (t6 : ∀ i, i < tn → ty i < 6) (hN : tn ≤ 24) {g : Nat} (hg : g < 4) (h : tc_tp S 536870912 ty tz tn td g ≠ 536870912) :
    tc_cl S 536870912 ty tz tn td g = tc_cv S 1000000 ty tz [(tn - 1, g)] ∧ 0 < (tc_cl S 536870912 ty tz tn td g).length := by
  have hn : tc_tn ty tz tn := fun i hi => ⟨t6 i hi, T.2.2.2.2.2 i hi⟩
  have hE := tc_ok_E ok
  have htd : 0 < td := by
    unfold tc_tp at h
    rcases Nat.eq_zero_or_pos td with h' | h'
    · rw [if_pos h'] at h
      exact absurd rfl h
    · exact h'
  have s1 := (tc_fo_t1 T htd).1
  have hv : tc_v S 536870912 ty tz (tn - 1) g ≠ 536870912 := by
    unfold tc_tp at h
    rw [if_neg (by omega)] at h
    exact h
  have hgd : ∀ p, p ∈ [(tn - 1, g)] → tc_gd S 536870912 ty tz tn p.1 p.2 := fun p hp => by
    rw [List.mem_singleton] at hp
    rw [hp]
    exact ⟨by show tn - 1 < tn; omega, by show g < tc_E S; omega, hv⟩
  have e : tc_cl S 536870912 ty tz tn td g = tc_cv S 536870912 ty tz [(tn - 1, g)] := if_neg h
  rw [e]
  refine ⟨tc_cv_q ok hn hN (by omega) (by omega) hgd, ?_⟩
  rw [tc_cv_cons ok hn hgd]
  have e2 : tc_ou S 536870912 ty tz (tn - 1) g = [tc_lo S 536870912 (tc_v S 536870912 ty tz (tn - 1)) g] := if_pos hg
  rw [e2, List.length_append]
  show 0 < 1 + _
  omega
end
section
variable {Q : Int32 → SX → Int32 → SY → Prop}
theorem cm_uses {u : SX} {v : SY} (I : tc_rel u v) (hQ : ∀ r u' v', tc_rel u' v' → Q r u' r v') (v1 : Int32) : wpX_uses (fun r u' => wpY_uses (fun r' v' => Q r u' r' v') v v1) u v1 := by
  obtain ⟨S, len, ent, pn, pd, py, pz, pk, tn, td, ty, tz, tk, G, hX, hY⟩ := I
  obtain ⟨f_patternDepth, f_patternNodes, f_ruleCount, f_entryCount, f_treeDepth, f_treeNodes, f_stateCount, f_coverLength, f_pendingCount, a_patternStack, a_patternSymbol, a_patternFirst, a_patternLast, a_patternEntry, a_ruleLeft, a_ruleCost, a_ruleEntry, a_ruleStart, a_entryOperator, a_entryFirst, a_entryLast, a_treeStack, a_treeOperator, a_treeFirst, a_treeLast, a_treeSize, a_treeCosts, a_treeWays, a_stateCosts, a_cover, a_pendingEntry, a_pendingNode⟩ := u
  obtain ⟨f_noted, f_depth, f_rules, f_planted, f_trees, g_stateCount, f_known, f_listed, a_marks, a_sizes, a_lefts, a_costs, a_lengths, a_operators, a_spans, a_least, a_ways, a_tasks, a_list⟩ := v
  have same : ∀ r, Q r _ r _ := fun r => hQ r _ _ ⟨S, len, ent, pn, pd, py, pz, pk, tn, td, ty, tz, tk, G, hX, hY⟩
  have G' := G
  obtain ⟨ok, F, p7, p6, p10, T, t24, t8, t6⟩ := G
  obtain ⟨xr, xp, xt⟩ := hX
  obtain ⟨yr, yp, yt, cc⟩ := hY
  unfold wpX_uses
  rcases pk_ix v1 (n := 4) (by decide) with h | h | ⟨g, hg, rfl⟩
  · exact xm_goal_lo h (br_t rfl (br_t h (same _)))
  · exact xm_goal_hi h (br_t rfl (br_f (tc_pos_hi h (by decide)) (br_f (tc_nle_hi (n := 3) h (by decide)) (same _))))
  · have q := tc_tp_q ok T t6 t24 hg
    unfold tc_q at q
    refine xm_goal_ok hg (br_f (by decide) ?_)
    refine xm_lc ok T t6 t24 t8 hg xr xt (fun tc co pe pn' fp h96 hal => ?_)
    by_cases hK : tc_tp S 536870912 ty tz tn td g = 536870912
    · have e : tc_cl S 536870912 ty tz tn td g = [] := if_pos hK
      rw [e]
      refine br_t rfl (br_f (nI_pos (by omega)) (br_t (nI_le (b := 3) (by omega) (by decide)) ?_))
      exact ym_write ok T t6 t24 t8 hg yr yt (fun _ le hle => br_t rfl (hQ _ _ _ ⟨S, len, ent, pn, pd, py, pz, pk, tn, td, ty, tz, tk, G', ⟨xr, xp, xt⟩, ⟨yr, yp, yt, cc⟩⟩)) (fun z => by omega)
    · obtain ⟨e1, e2⟩ := tc_cl_q ok T t6 t24 hg hK
      refine br_f (nI_ne0 e2 (by omega)) (br_f (nI_pos (by omega)) (br_t (nI_le (b := 3) (by omega) (by decide)) ?_))
      refine ym_write ok T t6 t24 t8 hg yr yt (fun z => by omega) (fun _ le ta li hle hal' => br_f (by decide) ?_)
      rw [← e1]
      exact hQ _ _ _ ⟨S, len, ent, pn, pd, py, pz, pk, tn, td, ty, tz, tk, G', ⟨xr, xp, xt⟩, ⟨yr, yp, yt, cc⟩⟩
theorem cm_used {u : SX} {v : SY} (I : tc_rel u v) (hQ : ∀ r u' v', tc_rel u' v' → Q r u' r v') (v1 v2 : Int32) : wpX_used (fun r u' => wpY_used (fun r' v' => Q r u' r' v') v v1 v2) u v1 v2 := by
  obtain ⟨S, len, ent, pn, pd, py, pz, pk, tn, td, ty, tz, tk, G, hX, hY⟩ := I
  obtain ⟨f_patternDepth, f_patternNodes, f_ruleCount, f_entryCount, f_treeDepth, f_treeNodes, f_stateCount, f_coverLength, f_pendingCount, a_patternStack, a_patternSymbol, a_patternFirst, a_patternLast, a_patternEntry, a_ruleLeft, a_ruleCost, a_ruleEntry, a_ruleStart, a_entryOperator, a_entryFirst, a_entryLast, a_treeStack, a_treeOperator, a_treeFirst, a_treeLast, a_treeSize, a_treeCosts, a_treeWays, a_stateCosts, a_cover, a_pendingEntry, a_pendingNode⟩ := u
  obtain ⟨f_noted, f_depth, f_rules, f_planted, f_trees, g_stateCount, f_known, f_listed, a_marks, a_sizes, a_lefts, a_costs, a_lengths, a_operators, a_spans, a_least, a_ways, a_tasks, a_list⟩ := v
  have same : ∀ r, Q r _ r _ := fun r => hQ r _ _ ⟨S, len, ent, pn, pd, py, pz, pk, tn, td, ty, tz, tk, G, hX, hY⟩
  have G' := G
  obtain ⟨ok, F, p7, p6, p10, T, t24, t8, t6⟩ := G
  obtain ⟨xr, xp, xt⟩ := hX
  obtain ⟨yr, yp, yt, cc⟩ := hY
  unfold wpX_used
  rcases pk_ix v1 (n := 4) (by decide) with h | h | ⟨g, hg, rfl⟩
  · exact xm_goal_lo h (br_t rfl (br_t h (same _)))
  · exact xm_goal_hi h (br_t rfl (br_f (tc_pos_hi h (by decide)) (br_f (tc_nle_hi (n := 3) h (by decide)) (same _))))
  · have q := tc_tp_q ok T t6 t24 hg
    unfold tc_q at q
    refine xm_goal_ok hg (br_f (by decide) ?_)
    refine xm_lc ok T t6 t24 t8 hg xr xt (fun tc co pe pn' fp h96 hal => ?_)
    by_cases hK : tc_tp S 536870912 ty tz tn td g = 536870912
    · have e : tc_cl S 536870912 ty tz tn td g = [] := if_pos hK
      have yside : ∀ P : Int32 → SY → Prop, (∀ le, P (-4) (f_noted, f_depth, f_rules, f_planted, f_trees, g_stateCount, f_known, f_listed, a_marks, a_sizes, a_lefts, a_costs, a_lengths, a_operators, a_spans, le, a_ways, a_tasks, a_list)) → wpY_used P (f_noted, f_depth, f_rules, f_planted, f_trees, g_stateCount, f_known, f_listed, a_marks, a_sizes, a_lefts, a_costs, a_lengths, a_operators, a_spans, a_least, a_ways, a_tasks, a_list) (nI g) v2 := fun P hP => by
        refine br_f (nI_pos (by omega)) (br_t (nI_le (b := 3) (by omega) (by decide)) ?_)
        exact ym_write ok T t6 t24 t8 hg yr yt (fun _ le hle => br_t rfl (hP le)) (fun z => by omega)
      have fin : ∀ le : Nat → Int32, Q (-4) (f_patternDepth, f_patternNodes, f_ruleCount, f_entryCount, f_treeDepth, f_treeNodes, f_stateCount, nI (tc_cl S 536870912 ty tz tn td g).length, fp, a_patternStack, a_patternSymbol, a_patternFirst, a_patternLast, a_patternEntry, a_ruleLeft, a_ruleCost, a_ruleEntry, a_ruleStart, a_entryOperator, a_entryFirst, a_entryLast, a_treeStack, a_treeOperator, a_treeFirst, a_treeLast, a_treeSize, tc, a_treeWays, a_stateCosts, co, pe, pn') (-4) (f_noted, f_depth, f_rules, f_planted, f_trees, g_stateCount, f_known, f_listed, a_marks, a_sizes, a_lefts, a_costs, a_lengths, a_operators, a_spans, le, a_ways, a_tasks, a_list) := fun le => hQ _ _ _ ⟨S, len, ent, pn, pd, py, pz, pk, tn, td, ty, tz, tk, G', ⟨xr, xp, xt⟩, ⟨yr, yp, yt, cc⟩⟩
      refine br_c (fun _ => yside _ fin) (fun hneg => br_f ?_ (yside _ fin))
      rw [e]
      exact hneg
    · obtain ⟨e1, e2⟩ := tc_cl_q ok T t6 t24 hg hK
      rw [e1] at h96 hal e2 ⊢
      have yside : ∀ P : Int32 → SY → Prop, (∀ le ta li, tc_al li (tc_cv S 1000000 ty tz [(tn - 1, g)]) → (v2 < 0 → P (-4) (f_noted, f_depth, f_rules, f_planted, f_trees, g_stateCount, f_known, nI (tc_cv S 1000000 ty tz [(tn - 1, g)]).length, a_marks, a_sizes, a_lefts, a_costs, a_lengths, a_operators, a_spans, le, a_ways, ta, li)) ∧ (¬ v2 < 0 → (nI (tc_cv S 1000000 ty tz [(tn - 1, g)]).length ≤ v2 → P (-4) (f_noted, f_depth, f_rules, f_planted, f_trees, g_stateCount, f_known, nI (tc_cv S 1000000 ty tz [(tn - 1, g)]).length, a_marks, a_sizes, a_lefts, a_costs, a_lengths, a_operators, a_spans, le, a_ways, ta, li)) ∧ (¬ nI (tc_cv S 1000000 ty tz [(tn - 1, g)]).length ≤ v2 → vp_in v2 400 ∧ P (li v2.toNatClampNeg) (f_noted, f_depth, f_rules, f_planted, f_trees, g_stateCount, f_known, nI (tc_cv S 1000000 ty tz [(tn - 1, g)]).length, a_marks, a_sizes, a_lefts, a_costs, a_lengths, a_operators, a_spans, le, a_ways, ta, li)))) → wpY_used P (f_noted, f_depth, f_rules, f_planted, f_trees, g_stateCount, f_known, f_listed, a_marks, a_sizes, a_lefts, a_costs, a_lengths, a_operators, a_spans, a_least, a_ways, a_tasks, a_list) (nI g) v2 := fun P hP => by
        refine br_f (nI_pos (by omega)) (br_t (nI_le (b := 3) (by omega) (by decide)) ?_)
        exact ym_write ok T t6 t24 t8 hg yr yt (fun z => by omega) (fun _ le ta li hle hal' => br_f (by decide) (hP le ta li hal'))
      have rel : ∀ (r fl : Int32) (le ta li : Nat → Int32), Q r (f_patternDepth, f_patternNodes, f_ruleCount, f_entryCount, f_treeDepth, f_treeNodes, f_stateCount, nI (tc_cv S 1000000 ty tz [(tn - 1, g)]).length, fp, a_patternStack, a_patternSymbol, a_patternFirst, a_patternLast, a_patternEntry, a_ruleLeft, a_ruleCost, a_ruleEntry, a_ruleStart, a_entryOperator, a_entryFirst, a_entryLast, a_treeStack, a_treeOperator, a_treeFirst, a_treeLast, a_treeSize, tc, a_treeWays, a_stateCosts, co, pe, pn') r (f_noted, f_depth, f_rules, f_planted, f_trees, g_stateCount, f_known, fl, a_marks, a_sizes, a_lefts, a_costs, a_lengths, a_operators, a_spans, le, a_ways, ta, li) := fun r fl le ta li => hQ _ _ _ ⟨S, len, ent, pn, pd, py, pz, pk, tn, td, ty, tz, tk, G', ⟨xr, xp, xt⟩, ⟨yr, yp, yt, cc⟩⟩
      refine br_c (fun hneg => yside _ (fun le ta li hal' => br_t hneg (rel _ _ le ta li))) (fun hneg => ?_)
      rcases pk_ix v2 (n := (tc_cv S 1000000 ty tz [(tn - 1, g)]).length) (by omega) with h | h | ⟨j, hj, rfl⟩
      · exact absurd h hneg
      · refine br_f (fun z => ?_) (yside _ (fun le ta li hal' => br_f hneg (br_t h (rel _ _ le ta li))))
        exact Int32.lt_irrefl (Int32.lt_of_lt_of_le z h)
      · refine br_t (nI_lt hj (by omega)) ⟨vp_in_nI (by omega) (by decide), ?_⟩
        rw [nI_clamp (by omega), hal j hj]
        refine yside _ (fun le ta li hal' => br_f hneg (br_f (nI_ge hj (by omega)) ⟨vp_in_nI (by omega) (by decide), ?_⟩))
        rw [nI_clamp (by omega), hal' j hj]
        exact rel _ _ le ta li
theorem cm_states {u : SX} {v : SY} (I : tc_rel u v) (hQ : ∀ r u' r' v', tc_rel u' v' → Q r u' r' v') : wpX_states (fun r u' => wpY_states (fun r' v' => Q r u' r' v') v) u := by
  obtain ⟨S, len, ent, pn, pd, py, pz, pk, tn, td, ty, tz, tk, G, hX, hY⟩ := I
  obtain ⟨f_patternDepth, f_patternNodes, f_ruleCount, f_entryCount, f_treeDepth, f_treeNodes, f_stateCount, f_coverLength, f_pendingCount, a_patternStack, a_patternSymbol, a_patternFirst, a_patternLast, a_patternEntry, a_ruleLeft, a_ruleCost, a_ruleEntry, a_ruleStart, a_entryOperator, a_entryFirst, a_entryLast, a_treeStack, a_treeOperator, a_treeFirst, a_treeLast, a_treeSize, a_treeCosts, a_treeWays, a_stateCosts, a_cover, a_pendingEntry, a_pendingNode⟩ := u
  obtain ⟨f_noted, f_depth, f_rules, f_planted, f_trees, g_stateCount, f_known, f_listed, a_marks, a_sizes, a_lefts, a_costs, a_lengths, a_operators, a_spans, a_least, a_ways, a_tasks, a_list⟩ := v
  have G' := G
  obtain ⟨ok, F, p7, p6, p10, T, t24, t8, t6⟩ := G
  obtain ⟨xr, xp, xt⟩ := hX
  obtain ⟨yr, yp, yt, c0, cc, c21⟩ := hY
  have yside : ∀ P : Int32 → SY → Prop, (∀ r v', tc_RY S len ent pn pd py pz tn td ty tz v' → P r v') → wpY_states P (f_noted, f_depth, f_rules, f_planted, f_trees, g_stateCount, f_known, f_listed, a_marks, a_sizes, a_lefts, a_costs, a_lengths, a_operators, a_spans, a_least, a_ways, a_tasks, a_list) := fun P hP => by
    unfold wpY_states
    refine yk_find ok yr c21 cc (fun a' c' kn h1 h2 => ?_)
    exact br_c (fun _ => hP _ _ ⟨yr, yp, yt, c', rfl, h1⟩) (fun _ => hP _ _ ⟨yr, yp, yt, c', rfl, h1⟩)
  unfold wpX_states
  refine xs_coll ok xr (fun a' c' h1 h2 => ?_)
  exact br_c (fun _ => yside _ (fun r v' hv => hQ _ _ _ _ ⟨S, len, ent, pn, pd, py, pz, pk, tn, td, ty, tz, tk, G', ⟨xr, xp, xt⟩, hv⟩)) (fun _ => yside _ (fun r v' hv => hQ _ _ _ _ ⟨S, len, ent, pn, pd, py, pz, pk, tn, td, ty, tz, tk, G', ⟨xr, xp, xt⟩, hv⟩))
theorem cm_covering {u : SX} {v : SY} (I : tc_rel u v) (hQ : ∀ r u' r' v', tc_rel u' v' → Q r u' r' v') (v1 : Int32) : wpX_covering (fun r u' => wpY_covering (fun r' v' => Q r u' r' v') v v1) u v1 := by
  obtain ⟨S, len, ent, pn, pd, py, pz, pk, tn, td, ty, tz, tk, G, hX, hY⟩ := I
  obtain ⟨f_patternDepth, f_patternNodes, f_ruleCount, f_entryCount, f_treeDepth, f_treeNodes, f_stateCount, f_coverLength, f_pendingCount, a_patternStack, a_patternSymbol, a_patternFirst, a_patternLast, a_patternEntry, a_ruleLeft, a_ruleCost, a_ruleEntry, a_ruleStart, a_entryOperator, a_entryFirst, a_entryLast, a_treeStack, a_treeOperator, a_treeFirst, a_treeLast, a_treeSize, a_treeCosts, a_treeWays, a_stateCosts, a_cover, a_pendingEntry, a_pendingNode⟩ := u
  obtain ⟨f_noted, f_depth, f_rules, f_planted, f_trees, g_stateCount, f_known, f_listed, a_marks, a_sizes, a_lefts, a_costs, a_lengths, a_operators, a_spans, a_least, a_ways, a_tasks, a_list⟩ := v
  have same : ∀ r, Q r _ r _ := fun r => hQ r _ r _ ⟨S, len, ent, pn, pd, py, pz, pk, tn, td, ty, tz, tk, G, hX, hY⟩
  have G' := G
  obtain ⟨ok, F, p7, p6, p10, T, t24, t8, t6⟩ := G
  obtain ⟨xr, xp, xt⟩ := hX
  obtain ⟨yr, yp, yt, c0, cc, c21⟩ := hY
  unfold wpX_covering
  rcases pk_ix v1 (n := 4) (by decide) with h | h | ⟨g, hg, rfl⟩
  · exact xm_goal_lo h (br_t rfl (br_t h (same _)))
  · exact xm_goal_hi h (br_t rfl (br_f (tc_pos_hi h (by decide)) (br_f (tc_nle_hi (n := 3) h (by decide)) (same _))))
  · have yside : ∀ P : Int32 → SY → Prop, (∀ r v', tc_RY S len ent pn pd py pz tn td ty tz v' → P r v') → wpY_covering P (f_noted, f_depth, f_rules, f_planted, f_trees, g_stateCount, f_known, f_listed, a_marks, a_sizes, a_lefts, a_costs, a_lengths, a_operators, a_spans, a_least, a_ways, a_tasks, a_list) (nI g) := fun P hP => by
      refine br_f (nI_pos (by omega)) (br_t (nI_le (b := 3) (by omega) (by decide)) ?_)
      refine yk_find ok yr c21 cc (fun a' c' kn h1 h2 => ?_)
      exact ⟨c' + 1, yk_cov_19 hg h1 rfl (fun r => hP _ _ ⟨yr, yp, yt, c', rfl, h1⟩) c' 0 (by omega) 0 _ (by omega)⟩
    refine xm_goal_ok hg (br_f (by decide) ?_)
    refine xs_coll ok xr (fun a' c' h1 h2 => ?_)
    refine br_c (fun _ => ?_) (fun _ => yside _ (fun r v' hv => hQ _ _ _ _ ⟨S, len, ent, pn, pd, py, pz, pk, tn, td, ty, tz, tk, G', ⟨xr, xp, xt⟩, hv⟩))
    exact ⟨c' + 1, xs_cov_29 ok hg h1 rfl (fun r => yside _ (fun r v' hv => hQ _ _ _ _ ⟨S, len, ent, pn, pd, py, pz, pk, tn, td, ty, tz, tk, G', ⟨xr, xp, xt⟩, hv⟩)) c' 0 (by omega) 0 _ (by omega)⟩
theorem cm_rule {u : SX} {v : SY} (I : tc_rel u v) (hQ : ∀ r u' v', tc_rel u' v' → Q r u' r v') (v1 v2 : Int32) : wpX_rule (fun r u' => wpY_rule (fun r' v' => Q r u' r' v') v v1 v2) u v1 v2 := by
  obtain ⟨S, len, ent, pn, pd, py, pz, pk, tn, td, ty, tz, tk, G, hX, hY⟩ := I
  obtain ⟨f_patternDepth, f_patternNodes, f_ruleCount, f_entryCount, f_treeDepth, f_treeNodes, f_stateCount, f_coverLength, f_pendingCount, a_patternStack, a_patternSymbol, a_patternFirst, a_patternLast, a_patternEntry, a_ruleLeft, a_ruleCost, a_ruleEntry, a_ruleStart, a_entryOperator, a_entryFirst, a_entryLast, a_treeStack, a_treeOperator, a_treeFirst, a_treeLast, a_treeSize, a_treeCosts, a_treeWays, a_stateCosts, a_cover, a_pendingEntry, a_pendingNode⟩ := u
  obtain ⟨f_noted, f_depth, f_rules, f_planted, f_trees, g_stateCount, f_known, f_listed, a_marks, a_sizes, a_lefts, a_costs, a_lengths, a_operators, a_spans, a_least, a_ways, a_tasks, a_list⟩ := v
  have same : ∀ r, Q r _ r _ := fun r => hQ r _ _ ⟨S, len, ent, pn, pd, py, pz, pk, tn, td, ty, tz, tk, G, hX, hY⟩
  obtain ⟨ok, F, p7, p6, p10, T, t24, t8, t6⟩ := G
  obtain ⟨xr, xp, xt⟩ := hX
  obtain ⟨yr, yp, yt, cc⟩ := hY
  have hR := ok.1
  unfold wpX_rule
  rcases pk_ix v1 (n := 4) (by decide) with h | h | ⟨g, hg, rfl⟩
  · exact xm_goal_lo h (br_t rfl (br_t h (same _)))
  · refine xm_goal_hi h (br_t rfl (br_f (tc_pos_hi h (by decide)) (br_t ?_ (same _))))
    exact Int32.lt_of_lt_of_le (show (3 : Int32) < nI 4 by decide) h
  · refine xm_goal_ok hg (br_f (by decide) ?_)
    have y0 : ∀ (A B C : Prop), C → (nI g < 0 → A) ∧ (¬ nI g < 0 → ((3 : Int32) < nI g → B) ∧ (¬ (3 : Int32) < nI g → C)) := fun A B C hC => br_f (nI_pos (by omega)) (br_f (nI_nlt (a := 3) (by omega) (by decide)) hC)
    rcases pk_ix v2 (n := 10) (by decide) with h | h | ⟨co, hco, rfl⟩
    · exact br_t h (y0 _ _ _ (br_t h (same _)))
    · exact br_f (tc_pos_hi h (by decide)) (br_f (tc_nle_hi (n := 9) h (by decide)) (y0 _ _ _ (br_f (tc_pos_hi h (by decide)) (br_f (tc_nle_hi (n := 9) h (by decide)) (same _)))))
    · refine br_f (nI_pos (by omega)) (br_t (nI_le (b := 9) (by omega) (by decide)) ?_)
      have y1 : ∀ (A B C D : Prop), C → (nI co < 0 → A) ∧ (¬ nI co < 0 → (nI co ≤ (9 : Int32) → C) ∧ (¬ nI co ≤ (9 : Int32) → D)) := fun A B C D hC => br_f (nI_pos (by omega)) (br_t (nI_le (b := 9) (by omega) (by decide)) hC)
      refine pk_eq pd 1 (fun hd => ?_) (fun hd => ?_) xp.1 rfl (by omega) (by omega)
      · refine pk_lt (tc_R S) 10 (fun hr10 => ?_) (fun hr10 => ?_) xr.1 rfl (by omega) (by omega)
        · obtain ⟨s1, s2⟩ := tc_fo_t1 F (by omega)
          have hE := tc_ok_sr ok (tc_R S) (Nat.le_refl _)
          have hE4 := tc_ok_E ok
          have hE67 : tc_E S ≤ 67 := by
            show tc_sr S (tc_R S) ≤ 67
            omega
          have hb := p10 (pn - 1) (by omega)
          obtain ⟨m1, m2⟩ := yp.2.2 (pn - 1) (by omega)
          have w69 : (69 : Int32) + f_noted = nI (70 + (pn - 1)) := by
            rw [yp.1, show (69 : Int32) = nI 69 from rfl, nI_add]
            exact congrArg nI (by omega)
          have main : py (pn - 1) < 6 ∨ 1 ≤ co → wX_rule_66 (fun r u' => wpY_rule (fun r' v' => Q r u' r' v') (f_noted, f_depth, f_rules, f_planted, f_trees, g_stateCount, f_known, f_listed, a_marks, a_sizes, a_lefts, a_costs, a_lengths, a_operators, a_spans, a_least, a_ways, a_tasks, a_list) (nI g) (nI co)) (nI g) (nI co) (nI (pn - 1)) f_patternDepth f_patternNodes f_ruleCount f_entryCount f_treeDepth f_treeNodes f_stateCount f_coverLength f_pendingCount a_patternStack a_patternSymbol a_patternFirst a_patternLast a_patternEntry a_ruleLeft a_ruleCost a_ruleEntry a_ruleStart a_entryOperator a_entryFirst a_entryLast a_treeStack a_treeOperator a_treeFirst a_treeLast a_treeSize a_treeCosts a_treeWays a_stateCosts a_cover a_pendingEntry a_pendingNode := fun hc0 => by
            obtain ⟨xr1, xr2, xr3, xr4⟩ := xr
            subst xr1 xr2
            have cr : (nI (tc_R S)).toNatClampNeg = tc_R S := nI_clamp (by omega)
            refine ⟨vp_in_nI hr10 (by decide), nm_r (e' := upd a_ruleLeft (tc_R S) (nI g)) (by rw [cr]) ⟨vp_in_nI hr10 (by decide), nm_r (e' := upd a_ruleCost (tc_R S) (nI co)) (by rw [cr]) ⟨vp_in_nI hr10 (by decide), nm_r (e' := upd a_ruleStart (tc_R S) (nI (tc_E S))) (by rw [cr]) ⟨pn + 1, ?_⟩⟩⟩⟩
            refine xe_2 F p10 p7 hE4.1 hE67 xp (eo0 := a_entryOperator) (ef0 := a_entryFirst) (el0 := a_entryLast) pn 0 (by omega) a_patternEntry a_entryOperator a_entryFirst a_entryLast ⟨fun j hj => absurd hj (Nat.not_lt_zero _), fun j hj => absurd hj (Nat.not_lt_zero _), fun e _ => ⟨rfl, rfl, rfl⟩⟩ (fun pe eo ef el A => ?_) (pn + 1) (by omega)
            refine ⟨vp_in_nI (by omega) (by decide), vp_in_nI hr10 (by decide), nm_r (e' := upd a_ruleEntry (tc_R S) (nI (tc_pe (tc_E S) py (pn - 1)))) (by rw [cr, nI_clamp (by omega), A.1 (pn - 1) (by omega)]) (nm_r (nI_1 _) ?_)⟩
            show wpY_rule (fun r' v' => Q (nI (tc_R S + 1) - 1) _ r' v') (f_noted, f_depth, f_rules, f_planted, f_trees, g_stateCount, f_known, f_listed, a_marks, a_sizes, a_lefts, a_costs, a_lengths, a_operators, a_spans, a_least, a_ways, a_tasks, a_list) (nI g) (nI co)
            rw [nI_pred]
            have fin : ∃ n69 : Nat, wY_rule_69 (fun r' v' => Q (nI (tc_R S)) (0, 0, nI (tc_R S + 1), nI (tc_E S + tc_cn py pn), f_treeDepth, f_treeNodes, f_stateCount, f_coverLength, f_pendingCount, a_patternStack, a_patternSymbol, a_patternFirst, a_patternLast, pe, upd a_ruleLeft (tc_R S) (nI g), upd a_ruleCost (tc_R S) (nI co), upd a_ruleEntry (tc_R S) (nI (tc_pe (tc_E S) py (pn - 1))), upd a_ruleStart (tc_R S) (nI (tc_E S)), eo, ef, el, a_treeStack, a_treeOperator, a_treeFirst, a_treeLast, a_treeSize, a_treeCosts, a_treeWays, a_stateCosts, a_cover, a_pendingEntry, a_pendingNode) r' v') (nI g) (nI co) f_noted f_depth f_rules f_planted f_trees g_stateCount f_known f_listed n69 0 a_marks a_sizes a_lefts a_costs a_lengths a_operators a_spans a_least a_ways a_tasks a_list := by
              refine ⟨pn + 1, yr_69 hr10 s1 p7 yr.1 yp.1 (mk := a_marks) (sz := a_sizes) yp.2.2 pn 0 (by omega) a_marks a_sizes (fun _ _ => ⟨rfl, rfl⟩) (fun j hj => absurd hj (Nat.not_lt_zero _)) (fun mk' sz' q1 q2 => ?_) (pn + 1) (by omega)⟩
              refine hQ _ _ _ ⟨tc_Sn S g co pn py eo ef el, tc_un len (tc_R S) pn, tc_en S ent py, 0, 0, py, pz, pk, tn, td, ty, tz, tk, ⟨tc_Sn_ok ok hr10 s1 p7 p10 F hg (by omega) hc0 xr4 A, tc_fo_nil _ _ _, by omega, by omega, fun i hi => absurd hi (Nat.not_lt_zero _), T, t24, t8, t6⟩,
                ⟨tc_Sn_x ok hr10 s1 p7 p10 F ⟨rfl, rfl, xr3, xr4⟩ A, ⟨rfl, rfl, fun k hk => absurd hk (Nat.not_lt_zero _), fun i hi => absurd hi (Nat.not_lt_zero _)⟩, xt⟩, ⟨tc_Sn_y ok hr10 s1 p7 p10 F yr xr4 A q1 q2, ⟨rfl, rfl, fun i hi => absurd hi (Nat.not_lt_zero _)⟩, yt, cc⟩⟩
            refine y0 _ _ _ (y1 _ True _ _ (br_t (by rw [yp.2.1, hd]; rfl) (br_f (by rw [yr.1]; exact fun z => by have := (nI_eq (b := 10) (by omega) (by decide)).mp z; omega) ⟨by rw [w69]; exact vp_in_nI (by omega) (by decide), ?_⟩)))
            refine br_c (fun _ => fin) (fun z => br_f (fun z2 => ?_) fin)
            rcases hc0 with h6 | h6
            · refine z ?_
              rw [w69, nI_clamp (by omega), m1]
              unfold tc_mk
              rw [if_pos h6]
              exact nI_le (b := 9) (by omega) (by decide)
            · exact absurd z2 (nI_ne0 (by omega) (by omega))
          refine nm_r (e' := nI (pn - 1)) (by rw [xp.2.2.1 0 (by omega)]; rw [hd] at s2; exact congrArg nI s2) ⟨vp_in_nI (by omega) (by decide), ?_⟩
          refine pk_lt (py (pn - 1)) 6 (fun h6 => main (Or.inl h6)) (fun h6 => ?_) (by rw [nI_clamp (by omega), (xp.2.2.2 (pn - 1) (by omega)).1]) rfl (by omega) (by omega)
          refine pk_eq co 0 (fun hz => ?_) (fun hz => main (Or.inr (by omega))) rfl rfl (by omega) (by omega)
          refine y0 _ _ _ (y1 _ True _ _ (br_t (by rw [yp.2.1, hd]; rfl) (br_f (by rw [yr.1]; exact fun z => by have := (nI_eq (b := 10) (by omega) (by decide)).mp z; omega) ⟨by rw [w69]; exact vp_in_nI (by omega) (by decide), br_f ?_ (br_t (by rw [hz]; rfl) (same _))⟩)))
          rw [w69, nI_clamp (by omega), m1]
          unfold tc_mk
          rw [if_neg (by omega)]
          exact nI_ge (a := 9) (by omega) (by omega)
        · refine y0 _ _ _ (y1 _ True _ _ (br_t (by rw [yp.2.1, hd]; rfl) (br_t (by rw [yr.1]; exact congrArg nI (show tc_R S = 10 by omega)) (same _))))
      · exact y0 _ _ _ (y1 _ True _ _ (br_f (by rw [yp.2.1]; exact fun z => hd ((nI_eq (b := 1) (by omega) (by decide)).mp z)) (same _)))
end
