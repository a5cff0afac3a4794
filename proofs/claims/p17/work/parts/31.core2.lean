theorem tc_tp_q {S : tc_S} (ok : tc_ok S) {tn td : Nat} {ty tz tk : Nat → Nat} (T : tc_fo tn td ty tz tk) (t6 : ∀ i, i < tn → ty i < 6) (hN : tn ≤ 24) {g : Nat} (hg : g < 4) : tc_q 536870912 1000000 (tc_tp S 536870912 ty tz tn td g) (tc_tp S 1000000 ty tz tn td g) := by
  have hE := tc_ok_E ok
  unfold tc_tp
  by_cases h : td = 0
  · rw [if_pos h, if_pos h]
    exact Or.inl ⟨rfl, rfl⟩
  · rw [if_neg h, if_neg h]
    have s1 := (tc_fo_t1 T (by omega)).1
    exact tc_v_q ok (fun i hi => ⟨t6 i hi, T.2.2.2.2.2 i hi⟩) hN (by omega) (by omega) (tn - 1) (by omega) g (by omega)
def tc_gs (K : Nat) (f : Nat → Nat) : Nat → Nat
  | 0 => 0
  | g + 1 => tc_gs K f g + (if f g = K then 0 else 2 ^ g)
theorem tc_gs_lt (K : Nat) (f : Nat → Nat) : ∀ g, tc_gs K f g < 2 ^ g := by
  intro g
  induction g with
  | zero => exact Nat.one_pos
  | succ g ih =>
    show tc_gs K f g + (if f g = K then 0 else 2 ^ g) < 2 ^ (g + 1)
    have e : 2 ^ (g + 1) = 2 ^ g * 2 := Nat.pow_succ 2 g
    split <;> omega
theorem tc_gs_q {K1 K2 : Nat} {f1 f2 : Nat → Nat} (q : ∀ g, g < 4 → tc_q K1 K2 (f1 g) (f2 g)) : ∀ g, g ≤ 4 → tc_gs K1 f1 g = tc_gs K2 f2 g := by
  intro g
  induction g with
  | zero => intro _; rfl
  | succ g ih =>
    intro hg
    have h := q g (by omega)
    show tc_gs K1 f1 g + (if f1 g = K1 then 0 else 2 ^ g) = tc_gs K2 f2 g + (if f2 g = K2 then 0 else 2 ^ g)
    rw [ih (by omega)]
    unfold tc_q at h
    by_cases c : f1 g = K1
    · rw [if_pos c, if_pos (by omega)]
    · rw [if_neg c, if_neg (by omega)]
theorem tc_shl : ∀ g : Fin 4, (1 : Int32) <<< (nI g.val &&& 31) = nI (2 ^ g.val) := by decide +kernel
theorem tc_orl : ∀ g : Fin 4, ∀ s : Fin 8, s.val < 2 ^ g.val → nI s.val ||| ((1 : Int32) <<< (nI g.val &&& 31)) = nI (s.val + 2 ^ g.val) := by decide +kernel
section
variable {S : tc_S} {tn td : Nat} {ty tz tk : Nat → Nat}
theorem xm_goals_4 (ok : tc_ok S) (hF : tc_fo tn td ty tz tk) (h6 : ∀ i, i < tn → ty i < 6) (hN : tn ≤ 24) (hD : td ≤ 8) {post : Int32 → SX → Prop} {f_patternDepth : Int32} {f_patternNodes : Int32} {f_ruleCount : Int32} {f_entryCount : Int32} {f_treeDepth : Int32} {f_treeNodes : Int32} {f_stateCount : Int32} {f_coverLength : Int32} {f_pendingCount : Int32} {a_patternStack : Nat → Int32} {a_patternSymbol : Nat → Int32} {a_patternFirst : Nat → Int32} {a_patternLast : Nat → Int32} {a_patternEntry : Nat → Int32} {a_ruleLeft : Nat → Int32} {a_ruleCost : Nat → Int32} {a_ruleEntry : Nat → Int32} {a_ruleStart : Nat → Int32} {a_entryOperator : Nat → Int32} {a_entryFirst : Nat → Int32} {a_entryLast : Nat → Int32} {a_treeStack : Nat → Int32} {a_treeOperator : Nat → Int32} {a_treeFirst : Nat → Int32} {a_treeLast : Nat → Int32} {a_treeSize : Nat → Int32} {a_treeWays : Nat → Int32} {a_stateCosts : Nat → Int32} {a_cover : Nat → Int32} {a_pendingEntry : Nat → Int32} {a_pendingNode : Nat → Int32}
    (hx : tc_xr S f_ruleCount f_entryCount a_ruleLeft a_ruleCost a_ruleEntry a_ruleStart a_entryOperator a_entryFirst a_entryLast)
    (ht : tc_xt tn td ty tz tk f_treeDepth f_treeNodes a_treeStack a_treeOperator a_treeFirst a_treeLast a_treeSize)
    (hle : ∀ g, g < 4 → tc_tp S 536870912 ty tz tn td g ≤ 536870912)
    (hp : ∀ a', post (nI (tc_gs 536870912 (tc_tp S 536870912 ty tz tn td) 4)) (f_patternDepth, f_patternNodes, f_ruleCount, f_entryCount, f_treeDepth, f_treeNodes, f_stateCount, f_coverLength, f_pendingCount, a_patternStack, a_patternSymbol, a_patternFirst, a_patternLast, a_patternEntry, a_ruleLeft, a_ruleCost, a_ruleEntry, a_ruleStart, a_entryOperator, a_entryFirst, a_entryLast, a_treeStack, a_treeOperator, a_treeFirst, a_treeLast, a_treeSize, a', a_treeWays, a_stateCosts, a_cover, a_pendingEntry, a_pendingNode)) :
    ∀ (d g : Nat), g + d = 4 → ∀ (a_treeCosts : Nat → Int32) (m : Nat), d < m → wX_goals_4 post m (nI (tc_gs 536870912 (tc_tp S 536870912 ty tz tn td) g)) (nI g) f_patternDepth f_patternNodes f_ruleCount f_entryCount f_treeDepth f_treeNodes f_stateCount f_coverLength f_pendingCount a_patternStack a_patternSymbol a_patternFirst a_patternLast a_patternEntry a_ruleLeft a_ruleCost a_ruleEntry a_ruleStart a_entryOperator a_entryFirst a_entryLast a_treeStack a_treeOperator a_treeFirst a_treeLast a_treeSize a_treeCosts a_treeWays a_stateCosts a_cover a_pendingEntry a_pendingNode := by
  intro d
  induction d with
  | zero =>
    intro g hg a_treeCosts m hm
    obtain ⟨m', rfl⟩ : ∃ m', m = m' + 1 := ⟨m - 1, by omega⟩
    have e : g = 4 := by omega
    subst e
    exact br_t (nI_le (a := 4) (Nat.le_refl _) (by decide)) (hp _)
  | succ d ih =>
    intro g hg a_treeCosts m hm
    obtain ⟨m', rfl⟩ : ∃ m', m = m' + 1 := ⟨m - 1, by omega⟩
    have hg4 : g < 4 := by omega
    have e0 : tc_gs 536870912 (tc_tp S 536870912 ty tz tn td) (g + 1) = tc_gs 536870912 (tc_tp S 536870912 ty tz tn td) g + (if tc_tp S 536870912 ty tz tn td g = 536870912 then 0 else 2 ^ g) := rfl
    have hl := hle g hg4
    refine br_f (nI_ge (b := 4) hg4 (by decide)) ?_
    refine xq_top ok hF h6 hN hD hg4 hx ht (fun a' ha => ?_)
    refine pk_eq (tc_tp S 536870912 ty tz tn td g) 536870912 (fun h => ?_) (fun h => ?_) rfl rfl (by omega) (by omega)
    · have k := ih (g + 1) (by omega) a' m' (by omega)
      rw [e0, if_pos h, Nat.add_zero] at k
      exact nm_r (nI_1 g) k
    · have k := ih (g + 1) (by omega) a' m' (by omega)
      rw [e0, if_neg h] at k
      exact nm_r (by rw [tc_shl ⟨g, hg4⟩, nI_add]) (nm_r (nI_1 g) k)
theorem ym_goals_4 {len : Nat → Nat} {ent : Nat → Nat → Nat} (ok : tc_ok S) (hF : tc_fo tn td ty tz tk) (h6 : ∀ i, i < tn → ty i < 6) (hN : tn ≤ 24) (hD : td ≤ 8) {post : Int32 → SY → Prop} {f_noted : Int32} {f_depth : Int32} {f_rules : Int32} {f_planted : Int32} {f_trees : Int32} {f_stateCount : Int32} {f_known : Int32} {f_listed : Int32} {a_marks : Nat → Int32} {a_sizes : Nat → Int32} {a_lefts : Nat → Int32} {a_costs : Nat → Int32} {a_lengths : Nat → Int32} {a_operators : Nat → Int32} {a_spans : Nat → Int32} {a_ways : Nat → Int32} {a_tasks : Nat → Int32} {a_list : Nat → Int32}
    (hy : tc_yr S len ent f_rules a_lefts a_costs a_lengths a_marks a_sizes) (ht : tc_yt tn td ty tz f_planted f_trees a_operators a_spans)
    (hle : ∀ g, g < 4 → tc_tp S 1000000 ty tz tn td g ≤ 1000000)
    (hp : ∀ a', post (nI (tc_gs 1000000 (tc_tp S 1000000 ty tz tn td) 4)) (f_noted, f_depth, f_rules, f_planted, f_trees, f_stateCount, f_known, f_listed, a_marks, a_sizes, a_lefts, a_costs, a_lengths, a_operators, a_spans, a', a_ways, a_tasks, a_list)) :
    ∀ (d g : Nat), g + d = 4 → ∀ (a_least : Nat → Int32) (m : Nat), d < m → wY_goals_4 post m (nI (tc_gs 1000000 (tc_tp S 1000000 ty tz tn td) g)) (nI g) f_noted f_depth f_rules f_planted f_trees f_stateCount f_known f_listed a_marks a_sizes a_lefts a_costs a_lengths a_operators a_spans a_least a_ways a_tasks a_list := by
  intro d
  induction d with
  | zero =>
    intro g hg a_least m hm
    obtain ⟨m', rfl⟩ : ∃ m', m = m' + 1 := ⟨m - 1, by omega⟩
    have e : g = 4 := by omega
    subst e
    exact br_t (nI_le (a := 4) (Nat.le_refl _) (by decide)) (hp _)
  | succ d ih =>
    intro g hg a_least m hm
    obtain ⟨m', rfl⟩ : ∃ m', m = m' + 1 := ⟨m - 1, by omega⟩
    have hg4 : g < 4 := by omega
    have e0 : tc_gs 1000000 (tc_tp S 1000000 ty tz tn td) (g + 1) = tc_gs 1000000 (tc_tp S 1000000 ty tz tn td) g + (if tc_tp S 1000000 ty tz tn td g = 1000000 then 0 else 2 ^ g) := rfl
    have hl := hle g hg4
    refine br_f (nI_ge (b := 4) hg4 (by decide)) ?_
    refine yq_top ok hF h6 hN hD hg4 hy ht (fun a' ha _ => ?_)
    refine pk_le 1000000 (tc_tp S 1000000 ty tz tn td g) (fun h => ?_) (fun h => ?_) rfl rfl (by omega) (by omega)
    · have k := ih (g + 1) (by omega) a' m' (by omega)
      rw [e0, if_pos (by omega), Nat.add_zero] at k
      exact nm_r (nI_1 g) k
    · have k := ih (g + 1) (by omega) a' m' (by omega)
      rw [e0, if_neg (by omega)] at k
      have hs := tc_gs_lt 1000000 (tc_tp S 1000000 ty tz tn td) g
      have h8 : 2 ^ g ≤ 2 ^ 3 := Nat.pow_le_pow_right (by omega) (by omega)
      exact nm_r (tc_orl ⟨g, hg4⟩ ⟨tc_gs 1000000 (tc_tp S 1000000 ty tz tn td) g, by omega⟩ hs) (nm_r (nI_1 g) k)
theorem tc_tp_le {K : Nat} (hF : tc_fo tn td ty tz tk) (h6 : ∀ i, i < tn → ty i < 6) (g : Nat) : tc_tp S K ty tz tn td g ≤ K := by
  unfold tc_tp
  by_cases h : td = 0
  · rw [if_pos h]
    exact Nat.le_refl _
  · rw [if_neg h]
    have s1 := (tc_fo_t1 hF (by omega)).1
    exact tc_v_le (fun h => (hF.2.2.2.2.2 (tn - 1) (by omega)).2.2.1 h (h6 (tn - 1) (by omega))) g
end
section
variable {Q : Int32 → SX → Int32 → SY → Prop}
theorem cm_cost {u : SX} {v : SY} (I : tc_rel u v) (hQ : ∀ r u' v', tc_rel u' v' → Q r u' r v') (v1 : Int32) : wpX_cost (fun r u' => wpY_cost (fun r' v' => Q r u' r' v') v v1) u v1 := by
  obtain ⟨S, len, ent, pn, pd, py, pz, pk, tn, td, ty, tz, tk, G, hX, hY⟩ := I
  obtain ⟨f_patternDepth, f_patternNodes, f_ruleCount, f_entryCount, f_treeDepth, f_treeNodes, f_stateCount, f_coverLength, f_pendingCount, a_patternStack, a_patternSymbol, a_patternFirst, a_patternLast, a_patternEntry, a_ruleLeft, a_ruleCost, a_ruleEntry, a_ruleStart, a_entryOperator, a_entryFirst, a_entryLast, a_treeStack, a_treeOperator, a_treeFirst, a_treeLast, a_treeSize, a_treeCosts, a_treeWays, a_stateCosts, a_cover, a_pendingEntry, a_pendingNode⟩ := u
  obtain ⟨f_noted, f_depth, f_rules, f_planted, f_trees, g_stateCount, f_known, f_listed, a_marks, a_sizes, a_lefts, a_costs, a_lengths, a_operators, a_spans, a_least, a_ways, a_tasks, a_list⟩ := v
  have same : ∀ r, Q r _ r _ := fun r => hQ r _ _ ⟨S, len, ent, pn, pd, py, pz, pk, tn, td, ty, tz, tk, G, hX, hY⟩
  have G' := G
  obtain ⟨ok, F, p7, p6, p10, T, t24, t8, t6⟩ := G
  obtain ⟨xr, xp, xt⟩ := hX
  obtain ⟨yr, yp, yt, cc⟩ := hY
  unfold wpX_cost
  rcases pk_ix v1 (n := 4) (by decide) with h | h | ⟨g, hg, rfl⟩
  · exact xm_goal_lo h (br_t rfl (br_t h (same _)))
  · exact xm_goal_hi h (br_t rfl (br_f (tc_pos_hi h (by decide)) (br_f (tc_nle_hi (n := 3) h (by decide)) (same _))))
  · have q := tc_tp_q ok T t6 t24 hg
    unfold tc_q at q
    refine xm_goal_ok hg (br_f (by decide) ?_)
    refine xq_top ok T t6 t24 t8 hg xr xt (fun a' ha => ?_)
    have l1 := tc_tp_le (S := S) (K := 536870912) T t6 g
    have l2 := tc_tp_le (S := S) (K := 1000000) T t6 g
    have yside : ∀ P : Int32 → SY → Prop, (∀ b, (tc_tp S 1000000 ty tz tn td g = 1000000 → P (-4) (f_noted, f_depth, f_rules, f_planted, f_trees, g_stateCount, f_known, f_listed, a_marks, a_sizes, a_lefts, a_costs, a_lengths, a_operators, a_spans, b, a_ways, a_tasks, a_list)) ∧ (tc_tp S 1000000 ty tz tn td g ≠ 1000000 → P (nI (tc_tp S 1000000 ty tz tn td g)) (f_noted, f_depth, f_rules, f_planted, f_trees, g_stateCount, f_known, f_listed, a_marks, a_sizes, a_lefts, a_costs, a_lengths, a_operators, a_spans, b, a_ways, a_tasks, a_list))) → wpY_cost P (f_noted, f_depth, f_rules, f_planted, f_trees, g_stateCount, f_known, f_listed, a_marks, a_sizes, a_lefts, a_costs, a_lengths, a_operators, a_spans, a_least, a_ways, a_tasks, a_list) (nI g) := fun P hP => by
      refine br_f (nI_pos (by omega)) (br_t (nI_le (b := 3) (by omega) (by decide)) ?_)
      refine yq_top ok T t6 t24 t8 hg yr yt (fun b hb _ => ?_)
      exact pk_lt (tc_tp S 1000000 ty tz tn td g) 1000000 (fun h => (hP b).2 (by omega)) (fun h => (hP b).1 (by omega)) rfl rfl (by omega) (by omega)
    refine pk_eq (tc_tp S 536870912 ty tz tn td g) 536870912 (fun h => ?_) (fun h => ?_) rfl rfl (by omega) (by omega)
    · exact yside _ (fun b => ⟨fun _ => hQ _ _ _ ⟨S, len, ent, pn, pd, py, pz, pk, tn, td, ty, tz, tk, G', ⟨xr, xp, xt⟩, ⟨yr, yp, yt, cc⟩⟩, fun z => by omega⟩)
    · refine yside _ (fun b => ⟨fun z => by omega, fun z => ?_⟩)
      rw [show tc_tp S 1000000 ty tz tn td g = tc_tp S 536870912 ty tz tn td g by omega]
      exact hQ _ _ _ ⟨S, len, ent, pn, pd, py, pz, pk, tn, td, ty, tz, tk, G', ⟨xr, xp, xt⟩, ⟨yr, yp, yt, cc⟩⟩
theorem cm_goals {u : SX} {v : SY} (I : tc_rel u v) (hQ : ∀ r u' v', tc_rel u' v' → Q r u' r v') : wpX_goals (fun r u' => wpY_goals (fun r' v' => Q r u' r' v') v) u := by
  obtain ⟨S, len, ent, pn, pd, py, pz, pk, tn, td, ty, tz, tk, G, hX, hY⟩ := I
  obtain ⟨f_patternDepth, f_patternNodes, f_ruleCount, f_entryCount, f_treeDepth, f_treeNodes, f_stateCount, f_coverLength, f_pendingCount, a_patternStack, a_patternSymbol, a_patternFirst, a_patternLast, a_patternEntry, a_ruleLeft, a_ruleCost, a_ruleEntry, a_ruleStart, a_entryOperator, a_entryFirst, a_entryLast, a_treeStack, a_treeOperator, a_treeFirst, a_treeLast, a_treeSize, a_treeCosts, a_treeWays, a_stateCosts, a_cover, a_pendingEntry, a_pendingNode⟩ := u
  obtain ⟨f_noted, f_depth, f_rules, f_planted, f_trees, g_stateCount, f_known, f_listed, a_marks, a_sizes, a_lefts, a_costs, a_lengths, a_operators, a_spans, a_least, a_ways, a_tasks, a_list⟩ := v
  have G' := G
  obtain ⟨ok, F, p7, p6, p10, T, t24, t8, t6⟩ := G
  obtain ⟨xr, xp, xt⟩ := hX
  obtain ⟨yr, yp, yt, cc⟩ := hY
  refine ⟨5, xm_goals_4 ok T t6 t24 t8 xr xt (fun g _ => tc_tp_le T t6 g) (fun a' => ?_) 4 0 (by omega) a_treeCosts 5 (by omega)⟩
  refine ⟨5, ym_goals_4 ok T t6 t24 t8 yr yt (fun g _ => tc_tp_le T t6 g) (fun b => ?_) 4 0 (by omega) a_least 5 (by omega)⟩
  rw [← tc_gs_q (fun g hg => tc_tp_q ok T t6 t24 hg) 4 (Nat.le_refl _)]
  exact hQ _ _ _ ⟨S, len, ent, pn, pd, py, pz, pk, tn, td, ty, tz, tk, G', ⟨xr, xp, xt⟩, ⟨yr, yp, yt, cc⟩⟩
theorem cm_alike {u : SX} {v : SY} (I : tc_rel u v) (hQ : ∀ r u' v', tc_rel u' v' → Q r u' r v') : wpX_alike (fun r u' => wpY_alike (fun r' v' => Q r u' r' v') v) u := by
  obtain ⟨S, len, ent, pn, pd, py, pz, pk, tn, td, ty, tz, tk, G, hX, hY⟩ := I
  obtain ⟨f_patternDepth, f_patternNodes, f_ruleCount, f_entryCount, f_treeDepth, f_treeNodes, f_stateCount, f_coverLength, f_pendingCount, a_patternStack, a_patternSymbol, a_patternFirst, a_patternLast, a_patternEntry, a_ruleLeft, a_ruleCost, a_ruleEntry, a_ruleStart, a_entryOperator, a_entryFirst, a_entryLast, a_treeStack, a_treeOperator, a_treeFirst, a_treeLast, a_treeSize, a_treeCosts, a_treeWays, a_stateCosts, a_cover, a_pendingEntry, a_pendingNode⟩ := u
  obtain ⟨f_noted, f_depth, f_rules, f_planted, f_trees, g_stateCount, f_known, f_listed, a_marks, a_sizes, a_lefts, a_costs, a_lengths, a_operators, a_spans, a_least, a_ways, a_tasks, a_list⟩ := v
  have same : ∀ r, Q r _ r _ := fun r => hQ r _ _ ⟨S, len, ent, pn, pd, py, pz, pk, tn, td, ty, tz, tk, G, hX, hY⟩
  have G' := G
  obtain ⟨ok, F, p7, p6, p10, T, t24, t8, t6⟩ := G
  obtain ⟨xr, xp, xt⟩ := hX
  obtain ⟨yr, yp, yt, cc⟩ := hY
  have hn : tc_tn ty tz tn := fun i hi => ⟨t6 i hi, T.2.2.2.2.2 i hi⟩
  refine pk_le 2 td (fun h => ?_) (fun h => ?_) rfl xt.1 (by omega) (by omega)
  · obtain ⟨s1, s2⟩ := tc_fo_t1 T (by omega)
    obtain ⟨s3, s4⟩ := tc_fo_t2 T h
    have s5 := (T.2.2.2.2.2 (tn - 1) (by omega)).1
    refine xq_ft ok hn t24 xr xt (fun a' ha => ?_)
    have w1 : f_treeDepth - 1 = nI (td - 1) := by rw [xt.1, show (1 : Int32) = nI 1 from rfl, pk_sub (by omega)]
    have w2 : f_treeDepth - 2 = nI (td - 2) := by rw [xt.1, show (2 : Int32) = nI 2 from rfl, pk_sub (by omega)]
    have w3 : f_planted - 1 = nI (tn - 1) := by rw [yt.1, show (1 : Int32) = nI 1 from rfl, pk_sub (by omega)]
    refine ⟨by rw [w1]; exact vp_in_nI (by omega) (by decide), by rw [w2]; exact vp_in_nI (by omega) (by decide), ?_⟩
    rw [w1, w2, nI_clamp (by omega), nI_clamp (by omega), xt.2.2.1 (td - 1) (by omega), xt.2.2.1 (td - 2) (by omega), s2, s4]
    have vl : ∀ K m, m < tn → ∀ e, tc_v S K ty tz m e ≤ K := fun K m hm e => tc_v_le (fun h => (hn m hm).2.2.2.1 h (hn m hm).1) e
    have hsa := tc_sa_q (tc_v_q ok hn t24 (K1 := 536870912) (K2 := 1000000) (by omega) (by omega) (tn - 1) (by omega)) (tc_v_q ok hn t24 (K1 := 536870912) (K2 := 1000000) (by omega) (by omega) (tn - 1 - tz (tn - 1)) (by omega))
    have rel : ∀ b : Nat → Int32, tc_rel (f_patternDepth, f_patternNodes, f_ruleCount, f_entryCount, f_treeDepth, f_treeNodes, f_stateCount, f_coverLength, f_pendingCount, a_patternStack, a_patternSymbol, a_patternFirst, a_patternLast, a_patternEntry, a_ruleLeft, a_ruleCost, a_ruleEntry, a_ruleStart, a_entryOperator, a_entryFirst, a_entryLast, a_treeStack, a_treeOperator, a_treeFirst, a_treeLast, a_treeSize, a', a_treeWays, a_stateCosts, a_cover, a_pendingEntry, a_pendingNode) (f_noted, f_depth, f_rules, f_planted, f_trees, g_stateCount, f_known, f_listed, a_marks, a_sizes, a_lefts, a_costs, a_lengths, a_operators, a_spans, b, a_ways, a_tasks, a_list) := fun b => ⟨S, len, ent, pn, pd, py, pz, pk, tn, td, ty, tz, tk, G', ⟨xr, xp, xt⟩, ⟨yr, yp, yt, cc⟩⟩
    have yside : ∀ P : Int32 → SY → Prop, (∀ b, (tc_sa 1000000 (tc_E S) (tc_v S 1000000 ty tz (tn - 1)) (tc_v S 1000000 ty tz (tn - 1 - tz (tn - 1))) → P 1 (f_noted, f_depth, f_rules, f_planted, f_trees, g_stateCount, f_known, f_listed, a_marks, a_sizes, a_lefts, a_costs, a_lengths, a_operators, a_spans, b, a_ways, a_tasks, a_list)) ∧ (¬ tc_sa 1000000 (tc_E S) (tc_v S 1000000 ty tz (tn - 1)) (tc_v S 1000000 ty tz (tn - 1 - tz (tn - 1))) → P 0 (f_noted, f_depth, f_rules, f_planted, f_trees, g_stateCount, f_known, f_listed, a_marks, a_sizes, a_lefts, a_costs, a_lengths, a_operators, a_spans, b, a_ways, a_tasks, a_list))) → wpY_alike P (f_noted, f_depth, f_rules, f_planted, f_trees, g_stateCount, f_known, f_listed, a_marks, a_sizes, a_lefts, a_costs, a_lengths, a_operators, a_spans, a_least, a_ways, a_tasks, a_list) := fun P hP => by
      refine br_t (by rw [yt.2.1]; exact nI_le (a := 2) h (by omega)) ?_
      refine yq_wt ok hn t24 t8 yr yt (fun b hb _ => ?_)
      refine nm_r w3 ⟨vp_in_nI (by omega) (by decide), ?_⟩
      rw [nI_clamp (by omega), (yt.2.2 (tn - 1) (by omega)).2, pk_sub (by omega)]
      exact ym_same ok yr (by omega) (by omega) (vl _ _ (by omega)) (vl _ _ (by omega)) (hb _ (by omega)) (hb _ (by omega)) (fun z => ⟨tc_nb1, (hP b).1 z⟩) (fun z => ⟨tc_nb0, (hP b).2 z⟩)
    refine xtc_s_wp ok (by omega) (by omega) xr.2.1 (vl _ _ (by omega)) (vl _ _ (by omega)) (ha _ (by omega)) (ha _ (by omega)) (fun z => ⟨tc_nb1, ?_⟩) (fun z => ⟨tc_nb0, ?_⟩)
    · exact yside _ (fun b => ⟨fun _ => hQ _ _ _ (rel b), fun y => absurd (hsa.mp z) y⟩)
    · exact yside _ (fun b => ⟨fun y => absurd (hsa.mpr y) z, fun _ => hQ _ _ _ (rel b)⟩)
  · exact br_f (by rw [yt.2.1]; exact nI_ge (b := 2) h (by decide)) (same _)
theorem cm_ways {u : SX} {v : SY} (I : tc_rel u v) (hQ : ∀ r u' v', tc_rel u' v' → Q r u' r v') (v1 : Int32) : wpX_ways (fun r u' => wpY_ways (fun r' v' => Q r u' r' v') v v1) u v1 := by
  obtain ⟨S, len, ent, pn, pd, py, pz, pk, tn, td, ty, tz, tk, G, hX, hY⟩ := I
  obtain ⟨f_patternDepth, f_patternNodes, f_ruleCount, f_entryCount, f_treeDepth, f_treeNodes, f_stateCount, f_coverLength, f_pendingCount, a_patternStack, a_patternSymbol, a_patternFirst, a_patternLast, a_patternEntry, a_ruleLeft, a_ruleCost, a_ruleEntry, a_ruleStart, a_entryOperator, a_entryFirst, a_entryLast, a_treeStack, a_treeOperator, a_treeFirst, a_treeLast, a_treeSize, a_treeCosts, a_treeWays, a_stateCosts, a_cover, a_pendingEntry, a_pendingNode⟩ := u
  obtain ⟨f_noted, f_depth, f_rules, f_planted, f_trees, g_stateCount, f_known, f_listed, a_marks, a_sizes, a_lefts, a_costs, a_lengths, a_operators, a_spans, a_least, a_ways, a_tasks, a_list⟩ := v
  have same : ∀ r, Q r _ r _ := fun r => hQ r _ _ ⟨S, len, ent, pn, pd, py, pz, pk, tn, td, ty, tz, tk, G, hX, hY⟩
  have G' := G
  obtain ⟨ok, F, p7, p6, p10, T, t24, t8, t6⟩ := G
  obtain ⟨xr, xp, xt⟩ := hX
  obtain ⟨yr, yp, yt, cc⟩ := hY
  have hn : tc_tn ty tz tn := fun i hi => ⟨t6 i hi, T.2.2.2.2.2 i hi⟩
  have hE := tc_ok_E ok
  unfold wpX_ways
  rcases pk_ix v1 (n := 4) (by decide) with h | h | ⟨g, hg, rfl⟩
  · exact xm_goal_lo h (br_t rfl (br_t h (same _)))
  · exact xm_goal_hi h (br_t rfl (br_f (tc_pos_hi h (by decide)) (br_f (tc_nle_hi (n := 3) h (by decide)) (same _))))
  · have q := tc_tp_q ok T t6 t24 hg
    unfold tc_q at q
    refine xm_goal_ok hg (br_f (by decide) ?_)
    refine xq_top ok T t6 t24 t8 hg xr xt (fun a' ha => ?_)
    have l1 := tc_tp_le (S := S) (K := 536870912) T t6 g
    have l2 := tc_tp_le (S := S) (K := 1000000) T t6 g
    have htd : tc_tp S 1000000 ty tz tn td g ≠ 1000000 → 0 < td := fun z => by
      unfold tc_tp at z
      rcases Nat.eq_zero_or_pos td with h | h
      · rw [if_pos h] at z
        exact absurd rfl z
      · exact h
    have yside : ∀ P : Int32 → SY → Prop, (∀ b w, (tc_tp S 1000000 ty tz tn td g = 1000000 → P 0 (f_noted, f_depth, f_rules, f_planted, f_trees, g_stateCount, f_known, f_listed, a_marks, a_sizes, a_lefts, a_costs, a_lengths, a_operators, a_spans, b, w, a_tasks, a_list)) ∧ (tc_tp S 1000000 ty tz tn td g ≠ 1000000 → P (tc_w S 1000000 ty tz (tn - 1) g) (f_noted, f_depth, f_rules, f_planted, f_trees, g_stateCount, f_known, f_listed, a_marks, a_sizes, a_lefts, a_costs, a_lengths, a_operators, a_spans, b, w, a_tasks, a_list))) → wpY_ways P (f_noted, f_depth, f_rules, f_planted, f_trees, g_stateCount, f_known, f_listed, a_marks, a_sizes, a_lefts, a_costs, a_lengths, a_operators, a_spans, a_least, a_ways, a_tasks, a_list) (nI g) := fun P hP => by
      refine br_f (nI_pos (by omega)) (br_t (nI_le (b := 3) (by omega) (by decide)) ?_)
      refine yq_top ok T t6 t24 t8 hg yr yt (fun b hb _ => ?_)
      refine pk_lt (tc_tp S 1000000 ty tz tn td g) 1000000 (fun h => ?_) (fun h => (hP b a_ways).1 (by omega)) rfl rfl (by omega) (by omega)
      have s1 := (tc_fo_t1 T (htd (by omega))).1
      exact ⟨tn + 1, ym_ways_25 ok hn t24 s1 hg yr yt hb tn 0 (by omega) a_ways (fun m hm => absurd hm (Nat.not_lt_zero _)) (fun w => (hP b w).2 (by omega)) _ (by omega)⟩
    refine pk_eq (tc_tp S 536870912 ty tz tn td g) 536870912 (fun h => ?_) (fun h => ?_) rfl rfl (by omega) (by omega)
    · exact yside _ (fun b w => ⟨fun _ => hQ _ _ _ ⟨S, len, ent, pn, pd, py, pz, pk, tn, td, ty, tz, tk, G', ⟨xr, xp, xt⟩, ⟨yr, yp, yt, cc⟩⟩, fun z => by omega⟩)
    · have h0 := htd (by omega)
      have s1 := (tc_fo_t1 T h0).1
      refine ⟨tn + 1, xm_ways_25 ok T t6 t24 t8 h0 hg xr xt (ha h0) tn 0 (by omega) a_treeWays (fun m hm => absurd hm (Nat.not_lt_zero _)) (fun w => ?_) _ (by omega)⟩
      refine yside _ (fun b w' => ⟨fun z => by omega, fun z => ?_⟩)
      rw [← tc_w_q ok hn t24 (K1 := 536870912) (K2 := 1000000) (by omega) (by omega) (tn - 1) (by omega) g (by omega)]
      exact hQ _ _ _ ⟨S, len, ent, pn, pd, py, pz, pk, tn, td, ty, tz, tk, G', ⟨xr, xp, xt⟩, ⟨yr, yp, yt, cc⟩⟩
end
