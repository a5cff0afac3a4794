theorem tc_as_ar {o : Nat} (h : o < 6) : tc_as o = tc_ar o := by
  unfold tc_as tc_ar
  by_cases h2 : o < 2
  · rw [if_pos h2, if_pos h2]
  · rw [if_neg h2, if_neg h2]
    by_cases h4 : o < 4
    · rw [if_pos h4, if_pos h4]
    · rw [if_neg h4, if_neg h4, if_pos h]
section
variable {tn td : Nat} {ty tz tk : Nat → Nat}
theorem xt_push {post : SX → Prop} {f_patternDepth : Int32} {f_patternNodes : Int32} {f_ruleCount : Int32} {f_entryCount : Int32} {f_treeDepth : Int32} {f_treeNodes : Int32} {f_stateCount : Int32} {f_coverLength : Int32} {f_pendingCount : Int32} {a_patternStack : Nat → Int32} {a_patternSymbol : Nat → Int32} {a_patternFirst : Nat → Int32} {a_patternLast : Nat → Int32} {a_patternEntry : Nat → Int32} {a_ruleLeft : Nat → Int32} {a_ruleCost : Nat → Int32} {a_ruleEntry : Nat → Int32} {a_ruleStart : Nat → Int32} {a_entryOperator : Nat → Int32} {a_entryFirst : Nat → Int32} {a_entryLast : Nat → Int32} {a_treeStack : Nat → Int32} {a_treeOperator : Nat → Int32} {a_treeFirst : Nat → Int32} {a_treeLast : Nat → Int32} {a_treeSize : Nat → Int32} {a_treeCosts : Nat → Int32} {a_treeWays : Nat → Int32} {a_stateCosts : Nat → Int32} {a_cover : Nat → Int32} {a_pendingEntry : Nat → Int32} {a_pendingNode : Nat → Int32} (F : tc_fo tn td ty tz tk) (hN : tn < 24) (hD : td ≤ 8) (hx : tc_xt tn td ty tz tk f_treeDepth f_treeNodes a_treeStack a_treeOperator a_treeFirst a_treeLast a_treeSize)
    {s : Nat} (hs : s < 6) (ha : tc_as s ≤ td) (hd : td - tc_as s < 8)
    (hp : ∀ (d n : Int32) (st op fi la sz : Nat → Int32), tc_xt (tn + 1) (td - tc_as s + 1) (tc_un ty tn s) (tc_un tz tn (tc_sz tz tn (tc_as s))) (tc_un tk (td - tc_as s) tn) d n st op fi la sz →
      post (f_patternDepth, f_patternNodes, f_ruleCount, f_entryCount, d, n, f_stateCount, f_coverLength, f_pendingCount, a_patternStack, a_patternSymbol, a_patternFirst, a_patternLast, a_patternEntry, a_ruleLeft, a_ruleCost, a_ruleEntry, a_ruleStart, a_entryOperator, a_entryFirst, a_entryLast, st, op, fi, la, sz, a_treeCosts, a_treeWays, a_stateCosts, a_cover, a_pendingEntry, a_pendingNode)) :
    wpX_pushTree post (f_patternDepth, f_patternNodes, f_ruleCount, f_entryCount, f_treeDepth, f_treeNodes, f_stateCount, f_coverLength, f_pendingCount, a_patternStack, a_patternSymbol, a_patternFirst, a_patternLast, a_patternEntry, a_ruleLeft, a_ruleCost, a_ruleEntry, a_ruleStart, a_entryOperator, a_entryFirst, a_entryLast, a_treeStack, a_treeOperator, a_treeFirst, a_treeLast, a_treeSize, a_treeCosts, a_treeWays, a_stateCosts, a_cover, a_pendingEntry, a_pendingNode) (nI s) (nI (tc_as s)) := by
  obtain ⟨rfl, rfl, x3, x4⟩ := hx
  have c : (nI tn).toNatClampNeg = tn := nI_clamp (by omega)
  have hn1 : 2 ≤ s → 1 ≤ tn := fun z1 => by
    have h1 : 1 ≤ tc_as s := by
      rcases tc_as_c s with ⟨e, h1⟩ | ⟨e, h1, h2⟩ | ⟨e, h1, h2⟩ <;> omega
    exact (tc_fo_t1 F (by omega)).1
  have key : ∀ fi la sz : Nat → Int32, (∀ i, i < tn → fi i = a_treeFirst i ∧ la i = a_treeLast i ∧ sz i = a_treeSize i) → (2 ≤ s → la tn = nI (tn - 1)) → (4 ≤ s → fi tn = nI (tn - 1 - tz (tn - 1))) → sz tn = nI (tc_sz tz tn (tc_as s)) →
      wX_pushTree_103 post (nI (tc_as s)) (nI tn) f_patternDepth f_patternNodes f_ruleCount f_entryCount (nI td) (nI tn) f_stateCount f_coverLength f_pendingCount a_patternStack a_patternSymbol a_patternFirst a_patternLast a_patternEntry a_ruleLeft a_ruleCost a_ruleEntry a_ruleStart a_entryOperator a_entryFirst a_entryLast a_treeStack (upd a_treeOperator tn (nI s)) fi la sz a_treeCosts a_treeWays a_stateCosts a_cover a_pendingEntry a_pendingNode := fun fi la sz h1 h2 h3 h4 => by
    refine nm_r (pk_sub ha) ⟨vp_in_nI hd (by decide), nm_r (e' := upd a_treeStack (td - tc_as s) (nI tn)) (by rw [nI_clamp (by omega)]) (nm_r (nI_1 _) (nm_r (nI_1 _) ?_))⟩
    refine hp _ _ _ _ _ _ _ ⟨rfl, rfl, fun k hk => ?_, fun i hi => ?_⟩
    · by_cases e : k = td - tc_as s
      · rw [e, pk_us, tc_us]
      · rw [pk_un e, tc_ne e]
        exact x3 k (by omega)
    · by_cases e : i = tn
      · rw [e, pk_us, tc_us, tc_us]
        refine ⟨rfl, h4, h2, fun z1 => ?_⟩
        have hq := h3 z1
        rw [tc_ne (show tn - 1 ≠ tn by have := hn1 (by omega); omega)]
        exact hq
      · rw [pk_un e, tc_ne e, tc_ne e]
        obtain ⟨y1, y2, y3, y4⟩ := x4 i (by omega)
        rw [(h1 i (by omega)).1, (h1 i (by omega)).2.1, (h1 i (by omega)).2.2]
        refine ⟨y1, y2, y3, fun z1 => ?_⟩
        rw [tc_ne (show i - 1 ≠ tn by omega)]
        exact y4 z1
  refine ⟨vp_in_nI hN (by decide), nm_r (e' := upd a_treeOperator tn (nI s)) (by rw [c]) ⟨vp_in_nI hN (by decide), nm_r (e' := upd a_treeSize tn (nI 1)) (by rw [c]; rfl) ?_⟩⟩
  rcases tc_as_c s with ⟨e, h1⟩ | ⟨e, h1, h2⟩ | ⟨e, h1, h2⟩
  · rw [e] at key ⊢
    exact br_t (by decide) (br_f (by decide) (key _ _ _ (fun i hi => ⟨rfl, rfl, pk_un (by omega)⟩) (fun z1 => by omega) (fun z1 => by omega) pk_us))
  · rw [e] at key ha hd ⊢
    obtain ⟨t1, t2⟩ := tc_fo_t1 F ha
    have w1 : nI td - 1 = nI (td - 1) := by rw [show (1 : Int32) = nI 1 from rfl, pk_sub (by omega)]
    refine br_f (by decide) ⟨by rw [w1]; exact vp_in_nI (by omega) (by decide), vp_in_nI hN (by decide), nm_r (e' := upd a_treeLast tn (nI (tn - 1))) (by rw [w1, c, nI_clamp (by omega), x3 _ (by omega), t2]) ⟨vp_in_nI hN (by decide), vp_in_nI hN (by decide), ?_, vp_in_nI hN (by decide), ?_⟩⟩
    · rw [c, pk_us]
      exact vp_in_nI (by omega) (by decide)
    · refine nm_r (e' := upd (upd a_treeSize tn (nI 1)) tn (nI (tc_sz tz tn 1))) (by
        rw [c, pk_us, pk_us, nI_clamp (by omega), pk_un (by omega), (x4 (tn - 1) (by omega)).2.1, nI_add]
        rfl) (br_f (by decide) ?_)
      exact key _ _ _ (fun i hi => ⟨rfl, pk_un (by omega), (pk_un (by omega)).trans (pk_un (by omega))⟩) (fun z1 => pk_us) (fun z1 => by omega) pk_us
  · rw [e] at key ha hd ⊢
    obtain ⟨t1, t2⟩ := tc_fo_t1 F (by omega)
    obtain ⟨t3, t4⟩ := tc_fo_t2 F ha
    have t5 := (F.2.2.2.2.2 (tn - 1) (by omega)).1
    have w1 : nI td - 1 = nI (td - 1) := by rw [show (1 : Int32) = nI 1 from rfl, pk_sub (by omega)]
    have w2 : nI td - 2 = nI (td - 2) := by rw [show (2 : Int32) = nI 2 from rfl, pk_sub (by omega)]
    refine br_f (by decide) ⟨by rw [w1]; exact vp_in_nI (by omega) (by decide), vp_in_nI hN (by decide), nm_r (e' := upd a_treeLast tn (nI (tn - 1))) (by rw [w1, c, nI_clamp (by omega), x3 _ (by omega), t2]) ⟨vp_in_nI hN (by decide), vp_in_nI hN (by decide), ?_, vp_in_nI hN (by decide), ?_⟩⟩
    · rw [c, pk_us]
      exact vp_in_nI (by omega) (by decide)
    · refine nm_r (e' := upd (upd a_treeSize tn (nI 1)) tn (nI (1 + tz (tn - 1)))) (by
        rw [c, pk_us, pk_us, nI_clamp (by omega), pk_un (by omega), (x4 (tn - 1) (by omega)).2.1, nI_add]) ?_
      refine br_t rfl ⟨by rw [w2]; exact vp_in_nI (by omega) (by decide), vp_in_nI hN (by decide), nm_r (e' := upd a_treeFirst tn (nI (tn - 1 - tz (tn - 1)))) (by rw [w2, c, nI_clamp (by omega), x3 _ (by omega), t4]) ⟨vp_in_nI hN (by decide), vp_in_nI hN (by decide), ?_, vp_in_nI hN (by decide), ?_⟩⟩
      · rw [c, pk_us]
        exact vp_in_nI (by omega) (by decide)
      · refine nm_r (e' := upd (upd (upd a_treeSize tn (nI 1)) tn (nI (1 + tz (tn - 1)))) tn (nI (tc_sz tz tn 2))) (by
          rw [c, pk_us, pk_us, nI_clamp (by omega), pk_un (by omega), pk_un (by omega), (x4 (tn - 1 - tz (tn - 1)) (by omega)).2.1, nI_add]
          rfl) ?_
        exact key _ _ _ (fun i hi => ⟨pk_un (by omega), pk_un (by omega), (pk_un (by omega)).trans ((pk_un (by omega)).trans (pk_un (by omega)))⟩) (fun z1 => pk_us) (fun z1 => pk_us) pk_us
theorem yt_push {post : Int32 → SY → Prop} {f_noted : Int32} {f_depth : Int32} {f_rules : Int32} {f_planted : Int32} {f_trees : Int32} {f_stateCount : Int32} {f_known : Int32} {f_listed : Int32} {a_marks : Nat → Int32} {a_sizes : Nat → Int32} {a_lefts : Nat → Int32} {a_costs : Nat → Int32} {a_lengths : Nat → Int32} {a_operators : Nat → Int32} {a_spans : Nat → Int32} {a_least : Nat → Int32} {a_ways : Nat → Int32} {a_tasks : Nat → Int32} {a_list : Nat → Int32} (F : tc_fo tn td ty tz tk) (hN : tn < 24) (hD : td ≤ 8) (hy : tc_yt tn td ty tz f_planted f_trees a_operators a_spans) {s : Nat} (hs : s < 6) (ha : tc_as s ≤ td)
    (hp : ∀ (pl tr : Int32) (op sp : Nat → Int32), tc_yt (tn + 1) (td - tc_as s + 1) (tc_un ty tn s) (tc_un tz tn (tc_sz tz tn (tc_as s))) pl tr op sp →
      post (nI (td - tc_as s + 1)) (f_noted, f_depth, f_rules, pl, tr, f_stateCount, f_known, f_listed, a_marks, a_sizes, a_lefts, a_costs, a_lengths, op, sp, a_least, a_ways, a_tasks, a_list)) :
    ∃ m, wY_tree_58 post (nI s) (nI (tc_as s)) f_noted f_depth f_rules f_planted f_trees f_stateCount f_known f_listed a_marks a_sizes a_lefts a_costs a_lengths a_operators a_spans a_least a_ways a_tasks a_list m 1 0 := by
  obtain ⟨rfl, rfl, y3⟩ := hy
  have c : (nI tn).toNatClampNeg = tn := nI_clamp (by omega)
  have fin : ∀ (m k : Nat), tc_as s ≤ k → k < 3 → wY_tree_58 post (nI s) (nI (tc_as s)) f_noted f_depth f_rules (nI tn) (nI td) f_stateCount f_known f_listed a_marks a_sizes a_lefts a_costs a_lengths a_operators a_spans a_least a_ways a_tasks a_list (m + 1) (nI (tc_sz tz tn (tc_as s))) (nI k) := fun m k hk hk3 => by
    refine br_t (nI_le hk (by omega)) ⟨vp_in_nI hN (by decide), nm_r (e' := upd a_operators tn (nI s)) (by rw [c]) ⟨vp_in_nI hN (by decide), nm_r (e' := upd a_spans tn (nI (tc_sz tz tn (tc_as s)))) (by rw [c]) (nm_r (nI_1 _) (nm_r (e' := nI (td - tc_as s + 1)) (by rw [nI_1, pk_sub (by omega)]; exact congrArg nI (by omega)) ?_))⟩⟩
    refine hp _ _ _ _ ⟨rfl, rfl, fun i hi => ?_⟩
    by_cases e : i = tn
    · rw [e, pk_us, pk_us, tc_us, tc_us]
      exact ⟨rfl, rfl⟩
    · rw [pk_un (by omega), pk_un (by omega), tc_ne e, tc_ne e]
      exact y3 i (by omega)
  rcases tc_as_c s with ⟨e, h1⟩ | ⟨e, h1, h2⟩ | ⟨e, h1, h2⟩
  · rw [e] at fin ⊢
    exact ⟨1, fin 0 0 (by omega) (by omega)⟩
  · rw [e] at fin ha ⊢
    obtain ⟨t1, t2⟩ := tc_fo_t1 F ha
    have w1 : nI tn - 1 = nI (tn - 1) := by rw [show (1 : Int32) = nI 1 from rfl, pk_sub (by omega)]
    refine ⟨2, br_f (by decide) ⟨by rw [w1]; exact vp_in_nI (by omega) (by decide), nm_r (e' := nI (tc_sz tz tn 1)) (by rw [w1, nI_clamp (by omega), (y3 (tn - 1) (by omega)).2, show (1 : Int32) = nI 1 from rfl, nI_add]; rfl) (nm_r (e' := nI 1) rfl (fin 0 1 (by omega) (by omega)))⟩⟩
  · rw [e] at fin ha ⊢
    obtain ⟨t1, t2⟩ := tc_fo_t1 F (by omega)
    obtain ⟨t3, t4⟩ := tc_fo_t2 F ha
    have t5 := (F.2.2.2.2.2 (tn - 1) (by omega)).1
    have w1 : nI tn - 1 = nI (tn - 1) := by rw [show (1 : Int32) = nI 1 from rfl, pk_sub (by omega)]
    have w2 : nI tn - nI (1 + tz (tn - 1)) = nI (tn - 1 - tz (tn - 1)) := by
      rw [pk_sub (by omega)]
      exact congrArg nI (by omega)
    refine ⟨3, br_f (by decide) ⟨by rw [w1]; exact vp_in_nI (by omega) (by decide), nm_r (e' := nI (1 + tz (tn - 1))) (by rw [w1, nI_clamp (by omega), (y3 (tn - 1) (by omega)).2, show (1 : Int32) = nI 1 from rfl, nI_add]) (nm_r (e' := nI 1) rfl ?_)⟩⟩
    refine br_f (by decide) ⟨by rw [w2]; exact vp_in_nI (by omega) (by decide), nm_r (e' := nI (tc_sz tz tn 2)) (by rw [w2, nI_clamp (by omega), (y3 (tn - 1 - tz (tn - 1)) (by omega)).2, nI_add]; rfl) (nm_r (e' := nI 2) rfl (fin 0 2 (by omega) (by omega)))⟩
end
