/-! X's trees -/
def tc_xt (tn td : Nat) (ty tz tk : Nat → Nat) (d n : Int32) (st op fi la sz : Nat → Int32) : Prop :=
  d = nI td ∧ n = nI tn ∧ (∀ k, k < td → st k = nI (tk k)) ∧
  ∀ i, i < tn → op i = nI (ty i) ∧ sz i = nI (tz i) ∧ (2 ≤ ty i → la i = nI (i - 1)) ∧ (4 ≤ ty i → fi i = nI (i - 1 - tz (i - 1)))
/-- the rows of all trees -/
def tc_rows (S : tc_S) (K : Nat) (ty tz : Nat → Nat) (a : Nat → Int32) (n : Nat) : Prop := ∀ m, m < n → tc_tr a (m * 74) (tc_E S) (tc_v S K ty tz m)
/-- what is asked for the top tree -/
def tc_tp (S : tc_S) (K : Nat) (ty tz : Nat → Nat) (tn td g : Nat) : Nat := if td = 0 then K else tc_v S K ty tz (tn - 1) g
section
variable {S : tc_S} {tn td : Nat} {ty tz tk : Nat → Nat}
theorem xq_ft_2 (ok : tc_ok S) (hn : tc_tn ty tz tn) (hN : tn ≤ 24) {post : SX → Prop} {f_patternDepth : Int32} {f_patternNodes : Int32} {f_ruleCount : Int32} {f_entryCount : Int32} {f_treeDepth : Int32} {f_treeNodes : Int32} {f_stateCount : Int32} {f_coverLength : Int32} {f_pendingCount : Int32} {a_patternStack : Nat → Int32} {a_patternSymbol : Nat → Int32} {a_patternFirst : Nat → Int32} {a_patternLast : Nat → Int32} {a_patternEntry : Nat → Int32} {a_ruleLeft : Nat → Int32} {a_ruleCost : Nat → Int32} {a_ruleEntry : Nat → Int32} {a_ruleStart : Nat → Int32} {a_entryOperator : Nat → Int32} {a_entryFirst : Nat → Int32} {a_entryLast : Nat → Int32} {a_treeStack : Nat → Int32} {a_treeOperator : Nat → Int32} {a_treeFirst : Nat → Int32} {a_treeLast : Nat → Int32} {a_treeSize : Nat → Int32} {a_treeWays : Nat → Int32} {a_stateCosts : Nat → Int32} {a_cover : Nat → Int32} {a_pendingEntry : Nat → Int32} {a_pendingNode : Nat → Int32} (hx : tc_xr S f_ruleCount f_entryCount a_ruleLeft a_ruleCost a_ruleEntry a_ruleStart a_entryOperator a_entryFirst a_entryLast)
    (ht : tc_xt tn td ty tz tk f_treeDepth f_treeNodes a_treeStack a_treeOperator a_treeFirst a_treeLast a_treeSize) :
    ∀ (d i : Nat), i + d = tn → ∀ a_treeCosts : Nat → Int32, tc_rows S 536870912 ty tz a_treeCosts i → (∀ a', tc_rows S 536870912 ty tz a' tn → post (f_patternDepth, f_patternNodes, f_ruleCount, f_entryCount, f_treeDepth, f_treeNodes, f_stateCount, f_coverLength, f_pendingCount, a_patternStack, a_patternSymbol, a_patternFirst, a_patternLast, a_patternEntry, a_ruleLeft, a_ruleCost, a_ruleEntry, a_ruleStart, a_entryOperator, a_entryFirst, a_entryLast, a_treeStack, a_treeOperator, a_treeFirst, a_treeLast, a_treeSize, a', a_treeWays, a_stateCosts, a_cover, a_pendingEntry, a_pendingNode)) →
    ∀ m, d < m → wX_fillTreeCosts_2 post m (nI i) f_patternDepth f_patternNodes f_ruleCount f_entryCount f_treeDepth f_treeNodes f_stateCount f_coverLength f_pendingCount a_patternStack a_patternSymbol a_patternFirst a_patternLast a_patternEntry a_ruleLeft a_ruleCost a_ruleEntry a_ruleStart a_entryOperator a_entryFirst a_entryLast a_treeStack a_treeOperator a_treeFirst a_treeLast a_treeSize a_treeCosts a_treeWays a_stateCosts a_cover a_pendingEntry a_pendingNode := by
  have hE := tc_ok_E ok
  intro d
  induction d with
  | zero =>
    intro i hi a_treeCosts hr hp m hm
    obtain ⟨m', rfl⟩ : ∃ m', m = m' + 1 := ⟨m - 1, by omega⟩
    have e : i = tn := by omega
    subst e
    exact br_t (by rw [ht.2.1]; exact nI_le (Nat.le_refl _) (by omega)) (hp _ hr)
  | succ d ih =>
    intro i hi a_treeCosts hr hp m hm
    obtain ⟨m', rfl⟩ : ∃ m', m = m' + 1 := ⟨m - 1, by omega⟩
    have hit : i < tn := by omega
    obtain ⟨h6, n1, n2, n3, n4, n5, n6, n7⟩ := hn i hit
    obtain ⟨t1, t2, t3, t4⟩ := ht.2.2.2 i hit
    have c : (nI i).toNatClampNeg = i := nI_clamp (by omega)
    refine br_f (by rw [ht.2.1]; exact nI_ge hit (by omega)) ⟨vp_in_nI (by omega) (by decide), vp_in_nI (by omega) (by decide), vp_in_nI (by omega) (by decide), ?_⟩
    rw [c, t1]
    refine xtc_f_wp ok (by omega) h6 (x := tc_v S 536870912 ty tz (i - 1 - tz (i - 1))) (y := tc_v S 536870912 ty tz (i - 1)) hx (fun h2 => ?_) (fun h4 => ?_) (fun a' hf hra => ?_)
    · have hi1 := n3 h2 h6
      refine ⟨i - 1, t3 h2, by omega, by omega, fun e he => ⟨hr (i - 1) (by omega) e he, tc_v_le (fun h => (hn (i - 1) (by omega)).2.2.2.1 h (hn (i - 1) (by omega)).1) e⟩⟩
    · have hi1 := n3 (by omega) h6
      have hi2 := n4 h4 h6
      refine ⟨i - 1 - tz (i - 1), t4 h4, by omega, by omega, fun e he => ⟨hr (i - 1 - tz (i - 1)) (by omega) e he, tc_v_le (fun h => (hn (i - 1 - tz (i - 1)) (by omega)).2.2.2.1 h (hn (i - 1 - tz (i - 1)) (by omega)).1) e⟩⟩
    · refine nm_r (nI_1 i) (ih (i + 1) (by omega) a' (fun k hk => ?_) hp m' (by omega))
      by_cases e : k = i
      · rw [e, tc_v_eq (fun h => n3 h h6)]
        exact hra
      · intro j hj
        rw [hf _ (by omega)]
        exact hr k (by omega) j hj
theorem xq_ft (ok : tc_ok S) (hn : tc_tn ty tz tn) (hN : tn ≤ 24) {post : SX → Prop} {f_patternDepth : Int32} {f_patternNodes : Int32} {f_ruleCount : Int32} {f_entryCount : Int32} {f_treeDepth : Int32} {f_treeNodes : Int32} {f_stateCount : Int32} {f_coverLength : Int32} {f_pendingCount : Int32} {a_patternStack : Nat → Int32} {a_patternSymbol : Nat → Int32} {a_patternFirst : Nat → Int32} {a_patternLast : Nat → Int32} {a_patternEntry : Nat → Int32} {a_ruleLeft : Nat → Int32} {a_ruleCost : Nat → Int32} {a_ruleEntry : Nat → Int32} {a_ruleStart : Nat → Int32} {a_entryOperator : Nat → Int32} {a_entryFirst : Nat → Int32} {a_entryLast : Nat → Int32} {a_treeStack : Nat → Int32} {a_treeOperator : Nat → Int32} {a_treeFirst : Nat → Int32} {a_treeLast : Nat → Int32} {a_treeSize : Nat → Int32} {a_treeCosts : Nat → Int32} {a_treeWays : Nat → Int32} {a_stateCosts : Nat → Int32} {a_cover : Nat → Int32} {a_pendingEntry : Nat → Int32} {a_pendingNode : Nat → Int32} (hx : tc_xr S f_ruleCount f_entryCount a_ruleLeft a_ruleCost a_ruleEntry a_ruleStart a_entryOperator a_entryFirst a_entryLast)
    (ht : tc_xt tn td ty tz tk f_treeDepth f_treeNodes a_treeStack a_treeOperator a_treeFirst a_treeLast a_treeSize)
    (hp : ∀ a', tc_rows S 536870912 ty tz a' tn → post (f_patternDepth, f_patternNodes, f_ruleCount, f_entryCount, f_treeDepth, f_treeNodes, f_stateCount, f_coverLength, f_pendingCount, a_patternStack, a_patternSymbol, a_patternFirst, a_patternLast, a_patternEntry, a_ruleLeft, a_ruleCost, a_ruleEntry, a_ruleStart, a_entryOperator, a_entryFirst, a_entryLast, a_treeStack, a_treeOperator, a_treeFirst, a_treeLast, a_treeSize, a', a_treeWays, a_stateCosts, a_cover, a_pendingEntry, a_pendingNode)) : wpX_fillTreeCosts post (f_patternDepth, f_patternNodes, f_ruleCount, f_entryCount, f_treeDepth, f_treeNodes, f_stateCount, f_coverLength, f_pendingCount, a_patternStack, a_patternSymbol, a_patternFirst, a_patternLast, a_patternEntry, a_ruleLeft, a_ruleCost, a_ruleEntry, a_ruleStart, a_entryOperator, a_entryFirst, a_entryLast, a_treeStack, a_treeOperator, a_treeFirst, a_treeLast, a_treeSize, a_treeCosts, a_treeWays, a_stateCosts, a_cover, a_pendingEntry, a_pendingNode) :=
  ⟨tn + 1, xq_ft_2 ok hn hN hx ht tn 0 (by omega) a_treeCosts (fun m hm => absurd hm (Nat.not_lt_zero _)) hp _ (by omega)⟩
theorem xq_top (ok : tc_ok S) (hF : tc_fo tn td ty tz tk) (h6 : ∀ i, i < tn → ty i < 6) (hN : tn ≤ 24) (hD : td ≤ 8) {g : Nat} (hg : g < 4) {post : Int32 → SX → Prop} {f_patternDepth : Int32} {f_patternNodes : Int32} {f_ruleCount : Int32} {f_entryCount : Int32} {f_treeDepth : Int32} {f_treeNodes : Int32} {f_stateCount : Int32} {f_coverLength : Int32} {f_pendingCount : Int32} {a_patternStack : Nat → Int32} {a_patternSymbol : Nat → Int32} {a_patternFirst : Nat → Int32} {a_patternLast : Nat → Int32} {a_patternEntry : Nat → Int32} {a_ruleLeft : Nat → Int32} {a_ruleCost : Nat → Int32} {a_ruleEntry : Nat → Int32} {a_ruleStart : Nat → Int32} {a_entryOperator : Nat → Int32} {a_entryFirst : Nat → Int32} {a_entryLast : Nat → Int32} {a_treeStack : Nat → Int32} {a_treeOperator : Nat → Int32} {a_treeFirst : Nat → Int32} {a_treeLast : Nat → Int32} {a_treeSize : Nat → Int32} {a_treeCosts : Nat → Int32} {a_treeWays : Nat → Int32} {a_stateCosts : Nat → Int32} {a_cover : Nat → Int32} {a_pendingEntry : Nat → Int32} {a_pendingNode : Nat → Int32}
    (hx : tc_xr S f_ruleCount f_entryCount a_ruleLeft a_ruleCost a_ruleEntry a_ruleStart a_entryOperator a_entryFirst a_entryLast)
    (ht : tc_xt tn td ty tz tk f_treeDepth f_treeNodes a_treeStack a_treeOperator a_treeFirst a_treeLast a_treeSize)
    (hp : ∀ a', (0 < td → tc_rows S 536870912 ty tz a' tn) → post (nI (tc_tp S 536870912 ty tz tn td g)) (f_patternDepth, f_patternNodes, f_ruleCount, f_entryCount, f_treeDepth, f_treeNodes, f_stateCount, f_coverLength, f_pendingCount, a_patternStack, a_patternSymbol, a_patternFirst, a_patternLast, a_patternEntry, a_ruleLeft, a_ruleCost, a_ruleEntry, a_ruleStart, a_entryOperator, a_entryFirst, a_entryLast, a_treeStack, a_treeOperator, a_treeFirst, a_treeLast, a_treeSize, a', a_treeWays, a_stateCosts, a_cover, a_pendingEntry, a_pendingNode)) : wpX_leastForTop post (f_patternDepth, f_patternNodes, f_ruleCount, f_entryCount, f_treeDepth, f_treeNodes, f_stateCount, f_coverLength, f_pendingCount, a_patternStack, a_patternSymbol, a_patternFirst, a_patternLast, a_patternEntry, a_ruleLeft, a_ruleCost, a_ruleEntry, a_ruleStart, a_entryOperator, a_entryFirst, a_entryLast, a_treeStack, a_treeOperator, a_treeFirst, a_treeLast, a_treeSize, a_treeCosts, a_treeWays, a_stateCosts, a_cover, a_pendingEntry, a_pendingNode) (nI g) := by
  have hn : tc_tn ty tz tn := fun i hi => ⟨h6 i hi, hF.2.2.2.2.2 i hi⟩
  have hE := tc_ok_E ok
  refine pk_eq td 0 (fun h => ?_) (fun h => ?_) ht.1 rfl (by omega) (by omega)
  · have k := hp a_treeCosts (fun z => by omega)
    unfold tc_tp at k
    rw [if_pos h] at k
    exact k
  · obtain ⟨s1, s2⟩ := tc_fo_t1 hF (by omega)
    refine xq_ft ok hn hN hx ht (fun a' ha => ?_)
    have w : f_treeDepth - 1 = nI (td - 1) := by rw [ht.1, show (1 : Int32) = nI 1 from rfl, pk_sub (by omega)]
    have w2 : a_treeStack (f_treeDepth - 1).toNatClampNeg * 74 + nI g = nI ((tn - 1) * 74 + g) := by
      rw [w, nI_clamp (by omega), ht.2.2.1 (td - 1) (by omega), s2, show (74 : Int32) = nI 74 from rfl, pk_mul, nI_add]
    have k := hp a' (fun _ => ha)
    unfold tc_tp at k
    rw [if_neg h] at k
    refine ⟨by rw [w]; exact vp_in_nI (by omega) (by decide), by rw [w2]; exact vp_in_nI (by omega) (by decide), ?_⟩
    rw [w2, nI_clamp (by omega), ha (tn - 1) (by omega) g (by omega)]
    exact k
end
theorem xm_goal_lo {post : Int32 → Prop} {g : Int32} (h : g < 0) (hp : post 0) : wpX_isGoal post g := br_t h hp
theorem xm_goal_hi {post : Int32 → Prop} {g : Int32} (h : nI 4 ≤ g) (hp : post 0) : wpX_isGoal post g := br_f (fun z => by
  have h2 : (0 : Int32) < 4 := by decide
  exact absurd (Int32.lt_of_lt_of_le h2 (Int32.le_trans h (Int32.le_of_lt z))) (by decide)) (br_t h hp)
theorem xm_goal_ok {post : Int32 → Prop} {g : Nat} (h : g < 4) (hp : post 1) : wpX_isGoal post (nI g) := br_f (nI_pos (by omega)) (br_f (nI_ge (b := 4) h (by decide)) hp)
theorem xm_oper_lo {post : Int32 → Prop} {g : Int32} (h : g < 0) (hp : post 0) : wpX_isOperator post g := br_t h hp
theorem xm_oper_hi {post : Int32 → Prop} {g : Int32} (h : nI 6 ≤ g) (hp : post 0) : wpX_isOperator post g := br_f (fun z => by
  have h2 : (0 : Int32) < 6 := by decide
  exact absurd (Int32.lt_of_lt_of_le h2 (Int32.le_trans h (Int32.le_of_lt z))) (by decide)) (br_t h hp)
theorem xm_oper_ok {post : Int32 → Prop} {g : Nat} (h : g < 6) (hp : post 1) : wpX_isOperator post (nI g) := br_f (nI_pos (by omega)) (br_f (nI_ge (b := 6) h (by decide)) hp)
