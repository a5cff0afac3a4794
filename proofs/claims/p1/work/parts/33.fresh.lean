/-! a fresh object: no rule, so that every row is 'none' and there is one state -/
theorem tz_it {S : tc_S} (h : tc_R S = 0) (t : Nat → Nat) : ∀ n, tc_it S t n = t := by
  intro n
  induction n with
  | zero => rfl
  | succ n ih =>
    show tc_rd S (tc_it S t n) (tc_R S) = t
    rw [h, ih]
    rfl
theorem tz_row {S : tc_S} (h : tc_R S = 0) {K o e : Nat} {x y : Nat → Nat} (he : e < 4) : tc_row S K o x y e = K := by
  unfold tc_row
  rw [tz_it h]
  exact if_pos he
theorem tz_E {S : tc_S} (ok : tc_ok S) (h : tc_R S = 0) : tc_E S = 4 := by
  show tc_sr S (tc_R S) = 4
  rw [h]
  exact ok.2.1
theorem tz_sa {K : Nat} {t u : Nat → Nat} (ht : ∀ e, e < 4 → t e = K) (hu : ∀ e, e < 4 → u e = K) : tc_sa K 4 t u := fun e he => ⟨⟨fun _ => hu e he, fun _ => ht e he⟩, fun z => absurd (ht e he) z⟩
section
variable {S : tc_S}
theorem xz_add (ok : tc_ok S) (hR : tc_R S = 0) {post : SX → Prop} {f_patternDepth : Int32} {f_patternNodes : Int32} {f_ruleCount : Int32} {f_entryCount : Int32} {f_treeDepth : Int32} {f_treeNodes : Int32} {f_stateCount : Int32} {f_coverLength : Int32} {f_pendingCount : Int32} {a_patternStack : Nat → Int32} {a_patternSymbol : Nat → Int32} {a_patternFirst : Nat → Int32} {a_patternLast : Nat → Int32} {a_patternEntry : Nat → Int32} {a_ruleLeft : Nat → Int32} {a_ruleCost : Nat → Int32} {a_ruleEntry : Nat → Int32} {a_ruleStart : Nat → Int32} {a_entryOperator : Nat → Int32} {a_entryFirst : Nat → Int32} {a_entryLast : Nat → Int32} {a_treeStack : Nat → Int32} {a_treeOperator : Nat → Int32} {a_treeFirst : Nat → Int32} {a_treeLast : Nat → Int32} {a_treeSize : Nat → Int32} {a_treeCosts : Nat → Int32} {a_treeWays : Nat → Int32} {a_stateCosts : Nat → Int32} {a_cover : Nat → Int32} {a_pendingEntry : Nat → Int32} {a_pendingNode : Nat → Int32} (hx : tc_xr S f_ruleCount f_entryCount a_ruleLeft a_ruleCost a_ruleEntry a_ruleStart a_entryOperator a_entryFirst a_entryLast) {c o : Nat} (hc : c ≤ 1) (hsc : f_stateCount = nI c) (ho : o < 6)
    (hz : 1 ≤ c → tc_tr a_stateCosts (0 * 74) 4 (fun _ => 536870912)) (hco : 2 ≤ o → c = 1)
    (hp : ∀ a' : Nat → Int32, tc_tr a' (0 * 74) 4 (fun _ => 536870912) → post (f_patternDepth, f_patternNodes, f_ruleCount, f_entryCount, f_treeDepth, f_treeNodes, nI 1, f_coverLength, f_pendingCount, a_patternStack, a_patternSymbol, a_patternFirst, a_patternLast, a_patternEntry, a_ruleLeft, a_ruleCost, a_ruleEntry, a_ruleStart, a_entryOperator, a_entryFirst, a_entryLast, a_treeStack, a_treeOperator, a_treeFirst, a_treeLast, a_treeSize, a_treeCosts, a_treeWays, a', a_cover, a_pendingEntry, a_pendingNode)) : wpX_addState post (f_patternDepth, f_patternNodes, f_ruleCount, f_entryCount, f_treeDepth, f_treeNodes, f_stateCount, f_coverLength, f_pendingCount, a_patternStack, a_patternSymbol, a_patternFirst, a_patternLast, a_patternEntry, a_ruleLeft, a_ruleCost, a_ruleEntry, a_ruleStart, a_entryOperator, a_entryFirst, a_entryLast, a_treeStack, a_treeOperator, a_treeFirst, a_treeLast, a_treeSize, a_treeCosts, a_treeWays, a_stateCosts, a_cover, a_pendingEntry, a_pendingNode) (nI o) (nI 0) (nI 0) := by
  subst hsc
  have hE := tz_E ok hR
  refine br_t (nI_lt (b := 21) (by omega) (by decide)) ?_
  refine xsc_f_wp (ro := c) ok (by omega) ho (x := fun _ => 536870912) (y := fun _ => 536870912) hx (fun z => ⟨0, rfl, by omega, by have := hco z; omega, fun e he => ⟨hz (by have := hco z; omega) e (by omega), Nat.le_refl _⟩⟩) (fun z => ⟨0, rfl, by omega, by have := hco (by omega); omega, fun e he => ⟨hz (by have := hco (by omega); omega) e (by omega), Nat.le_refl _⟩⟩) (fun a' hf hr => ?_)
  rcases Nat.eq_zero_or_pos c with e0 | e0
  · subst e0
    refine ⟨1, br_t (nI_le (a := 0) (b := 0) (Nat.le_refl _) (by decide)) (nm_r (nI_1 0) (hp a' (fun e he => ?_)))⟩
    rw [hr e (by omega), tz_row hR he]
  · have e1 : c = 1 := by omega
    subst e1
    have h0 : tc_tr a' (0 * 74) (tc_E S) (fun _ => 536870912) := fun e he => by
      rw [hf _ (by omega)]
      exact hz (by omega) e (by omega)
    refine ⟨1, br_f (nI_ge (a := 0) (b := 1) (by decide) (by decide)) ?_⟩
    refine xsc_s_wp (r1 := 0) (r2 := 1) (t := fun _ => 536870912) (u := tc_row S 536870912 o (fun _ => 536870912) (fun _ => 536870912)) ok (by omega) (by omega) hx.2.1 (fun e => Nat.le_refl _) (fun e => tc_row_le e 4) h0 hr (fun _ => br_f (by decide) (hp a' (fun e he => h0 e (by omega)))) (fun z => absurd ?_ z)
    rw [hE]
    exact tz_sa (fun e he => rfl) (fun e he => tz_row hR he)
theorem xz_coll (ok : tc_ok S) (hR : tc_R S = 0) {post : SX → Prop} {f_patternDepth : Int32} {f_patternNodes : Int32} {f_ruleCount : Int32} {f_entryCount : Int32} {f_treeDepth : Int32} {f_treeNodes : Int32} {f_stateCount : Int32} {f_coverLength : Int32} {f_pendingCount : Int32} {a_patternStack : Nat → Int32} {a_patternSymbol : Nat → Int32} {a_patternFirst : Nat → Int32} {a_patternLast : Nat → Int32} {a_patternEntry : Nat → Int32} {a_ruleLeft : Nat → Int32} {a_ruleCost : Nat → Int32} {a_ruleEntry : Nat → Int32} {a_ruleStart : Nat → Int32} {a_entryOperator : Nat → Int32} {a_entryFirst : Nat → Int32} {a_entryLast : Nat → Int32} {a_treeStack : Nat → Int32} {a_treeOperator : Nat → Int32} {a_treeFirst : Nat → Int32} {a_treeLast : Nat → Int32} {a_treeSize : Nat → Int32} {a_treeCosts : Nat → Int32} {a_treeWays : Nat → Int32} {a_stateCosts : Nat → Int32} {a_cover : Nat → Int32} {a_pendingEntry : Nat → Int32} {a_pendingNode : Nat → Int32} (hx : tc_xr S f_ruleCount f_entryCount a_ruleLeft a_ruleCost a_ruleEntry a_ruleStart a_entryOperator a_entryFirst a_entryLast)
    (hp : ∀ a' : Nat → Int32, tc_tr a' (0 * 74) 4 (fun _ => 536870912) → post (f_patternDepth, f_patternNodes, f_ruleCount, f_entryCount, f_treeDepth, f_treeNodes, nI 1, f_coverLength, f_pendingCount, a_patternStack, a_patternSymbol, a_patternFirst, a_patternLast, a_patternEntry, a_ruleLeft, a_ruleCost, a_ruleEntry, a_ruleStart, a_entryOperator, a_entryFirst, a_entryLast, a_treeStack, a_treeOperator, a_treeFirst, a_treeLast, a_treeSize, a_treeCosts, a_treeWays, a', a_cover, a_pendingEntry, a_pendingNode)) : wpX_collectStates post (f_patternDepth, f_patternNodes, f_ruleCount, f_entryCount, f_treeDepth, f_treeNodes, f_stateCount, f_coverLength, f_pendingCount, a_patternStack, a_patternSymbol, a_patternFirst, a_patternLast, a_patternEntry, a_ruleLeft, a_ruleCost, a_ruleEntry, a_ruleStart, a_entryOperator, a_entryFirst, a_entryLast, a_treeStack, a_treeOperator, a_treeFirst, a_treeLast, a_treeSize, a_treeCosts, a_treeWays, a_stateCosts, a_cover, a_pendingEntry, a_pendingNode) := by
  refine ⟨3, br_f (nI_ge (a := 0) (b := 2) (by decide) (by decide)) ?_⟩
  refine xz_add (o := 0) ok hR hx (c := 0) (by omega) rfl (by omega) (fun z => by omega) (fun z => by omega) (fun a1 h1 => ?_)
  refine nm_r (nI_1 0) (br_f (nI_ge (a := 1) (b := 2) (by decide) (by decide)) ?_)
  refine xz_add (o := 1) ok hR hx (c := 1) (by omega) rfl (by omega) (fun _ => h1) (fun z => rfl) (fun a2 h2 => ?_)
  refine nm_r (nI_1 1) (br_t (nI_le (a := 2) (b := 2) (Nat.le_refl _) (by decide)) ⟨2, ?_⟩)
  refine br_f (nI_ge (a := 0) (b := 1) (by decide) (by decide)) (br_f (nI_ge (a := 0) (b := 20) (by decide) (by decide)) ⟨3, ?_⟩)
  refine br_f (nI_ge (a := 2) (b := 4) (by decide) (by decide)) ?_
  refine xz_add (o := 2) ok hR hx (c := 1) (by omega) rfl (by omega) (fun _ => h2) (fun z => rfl) (fun a3 h3 => ?_)
  refine nm_r (nI_1 2) (br_f (nI_ge (a := 3) (b := 4) (by decide) (by decide)) ?_)
  refine xz_add (o := 3) ok hR hx (c := 1) (by omega) rfl (by omega) (fun _ => h3) (fun z => rfl) (fun a4 h4 => ?_)
  refine nm_r (nI_1 3) (br_t (nI_le (a := 4) (b := 4) (Nat.le_refl _) (by decide)) ⟨3, ?_⟩)
  have c30 : ∀ (P : SX → Prop) (o : Nat) (J : Int32 → Int32 → Int32 → Int32 → Int32 → Int32 → Int32 → Int32 → Int32 → Int32 → (Nat → Int32) → (Nat → Int32) → (Nat → Int32) → (Nat → Int32) → (Nat → Int32) → (Nat → Int32) → (Nat → Int32) → (Nat → Int32) → (Nat → Int32) → (Nat → Int32) → (Nat → Int32) → (Nat → Int32) → (Nat → Int32) → (Nat → Int32) → (Nat → Int32) → (Nat → Int32) → (Nat → Int32) → (Nat → Int32) → (Nat → Int32) → (Nat → Int32) → (Nat → Int32) → (Nat → Int32) → (Nat → Int32) → Prop) (a : Nat → Int32), o < 6 → tc_tr a (0 * 74) 4 (fun _ => 536870912) → (∀ a' : Nat → Int32, tc_tr a' (0 * 74) 4 (fun _ => 536870912) → J (nI (o + 1)) f_patternDepth f_patternNodes f_ruleCount f_entryCount f_treeDepth f_treeNodes (nI 1) f_coverLength f_pendingCount a_patternStack a_patternSymbol a_patternFirst a_patternLast a_patternEntry a_ruleLeft a_ruleCost a_ruleEntry a_ruleStart a_entryOperator a_entryFirst a_entryLast a_treeStack a_treeOperator a_treeFirst a_treeLast a_treeSize a_treeCosts a_treeWays a' a_cover a_pendingEntry a_pendingNode) →
      ∃ n30, wX_combineState_30 P J (nI 0) (nI o) n30 (nI 0) f_patternDepth f_patternNodes f_ruleCount f_entryCount f_treeDepth f_treeNodes (nI 1) f_coverLength f_pendingCount a_patternStack a_patternSymbol a_patternFirst a_patternLast a_patternEntry a_ruleLeft a_ruleCost a_ruleEntry a_ruleStart a_entryOperator a_entryFirst a_entryLast a_treeStack a_treeOperator a_treeFirst a_treeLast a_treeSize a_treeCosts a_treeWays a a_cover a_pendingEntry a_pendingNode := fun P o J a ho ha hJ => by
    refine ⟨2, br_f (nI_nlt (a := 0) (b := 0) (Nat.le_refl _) (by decide)) ?_⟩
    refine xz_add (o := o) ok hR hx (c := 1) (by omega) rfl ho (fun _ => ha) (fun z => rfl) (fun a5 h5 => ?_)
    refine xz_add (o := o) ok hR hx (c := 1) (by omega) rfl ho (fun _ => h5) (fun z => rfl) (fun a6 h6 => ?_)
    exact nm_r (nI_1 0) (br_t (nI_lt (a := 0) (b := 1) (by decide) (by decide)) (nm_r (nI_1 o) (hJ a6 h6)))
  refine br_f (nI_ge (a := 4) (b := 6) (by decide) (by decide)) (c30 _ 4 _ a4 (by omega) h4 (fun a5 h5 => ?_))
  refine br_f (nI_ge (a := 5) (b := 6) (by decide) (by decide)) (c30 _ 5 _ a5 (by omega) h5 (fun a6 h6 => ?_))
  refine br_t (nI_le (a := 6) (b := 6) (Nat.le_refl _) (by decide)) ?_
  exact nm_r (nI_1 0) (br_t (nI_le (a := 1) (b := 1) (Nat.le_refl _) (by decide)) (hp a6 h6))
variable {len : Nat → Nat} {ent : Nat → Nat → Nat}
/-- with no rule a row of least is its four goals -/
theorem yz_yw (hR : tc_R S = 0) {a : Nat → Int32} {n : Nat} {t : Nat → Nat} : tc_yw S len ent a n t ↔ ∀ g, g < 4 → a (74 * n + g) = nI (t g) :=
  ⟨fun h => h.1, fun h => ⟨h, fun r hr => absurd hr (by rw [hR]; exact Nat.not_lt_zero _)⟩⟩
theorem yz_keep (ok : tc_ok S) (hR : tc_R S = 0) {post : Int32 → SY → Prop} {f_noted : Int32} {f_depth : Int32} {f_rules : Int32} {f_planted : Int32} {f_trees : Int32} {f_stateCount : Int32} {f_known : Int32} {f_listed : Int32} {a_marks : Nat → Int32} {a_sizes : Nat → Int32} {a_lefts : Nat → Int32} {a_costs : Nat → Int32} {a_lengths : Nat → Int32} {a_operators : Nat → Int32} {a_spans : Nat → Int32} {a_least : Nat → Int32} {a_ways : Nat → Int32} {a_tasks : Nat → Int32} {a_list : Nat → Int32} (hy : tc_yr S len ent f_rules a_lefts a_costs a_lengths a_marks a_sizes) {c : Nat} (hc : c ≤ 1) (hsc : f_stateCount = nI c) {t : Nat → Nat} (hK : ∀ e, t e ≤ 1000000)
    (hw : tc_yw S len ent a_least 45 t) (ht : ∀ e, e < 4 → t e = 1000000) (hz : 1 ≤ c → tc_yw S len ent a_least 24 (fun _ => 1000000))
    (hp : ∀ a' : Nat → Int32, tc_yw S len ent a' 24 (fun _ => 1000000) → post (nI (1 - c)) (f_noted, f_depth, f_rules, f_planted, f_trees, nI 1, f_known, f_listed, a_marks, a_sizes, a_lefts, a_costs, a_lengths, a_operators, a_spans, a', a_ways, a_tasks, a_list)) : wpY_keepState post (f_noted, f_depth, f_rules, f_planted, f_trees, f_stateCount, f_known, f_listed, a_marks, a_sizes, a_lefts, a_costs, a_lengths, a_operators, a_spans, a_least, a_ways, a_tasks, a_list) := by
  subst hsc
  have hE := tz_E ok hR
  rcases Nat.eq_zero_or_pos c with e0 | e0
  · subst e0
    refine ⟨1, br_t (by decide) (br_f (by decide) (br_t (by decide) ?_))⟩
    refine ym_lowest (n := 45) ok hy (by omega) hK hw ?_
    refine ⟨75, yk_61 (c := 0) ok hy (by omega) rfl hK 74 0 (by omega) a_least hw (fun j x hj => absurd hj (Nat.not_lt_zero _)) (fun a' f1 f2 => hp a' ?_) 75 (by omega)⟩
    rw [yz_yw hR] at f2 ⊢
    intro g hg
    rw [f2 g hg]
    show nI (tc_nr (tc_E S) t g) = nI 1000000
    unfold tc_nr
    rw [if_pos (ht g hg)]
  · have e1 : c = 1 := by omega
    subst e1
    refine ⟨2, br_f (by decide) ?_⟩
    refine ym_same (n := 24) (k := 45) (t := fun _ => 1000000) (u := t) ok hy (by omega) (by omega) (fun _ => Nat.le_refl _) hK (hz (by omega)) hw (fun _ => br_f (by decide) (br_t (by decide) (hp a_least (hz (by omega))))) (fun z => absurd ?_ z)
    rw [hE]
    exact tz_sa (fun _ _ => rfl) ht
theorem yz_85 (ok : tc_ok S) (hR : tc_R S = 0) {post : Int32 → SY → Prop} {J : Int32 → Int32 → Int32 → Int32 → Int32 → Int32 → Int32 → Int32 → Int32 → Int32 → (Nat → Int32) → (Nat → Int32) → (Nat → Int32) → (Nat → Int32) → (Nat → Int32) → (Nat → Int32) → (Nat → Int32) → (Nat → Int32) → (Nat → Int32) → (Nat → Int32) → (Nat → Int32) → Prop} {f_noted : Int32} {f_depth : Int32} {f_rules : Int32} {f_planted : Int32} {f_trees : Int32} {f_known : Int32} {f_listed : Int32} {a_marks : Nat → Int32} {a_sizes : Nat → Int32} {a_lefts : Nat → Int32} {a_costs : Nat → Int32} {a_lengths : Nat → Int32} {a_operators : Nat → Int32} {a_spans : Nat → Int32} {a_least : Nat → Int32} {a_ways : Nat → Int32} {a_tasks : Nat → Int32} {a_list : Nat → Int32} (hy : tc_yr S len ent f_rules a_lefts a_costs a_lengths a_marks a_sizes) {o c : Nat} (ho : o < 6) (hc : c ≤ 1) {x3 x4 : Int32}
    (hco : 2 ≤ o → c = 1) (hz : 1 ≤ c → tc_yw S len ent a_least 24 (fun _ => 1000000))
    (hp : ∀ a' : Nat → Int32, tc_yw S len ent a' 24 (fun _ => 1000000) → J (nI (1 - c)) (nI 1) f_noted f_depth f_rules f_planted f_trees (nI 1) f_known f_listed a_marks a_sizes a_lefts a_costs a_lengths a_operators a_spans a' a_ways a_tasks a_list) :
    wY_makeStates_85 post J (nI o) 0 x3 x4 (nI 0) (nI 24) (nI 0) 24 f_noted f_depth f_rules f_planted f_trees (nI c) f_known f_listed a_marks a_sizes a_lefts a_costs a_lengths a_operators a_spans a_least a_ways a_tasks a_list := by
  refine nm_r (e' := nI 24) rfl ?_
  refine yc_wo (n := 45) (x := 24) (y := 24) ok hy (by omega) ho (by omega) (by omega) (fun _ => rfl) (fun _ => by omega) (fun _ => by omega) (xr := fun _ => 1000000) (yr := fun _ => 1000000) (fun _ => Nat.le_refl _) (fun _ => Nat.le_refl _)
    (fun z => hz (by have := hco (by omega); omega)) (fun z => hz (by have := hco z; omega)) (fun a' f1 f2 => ?_)
  refine yz_keep ok hR hy hc rfl (fun e => tc_row_le e 4) f2 (fun e he => tz_row hR he) (fun z => tc_yw_fr ok hy f1 (by omega) (hz z)) (fun a2 h2 => ?_)
  rcases Nat.eq_zero_or_pos c with e0 | e0
  · subst e0
    exact br_f (by decide) (nm_r (nI_1 0) (hp a2 h2))
  · have e1 : c = 1 := by omega
    subst e1
    exact br_t rfl (br_t rfl (nm_r (nI_1 0) (hp a2 h2)))
theorem yz_make (ok : tc_ok S) (hR : tc_R S = 0) {post : Int32 → SY → Prop} {f_noted : Int32} {f_depth : Int32} {f_rules : Int32} {f_planted : Int32} {f_trees : Int32} {f_stateCount : Int32} {f_known : Int32} {f_listed : Int32} {a_marks : Nat → Int32} {a_sizes : Nat → Int32} {a_lefts : Nat → Int32} {a_costs : Nat → Int32} {a_lengths : Nat → Int32} {a_operators : Nat → Int32} {a_spans : Nat → Int32} {a_least : Nat → Int32} {a_ways : Nat → Int32} {a_tasks : Nat → Int32} {a_list : Nat → Int32} (hy : tc_yr S len ent f_rules a_lefts a_costs a_lengths a_marks a_sizes) {o c : Nat} (ho : o < 6) (hc : c ≤ 1) (hsc : f_stateCount = nI c)
    (hco : 2 ≤ o → c = 1) (hz : 1 ≤ c → tc_yw S len ent a_least 24 (fun _ => 1000000))
    (hp : ∀ a' : Nat → Int32, tc_yw S len ent a' 24 (fun _ => 1000000) → post (nI (1 - c)) (f_noted, f_depth, f_rules, f_planted, f_trees, nI 1, f_known, f_listed, a_marks, a_sizes, a_lefts, a_costs, a_lengths, a_operators, a_spans, a', a_ways, a_tasks, a_list)) : wpY_makeStates post (f_noted, f_depth, f_rules, f_planted, f_trees, f_stateCount, f_known, f_listed, a_marks, a_sizes, a_lefts, a_costs, a_lengths, a_operators, a_spans, a_least, a_ways, a_tasks, a_list) (nI o) := by
  subst hsc
  have k42 : ∀ many : Nat, (2 ≤ o → many = 1) → wY_makeStates_42 post (nI o) (nI 1) (nI many) 2 (nI 0) (nI 0) f_noted f_depth f_rules f_planted f_trees (nI c) f_known f_listed a_marks a_sizes a_lefts a_costs a_lengths a_operators a_spans a_least a_ways a_tasks a_list := fun many hm => by
    have e85 : wY_makeStates_85 post (wY_makeStates_42 post (nI o) (nI 1) (nI many) 1) (nI o) (nI 0) (nI 1) (nI many) (nI 0) (nI 24) (nI 0) 24 f_noted f_depth f_rules f_planted f_trees (nI c) f_known f_listed a_marks a_sizes a_lefts a_costs a_lengths a_operators a_spans a_least a_ways a_tasks a_list := by
      refine yz_85 ok hR hy ho hc hco hz (fun a' h' => br_t (nI_le (a := 1) (b := 1) (Nat.le_refl _) (by decide)) ⟨?_, hp a' h'⟩)
      rcases Nat.eq_zero_or_pos c with e0 | e0
      · subst e0
        exact tc_nb1
      · have e1 : c = 1 := by omega
        subst e1
        exact tc_nb0
    refine br_f (nI_ge (a := 0) (b := 1) (by decide) (by decide)) ?_
    refine pk_le 4 o (fun h4 => ?_) (fun h4 => ?_) rfl rfl (by omega) (by omega)
    · have e1 := hm (by omega)
      subst e1
      exact ⟨by decide, nm_r (e' := nI 24) (by decide) (br_t (nI_le (a := 4) h4 (by omega)) ⟨by decide, e85⟩)⟩
    · exact nm_r (e' := nI 24) rfl (br_f (nI_ge (b := 4) h4 (by decide)) e85)
  refine pk_le 2 o (fun h2 => ?_) (fun h2 => ?_) rfl rfl (by omega) (by omega)
  · have e1 := hco h2
    subst e1
    exact pk_le 4 o (fun h4 => nm_r (e' := nI 1) (by decide) ⟨2, k42 1 (fun _ => rfl)⟩) (fun h4 => ⟨2, k42 1 (fun _ => rfl)⟩) rfl rfl (by omega) (by omega)
  · exact ⟨2, k42 c (fun z => by omega)⟩
theorem yz_32 (ok : tc_ok S) (hR : tc_R S = 0) {post : SY → Prop} {J : Int32 → Int32 → Int32 → Int32 → Int32 → Int32 → Int32 → Int32 → Int32 → (Nat → Int32) → (Nat → Int32) → (Nat → Int32) → (Nat → Int32) → (Nat → Int32) → (Nat → Int32) → (Nat → Int32) → (Nat → Int32) → (Nat → Int32) → (Nat → Int32) → (Nat → Int32) → Prop} {f_noted : Int32} {f_depth : Int32} {f_rules : Int32} {f_planted : Int32} {f_trees : Int32} {f_known : Int32} {f_listed : Int32} {a_marks : Nat → Int32} {a_sizes : Nat → Int32} {a_lefts : Nat → Int32} {a_costs : Nat → Int32} {a_lengths : Nat → Int32} {a_operators : Nat → Int32} {a_spans : Nat → Int32} {a_ways : Nat → Int32} {a_tasks : Nat → Int32} {a_list : Nat → Int32} (hy : tc_yr S len ent f_rules a_lefts a_costs a_lengths a_marks a_sizes) {x : Nat} (hx : x ≤ 1)
    (hp : ∀ a' : Nat → Int32, tc_yw S len ent a' 24 (fun _ => 1000000) → J (nI x) f_noted f_depth f_rules f_planted f_trees (nI 1) f_known f_listed a_marks a_sizes a_lefts a_costs a_lengths a_operators a_spans a' a_ways a_tasks a_list) :
    ∀ (d o : Nat), o + d = 6 → ∀ a_least : Nat → Int32, tc_yw S len ent a_least 24 (fun _ => 1000000) → ∀ m, d < m → wY_findStates_32 post J m (nI x) (nI o) f_noted f_depth f_rules f_planted f_trees (nI 1) f_known f_listed a_marks a_sizes a_lefts a_costs a_lengths a_operators a_spans a_least a_ways a_tasks a_list := by
  intro d
  induction d with
  | zero =>
    intro o ho a_least h24 m hm
    obtain ⟨m', rfl⟩ : ∃ m', m = m' + 1 := ⟨m - 1, by omega⟩
    exact br_t (nI_le (a := 6) (by omega) (by omega)) (hp _ h24)
  | succ d ih =>
    intro o ho a_least h24 m hm
    obtain ⟨m', rfl⟩ : ∃ m', m = m' + 1 := ⟨m - 1, by omega⟩
    refine br_f (nI_ge (b := 6) (by omega) (by decide)) ?_
    refine yz_make (c := 1) ok hR hy (by omega) (by omega) rfl (fun _ => rfl) (fun _ => h24) (fun a' h' => br_t rfl ?_)
    have nxt := ih (o + 1) (by omega) a' h' m' (by omega)
    rcases Nat.eq_zero_or_pos x with e0 | e0
    · subst e0
      exact br_t rfl (nm_r (nI_1 o) nxt)
    · have e1 : x = 1 := by omega
      subst e1
      exact br_f (by decide) (nm_r (nI_1 o) nxt)
theorem yz_find (ok : tc_ok S) (hR : tc_R S = 0) {post : SY → Prop} {f_noted : Int32} {f_depth : Int32} {f_rules : Int32} {f_planted : Int32} {f_trees : Int32} {f_stateCount : Int32} {f_known : Int32} {f_listed : Int32} {a_marks : Nat → Int32} {a_sizes : Nat → Int32} {a_lefts : Nat → Int32} {a_costs : Nat → Int32} {a_lengths : Nat → Int32} {a_operators : Nat → Int32} {a_spans : Nat → Int32} {a_least : Nat → Int32} {a_ways : Nat → Int32} {a_tasks : Nat → Int32} {a_list : Nat → Int32} (hy : tc_yr S len ent f_rules a_lefts a_costs a_lengths a_marks a_sizes) (hk : f_known = 0)
    (hp : ∀ a' : Nat → Int32, tc_yw S len ent a' 24 (fun _ => 1000000) → post (f_noted, f_depth, f_rules, f_planted, f_trees, nI 1, 1, f_listed, a_marks, a_sizes, a_lefts, a_costs, a_lengths, a_operators, a_spans, a', a_ways, a_tasks, a_list)) : wpY_findStates post (f_noted, f_depth, f_rules, f_planted, f_trees, f_stateCount, f_known, f_listed, a_marks, a_sizes, a_lefts, a_costs, a_lengths, a_operators, a_spans, a_least, a_ways, a_tasks, a_list) := by
  refine br_t hk ⟨3, br_f (by decide) (br_f (by decide) ⟨7, ?_⟩)⟩
  refine br_f (by decide) ?_
  refine yz_make (o := 0) (c := 0) ok hR hy (by omega) (by omega) rfl (fun z => by omega) (fun z => by omega) (fun a1 h1 => br_f (by decide) (nm_r (nI_1 0) ?_))
  refine yz_32 (x := 1) ok hR hy (by omega) (fun a2 h2 => ?_) 5 1 (by omega) a1 h1 6 (by omega)
  refine br_f (by decide) (br_f (by decide) ⟨7, ?_⟩)
  refine yz_32 (x := 0) ok hR hy (by omega) (fun a3 h3 => ?_) 6 0 (by omega) a2 h2 7 (by omega)
  exact br_t rfl (hp a3 h3)
end
def tz_fx (u : SX) : Prop := match u with
  | (f_patternDepth, f_patternNodes, f_ruleCount, f_entryCount, f_treeDepth, f_treeNodes, f_stateCount, f_coverLength, f_pendingCount, a_patternStack, a_patternSymbol, a_patternFirst, a_patternLast, a_patternEntry, a_ruleLeft, a_ruleCost, a_ruleEntry, a_ruleStart, a_entryOperator, a_entryFirst, a_entryLast, a_treeStack, a_treeOperator, a_treeFirst, a_treeLast, a_treeSize, a_treeCosts, a_treeWays, a_stateCosts, a_cover, a_pendingEntry, a_pendingNode) => f_ruleCount = 0
def tz_fy (v : SY) : Prop := match v with
  | (f_noted, f_depth, f_rules, f_planted, f_trees, f_stateCount, f_known, f_listed, a_marks, a_sizes, a_lefts, a_costs, a_lengths, a_operators, a_spans, a_least, a_ways, a_tasks, a_list) => f_known = 0
theorem cz_init : wpX_init (fun u => wpY_init (fun v => tc_rel u v ∧ ((0 : Nat) = 0 → tz_fx u ∧ tz_fy v))) := ⟨cm_init, fun _ => ⟨rfl, rfl⟩⟩
section
variable {Q : Int32 → SX → Int32 → SY → Prop}
theorem cz_states {u : SX} {v : SY} (I : tc_rel u v) (hfx : tz_fx u) (hfy : tz_fy v) (hQ : ∀ r u' v', tc_rel u' v' → Q r u' r v') : wpX_states (fun r u' => wpY_states (fun r' v' => Q r u' r' v') v) u := by
  obtain ⟨S, len, ent, pn, pd, py, pz, pk, tn, td, ty, tz, tk, G, hX, hY⟩ := I
  obtain ⟨f_patternDepth, f_patternNodes, f_ruleCount, f_entryCount, f_treeDepth, f_treeNodes, f_stateCount, f_coverLength, f_pendingCount, a_patternStack, a_patternSymbol, a_patternFirst, a_patternLast, a_patternEntry, a_ruleLeft, a_ruleCost, a_ruleEntry, a_ruleStart, a_entryOperator, a_entryFirst, a_entryLast, a_treeStack, a_treeOperator, a_treeFirst, a_treeLast, a_treeSize, a_treeCosts, a_treeWays, a_stateCosts, a_cover, a_pendingEntry, a_pendingNode⟩ := u
  obtain ⟨f_noted, f_depth, f_rules, f_planted, f_trees, g_stateCount, f_known, f_listed, a_marks, a_sizes, a_lefts, a_costs, a_lengths, a_operators, a_spans, a_least, a_ways, a_tasks, a_list⟩ := v
  have G' := G
  obtain ⟨ok, F, p7, p6, p10, T, t24, t8, t6⟩ := G
  obtain ⟨xr, xp, xt⟩ := hX
  obtain ⟨yr, yp, yt, c0, cc, c21⟩ := hY
  have hR10 := ok.1
  have hR : tc_R S = 0 := by
    have h1 : (0 : Int32) = nI (tc_R S) := hfx.symm.trans xr.1
    exact ((nI_eq (a := 0) (by decide) (by omega)).mp h1).symm
  unfold wpX_states
  refine xz_coll ok hR xr (fun a' h' => br_t (by decide) ?_)
  unfold wpY_states
  refine yz_find ok hR yr hfy (fun b hb => br_t (by decide) ?_)
  exact hQ _ _ _ ⟨S, len, ent, pn, pd, py, pz, pk, tn, td, ty, tz, tk, G', ⟨xr, xp, xt⟩, ⟨yr, yp, yt, 1, rfl, by omega⟩⟩
theorem cz_covering {u : SX} {v : SY} (I : tc_rel u v) (hfx : tz_fx u) (hfy : tz_fy v) (hQ : ∀ r u' v', tc_rel u' v' → Q r u' r v') (v1 : Int32) : wpX_covering (fun r u' => wpY_covering (fun r' v' => Q r u' r' v') v v1) u v1 := by
  obtain ⟨S, len, ent, pn, pd, py, pz, pk, tn, td, ty, tz, tk, G, hX, hY⟩ := I
  obtain ⟨f_patternDepth, f_patternNodes, f_ruleCount, f_entryCount, f_treeDepth, f_treeNodes, f_stateCount, f_coverLength, f_pendingCount, a_patternStack, a_patternSymbol, a_patternFirst, a_patternLast, a_patternEntry, a_ruleLeft, a_ruleCost, a_ruleEntry, a_ruleStart, a_entryOperator, a_entryFirst, a_entryLast, a_treeStack, a_treeOperator, a_treeFirst, a_treeLast, a_treeSize, a_treeCosts, a_treeWays, a_stateCosts, a_cover, a_pendingEntry, a_pendingNode⟩ := u
  obtain ⟨f_noted, f_depth, f_rules, f_planted, f_trees, g_stateCount, f_known, f_listed, a_marks, a_sizes, a_lefts, a_costs, a_lengths, a_operators, a_spans, a_least, a_ways, a_tasks, a_list⟩ := v
  have same : ∀ r, Q r _ r _ := fun r => hQ r _ _ ⟨S, len, ent, pn, pd, py, pz, pk, tn, td, ty, tz, tk, G, hX, hY⟩
  have G' := G
  obtain ⟨ok, F, p7, p6, p10, T, t24, t8, t6⟩ := G
  obtain ⟨xr, xp, xt⟩ := hX
  obtain ⟨yr, yp, yt, c0, cc, c21⟩ := hY
  have hR10 := ok.1
  have hR : tc_R S = 0 := by
    have h1 : (0 : Int32) = nI (tc_R S) := hfx.symm.trans xr.1
    exact ((nI_eq (a := 0) (by decide) (by omega)).mp h1).symm
  unfold wpX_covering
  rcases pk_ix v1 (n := 4) (by decide) with h | h | ⟨g, hg, rfl⟩
  · exact xm_goal_lo h (br_t rfl (br_t h (same _)))
  · exact xm_goal_hi h (br_t rfl (br_f (tc_pos_hi h (by decide)) (br_f (tc_nle_hi (n := 3) h (by decide)) (same _))))
  · refine xm_goal_ok hg (br_f (by decide) ?_)
    refine xz_coll ok hR xr (fun a' h' => br_t (by decide) ⟨2, ?_⟩)
    have w : (0 : Int32) * 74 + nI g = nI (0 * 74 + g) := by rw [show (0 : Int32) = nI 0 from rfl, show (74 : Int32) = nI 74 from rfl, pk_mul, nI_add]
    refine br_f (by decide) ⟨by rw [w]; exact vp_in_nI (by omega) (by decide), br_t (by rw [w, nI_clamp (by omega), h' g hg]; rfl) (nm_r (e' := nI 1) rfl (br_t (by decide) ?_))⟩
    refine br_f (nI_pos (by omega)) (br_t (nI_le (b := 3) (by omega) (by decide)) ?_)
    refine yz_find ok hR yr hfy (fun b hb => ⟨2, ?_⟩)
    have w2 : (74 : Int32) * (24 + 0) + nI g = nI (74 * 24 + g) := by rw [show (24 : Int32) + 0 = nI 24 from rfl, show (74 : Int32) = nI 74 from rfl, pk_mul, nI_add]
    refine br_f (by decide) ⟨by rw [w2]; exact vp_in_nI (by omega) (by decide), br_t (by rw [w2, nI_clamp (by omega), hb.1 g hg]; exact nI_le (a := 1000000) (b := 1000000) (Nat.le_refl _) (by decide)) (nm_r (e' := nI 1) rfl (br_t (by decide) (br_t (by decide) ?_)))⟩
    exact hQ _ _ _ ⟨S, len, ent, pn, pd, py, pz, pk, tn, td, ty, tz, tk, G', ⟨xr, xp, xt⟩, ⟨yr, yp, yt, 1, rfl, by omega⟩⟩
end
