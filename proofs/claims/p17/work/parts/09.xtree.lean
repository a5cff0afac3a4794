section
variable {S : tc_S} {post : SX → Prop}
theorem xtc_a_lp (ok : tc_ok S) {b : Nat} (hb : b + 74 ≤ 1776) {f_patternDepth : Int32} {f_patternNodes : Int32} {f_ruleCount : Int32} {f_entryCount : Int32} {f_treeDepth : Int32} {f_treeNodes : Int32} {f_stateCount : Int32} {f_coverLength : Int32} {f_pendingCount : Int32} {a_patternStack : Nat → Int32} {a_patternSymbol : Nat → Int32} {a_patternFirst : Nat → Int32} {a_patternLast : Nat → Int32} {a_patternEntry : Nat → Int32} {a_ruleLeft : Nat → Int32} {a_ruleCost : Nat → Int32} {a_ruleEntry : Nat → Int32} {a_ruleStart : Nat → Int32} {a_entryOperator : Nat → Int32} {a_entryFirst : Nat → Int32} {a_entryLast : Nat → Int32} {a_treeStack : Nat → Int32} {a_treeOperator : Nat → Int32} {a_treeFirst : Nat → Int32} {a_treeLast : Nat → Int32} {a_treeSize : Nat → Int32} {a_treeWays : Nat → Int32} {a_stateCosts : Nat → Int32} {a_cover : Nat → Int32} {a_pendingEntry : Nat → Int32} {a_pendingNode : Nat → Int32} (hx : tc_xr S f_ruleCount f_entryCount a_ruleLeft a_ruleCost a_ruleEntry a_ruleStart a_entryOperator a_entryFirst a_entryLast)
    {t : Nat → Nat} (hK : ∀ e, t e ≤ 536870912) : ∀ (d r : Nat), r + d = tc_R S → ∀ a_treeCosts : Nat → Int32, tc_tr a_treeCosts b (tc_E S) (tc_rd S t r) →
    (∀ a', tc_fr a_treeCosts a' b → tc_tr a' b (tc_E S) (tc_rd S t (tc_R S)) → post (f_patternDepth, f_patternNodes, f_ruleCount, f_entryCount, f_treeDepth, f_treeNodes, f_stateCount, f_coverLength, f_pendingCount, a_patternStack, a_patternSymbol, a_patternFirst, a_patternLast, a_patternEntry, a_ruleLeft, a_ruleCost, a_ruleEntry, a_ruleStart, a_entryOperator, a_entryFirst, a_entryLast, a_treeStack, a_treeOperator, a_treeFirst, a_treeLast, a_treeSize, a', a_treeWays, a_stateCosts, a_cover, a_pendingEntry, a_pendingNode)) → ∀ m, d < m → wX_applyRules__treeCosts_2 post (nI b) f_patternDepth f_patternNodes f_ruleCount f_entryCount f_treeDepth f_treeNodes f_stateCount f_coverLength f_pendingCount m (nI r) a_patternStack a_patternSymbol a_patternFirst a_patternLast a_patternEntry a_ruleLeft a_ruleCost a_ruleEntry a_ruleStart a_entryOperator a_entryFirst a_entryLast a_treeStack a_treeOperator a_treeFirst a_treeLast a_treeSize a_treeCosts a_treeWays a_stateCosts a_cover a_pendingEntry a_pendingNode := by
  obtain ⟨rfl, rfl, hx3, hx4⟩ := hx
  have hE := tc_ok_E ok
  have hR := ok.1
  intro d
  induction d with
  | zero =>
    intro r hr a_treeCosts ht hp m hm
    obtain ⟨m', rfl⟩ : ∃ m', m = m' + 1 := ⟨m - 1, by omega⟩
    have e : r = tc_R S := by omega
    subst e
    exact br_t (nI_le (Nat.le_refl _) (by omega)) (hp _ (tc_fr_refl _ _) ht)
  | succ d ih =>
    intro r hr a_treeCosts ht hp m hm
    obtain ⟨m', rfl⟩ : ∃ m', m = m' + 1 := ⟨m - 1, by omega⟩
    have hr' : r < tc_R S := by omega
    obtain ⟨l1, l2, l3, l4⟩ := tc_ok_r ok hr'
    obtain ⟨x1, x2, x3, _⟩ := hx3 r hr'
    have c : (nI r).toNatClampNeg = r := nI_clamp (by omega)
    have q1 := Nat.le_trans (tc_rd_le (S := S) (t := t) (k := r) (by omega) (tc_rt S r)) (hK _)
    have q2 := Nat.le_trans (tc_rd_le (S := S) (t := t) (k := r) (by omega) (tc_lf S r)) (hK _)
    have hl := ht (tc_lf S r) (by omega)
    refine br_f (nI_ge hr' (by omega)) ⟨vp_in_nI (by omega) (by decide), vp_in_nI (by omega) (by decide), ?_, ?_⟩
    · rw [c, x3, nI_add]
      exact vp_in_nI (by omega) (by decide)
    · refine nm_r (e' := nI (tc_co S r + tc_rd S t r (tc_rt S r))) (by rw [c, x2, x3, nI_add, nI_clamp (by omega), ht _ l3, nI_add]) ⟨vp_in_nI (by omega) (by decide), ?_⟩
      refine nm_r (e' := nI (b + tc_lf S r)) (by rw [c, x1, nI_add]) ⟨vp_in_nI (by omega) (by decide), ?_⟩
      refine pk_le (tc_rd S t r (tc_lf S r)) (tc_co S r + tc_rd S t r (tc_rt S r)) (fun h => ?_) (fun h => ?_) (by rw [nI_clamp (by omega)]; exact hl) rfl (by omega) (by omega)
      · refine nm_r (nI_1 r) ?_
        have e1 : tc_rd S t (r + 1) = tc_rd S t r := tc_st_no h
        exact ih (r + 1) (by omega) a_treeCosts (by rw [e1]; exact ht) hp m' (by omega)
      · refine ⟨vp_in_nI (by omega) (by decide), nm_r (e' := upd a_treeCosts (b + tc_lf S r) (nI (tc_co S r + tc_rd S t r (tc_rt S r)))) (by rw [nI_clamp (by omega)]) (nm_r (nI_1 r) ?_)⟩
        have e1 : tc_rd S t (r + 1) = tc_un (tc_rd S t r) (tc_lf S r) (tc_co S r + tc_rd S t r (tc_rt S r)) := (tc_st_un h).symm
        exact ih (r + 1) (by omega) _ (by rw [e1]; exact tc_tr_upd ht) (fun a' hf hr => hp a' (tc_fr_trans (tc_fr_upd (by omega)) hf) hr) m' (by omega)
theorem xtc_a_wp (ok : tc_ok S) {b : Nat} (hb : b + 74 ≤ 1776) {f_patternDepth : Int32} {f_patternNodes : Int32} {f_ruleCount : Int32} {f_entryCount : Int32} {f_treeDepth : Int32} {f_treeNodes : Int32} {f_stateCount : Int32} {f_coverLength : Int32} {f_pendingCount : Int32} {a_patternStack : Nat → Int32} {a_patternSymbol : Nat → Int32} {a_patternFirst : Nat → Int32} {a_patternLast : Nat → Int32} {a_patternEntry : Nat → Int32} {a_ruleLeft : Nat → Int32} {a_ruleCost : Nat → Int32} {a_ruleEntry : Nat → Int32} {a_ruleStart : Nat → Int32} {a_entryOperator : Nat → Int32} {a_entryFirst : Nat → Int32} {a_entryLast : Nat → Int32} {a_treeStack : Nat → Int32} {a_treeOperator : Nat → Int32} {a_treeFirst : Nat → Int32} {a_treeLast : Nat → Int32} {a_treeSize : Nat → Int32} {a_treeCosts : Nat → Int32} {a_treeWays : Nat → Int32} {a_stateCosts : Nat → Int32} {a_cover : Nat → Int32} {a_pendingEntry : Nat → Int32} {a_pendingNode : Nat → Int32} (hx : tc_xr S f_ruleCount f_entryCount a_ruleLeft a_ruleCost a_ruleEntry a_ruleStart a_entryOperator a_entryFirst a_entryLast)
    {t : Nat → Nat} (hK : ∀ e, t e ≤ 536870912) (ht : tc_tr a_treeCosts b (tc_E S) t) (hp : ∀ a', tc_fr a_treeCosts a' b → tc_tr a' b (tc_E S) (tc_rd S t (tc_R S)) → post (f_patternDepth, f_patternNodes, f_ruleCount, f_entryCount, f_treeDepth, f_treeNodes, f_stateCount, f_coverLength, f_pendingCount, a_patternStack, a_patternSymbol, a_patternFirst, a_patternLast, a_patternEntry, a_ruleLeft, a_ruleCost, a_ruleEntry, a_ruleStart, a_entryOperator, a_entryFirst, a_entryLast, a_treeStack, a_treeOperator, a_treeFirst, a_treeLast, a_treeSize, a', a_treeWays, a_stateCosts, a_cover, a_pendingEntry, a_pendingNode)) :
    wpX_applyRules__treeCosts post (f_patternDepth, f_patternNodes, f_ruleCount, f_entryCount, f_treeDepth, f_treeNodes, f_stateCount, f_coverLength, f_pendingCount, a_patternStack, a_patternSymbol, a_patternFirst, a_patternLast, a_patternEntry, a_ruleLeft, a_ruleCost, a_ruleEntry, a_ruleStart, a_entryOperator, a_entryFirst, a_entryLast, a_treeStack, a_treeOperator, a_treeFirst, a_treeLast, a_treeSize, a_treeCosts, a_treeWays, a_stateCosts, a_cover, a_pendingEntry, a_pendingNode) (nI b) :=
  ⟨tc_R S + 1, xtc_a_lp ok hb hx hK (tc_R S) 0 (by omega) a_treeCosts ht hp _ (by omega)⟩
theorem xtc_f_96 (ok : tc_ok S) {b : Nat} (hb : b + 74 ≤ 1776) {f_patternDepth : Int32} {f_patternNodes : Int32} {f_ruleCount : Int32} {f_entryCount : Int32} {f_treeDepth : Int32} {f_treeNodes : Int32} {f_stateCount : Int32} {f_coverLength : Int32} {f_pendingCount : Int32} {a_patternStack : Nat → Int32} {a_patternSymbol : Nat → Int32} {a_patternFirst : Nat → Int32} {a_patternLast : Nat → Int32} {a_patternEntry : Nat → Int32} {a_ruleLeft : Nat → Int32} {a_ruleCost : Nat → Int32} {a_ruleEntry : Nat → Int32} {a_ruleStart : Nat → Int32} {a_entryOperator : Nat → Int32} {a_entryFirst : Nat → Int32} {a_entryLast : Nat → Int32} {a_treeStack : Nat → Int32} {a_treeOperator : Nat → Int32} {a_treeFirst : Nat → Int32} {a_treeLast : Nat → Int32} {a_treeSize : Nat → Int32} {a_treeWays : Nat → Int32} {a_stateCosts : Nat → Int32} {a_cover : Nat → Int32} {a_pendingEntry : Nat → Int32} {a_pendingNode : Nat → Int32} (hx : tc_xr S f_ruleCount f_entryCount a_ruleLeft a_ruleCost a_ruleEntry a_ruleStart a_entryOperator a_entryFirst a_entryLast)
    {t : Nat → Nat} (hK : ∀ n e, tc_it S t n e ≤ 536870912) : ∀ (d k : Nat), k + d = 4 → ∀ a_treeCosts : Nat → Int32, tc_tr a_treeCosts b (tc_E S) (tc_it S t k) →
    (∀ a', tc_fr a_treeCosts a' b → tc_tr a' b (tc_E S) (tc_it S t 4) → post (f_patternDepth, f_patternNodes, f_ruleCount, f_entryCount, f_treeDepth, f_treeNodes, f_stateCount, f_coverLength, f_pendingCount, a_patternStack, a_patternSymbol, a_patternFirst, a_patternLast, a_patternEntry, a_ruleLeft, a_ruleCost, a_ruleEntry, a_ruleStart, a_entryOperator, a_entryFirst, a_entryLast, a_treeStack, a_treeOperator, a_treeFirst, a_treeLast, a_treeSize, a', a_treeWays, a_stateCosts, a_cover, a_pendingEntry, a_pendingNode)) → ∀ m, d < m → wX_fillCosts__treeCosts_96 post (nI b) m (nI k) f_patternDepth f_patternNodes f_ruleCount f_entryCount f_treeDepth f_treeNodes f_stateCount f_coverLength f_pendingCount a_patternStack a_patternSymbol a_patternFirst a_patternLast a_patternEntry a_ruleLeft a_ruleCost a_ruleEntry a_ruleStart a_entryOperator a_entryFirst a_entryLast a_treeStack a_treeOperator a_treeFirst a_treeLast a_treeSize a_treeCosts a_treeWays a_stateCosts a_cover a_pendingEntry a_pendingNode := by
  intro d
  induction d with
  | zero =>
    intro k hk a_treeCosts ht hp m hm
    obtain ⟨m', rfl⟩ : ∃ m', m = m' + 1 := ⟨m - 1, by omega⟩
    have e : k = 4 := by omega
    subst e
    exact br_t (nI_le (a := 4) (Nat.le_refl _) (by decide)) (hp _ (tc_fr_refl _ _) ht)
  | succ d ih =>
    intro k hk a_treeCosts ht hp m hm
    obtain ⟨m', rfl⟩ : ∃ m', m = m' + 1 := ⟨m - 1, by omega⟩
    refine br_f (nI_ge (b := 4) (by omega) (by decide)) ?_
    refine xtc_a_wp ok hb hx (hK k) ht (fun a' hf hr => ?_)
    exact nm_r (nI_1 k) (ih (k + 1) (by omega) a' hr (fun a'' hf' hr' => hp a'' (tc_fr_trans hf hf') hr') m' (by omega))
theorem xtc_c_wp (ok : tc_ok S) {post : Int32 → Prop} {f_patternDepth : Int32} {f_patternNodes : Int32} {f_ruleCount : Int32} {f_entryCount : Int32} {f_treeDepth : Int32} {f_treeNodes : Int32} {f_stateCount : Int32} {f_coverLength : Int32} {f_pendingCount : Int32} {a_patternStack : Nat → Int32} {a_patternSymbol : Nat → Int32} {a_patternFirst : Nat → Int32} {a_patternLast : Nat → Int32} {a_patternEntry : Nat → Int32} {a_ruleLeft : Nat → Int32} {a_ruleCost : Nat → Int32} {a_ruleEntry : Nat → Int32} {a_ruleStart : Nat → Int32} {a_entryOperator : Nat → Int32} {a_entryFirst : Nat → Int32} {a_entryLast : Nat → Int32} {a_treeStack : Nat → Int32} {a_treeOperator : Nat → Int32} {a_treeFirst : Nat → Int32} {a_treeLast : Nat → Int32} {a_treeSize : Nat → Int32} {a_treeCosts : Nat → Int32} {a_treeWays : Nat → Int32} {a_stateCosts : Nat → Int32} {a_cover : Nat → Int32} {a_pendingEntry : Nat → Int32} {a_pendingNode : Nat → Int32} (hx : tc_xr S f_ruleCount f_entryCount a_ruleLeft a_ruleCost a_ruleEntry a_ruleStart a_entryOperator a_entryFirst a_entryLast)
    {e o : Nat} {fi la : Int32} {x y : Nat → Nat} (he : 4 ≤ e) (hE : e < tc_E S) (ho : o < 6) (heo : tc_eo S e = o)
    (hy : 2 ≤ o → ∃ l, la = nI l ∧ l < 24 ∧ ∀ e, e < tc_E S → a_treeCosts (l * 74 + e) = nI (y e) ∧ y e ≤ 536870912)
    (hf : 4 ≤ o → ∃ l, fi = nI l ∧ l < 24 ∧ ∀ e, e < tc_E S → a_treeCosts (l * 74 + e) = nI (x e) ∧ x e ≤ 536870912)
    (h : post (nI (tc_op S 536870912 o x y e))) : wpX_costOfParts__treeCosts post (f_patternDepth, f_patternNodes, f_ruleCount, f_entryCount, f_treeDepth, f_treeNodes, f_stateCount, f_coverLength, f_pendingCount, a_patternStack, a_patternSymbol, a_patternFirst, a_patternLast, a_patternEntry, a_ruleLeft, a_ruleCost, a_ruleEntry, a_ruleStart, a_entryOperator, a_entryFirst, a_entryLast, a_treeStack, a_treeOperator, a_treeFirst, a_treeLast, a_treeSize, a_treeCosts, a_treeWays, a_stateCosts, a_cover, a_pendingEntry, a_pendingNode) (nI e) (nI (tc_ar o)) fi la := by
  obtain ⟨_, _, _, hx4⟩ := hx
  have hE2 := tc_ok_E ok
  have hk := ok.2.2.2 e he hE
  have c : (nI e).toNatClampNeg = e := nI_clamp (by omega)
  have k51 : ∀ s, s ≤ 1073741824 → post (nI (min 536870912 s)) → wX_costOfParts__treeCosts_51 post (nI s) f_patternDepth f_patternNodes f_ruleCount f_entryCount f_treeDepth f_treeNodes f_stateCount f_coverLength f_pendingCount a_patternStack a_patternSymbol a_patternFirst a_patternLast a_patternEntry a_ruleLeft a_ruleCost a_ruleEntry a_ruleStart a_entryOperator a_entryFirst a_entryLast a_treeStack a_treeOperator a_treeFirst a_treeLast a_treeSize a_treeCosts a_treeWays a_stateCosts a_cover a_pendingEntry a_pendingNode := fun s hs hp => by
    refine pk_le 536870912 s (fun hh => ?_) (fun hh => ?_)
    · rw [Nat.min_eq_left hh] at hp
      exact hp
    · rw [Nat.min_eq_right (by omega)] at hp
      exact hp
  unfold tc_op at h
  rw [if_pos heo] at h
  by_cases h2 : o < 2
  · rw [if_pos h2] at h
    rw [tc_ar0 h2]
    refine br_t (nI_lt (a := 0) (b := 1) (by decide) (by decide)) (br_f (by decide) ?_)
    exact k51 0 (by decide) h
  · obtain ⟨l, rfl, hl, hv⟩ := hy (by omega)
    obtain ⟨v1, v2⟩ := hv (tc_el S e) (by omega)
    have x5 := (hx4 e he hE).2.1 (by omega)
    rw [if_neg h2] at h
    have w1 : nI l * 74 + a_entryLast (nI e).toNatClampNeg = nI (l * 74 + tc_el S e) := by
      rw [c, x5, show (74 : Int32) = nI 74 from rfl, pk_mul, nI_add]
    have w2 : (0 : Int32) + a_treeCosts (nI l * 74 + a_entryLast (nI e).toNatClampNeg).toNatClampNeg = nI (y (tc_el S e)) := by
      rw [w1, nI_clamp (by omega), v1, ← nI_0, nI_add, Nat.zero_add]
    by_cases h4 : o < 4
    · rw [if_pos h4] at h
      rw [tc_ar1 (by omega) h4]
      refine br_f (by decide) ⟨vp_in_nI (by omega) (by decide), ?_, ?_⟩
      · rw [w1]
        exact vp_in_nI (by omega) (by decide)
      · refine nm_r w2 (br_f (by decide) ?_)
        exact k51 _ (by omega) h
    · rw [if_neg h4] at h
      rw [tc_ar2 (by omega)]
      obtain ⟨l', rfl, hl', hv'⟩ := hf (by omega)
      obtain ⟨u1, u2⟩ := hv' (tc_ef S e) (by omega)
      have x6 := (hx4 e he hE).2.2 (by omega)
      have w3 : nI l' * 74 + a_entryFirst (nI e).toNatClampNeg = nI (l' * 74 + tc_ef S e) := by
        rw [c, x6, show (74 : Int32) = nI 74 from rfl, pk_mul, nI_add]
      refine br_f (by decide) ⟨vp_in_nI (by omega) (by decide), ?_, ?_⟩
      · rw [w1]
        exact vp_in_nI (by omega) (by decide)
      · refine nm_r w2 (br_t rfl ⟨vp_in_nI (by omega) (by decide), ?_, ?_⟩)
        · rw [w3]
          exact vp_in_nI (by omega) (by decide)
        · refine nm_r (e' := nI (x (tc_ef S e) + y (tc_el S e))) (by rw [w3, nI_clamp (by omega), u1, nI_add, Nat.add_comm]) ?_
          exact k51 _ (by omega) h
theorem xtc_f_39 (ok : tc_ok S) {ro o : Nat} (hb : ro < 24) (ho : o < 6) {fi la : Int32} {x y : Nat → Nat} {f_patternDepth : Int32} {f_patternNodes : Int32} {f_ruleCount : Int32} {f_entryCount : Int32} {f_treeDepth : Int32} {f_treeNodes : Int32} {f_stateCount : Int32} {f_coverLength : Int32} {f_pendingCount : Int32} {a_patternStack : Nat → Int32} {a_patternSymbol : Nat → Int32} {a_patternFirst : Nat → Int32} {a_patternLast : Nat → Int32} {a_patternEntry : Nat → Int32} {a_ruleLeft : Nat → Int32} {a_ruleCost : Nat → Int32} {a_ruleEntry : Nat → Int32} {a_ruleStart : Nat → Int32} {a_entryOperator : Nat → Int32} {a_entryFirst : Nat → Int32} {a_entryLast : Nat → Int32} {a_treeStack : Nat → Int32} {a_treeOperator : Nat → Int32} {a_treeFirst : Nat → Int32} {a_treeLast : Nat → Int32} {a_treeSize : Nat → Int32} {a_treeWays : Nat → Int32} {a_stateCosts : Nat → Int32} {a_cover : Nat → Int32} {a_pendingEntry : Nat → Int32} {a_pendingNode : Nat → Int32} (hx : tc_xr S f_ruleCount f_entryCount a_ruleLeft a_ruleCost a_ruleEntry a_ruleStart a_entryOperator a_entryFirst a_entryLast) :
    ∀ (d e : Nat), e + d = tc_E S → 4 ≤ e → ∀ a_treeCosts : Nat → Int32, tc_tr a_treeCosts (ro * 74) e (tc_i0 S 536870912 o x y) →
    (2 ≤ o → ∃ l, la = nI l ∧ l < 24 ∧ l ≠ ro ∧ ∀ e, e < tc_E S → a_treeCosts (l * 74 + e) = nI (y e) ∧ y e ≤ 536870912) →
    (4 ≤ o → ∃ l, fi = nI l ∧ l < 24 ∧ l ≠ ro ∧ ∀ e, e < tc_E S → a_treeCosts (l * 74 + e) = nI (x e) ∧ x e ≤ 536870912) →
    (∀ a', tc_fr a_treeCosts a' (ro * 74) → tc_tr a' (ro * 74) (tc_E S) (tc_row S 536870912 o x y) → post (f_patternDepth, f_patternNodes, f_ruleCount, f_entryCount, f_treeDepth, f_treeNodes, f_stateCount, f_coverLength, f_pendingCount, a_patternStack, a_patternSymbol, a_patternFirst, a_patternLast, a_patternEntry, a_ruleLeft, a_ruleCost, a_ruleEntry, a_ruleStart, a_entryOperator, a_entryFirst, a_entryLast, a_treeStack, a_treeOperator, a_treeFirst, a_treeLast, a_treeSize, a', a_treeWays, a_stateCosts, a_cover, a_pendingEntry, a_pendingNode)) →
    ∀ m, d < m → wX_fillCosts__treeCosts_39 post (nI o) fi la (nI (tc_ar o)) (nI (ro * 74)) f_patternDepth f_patternNodes f_ruleCount f_entryCount f_treeDepth f_treeNodes f_stateCount f_coverLength f_pendingCount m (nI e) a_patternStack a_patternSymbol a_patternFirst a_patternLast a_patternEntry a_ruleLeft a_ruleCost a_ruleEntry a_ruleStart a_entryOperator a_entryFirst a_entryLast a_treeStack a_treeOperator a_treeFirst a_treeLast a_treeSize a_treeCosts a_treeWays a_stateCosts a_cover a_pendingEntry a_pendingNode := by
  have hE := tc_ok_E ok
  intro d
  induction d with
  | zero =>
    intro e hr he a_treeCosts ht hy hf hp m hm
    obtain ⟨m', rfl⟩ : ∃ m', m = m' + 1 := ⟨m - 1, by omega⟩
    have e1 : e = tc_E S := by omega
    subst e1
    refine br_t (by rw [hx.2.1]; exact nI_le (Nat.le_refl _) (by omega)) ⟨5, ?_⟩
    exact xtc_f_96 ok (by omega) hx (fun n e => tc_row_le e n) 4 0 (by omega) a_treeCosts ht hp 5 (by omega)
  | succ d ih =>
    intro e hr he a_treeCosts ht hy hf hp m hm
    obtain ⟨m', rfl⟩ : ∃ m', m = m' + 1 := ⟨m - 1, by omega⟩
    have heE : e < tc_E S := by omega
    have c : (nI e).toNatClampNeg = e := nI_clamp (by omega)
    have x7 := (hx.2.2.2 e he heE).1
    have hk := ok.2.2.2 e he heE
    have key : ∀ z : Int32, z = nI (tc_op S 536870912 o x y e) → wX_fillCosts__treeCosts_78 post (wX_fillCosts__treeCosts_39 post (nI o) fi la (nI (tc_ar o)) (nI (ro * 74)) f_patternDepth f_patternNodes f_ruleCount f_entryCount f_treeDepth f_treeNodes f_stateCount f_coverLength f_pendingCount m') (nI o) fi la (nI (tc_ar o)) (nI (ro * 74)) (nI e) z f_patternDepth f_patternNodes f_ruleCount f_entryCount f_treeDepth f_treeNodes f_stateCount f_coverLength f_pendingCount a_patternStack a_patternSymbol a_patternFirst a_patternLast a_patternEntry a_ruleLeft a_ruleCost a_ruleEntry a_ruleStart a_entryOperator a_entryFirst a_entryLast a_treeStack a_treeOperator a_treeFirst a_treeLast a_treeSize a_treeCosts a_treeWays a_stateCosts a_cover a_pendingEntry a_pendingNode := fun z hz => by
      have w : (nI (ro * 74) + nI e) = nI (ro * 74 + e) := nI_add _ _
      refine ⟨by rw [w]; exact vp_in_nI (by omega) (by decide), nm_r (e' := upd a_treeCosts (ro * 74 + e) (nI (tc_op S 536870912 o x y e))) (by rw [w, nI_clamp (by omega), hz]) (nm_r (nI_1 e) ?_)⟩
      refine ih (e + 1) (by omega) (by omega) _ ?_ (fun h2 => ?_) (fun h4 => ?_) (fun a' hfa hra => hp a' (tc_fr_trans (tc_fr_upd (by omega)) hfa) hra) m' (by omega)
      · intro j hj
        by_cases cj : j = e
        · rw [cj, pk_us]
          unfold tc_i0
          rw [if_neg (by omega)]
        · rw [pk_un (by omega)]
          exact ht j (by omega)
      · obtain ⟨l, a1, a2, a3, a4⟩ := hy h2
        refine ⟨l, a1, a2, a3, fun j hj => ?_⟩
        rw [pk_un (by omega)]
        exact a4 j hj
      · obtain ⟨l, a1, a2, a3, a4⟩ := hf h4
        refine ⟨l, a1, a2, a3, fun j hj => ?_⟩
        rw [pk_un (by omega)]
        exact a4 j hj
    refine br_f (by rw [hx.2.1]; exact nI_ge heE (by omega)) ⟨vp_in_nI (by omega) (by decide), ?_⟩
    refine pk_eq (tc_eo S e) o (fun h => ?_) (fun h => ?_) (by rw [c]; exact x7) rfl (by omega) (by omega)
    · refine xtc_c_wp ok hx he heE ho h (fun h2 => ?_) (fun h4 => ?_) (key _ rfl)
      · obtain ⟨l, a1, a2, a3, a4⟩ := hy h2
        exact ⟨l, a1, a2, a4⟩
      · obtain ⟨l, a1, a2, a3, a4⟩ := hf h4
        exact ⟨l, a1, a2, a4⟩
    · refine key _ ?_
      unfold tc_op
      rw [if_neg h]
      rfl
theorem xtc_f_15 (ok : tc_ok S) {ro o : Nat} (hb : ro < 24) (ho : o < 6) {fi la : Int32} {x y : Nat → Nat} {f_patternDepth : Int32} {f_patternNodes : Int32} {f_ruleCount : Int32} {f_entryCount : Int32} {f_treeDepth : Int32} {f_treeNodes : Int32} {f_stateCount : Int32} {f_coverLength : Int32} {f_pendingCount : Int32} {a_patternStack : Nat → Int32} {a_patternSymbol : Nat → Int32} {a_patternFirst : Nat → Int32} {a_patternLast : Nat → Int32} {a_patternEntry : Nat → Int32} {a_ruleLeft : Nat → Int32} {a_ruleCost : Nat → Int32} {a_ruleEntry : Nat → Int32} {a_ruleStart : Nat → Int32} {a_entryOperator : Nat → Int32} {a_entryFirst : Nat → Int32} {a_entryLast : Nat → Int32} {a_treeStack : Nat → Int32} {a_treeOperator : Nat → Int32} {a_treeFirst : Nat → Int32} {a_treeLast : Nat → Int32} {a_treeSize : Nat → Int32} {a_treeWays : Nat → Int32} {a_stateCosts : Nat → Int32} {a_cover : Nat → Int32} {a_pendingEntry : Nat → Int32} {a_pendingNode : Nat → Int32} (hx : tc_xr S f_ruleCount f_entryCount a_ruleLeft a_ruleCost a_ruleEntry a_ruleStart a_entryOperator a_entryFirst a_entryLast) :
    ∀ (d e : Nat), e + d = 4 → ∀ a_treeCosts : Nat → Int32, tc_tr a_treeCosts (ro * 74) e (tc_i0 S 536870912 o x y) →
    (2 ≤ o → ∃ l, la = nI l ∧ l < 24 ∧ l ≠ ro ∧ ∀ e, e < tc_E S → a_treeCosts (l * 74 + e) = nI (y e) ∧ y e ≤ 536870912) →
    (4 ≤ o → ∃ l, fi = nI l ∧ l < 24 ∧ l ≠ ro ∧ ∀ e, e < tc_E S → a_treeCosts (l * 74 + e) = nI (x e) ∧ x e ≤ 536870912) →
    (∀ a', tc_fr a_treeCosts a' (ro * 74) → tc_tr a' (ro * 74) (tc_E S) (tc_row S 536870912 o x y) → post (f_patternDepth, f_patternNodes, f_ruleCount, f_entryCount, f_treeDepth, f_treeNodes, f_stateCount, f_coverLength, f_pendingCount, a_patternStack, a_patternSymbol, a_patternFirst, a_patternLast, a_patternEntry, a_ruleLeft, a_ruleCost, a_ruleEntry, a_ruleStart, a_entryOperator, a_entryFirst, a_entryLast, a_treeStack, a_treeOperator, a_treeFirst, a_treeLast, a_treeSize, a', a_treeWays, a_stateCosts, a_cover, a_pendingEntry, a_pendingNode)) →
    ∀ m, d < m → wX_fillCosts__treeCosts_15 post (nI o) fi la (nI (tc_ar o)) (nI (ro * 74)) f_patternDepth f_patternNodes f_ruleCount f_entryCount f_treeDepth f_treeNodes f_stateCount f_coverLength f_pendingCount m (nI e) a_patternStack a_patternSymbol a_patternFirst a_patternLast a_patternEntry a_ruleLeft a_ruleCost a_ruleEntry a_ruleStart a_entryOperator a_entryFirst a_entryLast a_treeStack a_treeOperator a_treeFirst a_treeLast a_treeSize a_treeCosts a_treeWays a_stateCosts a_cover a_pendingEntry a_pendingNode := by
  have hE := tc_ok_E ok
  intro d
  induction d with
  | zero =>
    intro e hr a_treeCosts ht hy hf hp m hm
    obtain ⟨m', rfl⟩ : ∃ m', m = m' + 1 := ⟨m - 1, by omega⟩
    have e1 : e = 4 := by omega
    subst e1
    refine br_t (nI_le (a := 4) (Nat.le_refl _) (by decide)) ⟨tc_E S + 1, ?_⟩
    exact xtc_f_39 ok hb ho hx (tc_E S - 4) 4 (by omega) (Nat.le_refl _) a_treeCosts ht hy hf hp _ (by omega)
  | succ d ih =>
    intro e hr a_treeCosts ht hy hf hp m hm
    obtain ⟨m', rfl⟩ : ∃ m', m = m' + 1 := ⟨m - 1, by omega⟩
    have w : (nI (ro * 74) + nI e) = nI (ro * 74 + e) := nI_add _ _
    refine br_f (nI_ge (b := 4) (by omega) (by decide)) ⟨by rw [w]; exact vp_in_nI (by omega) (by decide), nm_r (e' := upd a_treeCosts (ro * 74 + e) (nI 536870912)) (by rw [w, nI_clamp (by omega)]; rfl) (nm_r (nI_1 e) ?_)⟩
    refine ih (e + 1) (by omega) _ ?_ (fun h2 => ?_) (fun h4 => ?_) (fun a' hfa hra => hp a' (tc_fr_trans (tc_fr_upd (by omega)) hfa) hra) m' (by omega)
    · intro j hj
      by_cases cj : j = e
      · rw [cj, pk_us]
        unfold tc_i0
        rw [if_pos (by omega)]
      · rw [pk_un (by omega)]
        exact ht j (by omega)
    · obtain ⟨l, a1, a2, a3, a4⟩ := hy h2
      refine ⟨l, a1, a2, a3, fun j hj => ?_⟩
      rw [pk_un (by omega)]
      exact a4 j hj
    · obtain ⟨l, a1, a2, a3, a4⟩ := hf h4
      refine ⟨l, a1, a2, a3, fun j hj => ?_⟩
      rw [pk_un (by omega)]
      exact a4 j hj
theorem xtc_f_wp (ok : tc_ok S) {ro o : Nat} (hb : ro < 24) (ho : o < 6) {fi la : Int32} {x y : Nat → Nat} {f_patternDepth : Int32} {f_patternNodes : Int32} {f_ruleCount : Int32} {f_entryCount : Int32} {f_treeDepth : Int32} {f_treeNodes : Int32} {f_stateCount : Int32} {f_coverLength : Int32} {f_pendingCount : Int32} {a_patternStack : Nat → Int32} {a_patternSymbol : Nat → Int32} {a_patternFirst : Nat → Int32} {a_patternLast : Nat → Int32} {a_patternEntry : Nat → Int32} {a_ruleLeft : Nat → Int32} {a_ruleCost : Nat → Int32} {a_ruleEntry : Nat → Int32} {a_ruleStart : Nat → Int32} {a_entryOperator : Nat → Int32} {a_entryFirst : Nat → Int32} {a_entryLast : Nat → Int32} {a_treeStack : Nat → Int32} {a_treeOperator : Nat → Int32} {a_treeFirst : Nat → Int32} {a_treeLast : Nat → Int32} {a_treeSize : Nat → Int32} {a_treeCosts : Nat → Int32} {a_treeWays : Nat → Int32} {a_stateCosts : Nat → Int32} {a_cover : Nat → Int32} {a_pendingEntry : Nat → Int32} {a_pendingNode : Nat → Int32} (hx : tc_xr S f_ruleCount f_entryCount a_ruleLeft a_ruleCost a_ruleEntry a_ruleStart a_entryOperator a_entryFirst a_entryLast)
    (hy : 2 ≤ o → ∃ l, la = nI l ∧ l < 24 ∧ l ≠ ro ∧ ∀ e, e < tc_E S → a_treeCosts (l * 74 + e) = nI (y e) ∧ y e ≤ 536870912)
    (hf : 4 ≤ o → ∃ l, fi = nI l ∧ l < 24 ∧ l ≠ ro ∧ ∀ e, e < tc_E S → a_treeCosts (l * 74 + e) = nI (x e) ∧ x e ≤ 536870912)
    (hp : ∀ a', tc_fr a_treeCosts a' (ro * 74) → tc_tr a' (ro * 74) (tc_E S) (tc_row S 536870912 o x y) → post (f_patternDepth, f_patternNodes, f_ruleCount, f_entryCount, f_treeDepth, f_treeNodes, f_stateCount, f_coverLength, f_pendingCount, a_patternStack, a_patternSymbol, a_patternFirst, a_patternLast, a_patternEntry, a_ruleLeft, a_ruleCost, a_ruleEntry, a_ruleStart, a_entryOperator, a_entryFirst, a_entryLast, a_treeStack, a_treeOperator, a_treeFirst, a_treeLast, a_treeSize, a', a_treeWays, a_stateCosts, a_cover, a_pendingEntry, a_pendingNode)) :
    wpX_fillCosts__treeCosts post (f_patternDepth, f_patternNodes, f_ruleCount, f_entryCount, f_treeDepth, f_treeNodes, f_stateCount, f_coverLength, f_pendingCount, a_patternStack, a_patternSymbol, a_patternFirst, a_patternLast, a_patternEntry, a_ruleLeft, a_ruleCost, a_ruleEntry, a_ruleStart, a_entryOperator, a_entryFirst, a_entryLast, a_treeStack, a_treeOperator, a_treeFirst, a_treeLast, a_treeSize, a_treeCosts, a_treeWays, a_stateCosts, a_cover, a_pendingEntry, a_pendingNode) (nI ro) (nI o) fi la := by
  unfold wpX_fillCosts__treeCosts
  refine xm_parts (o := o) (by omega) ?_
  refine nm_r (e' := nI (ro * 74)) (by rw [show (74 : Int32) = nI 74 from rfl, pk_mul]) ⟨5, ?_⟩
  exact xtc_f_15 ok hb ho hx 4 0 (by omega) a_treeCosts (fun j hj => absurd hj (Nat.not_lt_zero _)) hy hf hp 5 (by omega)
end
