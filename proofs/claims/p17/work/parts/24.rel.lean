/-! patterns on both sides; the relation -/
def tc_xp (pn pd : Nat) (py pz pk : Nat → Nat) (d n : Int32) (st sy fi la : Nat → Int32) : Prop :=
  d = nI pd ∧ n = nI pn ∧ (∀ k, k < pd → st k = nI (pk k)) ∧
  ∀ i, i < pn → sy i = nI (py i) ∧ (2 ≤ py i → py i < 6 → la i = nI (i - 1)) ∧ (4 ≤ py i → py i < 6 → fi i = nI (i - 1 - pz (i - 1)))
def tc_mk (s : Nat) : Nat := if s < 6 then s else s + 4
def tc_yp (pn pd : Nat) (py pz : Nat → Nat) (no de : Int32) (mk sz : Nat → Int32) : Prop :=
  no = nI pn ∧ de = nI pd ∧ ∀ i, i < pn → mk (70 + i) = nI (tc_mk (py i)) ∧ sz (70 + i) = nI (pz i)
def tc_RX (S : tc_S) (pn pd : Nat) (py pz pk : Nat → Nat) (tn td : Nat) (ty tz tk : Nat → Nat) (u : SX) : Prop := match u with
  | (f_patternDepth, f_patternNodes, f_ruleCount, f_entryCount, f_treeDepth, f_treeNodes, f_stateCount, f_coverLength, f_pendingCount, a_patternStack, a_patternSymbol, a_patternFirst, a_patternLast, a_patternEntry, a_ruleLeft, a_ruleCost, a_ruleEntry, a_ruleStart, a_entryOperator, a_entryFirst, a_entryLast, a_treeStack, a_treeOperator, a_treeFirst, a_treeLast, a_treeSize, a_treeCosts, a_treeWays, a_stateCosts, a_cover, a_pendingEntry, a_pendingNode) => tc_xr S f_ruleCount f_entryCount a_ruleLeft a_ruleCost a_ruleEntry a_ruleStart a_entryOperator a_entryFirst a_entryLast ∧
    tc_xp pn pd py pz pk f_patternDepth f_patternNodes a_patternStack a_patternSymbol a_patternFirst a_patternLast ∧
    tc_xt tn td ty tz tk f_treeDepth f_treeNodes a_treeStack a_treeOperator a_treeFirst a_treeLast a_treeSize
def tc_RY (S : tc_S) (len : Nat → Nat) (ent : Nat → Nat → Nat) (pn pd : Nat) (py pz : Nat → Nat) (tn td : Nat) (ty tz : Nat → Nat) (v : SY) : Prop := match v with
  | (f_noted, f_depth, f_rules, f_planted, f_trees, f_stateCount, f_known, f_listed, a_marks, a_sizes, a_lefts, a_costs, a_lengths, a_operators, a_spans, a_least, a_ways, a_tasks, a_list) => tc_yr S len ent f_rules a_lefts a_costs a_lengths a_marks a_sizes ∧ tc_yp pn pd py pz f_noted f_depth a_marks a_sizes ∧ tc_yt tn td ty tz f_planted f_trees a_operators a_spans ∧
    ∃ c, f_stateCount = nI c ∧ c ≤ 21
def tc_G (S : tc_S) (pn pd : Nat) (py pz pk : Nat → Nat) (tn td : Nat) (ty tz tk : Nat → Nat) : Prop :=
  tc_ok S ∧ tc_fo pn pd py pz pk ∧ pn ≤ 7 ∧ pd ≤ 6 ∧ (∀ i, i < pn → py i < 10) ∧ tc_fo tn td ty tz tk ∧ tn ≤ 24 ∧ td ≤ 8 ∧ ∀ i, i < tn → ty i < 6
/-- the arity of a symbol -/
def tc_as (s : Nat) : Nat := if s < 2 then 0 else if s < 4 then 1 else if s < 6 then 2 else 0
def tc_sz (ps : Nat → Nat) (nn a : Nat) : Nat := if a = 0 then 1 else if a = 1 then 1 + ps (nn - 1) else 1 + ps (nn - 1) + ps (nn - 1 - ps (nn - 1))
theorem tc_as0 {s : Nat} (h : s < 2 ∨ 6 ≤ s) : tc_as s = 0 := by
  unfold tc_as
  split
  · rfl
  · rw [if_neg (by omega), if_neg (by omega)]
theorem tc_as1 {s : Nat} (h : 2 ≤ s) (h' : s < 4) : tc_as s = 1 := by
  unfold tc_as
  rw [if_neg (by omega), if_pos h']
theorem tc_as2 {s : Nat} (h : 4 ≤ s) (h' : s < 6) : tc_as s = 2 := by
  unfold tc_as
  rw [if_neg (by omega), if_neg (by omega), if_pos h']
theorem tc_as_c (s : Nat) : (tc_as s = 0 ∧ (s < 2 ∨ 6 ≤ s)) ∨ (tc_as s = 1 ∧ 2 ≤ s ∧ s < 4) ∨ (tc_as s = 2 ∧ 4 ≤ s ∧ s < 6) := by
  by_cases h2 : s < 2
  · exact Or.inl ⟨tc_as0 (Or.inl h2), Or.inl h2⟩
  · by_cases h4 : s < 4
    · exact Or.inr (Or.inl ⟨tc_as1 (by omega) h4, by omega, h4⟩)
    · by_cases h6 : s < 6
      · exact Or.inr (Or.inr ⟨tc_as2 (by omega) h6, by omega, h6⟩)
      · exact Or.inl ⟨tc_as0 (Or.inr (by omega)), Or.inr (by omega)⟩
theorem tc_fo_push {nn dd : Nat} {sy ps sk : Nat → Nat} {s : Nat} (F : tc_fo nn dd sy ps sk) (h : tc_as s ≤ dd) :
    tc_fo (nn + 1) (dd - tc_as s + 1) (tc_un sy nn s) (tc_un ps nn (tc_sz ps nn (tc_as s))) (tc_un sk (dd - tc_as s) nn) := by
  unfold tc_sz
  rcases tc_as_c s with ⟨e, h1⟩ | ⟨e, h1, h2⟩ | ⟨e, h1, h2⟩
  · rw [e, if_pos rfl]
    exact tc_fo_0 F h1
  · rw [e] at h ⊢
    rw [if_neg (by decide), if_pos rfl]
    have k := tc_fo_1 F h h1 h2
    rw [show dd - 1 + 1 = dd by omega]
    exact k
  · rw [e] at h ⊢
    rw [if_neg (by decide), if_neg (by decide)]
    have k := tc_fo_2 F h h1 h2
    rw [show dd - 2 + 1 = dd - 1 by omega]
    exact k
theorem tc_yr_congr {S : tc_S} {len : Nat → Nat} {ent : Nat → Nat → Nat} {ru : Int32} {le co ln mk sz mk' sz' : Nat → Int32} (ok : tc_ok S) (h : tc_yr S len ent ru le co ln mk sz) (hj : ∀ j, j < 70 → mk' j = mk j ∧ sz' j = sz j) : tc_yr S len ent ru le co ln mk' sz' := by
  have hR := ok.1
  refine ⟨h.1, fun r hr => ?_, h.2.2⟩
  obtain ⟨a1, a2, a3, a4, a5, a6, a7⟩ := h.2.1 r hr
  refine ⟨a1, a2, a3, a4, a5, a6, fun i hi => ?_⟩
  have m := (hj (7 * r + i) (by omega)).1
  rcases a7 i hi with ⟨g, b1, b2, b3⟩ | ⟨o, b1, b2, b3, b4, b5, b6, b7⟩
  · exact Or.inl ⟨g, b1, by rw [m]; exact b2, b3⟩
  · refine Or.inr ⟨o, b1, by rw [m]; exact b2, b3, b4, b5, b6, fun z => ?_⟩
    obtain ⟨s, c1, c2, c3, c4⟩ := b7 z
    exact ⟨s, by rw [(hj (7 * r + i - 1) (by omega)).2]; exact c1, c2, c3, c4⟩
section
variable {pn pd : Nat} {py pz pk : Nat → Nat}
theorem xp_push {post : SX → Prop} {f_patternDepth : Int32} {f_patternNodes : Int32} {f_ruleCount : Int32} {f_entryCount : Int32} {f_treeDepth : Int32} {f_treeNodes : Int32} {f_stateCount : Int32} {f_coverLength : Int32} {f_pendingCount : Int32} {a_patternStack : Nat → Int32} {a_patternSymbol : Nat → Int32} {a_patternFirst : Nat → Int32} {a_patternLast : Nat → Int32} {a_patternEntry : Nat → Int32} {a_ruleLeft : Nat → Int32} {a_ruleCost : Nat → Int32} {a_ruleEntry : Nat → Int32} {a_ruleStart : Nat → Int32} {a_entryOperator : Nat → Int32} {a_entryFirst : Nat → Int32} {a_entryLast : Nat → Int32} {a_treeStack : Nat → Int32} {a_treeOperator : Nat → Int32} {a_treeFirst : Nat → Int32} {a_treeLast : Nat → Int32} {a_treeSize : Nat → Int32} {a_treeCosts : Nat → Int32} {a_treeWays : Nat → Int32} {a_stateCosts : Nat → Int32} {a_cover : Nat → Int32} {a_pendingEntry : Nat → Int32} {a_pendingNode : Nat → Int32} (F : tc_fo pn pd py pz pk) (hN : pn < 7) (hp6 : pd ≤ 6) (hx : tc_xp pn pd py pz pk f_patternDepth f_patternNodes a_patternStack a_patternSymbol a_patternFirst a_patternLast)
    {s : Nat} (hs : s < 10) (ha : tc_as s ≤ pd) (hd : pd - tc_as s < 6)
    (hp : ∀ (d n : Int32) (st sy fi la : Nat → Int32), tc_xp (pn + 1) (pd - tc_as s + 1) (tc_un py pn s) (tc_un pz pn (tc_sz pz pn (tc_as s))) (tc_un pk (pd - tc_as s) pn) d n st sy fi la →
      post (d, n, f_ruleCount, f_entryCount, f_treeDepth, f_treeNodes, f_stateCount, f_coverLength, f_pendingCount, st, sy, fi, la, a_patternEntry, a_ruleLeft, a_ruleCost, a_ruleEntry, a_ruleStart, a_entryOperator, a_entryFirst, a_entryLast, a_treeStack, a_treeOperator, a_treeFirst, a_treeLast, a_treeSize, a_treeCosts, a_treeWays, a_stateCosts, a_cover, a_pendingEntry, a_pendingNode)) :
    wpX_pushPattern post (f_patternDepth, f_patternNodes, f_ruleCount, f_entryCount, f_treeDepth, f_treeNodes, f_stateCount, f_coverLength, f_pendingCount, a_patternStack, a_patternSymbol, a_patternFirst, a_patternLast, a_patternEntry, a_ruleLeft, a_ruleCost, a_ruleEntry, a_ruleStart, a_entryOperator, a_entryFirst, a_entryLast, a_treeStack, a_treeOperator, a_treeFirst, a_treeLast, a_treeSize, a_treeCosts, a_treeWays, a_stateCosts, a_cover, a_pendingEntry, a_pendingNode) (nI s) (nI (tc_as s)) := by
  obtain ⟨rfl, rfl, x3, x4⟩ := hx
  have c : (nI pn).toNatClampNeg = pn := nI_clamp (by omega)
  have hn1 : 2 ≤ s → s < 6 → 1 ≤ pn := fun z1 z2 => by
    have h1 : 1 ≤ tc_as s := by
      rcases tc_as_c s with ⟨e, h1⟩ | ⟨e, h1, h2⟩ | ⟨e, h1, h2⟩ <;> omega
    exact (tc_fo_t1 F (by omega)).1
  have key : ∀ fi la : Nat → Int32, (∀ i, i < pn → fi i = a_patternFirst i ∧ la i = a_patternLast i) → (2 ≤ s → s < 6 → la pn = nI (pn - 1)) → (4 ≤ s → s < 6 → fi pn = nI (pn - 1 - pz (pn - 1))) →
      wX_pushPattern_56 post (nI (tc_as s)) (nI pn) (nI pd) (nI pn) f_ruleCount f_entryCount f_treeDepth f_treeNodes f_stateCount f_coverLength f_pendingCount a_patternStack (upd a_patternSymbol pn (nI s)) fi la a_patternEntry a_ruleLeft a_ruleCost a_ruleEntry a_ruleStart a_entryOperator a_entryFirst a_entryLast a_treeStack a_treeOperator a_treeFirst a_treeLast a_treeSize a_treeCosts a_treeWays a_stateCosts a_cover a_pendingEntry a_pendingNode := fun fi la h1 h2 h3 => by
    refine nm_r (pk_sub ha) ⟨vp_in_nI hd (by decide), nm_r (e' := upd a_patternStack (pd - tc_as s) (nI pn)) (by rw [nI_clamp (by omega)]) (nm_r (nI_1 _) (nm_r (nI_1 _) ?_))⟩
    refine hp _ _ _ _ _ _ ⟨rfl, rfl, fun k hk => ?_, fun i hi => ?_⟩
    · by_cases e : k = pd - tc_as s
      · rw [e, pk_us, tc_us]
      · rw [pk_un e, tc_ne e]
        exact x3 k (by omega)
    · by_cases e : i = pn
      · rw [e, pk_us, tc_us]
        refine ⟨rfl, h2, fun z1 z2 => ?_⟩
        have hq := h3 z1 z2
        rw [tc_ne (show pn - 1 ≠ pn by have := hn1 (by omega) z2; omega)]
        exact hq
      · rw [pk_un e, tc_ne e]
        obtain ⟨y1, y2, y3⟩ := x4 i (by omega)
        rw [(h1 i (by omega)).1, (h1 i (by omega)).2]
        refine ⟨y1, y2, fun z1 z2 => ?_⟩
        rw [tc_ne (show i - 1 ≠ pn by omega)]
        exact y3 z1 z2
  refine ⟨vp_in_nI hN (by decide), nm_r (e' := upd a_patternSymbol pn (nI s)) (by rw [c]) ?_⟩
  rcases tc_as_c s with ⟨e, h1⟩ | ⟨e, h1, h2⟩ | ⟨e, h1, h2⟩
  · rw [e] at key ⊢
    exact br_t (by decide) (br_f (by decide) (key _ _ (fun _ _ => ⟨rfl, rfl⟩) (fun z1 z2 => by omega) (fun z1 z2 => by omega)))
  · rw [e] at key ha hd ⊢
    obtain ⟨t1, t2⟩ := tc_fo_t1 F ha
    have w1 : nI pd - 1 = nI (pd - 1) := by rw [show (1 : Int32) = nI 1 from rfl, pk_sub (by omega)]
    refine br_f (by decide) ⟨by rw [w1]; exact vp_in_nI (by omega) (by decide), vp_in_nI hN (by decide), nm_r (e' := upd a_patternLast pn (nI (pn - 1))) (by rw [w1, c, nI_clamp (by omega), x3 _ (by omega), t2]) (br_f (by decide) ?_)⟩
    exact key _ _ (fun i hi => ⟨rfl, pk_un (by omega)⟩) (fun z1 z2 => pk_us) (fun z1 z2 => by omega)
  · rw [e] at key ha hd ⊢
    obtain ⟨t1, t2⟩ := tc_fo_t1 F (by omega)
    obtain ⟨t3, t4⟩ := tc_fo_t2 F ha
    have w1 : nI pd - 1 = nI (pd - 1) := by rw [show (1 : Int32) = nI 1 from rfl, pk_sub (by omega)]
    have w2 : nI pd - 2 = nI (pd - 2) := by rw [show (2 : Int32) = nI 2 from rfl, pk_sub (by omega)]
    refine br_f (by decide) ⟨by rw [w1]; exact vp_in_nI (by omega) (by decide), vp_in_nI hN (by decide), nm_r (e' := upd a_patternLast pn (nI (pn - 1))) (by rw [w1, c, nI_clamp (by omega), x3 _ (by omega), t2]) (br_t rfl ⟨by rw [w2]; exact vp_in_nI (by omega) (by decide), vp_in_nI hN (by decide), nm_r (e' := upd a_patternFirst pn (nI (pn - 1 - pz (pn - 1)))) (by rw [w2, c, nI_clamp (by omega), x3 _ (by omega), t4]) ?_⟩)⟩
    exact key _ _ (fun i hi => ⟨pk_un (by omega), pk_un (by omega)⟩) (fun z1 z2 => pk_us) (fun z1 z2 => pk_us)
/-- Y's push of a pattern -/
theorem yp_push {S : tc_S} {len : Nat → Nat} {ent : Nat → Nat → Nat} (ok : tc_ok S) {post : Int32 → SY → Prop} {f_noted : Int32} {f_depth : Int32} {f_rules : Int32} {f_planted : Int32} {f_trees : Int32} {f_stateCount : Int32} {f_known : Int32} {f_listed : Int32} {a_marks : Nat → Int32} {a_sizes : Nat → Int32} {a_lefts : Nat → Int32} {a_costs : Nat → Int32} {a_lengths : Nat → Int32} {a_operators : Nat → Int32} {a_spans : Nat → Int32} {a_least : Nat → Int32} {a_ways : Nat → Int32} {a_tasks : Nat → Int32} {a_list : Nat → Int32} (F : tc_fo pn pd py pz pk) (hN : pn < 7) (hp6 : pd ≤ 6)
    (hr : tc_yr S len ent f_rules a_lefts a_costs a_lengths a_marks a_sizes) (hy : tc_yp pn pd py pz f_noted f_depth a_marks a_sizes) {s : Nat} (hs : s < 10) (ha : tc_as s ≤ pd)
    (hp : ∀ (no de : Int32) (mk sz : Nat → Int32), tc_yr S len ent f_rules a_lefts a_costs a_lengths mk sz → tc_yp (pn + 1) (pd - tc_as s + 1) (tc_un py pn s) (tc_un pz pn (tc_sz pz pn (tc_as s))) no de mk sz →
      post (nI (pd - tc_as s + 1)) (no, de, f_rules, f_planted, f_trees, f_stateCount, f_known, f_listed, mk, sz, a_lefts, a_costs, a_lengths, a_operators, a_spans, a_least, a_ways, a_tasks, a_list)) :
    wpY_push post (f_noted, f_depth, f_rules, f_planted, f_trees, f_stateCount, f_known, f_listed, a_marks, a_sizes, a_lefts, a_costs, a_lengths, a_operators, a_spans, a_least, a_ways, a_tasks, a_list) (nI (tc_mk s)) (nI (tc_as s)) := by
  obtain ⟨rfl, rfl, y3⟩ := hy
  have w70 : (70 : Int32) + nI pn = nI (70 + pn) := by rw [show (70 : Int32) = nI 70 from rfl, nI_add]
  have fin : ∀ (m k : Nat), tc_as s ≤ k → k < 3 → wY_push_5 post (nI (tc_mk s)) (nI (tc_as s)) (nI pn) (nI pd) f_rules f_planted f_trees f_stateCount f_known f_listed a_marks a_sizes a_lefts a_costs a_lengths a_operators a_spans a_least a_ways a_tasks a_list (m + 1) (nI (tc_sz pz pn (tc_as s))) (nI k) := fun m k hk hk3 => by
    refine br_t (nI_le hk (by omega)) ⟨by rw [w70]; exact vp_in_nI (by omega) (by decide), nm_r (e' := upd a_marks (70 + pn) (nI (tc_mk s))) (by rw [w70, nI_clamp (by omega)]) ⟨by rw [w70]; exact vp_in_nI (by omega) (by decide), nm_r (e' := upd a_sizes (70 + pn) (nI (tc_sz pz pn (tc_as s)))) (by rw [w70, nI_clamp (by omega)]) (nm_r (nI_1 _) (nm_r (e' := nI (pd - tc_as s + 1)) (by rw [nI_1, pk_sub (by omega)]; exact congrArg nI (by omega)) ?_))⟩⟩
    refine hp _ _ _ _ (tc_yr_congr ok hr (fun j hj => ⟨pk_un (by omega), pk_un (by omega)⟩)) ⟨rfl, rfl, fun i hi => ?_⟩
    by_cases e : i = pn
    · rw [e, pk_us, pk_us, tc_us, tc_us]
      exact ⟨rfl, rfl⟩
    · rw [pk_un (by omega), pk_un (by omega), tc_ne e, tc_ne e]
      exact y3 i (by omega)
  rcases tc_as_c s with ⟨e, h1⟩ | ⟨e, h1, h2⟩ | ⟨e, h1, h2⟩
  · rw [e] at fin ⊢
    exact ⟨1, fin 0 0 (by omega) (by omega)⟩
  · rw [e] at fin ha ⊢
    obtain ⟨t1, t2⟩ := tc_fo_t1 F ha
    have w1 : (70 : Int32) + nI pn - 1 = nI (70 + (pn - 1)) := by
      rw [w70, show (1 : Int32) = nI 1 from rfl, pk_sub (by omega)]
      exact congrArg nI (by omega)
    refine ⟨2, br_f (by decide) ⟨by rw [w1]; exact vp_in_nI (by omega) (by decide), nm_r (e' := nI (tc_sz pz pn 1)) (by rw [w1, nI_clamp (by omega), (y3 (pn - 1) (by omega)).2, show (1 : Int32) = nI 1 from rfl, nI_add]; rfl) (nm_r (e' := nI 1) rfl (fin 0 1 (by omega) (by omega)))⟩⟩
  · rw [e] at fin ha ⊢
    obtain ⟨t1, t2⟩ := tc_fo_t1 F (by omega)
    obtain ⟨t3, t4⟩ := tc_fo_t2 F ha
    have t5 := (F.2.2.2.2.2 (pn - 1) (by omega)).1
    have w1 : (70 : Int32) + nI pn - 1 = nI (70 + (pn - 1)) := by
      rw [w70, show (1 : Int32) = nI 1 from rfl, pk_sub (by omega)]
      exact congrArg nI (by omega)
    have w2 : (70 : Int32) + nI pn - nI (1 + pz (pn - 1)) = nI (70 + (pn - 1 - pz (pn - 1))) := by
      rw [w70, pk_sub (by omega)]
      exact congrArg nI (by omega)
    refine ⟨3, br_f (by decide) ⟨by rw [w1]; exact vp_in_nI (by omega) (by decide), nm_r (e' := nI (1 + pz (pn - 1))) (by rw [w1, nI_clamp (by omega), (y3 (pn - 1) (by omega)).2, show (1 : Int32) = nI 1 from rfl, nI_add]) (nm_r (e' := nI 1) rfl ?_)⟩⟩
    refine br_f (by decide) ⟨by rw [w2]; exact vp_in_nI (by omega) (by decide), nm_r (e' := nI (tc_sz pz pn 2)) (by rw [w2, nI_clamp (by omega), (y3 (pn - 1 - pz (pn - 1)) (by omega)).2, nI_add]; rfl) (nm_r (e' := nI 2) rfl (fin 0 2 (by omega) (by omega)))⟩
end
