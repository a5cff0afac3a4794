section
variable {S : tc_S} {tn td : Nat} {ty tz tk : Nat → Nat}
theorem xm_least (ok : tc_ok S) {post : Int32 → Prop} {f_patternDepth : Int32} {f_patternNodes : Int32} {f_ruleCount : Int32} {f_entryCount : Int32} {f_treeDepth : Int32} {f_treeNodes : Int32} {f_stateCount : Int32} {f_coverLength : Int32} {f_pendingCount : Int32} {a_patternStack : Nat → Int32} {a_patternSymbol : Nat → Int32} {a_patternFirst : Nat → Int32} {a_patternLast : Nat → Int32} {a_patternEntry : Nat → Int32} {a_ruleLeft : Nat → Int32} {a_ruleCost : Nat → Int32} {a_ruleEntry : Nat → Int32} {a_ruleStart : Nat → Int32} {a_entryOperator : Nat → Int32} {a_entryFirst : Nat → Int32} {a_entryLast : Nat → Int32} {a_treeStack : Nat → Int32} {a_treeOperator : Nat → Int32} {a_treeFirst : Nat → Int32} {a_treeLast : Nat → Int32} {a_treeSize : Nat → Int32} {a_treeCosts : Nat → Int32} {a_treeWays : Nat → Int32} {a_stateCosts : Nat → Int32} {a_cover : Nat → Int32} {a_pendingEntry : Nat → Int32} {a_pendingNode : Nat → Int32} (hx : tc_xr S f_ruleCount f_entryCount a_ruleLeft a_ruleCost a_ruleEntry a_ruleStart a_entryOperator a_entryFirst a_entryLast)
    {r n : Nat} (hr : r < tc_R S) (hn : n < 24) {t : Nat → Nat} (hK : ∀ e, t e ≤ 536870912) (ht : tc_tr a_treeCosts (n * 74) (tc_E S) t)
    (h1 : tc_bs S 536870912 t r → post 1) (h0 : ¬ tc_bs S 536870912 t r → post 0) : wpX_isLeast post (f_patternDepth, f_patternNodes, f_ruleCount, f_entryCount, f_treeDepth, f_treeNodes, f_stateCount, f_coverLength, f_pendingCount, a_patternStack, a_patternSymbol, a_patternFirst, a_patternLast, a_patternEntry, a_ruleLeft, a_ruleCost, a_ruleEntry, a_ruleStart, a_entryOperator, a_entryFirst, a_entryLast, a_treeStack, a_treeOperator, a_treeFirst, a_treeLast, a_treeSize, a_treeCosts, a_treeWays, a_stateCosts, a_cover, a_pendingEntry, a_pendingNode) (nI r) (nI n) := by
  have hE := tc_ok_E ok
  have hR := ok.1
  obtain ⟨l1, l2, l3, l4⟩ := tc_ok_r ok hr
  obtain ⟨x1, x2, x3, _⟩ := hx.2.2.1 r hr
  have c : (nI r).toNatClampNeg = r := nI_clamp (by omega)
  have q1 := hK (tc_lf S r)
  have q2 := hK (tc_rt S r)
  refine nm_r (e' := nI (n * 74)) (by rw [show (74 : Int32) = nI 74 from rfl, pk_mul]) ⟨vp_in_nI (by omega) (by decide), ?_⟩
  have w1 : nI (n * 74) + a_ruleLeft (nI r).toNatClampNeg = nI (n * 74 + tc_lf S r) := by rw [c, x1, nI_add]
  have w2 : nI (n * 74) + a_ruleEntry (nI r).toNatClampNeg = nI (n * 74 + tc_rt S r) := by rw [c, x3, nI_add]
  refine ⟨by rw [w1]; exact vp_in_nI (by omega) (by decide), nm_r (e' := nI (t (tc_lf S r))) (by rw [w1, nI_clamp (by omega), ht _ (by omega)]) ?_⟩
  refine pk_eq (t (tc_lf S r)) 536870912 (fun h => h0 (fun z => z.1 h)) (fun h => ?_) rfl rfl (by omega) (by omega)
  refine ⟨vp_in_nI (by omega) (by decide), vp_in_nI (by omega) (by decide), by rw [w2]; exact vp_in_nI (by omega) (by decide), ?_⟩
  refine pk_eq (t (tc_lf S r)) (tc_co S r + t (tc_rt S r)) (fun h' => h1 ⟨h, h'⟩) (fun h' => h0 (fun z => h' z.2)) rfl (by rw [w2, c, x2, nI_clamp (by omega), ht _ l3, nI_add]) (by omega) (by omega)
theorem xm_wr_5 (ok : tc_ok S) {post : Int32 → Prop} {f_patternDepth : Int32} {f_patternNodes : Int32} {f_ruleCount : Int32} {f_entryCount : Int32} {f_treeDepth : Int32} {f_treeNodes : Int32} {f_stateCount : Int32} {f_coverLength : Int32} {f_pendingCount : Int32} {a_patternStack : Nat → Int32} {a_patternSymbol : Nat → Int32} {a_patternFirst : Nat → Int32} {a_patternLast : Nat → Int32} {a_patternEntry : Nat → Int32} {a_ruleLeft : Nat → Int32} {a_ruleCost : Nat → Int32} {a_ruleEntry : Nat → Int32} {a_ruleStart : Nat → Int32} {a_entryOperator : Nat → Int32} {a_entryFirst : Nat → Int32} {a_entryLast : Nat → Int32} {a_treeStack : Nat → Int32} {a_treeOperator : Nat → Int32} {a_treeFirst : Nat → Int32} {a_treeLast : Nat → Int32} {a_treeSize : Nat → Int32} {a_treeCosts : Nat → Int32} {a_treeWays : Nat → Int32} {a_stateCosts : Nat → Int32} {a_cover : Nat → Int32} {a_pendingEntry : Nat → Int32} {a_pendingNode : Nat → Int32} (hx : tc_xr S f_ruleCount f_entryCount a_ruleLeft a_ruleCost a_ruleEntry a_ruleStart a_entryOperator a_entryFirst a_entryLast)
    {n g : Nat} (hn : n < 24) (hg : g < 4) {t : Nat → Nat} (hK : ∀ e, t e ≤ 536870912) (ht : tc_tr a_treeCosts (n * 74) (tc_E S) t) {w : Nat → Int32} (hw : ∀ e, e < tc_E S → a_treeWays (n * 74 + e) = w e)
    (hp : post (tc_ws S 536870912 t w g (tc_R S))) : ∀ (d k : Nat), k + d = tc_R S → ∀ m, d < m → wX_waysOfRules_5 post (nI g) (nI n) f_patternDepth f_patternNodes f_ruleCount f_entryCount f_treeDepth f_treeNodes f_stateCount f_coverLength f_pendingCount a_patternStack a_patternSymbol a_patternFirst a_patternLast a_patternEntry a_ruleLeft a_ruleCost a_ruleEntry a_ruleStart a_entryOperator a_entryFirst a_entryLast a_treeStack a_treeOperator a_treeFirst a_treeLast a_treeSize a_treeCosts a_treeWays a_stateCosts a_cover a_pendingEntry a_pendingNode m (tc_ws S 536870912 t w g k) (nI k) := by
  have hE := tc_ok_E ok
  have hR := ok.1
  intro d
  induction d with
  | zero =>
    intro k hk m hm
    obtain ⟨m', rfl⟩ : ∃ m', m = m' + 1 := ⟨m - 1, by omega⟩
    have e : k = tc_R S := by omega
    subst e
    exact br_t (by rw [hx.1]; exact nI_le (Nat.le_refl _) (by omega)) hp
  | succ d ih =>
    intro k hk m hm
    obtain ⟨m', rfl⟩ : ∃ m', m = m' + 1 := ⟨m - 1, by omega⟩
    have hk' : k < tc_R S := by omega
    obtain ⟨l1, l2, l3, l4⟩ := tc_ok_r ok hk'
    obtain ⟨x1, x2, x3, _⟩ := hx.2.2.1 k hk'
    have c : (nI k).toNatClampNeg = k := nI_clamp (by omega)
    have nxt := ih (k + 1) (by omega) m' (by omega)
    unfold tc_ws at nxt
    refine br_f (by rw [hx.1]; exact nI_ge hk' (by omega)) ⟨vp_in_nI (by omega) (by decide), ?_⟩
    refine pk_eq (tc_lf S k) g (fun h => ?_) (fun h => ?_) (by rw [c, x1]) rfl (by omega) (by omega)
    · refine xm_least ok hx hk' hn hK ht (fun hb => ?_) (fun hb => ?_)
      · have w2 : nI n * 74 + a_ruleEntry (nI k).toNatClampNeg = nI (n * 74 + tc_rt S k) := by rw [c, x3, show (74 : Int32) = nI 74 from rfl, pk_mul, nI_add]
        rw [if_pos ⟨h, hb⟩] at nxt
        refine br_f (by decide) ⟨vp_in_nI (by omega) (by decide), by rw [w2]; exact vp_in_nI (by omega) (by decide), nm_r (by rw [w2, nI_clamp (by omega), hw _ l3]) (nm_r (nI_1 k) nxt)⟩
      · rw [if_neg (fun z => hb z.2)] at nxt
        exact br_t rfl (nm_r (nI_1 k) nxt)
    · rw [if_neg (fun z => h z.1)] at nxt
      exact nm_r (nI_1 k) nxt
theorem xm_wr (ok : tc_ok S) {post : Int32 → Prop} {f_patternDepth : Int32} {f_patternNodes : Int32} {f_ruleCount : Int32} {f_entryCount : Int32} {f_treeDepth : Int32} {f_treeNodes : Int32} {f_stateCount : Int32} {f_coverLength : Int32} {f_pendingCount : Int32} {a_patternStack : Nat → Int32} {a_patternSymbol : Nat → Int32} {a_patternFirst : Nat → Int32} {a_patternLast : Nat → Int32} {a_patternEntry : Nat → Int32} {a_ruleLeft : Nat → Int32} {a_ruleCost : Nat → Int32} {a_ruleEntry : Nat → Int32} {a_ruleStart : Nat → Int32} {a_entryOperator : Nat → Int32} {a_entryFirst : Nat → Int32} {a_entryLast : Nat → Int32} {a_treeStack : Nat → Int32} {a_treeOperator : Nat → Int32} {a_treeFirst : Nat → Int32} {a_treeLast : Nat → Int32} {a_treeSize : Nat → Int32} {a_treeCosts : Nat → Int32} {a_treeWays : Nat → Int32} {a_stateCosts : Nat → Int32} {a_cover : Nat → Int32} {a_pendingEntry : Nat → Int32} {a_pendingNode : Nat → Int32} (hx : tc_xr S f_ruleCount f_entryCount a_ruleLeft a_ruleCost a_ruleEntry a_ruleStart a_entryOperator a_entryFirst a_entryLast)
    {n g : Nat} (hn : n < 24) (hg : g < 4) {t : Nat → Nat} (hK : ∀ e, t e ≤ 536870912) (ht : tc_tr a_treeCosts (n * 74) (tc_E S) t) {w : Nat → Int32} (hw : ∀ e, e < tc_E S → a_treeWays (n * 74 + e) = w e)
    (hp : post (tc_ws S 536870912 t w g (tc_R S))) : wpX_waysOfRules post (f_patternDepth, f_patternNodes, f_ruleCount, f_entryCount, f_treeDepth, f_treeNodes, f_stateCount, f_coverLength, f_pendingCount, a_patternStack, a_patternSymbol, a_patternFirst, a_patternLast, a_patternEntry, a_ruleLeft, a_ruleCost, a_ruleEntry, a_ruleStart, a_entryOperator, a_entryFirst, a_entryLast, a_treeStack, a_treeOperator, a_treeFirst, a_treeLast, a_treeSize, a_treeCosts, a_treeWays, a_stateCosts, a_cover, a_pendingEntry, a_pendingNode) (nI g) (nI n) :=
  ⟨tc_R S + 1, xm_wr_5 ok hx hn hg hK ht hw hp (tc_R S) 0 (by omega) _ (by omega)⟩
/-- the ways of an operator entry that covers -/
theorem xm_wp (ok : tc_ok S) (hn : tc_tn ty tz tn) (hN : tn ≤ 24) {post : Int32 → Prop} {f_patternDepth : Int32} {f_patternNodes : Int32} {f_ruleCount : Int32} {f_entryCount : Int32} {f_treeDepth : Int32} {f_treeNodes : Int32} {f_stateCount : Int32} {f_coverLength : Int32} {f_pendingCount : Int32} {a_patternStack : Nat → Int32} {a_patternSymbol : Nat → Int32} {a_patternFirst : Nat → Int32} {a_patternLast : Nat → Int32} {a_patternEntry : Nat → Int32} {a_ruleLeft : Nat → Int32} {a_ruleCost : Nat → Int32} {a_ruleEntry : Nat → Int32} {a_ruleStart : Nat → Int32} {a_entryOperator : Nat → Int32} {a_entryFirst : Nat → Int32} {a_entryLast : Nat → Int32} {a_treeStack : Nat → Int32} {a_treeOperator : Nat → Int32} {a_treeFirst : Nat → Int32} {a_treeLast : Nat → Int32} {a_treeSize : Nat → Int32} {a_treeCosts : Nat → Int32} {a_treeWays : Nat → Int32} {a_stateCosts : Nat → Int32} {a_cover : Nat → Int32} {a_pendingEntry : Nat → Int32} {a_pendingNode : Nat → Int32} (hx : tc_xr S f_ruleCount f_entryCount a_ruleLeft a_ruleCost a_ruleEntry a_ruleStart a_entryOperator a_entryFirst a_entryLast)
    (ht : tc_xt tn td ty tz tk f_treeDepth f_treeNodes a_treeStack a_treeOperator a_treeFirst a_treeLast a_treeSize) {e i : Nat} (he : 4 ≤ e) (heE : e < tc_E S) (hi : i < tn) (heo : tc_eo S e = ty i)
    {x y : Nat → Int32} (hyw : 2 ≤ ty i → ∀ e, e < tc_E S → a_treeWays ((i - 1) * 74 + e) = y e) (hxw : 4 ≤ ty i → ∀ e, e < tc_E S → a_treeWays ((i - 1 - tz (i - 1)) * 74 + e) = x e)
    (hp : post (if ty i < 2 then 1 else if ty i < 4 then y (tc_el S e) else x (tc_ef S e) * y (tc_el S e))) : wpX_waysOfParts post (f_patternDepth, f_patternNodes, f_ruleCount, f_entryCount, f_treeDepth, f_treeNodes, f_stateCount, f_coverLength, f_pendingCount, a_patternStack, a_patternSymbol, a_patternFirst, a_patternLast, a_patternEntry, a_ruleLeft, a_ruleCost, a_ruleEntry, a_ruleStart, a_entryOperator, a_entryFirst, a_entryLast, a_treeStack, a_treeOperator, a_treeFirst, a_treeLast, a_treeSize, a_treeCosts, a_treeWays, a_stateCosts, a_cover, a_pendingEntry, a_pendingNode) (nI e) (nI i) := by
  have hE := tc_ok_E ok
  obtain ⟨h6, n1, n2, n3, n4, n5, n6, n7⟩ := hn i hi
  obtain ⟨t1, t2, t3, t4⟩ := ht.2.2.2 i hi
  obtain ⟨x1, x2, x3⟩ := hx.2.2.2 e he heE
  have hk := ok.2.2.2 e he heE
  have c : (nI e).toNatClampNeg = e := nI_clamp (by omega)
  have ci : (nI i).toNatClampNeg = i := nI_clamp (by omega)
  refine ⟨vp_in_nI (by omega) (by decide), ?_⟩
  rw [c, x1, heo]
  refine xm_parts (by omega) ?_
  by_cases h2 : ty i < 2
  · rw [if_pos h2] at hp
    rw [tc_ar0 h2]
    exact br_t (by decide) (br_f (by decide) hp)
  · rw [if_neg h2] at hp
    have hi1 := n3 (by omega) h6
    have w1 : a_treeLast (nI i).toNatClampNeg * 74 + a_entryLast e = nI ((i - 1) * 74 + tc_el S e) := by
      rw [ci, t3 (by omega), x2 (by omega), show (74 : Int32) = nI 74 from rfl, pk_mul, nI_add]
    have w2 : (1 : Int32) * a_treeWays (a_treeLast (nI i).toNatClampNeg * 74 + a_entryLast e).toNatClampNeg = y (tc_el S e) := by
      rw [w1, nI_clamp (by omega), hyw (by omega) _ (by omega), Int32.one_mul]
    by_cases h4 : ty i < 4
    · rw [if_pos h4] at hp
      rw [tc_ar1 (by omega) h4]
      exact br_f (by decide) ⟨vp_in_nI (by omega) (by decide), vp_in_nI (by omega) (by decide), by rw [w1]; exact vp_in_nI (by omega) (by decide), nm_r w2 (br_f (by decide) hp)⟩
    · rw [if_neg h4] at hp
      rw [tc_ar2 (by omega)]
      have hi2 := n4 (by omega) h6
      have w3 : a_treeFirst (nI i).toNatClampNeg * 74 + a_entryFirst (nI e).toNatClampNeg = nI ((i - 1 - tz (i - 1)) * 74 + tc_ef S e) := by
        rw [c, ci, t4 (by omega), x3 (by omega), show (74 : Int32) = nI 74 from rfl, pk_mul, nI_add]
      refine br_f (by decide) ⟨vp_in_nI (by omega) (by decide), vp_in_nI (by omega) (by decide), by rw [w1]; exact vp_in_nI (by omega) (by decide), nm_r w2 (br_t rfl ⟨vp_in_nI (by omega) (by decide), vp_in_nI (by omega) (by decide), by rw [w3]; exact vp_in_nI (by omega) (by decide), nm_r (e' := x (tc_ef S e) * y (tc_el S e)) ?_ hp⟩)⟩
      rw [w3, nI_clamp (by omega), hxw (by omega) _ (by omega), Int32.mul_comm]
theorem xm_fw_65 (ok : tc_ok S) {post : SX → Prop} {J : Int32 → (Nat → Int32) → (Nat → Int32) → (Nat → Int32) → (Nat → Int32) → (Nat → Int32) → (Nat → Int32) → (Nat → Int32) → (Nat → Int32) → (Nat → Int32) → (Nat → Int32) → (Nat → Int32) → (Nat → Int32) → (Nat → Int32) → (Nat → Int32) → (Nat → Int32) → (Nat → Int32) → (Nat → Int32) → (Nat → Int32) → (Nat → Int32) → (Nat → Int32) → (Nat → Int32) → (Nat → Int32) → (Nat → Int32) → Prop} {f_patternDepth : Int32} {f_patternNodes : Int32} {f_ruleCount : Int32} {f_entryCount : Int32} {f_treeDepth : Int32} {f_treeNodes : Int32} {f_stateCount : Int32} {f_coverLength : Int32} {f_pendingCount : Int32} {a_patternStack : Nat → Int32} {a_patternSymbol : Nat → Int32} {a_patternFirst : Nat → Int32} {a_patternLast : Nat → Int32} {a_patternEntry : Nat → Int32} {a_ruleLeft : Nat → Int32} {a_ruleCost : Nat → Int32} {a_ruleEntry : Nat → Int32} {a_ruleStart : Nat → Int32} {a_entryOperator : Nat → Int32} {a_entryFirst : Nat → Int32} {a_entryLast : Nat → Int32} {a_treeStack : Nat → Int32} {a_treeOperator : Nat → Int32} {a_treeFirst : Nat → Int32} {a_treeLast : Nat → Int32} {a_treeSize : Nat → Int32} {a_treeCosts : Nat → Int32} {a_stateCosts : Nat → Int32} {a_cover : Nat → Int32} {a_pendingEntry : Nat → Int32} {a_pendingNode : Nat → Int32} (hx : tc_xr S f_ruleCount f_entryCount a_ruleLeft a_ruleCost a_ruleEntry a_ruleStart a_entryOperator a_entryFirst a_entryLast)
    {n k : Nat} (hn : n < 24) {t : Nat → Nat} (hK : ∀ e, t e ≤ 536870912) (ht : tc_tr a_treeCosts (n * 74) (tc_E S) t) {wo : Nat → Int32} :
    ∀ (d g : Nat), g + d = 4 → ∀ a_treeWays : Nat → Int32, (∀ e, 4 ≤ e → e < tc_E S → a_treeWays (n * 74 + e) = wo e) →
    (∀ h, h < 4 → tc_L t h < k → a_treeWays (n * 74 + h) = tc_wf S 536870912 t wo 4 h) → (∀ h, h < g → tc_L t h < k + 1 → a_treeWays (n * 74 + h) = tc_wf S 536870912 t wo 4 h) →
    (∀ a', tc_fr a_treeWays a' (n * 74) → (∀ e, 4 ≤ e → e < tc_E S → a' (n * 74 + e) = wo e) → (∀ h, h < 4 → tc_L t h < k + 1 → a' (n * 74 + h) = tc_wf S 536870912 t wo 4 h) → J (nI (k + 1)) a_patternStack a_patternSymbol a_patternFirst a_patternLast a_patternEntry a_ruleLeft a_ruleCost a_ruleEntry a_ruleStart a_entryOperator a_entryFirst a_entryLast a_treeStack a_treeOperator a_treeFirst a_treeLast a_treeSize a_treeCosts a' a_stateCosts a_cover a_pendingEntry a_pendingNode) →
    ∀ m, d < m → wX_fillWays_65 post J (nI n) (nI (n * 74)) (nI k) f_patternDepth f_patternNodes f_ruleCount f_entryCount f_treeDepth f_treeNodes f_stateCount f_coverLength f_pendingCount m (nI g) a_patternStack a_patternSymbol a_patternFirst a_patternLast a_patternEntry a_ruleLeft a_ruleCost a_ruleEntry a_ruleStart a_entryOperator a_entryFirst a_entryLast a_treeStack a_treeOperator a_treeFirst a_treeLast a_treeSize a_treeCosts a_treeWays a_stateCosts a_cover a_pendingEntry a_pendingNode := by
  have hE := tc_ok_E ok
  intro d
  induction d with
  | zero =>
    intro g hg a_treeWays h4 hP hQ hp m hm
    obtain ⟨m', rfl⟩ : ∃ m', m = m' + 1 := ⟨m - 1, by omega⟩
    have e : g = 4 := by omega
    subst e
    exact br_t (nI_le (a := 4) (Nat.le_refl _) (by decide)) (nm_r (nI_1 k) (hp _ (tc_fr_refl _ _) h4 hQ))
  | succ d ih =>
    intro g hg a_treeWays h4 hP hQ hp m hm
    obtain ⟨m', rfl⟩ : ∃ m', m = m' + 1 := ⟨m - 1, by omega⟩
    have w : nI (n * 74) + nI g = nI (n * 74 + g) := nI_add _ _
    refine br_f (nI_ge (b := 4) (by omega) (by decide)) ?_
    refine xm_wr ok hx hn (by omega) hK ht (w := fun e => a_treeWays (n * 74 + e)) (fun e _ => rfl) ?_
    have st : tc_L t g ≤ k → tc_ws S 536870912 t (fun e => a_treeWays (n * 74 + e)) g (tc_R S) = tc_wf S 536870912 t wo 4 g := fun hk => tc_wf_settle ok h4 hP (by omega) hk
    refine ⟨by rw [w]; exact vp_in_nI (by omega) (by decide), nm_r (e' := upd a_treeWays (n * 74 + g) (tc_ws S 536870912 t (fun e => a_treeWays (n * 74 + e)) g (tc_R S))) (by rw [w, nI_clamp (by omega)]) (nm_r (nI_1 g) ?_)⟩
    refine ih (g + 1) (by omega) _ (fun e h1 h2 => ?_) (fun h h1 h2 => ?_) (fun h h1 h2 => ?_) (fun a' f1 f2 f3 => hp a' (tc_fr_trans (tc_fr_upd (by omega)) f1) f2 f3) m' (by omega)
    · rw [pk_un (by omega)]
      exact h4 e h1 h2
    · by_cases c : h = g
      · rw [c, pk_us]
        exact st (by rw [c] at h2; omega)
      · rw [pk_un (by omega)]
        exact hP h h1 h2
    · by_cases c : h = g
      · rw [c, pk_us]
        exact st (by rw [c] at h2; omega)
      · rw [pk_un (by omega)]
        exact hQ h (by omega) h2
theorem xm_fw_57 (ok : tc_ok S) {post : SX → Prop} {f_patternDepth : Int32} {f_patternNodes : Int32} {f_ruleCount : Int32} {f_entryCount : Int32} {f_treeDepth : Int32} {f_treeNodes : Int32} {f_stateCount : Int32} {f_coverLength : Int32} {f_pendingCount : Int32} {a_patternStack : Nat → Int32} {a_patternSymbol : Nat → Int32} {a_patternFirst : Nat → Int32} {a_patternLast : Nat → Int32} {a_patternEntry : Nat → Int32} {a_ruleLeft : Nat → Int32} {a_ruleCost : Nat → Int32} {a_ruleEntry : Nat → Int32} {a_ruleStart : Nat → Int32} {a_entryOperator : Nat → Int32} {a_entryFirst : Nat → Int32} {a_entryLast : Nat → Int32} {a_treeStack : Nat → Int32} {a_treeOperator : Nat → Int32} {a_treeFirst : Nat → Int32} {a_treeLast : Nat → Int32} {a_treeSize : Nat → Int32} {a_treeCosts : Nat → Int32} {a_stateCosts : Nat → Int32} {a_cover : Nat → Int32} {a_pendingEntry : Nat → Int32} {a_pendingNode : Nat → Int32} (hx : tc_xr S f_ruleCount f_entryCount a_ruleLeft a_ruleCost a_ruleEntry a_ruleStart a_entryOperator a_entryFirst a_entryLast)
    {n : Nat} (hn : n < 24) {t : Nat → Nat} (hK : ∀ e, t e ≤ 536870912) (ht : tc_tr a_treeCosts (n * 74) (tc_E S) t) {wo : Nat → Int32} :
    ∀ (d k : Nat), k + d = 4 → ∀ a_treeWays : Nat → Int32, (∀ e, 4 ≤ e → e < tc_E S → a_treeWays (n * 74 + e) = wo e) →
    (∀ h, h < 4 → tc_L t h < k → a_treeWays (n * 74 + h) = tc_wf S 536870912 t wo 4 h) →
    (∀ a', tc_fr a_treeWays a' (n * 74) → (∀ e, e < tc_E S → a' (n * 74 + e) = tc_wf S 536870912 t wo 4 e) → post (f_patternDepth, f_patternNodes, f_ruleCount, f_entryCount, f_treeDepth, f_treeNodes, f_stateCount, f_coverLength, f_pendingCount, a_patternStack, a_patternSymbol, a_patternFirst, a_patternLast, a_patternEntry, a_ruleLeft, a_ruleCost, a_ruleEntry, a_ruleStart, a_entryOperator, a_entryFirst, a_entryLast, a_treeStack, a_treeOperator, a_treeFirst, a_treeLast, a_treeSize, a_treeCosts, a', a_stateCosts, a_cover, a_pendingEntry, a_pendingNode)) →
    ∀ m, d < m → wX_fillWays_57 post (nI n) (nI (n * 74)) f_patternDepth f_patternNodes f_ruleCount f_entryCount f_treeDepth f_treeNodes f_stateCount f_coverLength f_pendingCount m (nI k) a_patternStack a_patternSymbol a_patternFirst a_patternLast a_patternEntry a_ruleLeft a_ruleCost a_ruleEntry a_ruleStart a_entryOperator a_entryFirst a_entryLast a_treeStack a_treeOperator a_treeFirst a_treeLast a_treeSize a_treeCosts a_treeWays a_stateCosts a_cover a_pendingEntry a_pendingNode := by
  intro d
  induction d with
  | zero =>
    intro k hk a_treeWays h4 hP hp m hm
    obtain ⟨m', rfl⟩ : ∃ m', m = m' + 1 := ⟨m - 1, by omega⟩
    have e : k = 4 := by omega
    subst e
    refine br_t (nI_le (a := 4) (Nat.le_refl _) (by decide)) (hp _ (tc_fr_refl _ _) (fun e he => ?_))
    by_cases c : e < 4
    · have := tc_L_le3 (t := t) c
      exact hP e c (by omega)
    · rw [tc_wf_ge (by omega)]
      exact h4 e (by omega) he
  | succ d ih =>
    intro k hk a_treeWays h4 hP hp m hm
    obtain ⟨m', rfl⟩ : ∃ m', m = m' + 1 := ⟨m - 1, by omega⟩
    refine br_f (nI_ge (b := 4) (by omega) (by decide)) ⟨5, ?_⟩
    refine xm_fw_65 ok hx hn hK ht (wo := wo) 4 0 (by omega) a_treeWays h4 hP (fun h hh => absurd hh (Nat.not_lt_zero _)) (fun a' f1 f2 f3 => ?_) 5 (by omega)
    exact ih (k + 1) (by omega) a' f2 f3 (fun a2 s1 s2 => hp a2 (tc_fr_trans f1 s1) s2) m' (by omega)
theorem xm_fw_7 (ok : tc_ok S) (hn : tc_tn ty tz tn) (hN : tn ≤ 24) {post : SX → Prop} {f_patternDepth : Int32} {f_patternNodes : Int32} {f_ruleCount : Int32} {f_entryCount : Int32} {f_treeDepth : Int32} {f_treeNodes : Int32} {f_stateCount : Int32} {f_coverLength : Int32} {f_pendingCount : Int32} {a_patternStack : Nat → Int32} {a_patternSymbol : Nat → Int32} {a_patternFirst : Nat → Int32} {a_patternLast : Nat → Int32} {a_patternEntry : Nat → Int32} {a_ruleLeft : Nat → Int32} {a_ruleCost : Nat → Int32} {a_ruleEntry : Nat → Int32} {a_ruleStart : Nat → Int32} {a_entryOperator : Nat → Int32} {a_entryFirst : Nat → Int32} {a_entryLast : Nat → Int32} {a_treeStack : Nat → Int32} {a_treeOperator : Nat → Int32} {a_treeFirst : Nat → Int32} {a_treeLast : Nat → Int32} {a_treeSize : Nat → Int32} {a_treeCosts : Nat → Int32} {a_stateCosts : Nat → Int32} {a_cover : Nat → Int32} {a_pendingEntry : Nat → Int32} {a_pendingNode : Nat → Int32} (hx : tc_xr S f_ruleCount f_entryCount a_ruleLeft a_ruleCost a_ruleEntry a_ruleStart a_entryOperator a_entryFirst a_entryLast)
    (ht : tc_xt tn td ty tz tk f_treeDepth f_treeNodes a_treeStack a_treeOperator a_treeFirst a_treeLast a_treeSize) {i : Nat} (hi : i < tn)
    (hr : tc_tr a_treeCosts (i * 74) (tc_E S) (tc_v S 536870912 ty tz i)) {x y : Nat → Int32} :
    ∀ (d e : Nat), e + d = tc_E S → 4 ≤ e → ∀ a_treeWays : Nat → Int32, (∀ j, 4 ≤ j → j < e → a_treeWays (i * 74 + j) = tc_wo S 536870912 (tc_v S 536870912 ty tz i) (ty i) x y j) →
    (2 ≤ ty i → ∀ e, e < tc_E S → a_treeWays ((i - 1) * 74 + e) = y e) → (4 ≤ ty i → ∀ e, e < tc_E S → a_treeWays ((i - 1 - tz (i - 1)) * 74 + e) = x e) →
    (∀ a', tc_fr a_treeWays a' (i * 74) → (∀ e, e < tc_E S → a' (i * 74 + e) = tc_wr S 536870912 (tc_v S 536870912 ty tz i) (ty i) x y e) → post (f_patternDepth, f_patternNodes, f_ruleCount, f_entryCount, f_treeDepth, f_treeNodes, f_stateCount, f_coverLength, f_pendingCount, a_patternStack, a_patternSymbol, a_patternFirst, a_patternLast, a_patternEntry, a_ruleLeft, a_ruleCost, a_ruleEntry, a_ruleStart, a_entryOperator, a_entryFirst, a_entryLast, a_treeStack, a_treeOperator, a_treeFirst, a_treeLast, a_treeSize, a_treeCosts, a', a_stateCosts, a_cover, a_pendingEntry, a_pendingNode)) →
    ∀ m, d < m → wX_fillWays_7 post (nI i) (nI (i * 74)) f_patternDepth f_patternNodes f_ruleCount f_entryCount f_treeDepth f_treeNodes f_stateCount f_coverLength f_pendingCount m (nI e) a_patternStack a_patternSymbol a_patternFirst a_patternLast a_patternEntry a_ruleLeft a_ruleCost a_ruleEntry a_ruleStart a_entryOperator a_entryFirst a_entryLast a_treeStack a_treeOperator a_treeFirst a_treeLast a_treeSize a_treeCosts a_treeWays a_stateCosts a_cover a_pendingEntry a_pendingNode := by
  have hE := tc_ok_E ok
  obtain ⟨h6, n1, n2, n3, n4, n5, n6, n7⟩ := hn i hi
  have vle : ∀ e, tc_v S 536870912 ty tz i e ≤ 536870912 := fun e => tc_v_le (fun h => n3 h h6) e
  intro d
  induction d with
  | zero =>
    intro e he he4 a_treeWays h4 hyw hxw hp m hm
    obtain ⟨m', rfl⟩ : ∃ m', m = m' + 1 := ⟨m - 1, by omega⟩
    have e1 : e = tc_E S := by omega
    subst e1
    refine br_t (by rw [hx.2.1]; exact nI_le (Nat.le_refl _) (by omega)) ⟨5, ?_⟩
    exact xm_fw_57 ok hx (by omega) vle hr 4 0 (by omega) a_treeWays h4 (fun h _ hh => absurd hh (Nat.not_lt_zero _)) hp 5 (by omega)
  | succ d ih =>
    intro e he he4 a_treeWays h4 hyw hxw hp m hm
    obtain ⟨m', rfl⟩ : ∃ m', m = m' + 1 := ⟨m - 1, by omega⟩
    have heE : e < tc_E S := by omega
    have w : nI (i * 74) + nI e = nI (i * 74 + e) := nI_add _ _
    have ve := vle e
    have key : ∀ z : Int32, z = tc_wo S 536870912 (tc_v S 536870912 ty tz i) (ty i) x y e → wX_fillWays_39 post (wX_fillWays_7 post (nI i) (nI (i * 74)) f_patternDepth f_patternNodes f_ruleCount f_entryCount f_treeDepth f_treeNodes f_stateCount f_coverLength f_pendingCount m') (nI i) (nI (i * 74)) (nI e) z f_patternDepth f_patternNodes f_ruleCount f_entryCount f_treeDepth f_treeNodes f_stateCount f_coverLength f_pendingCount a_patternStack a_patternSymbol a_patternFirst a_patternLast a_patternEntry a_ruleLeft a_ruleCost a_ruleEntry a_ruleStart a_entryOperator a_entryFirst a_entryLast a_treeStack a_treeOperator a_treeFirst a_treeLast a_treeSize a_treeCosts a_treeWays a_stateCosts a_cover a_pendingEntry a_pendingNode := fun z hz => by
      refine ⟨by rw [w]; exact vp_in_nI (by omega) (by decide), nm_r (e' := upd a_treeWays (i * 74 + e) z) (by rw [w, nI_clamp (by omega)]) (nm_r (nI_1 e) ?_)⟩
      refine ih (e + 1) (by omega) (by omega) _ (fun j h1 h2 => ?_) (fun h2 j hj => ?_) (fun h2 j hj => ?_) (fun a' f1 f2 => hp a' (tc_fr_trans (tc_fr_upd (by omega)) f1) f2) m' (by omega)
      · by_cases c : j = e
        · rw [c, pk_us, hz]
        · rw [pk_un (by omega)]
          exact h4 j h1 (by omega)
      · have := n3 h2 h6
        rw [pk_un (by omega)]
        exact hyw h2 j hj
      · have := n3 (by omega) h6
        rw [pk_un (by omega)]
        exact hxw h2 j hj
    refine br_f (by rw [hx.2.1]; exact nI_ge heE (by omega)) ⟨by rw [w]; exact vp_in_nI (by omega) (by decide), ?_⟩
    refine pk_eq (tc_v S 536870912 ty tz i e) 536870912 (fun h => ?_) (fun h => ?_) (by rw [w, nI_clamp (by omega), hr e heE]) rfl (by omega) (by omega)
    · exact key 0 (if_pos h).symm
    · refine xm_wp ok hn hN hx ht he4 heE hi (tc_v_op ok (fun h => n3 h h6) he4 h).1 hyw hxw ?_
      exact key _ (if_neg h).symm
theorem xm_fw (ok : tc_ok S) (hn : tc_tn ty tz tn) (hN : tn ≤ 24) {post : SX → Prop} {f_patternDepth : Int32} {f_patternNodes : Int32} {f_ruleCount : Int32} {f_entryCount : Int32} {f_treeDepth : Int32} {f_treeNodes : Int32} {f_stateCount : Int32} {f_coverLength : Int32} {f_pendingCount : Int32} {a_patternStack : Nat → Int32} {a_patternSymbol : Nat → Int32} {a_patternFirst : Nat → Int32} {a_patternLast : Nat → Int32} {a_patternEntry : Nat → Int32} {a_ruleLeft : Nat → Int32} {a_ruleCost : Nat → Int32} {a_ruleEntry : Nat → Int32} {a_ruleStart : Nat → Int32} {a_entryOperator : Nat → Int32} {a_entryFirst : Nat → Int32} {a_entryLast : Nat → Int32} {a_treeStack : Nat → Int32} {a_treeOperator : Nat → Int32} {a_treeFirst : Nat → Int32} {a_treeLast : Nat → Int32} {a_treeSize : Nat → Int32} {a_treeCosts : Nat → Int32} {a_treeWays : Nat → Int32} {a_stateCosts : Nat → Int32} {a_cover : Nat → Int32} {a_pendingEntry : Nat → Int32} {a_pendingNode : Nat → Int32} (hx : tc_xr S f_ruleCount f_entryCount a_ruleLeft a_ruleCost a_ruleEntry a_ruleStart a_entryOperator a_entryFirst a_entryLast)
    (ht : tc_xt tn td ty tz tk f_treeDepth f_treeNodes a_treeStack a_treeOperator a_treeFirst a_treeLast a_treeSize) {i : Nat} (hi : i < tn)
    (hr : tc_tr a_treeCosts (i * 74) (tc_E S) (tc_v S 536870912 ty tz i)) {x y : Nat → Int32}
    (hyw : 2 ≤ ty i → ∀ e, e < tc_E S → a_treeWays ((i - 1) * 74 + e) = y e) (hxw : 4 ≤ ty i → ∀ e, e < tc_E S → a_treeWays ((i - 1 - tz (i - 1)) * 74 + e) = x e)
    (hp : ∀ a', tc_fr a_treeWays a' (i * 74) → (∀ e, e < tc_E S → a' (i * 74 + e) = tc_wr S 536870912 (tc_v S 536870912 ty tz i) (ty i) x y e) → post (f_patternDepth, f_patternNodes, f_ruleCount, f_entryCount, f_treeDepth, f_treeNodes, f_stateCount, f_coverLength, f_pendingCount, a_patternStack, a_patternSymbol, a_patternFirst, a_patternLast, a_patternEntry, a_ruleLeft, a_ruleCost, a_ruleEntry, a_ruleStart, a_entryOperator, a_entryFirst, a_entryLast, a_treeStack, a_treeOperator, a_treeFirst, a_treeLast, a_treeSize, a_treeCosts, a', a_stateCosts, a_cover, a_pendingEntry, a_pendingNode)) :
    wpX_fillWays post (f_patternDepth, f_patternNodes, f_ruleCount, f_entryCount, f_treeDepth, f_treeNodes, f_stateCount, f_coverLength, f_pendingCount, a_patternStack, a_patternSymbol, a_patternFirst, a_patternLast, a_patternEntry, a_ruleLeft, a_ruleCost, a_ruleEntry, a_ruleStart, a_entryOperator, a_entryFirst, a_entryLast, a_treeStack, a_treeOperator, a_treeFirst, a_treeLast, a_treeSize, a_treeCosts, a_treeWays, a_stateCosts, a_cover, a_pendingEntry, a_pendingNode) (nI i) := by
  have hE := tc_ok_E ok
  refine nm_r (e' := nI (i * 74)) (by rw [show (74 : Int32) = nI 74 from rfl, pk_mul]) ⟨tc_E S + 1, ?_⟩
  exact xm_fw_7 ok hn hN hx ht hi hr (tc_E S - 4) 4 (by omega) (Nat.le_refl _) a_treeWays (fun j h1 h2 => by omega) hyw hxw hp _ (by omega)
/-- the loop over all nodes -/
theorem xm_ways_25 (ok : tc_ok S) (hF : tc_fo tn td ty tz tk) (h6 : ∀ i, i < tn → ty i < 6) (hN : tn ≤ 24) (hD : td ≤ 8) (hd0 : 0 < td) {g : Nat} (hg : g < 4) {post : Int32 → SX → Prop} {f_patternDepth : Int32} {f_patternNodes : Int32} {f_ruleCount : Int32} {f_entryCount : Int32} {f_treeDepth : Int32} {f_treeNodes : Int32} {f_stateCount : Int32} {f_coverLength : Int32} {f_pendingCount : Int32} {a_patternStack : Nat → Int32} {a_patternSymbol : Nat → Int32} {a_patternFirst : Nat → Int32} {a_patternLast : Nat → Int32} {a_patternEntry : Nat → Int32} {a_ruleLeft : Nat → Int32} {a_ruleCost : Nat → Int32} {a_ruleEntry : Nat → Int32} {a_ruleStart : Nat → Int32} {a_entryOperator : Nat → Int32} {a_entryFirst : Nat → Int32} {a_entryLast : Nat → Int32} {a_treeStack : Nat → Int32} {a_treeOperator : Nat → Int32} {a_treeFirst : Nat → Int32} {a_treeLast : Nat → Int32} {a_treeSize : Nat → Int32} {a_treeCosts : Nat → Int32} {a_stateCosts : Nat → Int32} {a_cover : Nat → Int32} {a_pendingEntry : Nat → Int32} {a_pendingNode : Nat → Int32}
    (hx : tc_xr S f_ruleCount f_entryCount a_ruleLeft a_ruleCost a_ruleEntry a_ruleStart a_entryOperator a_entryFirst a_entryLast)
    (ht : tc_xt tn td ty tz tk f_treeDepth f_treeNodes a_treeStack a_treeOperator a_treeFirst a_treeLast a_treeSize) (hr : tc_rows S 536870912 ty tz a_treeCosts tn) :
    ∀ (d i : Nat), i + d = tn → ∀ a_treeWays : Nat → Int32, (∀ m, m < i → ∀ e, e < tc_E S → a_treeWays (m * 74 + e) = tc_w S 536870912 ty tz m e) →
    (∀ a', post (tc_w S 536870912 ty tz (tn - 1) g) (f_patternDepth, f_patternNodes, f_ruleCount, f_entryCount, f_treeDepth, f_treeNodes, f_stateCount, f_coverLength, f_pendingCount, a_patternStack, a_patternSymbol, a_patternFirst, a_patternLast, a_patternEntry, a_ruleLeft, a_ruleCost, a_ruleEntry, a_ruleStart, a_entryOperator, a_entryFirst, a_entryLast, a_treeStack, a_treeOperator, a_treeFirst, a_treeLast, a_treeSize, a_treeCosts, a', a_stateCosts, a_cover, a_pendingEntry, a_pendingNode)) → ∀ m, d < m → wX_ways_25 post (nI g) m (nI i) f_patternDepth f_patternNodes f_ruleCount f_entryCount f_treeDepth f_treeNodes f_stateCount f_coverLength f_pendingCount a_patternStack a_patternSymbol a_patternFirst a_patternLast a_patternEntry a_ruleLeft a_ruleCost a_ruleEntry a_ruleStart a_entryOperator a_entryFirst a_entryLast a_treeStack a_treeOperator a_treeFirst a_treeLast a_treeSize a_treeCosts a_treeWays a_stateCosts a_cover a_pendingEntry a_pendingNode := by
  have hn : tc_tn ty tz tn := fun i hi => ⟨h6 i hi, hF.2.2.2.2.2 i hi⟩
  have hE := tc_ok_E ok
  intro d
  induction d with
  | zero =>
    intro i hi a_treeWays hw hp m hm
    obtain ⟨m', rfl⟩ : ∃ m', m = m' + 1 := ⟨m - 1, by omega⟩
    have e : i = tn := by omega
    subst e
    obtain ⟨s1, s2⟩ := tc_fo_t1 hF (by omega)
    have w : f_treeDepth - 1 = nI (td - 1) := by rw [ht.1, show (1 : Int32) = nI 1 from rfl, pk_sub (by omega)]
    have w2 : a_treeStack (f_treeDepth - 1).toNatClampNeg * 74 + nI g = nI ((i - 1) * 74 + g) := by
      rw [w, nI_clamp (by omega), ht.2.2.1 (td - 1) (by omega), s2, show (74 : Int32) = nI 74 from rfl, pk_mul, nI_add]
    refine br_t (by rw [ht.2.1]; exact nI_le (Nat.le_refl _) (by omega)) ⟨by rw [w]; exact vp_in_nI (by omega) (by decide), by rw [w2]; exact vp_in_nI (by omega) (by decide), ?_⟩
    rw [w2, nI_clamp (by omega), hw (i - 1) (by omega) g (by omega)]
    exact hp a_treeWays
  | succ d ih =>
    intro i hi a_treeWays hw hp m hm
    obtain ⟨m', rfl⟩ : ∃ m', m = m' + 1 := ⟨m - 1, by omega⟩
    have hit : i < tn := by omega
    have h6i := h6 i hit
    have n3 := (hn i hit).2.2.2.1
    refine br_f (by rw [ht.2.1]; exact nI_ge hit (by omega)) ?_
    refine xm_fw ok hn hN hx ht hit (hr i hit) (x := tc_w S 536870912 ty tz (i - 1 - tz (i - 1))) (y := tc_w S 536870912 ty tz (i - 1)) (fun h2 => hw (i - 1) (by have := n3 h2 h6i; omega)) (fun h4 => hw (i - 1 - tz (i - 1)) (by have := n3 (by omega) h6i; omega)) (fun a' f1 f2 => ?_)
    refine nm_r (nI_1 i) (ih (i + 1) (by omega) a' (fun k hk e he => ?_) hp m' (by omega))
    by_cases c : k = i
    · rw [c, f2 e he, tc_w_eq (fun h => n3 h h6i)]
    · rw [f1 _ (by omega)]
      exact hw k (by omega) e he
end
