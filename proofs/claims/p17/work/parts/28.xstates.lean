/-- the rows of X's states are rows of costs -/
def tc_xs (S : tc_S) (a : Nat → Int32) (c : Nat) : Prop := ∀ j, j < c → ∃ t : Nat → Nat, (∀ e, t e ≤ 536870912) ∧ tc_tr a (j * 74) (tc_E S) t
section
variable {S : tc_S}
theorem xs_28 (ok : tc_ok S) {post : SX → Prop} {f_patternDepth : Int32} {f_patternNodes : Int32} {f_ruleCount : Int32} {f_entryCount : Int32} {f_treeDepth : Int32} {f_treeNodes : Int32} {f_stateCount : Int32} {f_coverLength : Int32} {f_pendingCount : Int32} {a_patternStack : Nat → Int32} {a_patternSymbol : Nat → Int32} {a_patternFirst : Nat → Int32} {a_patternLast : Nat → Int32} {a_patternEntry : Nat → Int32} {a_ruleLeft : Nat → Int32} {a_ruleCost : Nat → Int32} {a_ruleEntry : Nat → Int32} {a_ruleStart : Nat → Int32} {a_entryOperator : Nat → Int32} {a_entryFirst : Nat → Int32} {a_entryLast : Nat → Int32} {a_treeStack : Nat → Int32} {a_treeOperator : Nat → Int32} {a_treeFirst : Nat → Int32} {a_treeLast : Nat → Int32} {a_treeSize : Nat → Int32} {a_treeCosts : Nat → Int32} {a_treeWays : Nat → Int32} {a_stateCosts : Nat → Int32} {a_cover : Nat → Int32} {a_pendingEntry : Nat → Int32} {a_pendingNode : Nat → Int32} (hx : tc_xr S f_ruleCount f_entryCount a_ruleLeft a_ruleCost a_ruleEntry a_ruleStart a_entryOperator a_entryFirst a_entryLast) {c : Nat} (hc : c < 21) (hsc : f_stateCount = nI c)
    (hs : tc_xs S a_stateCosts (c + 1)) (hp : ∀ c', c ≤ c' → c' ≤ c + 1 → post (f_patternDepth, f_patternNodes, f_ruleCount, f_entryCount, f_treeDepth, f_treeNodes, nI c', f_coverLength, f_pendingCount, a_patternStack, a_patternSymbol, a_patternFirst, a_patternLast, a_patternEntry, a_ruleLeft, a_ruleCost, a_ruleEntry, a_ruleStart, a_entryOperator, a_entryFirst, a_entryLast, a_treeStack, a_treeOperator, a_treeFirst, a_treeLast, a_treeSize, a_treeCosts, a_treeWays, a_stateCosts, a_cover, a_pendingEntry, a_pendingNode)) :
    ∀ (d r : Nat), r + d = c → ∀ m, d < m → wX_addState_28 post f_patternDepth f_patternNodes f_ruleCount f_entryCount f_treeDepth f_treeNodes f_stateCount f_coverLength f_pendingCount a_patternStack a_patternSymbol a_patternFirst a_patternLast a_patternEntry a_ruleLeft a_ruleCost a_ruleEntry a_ruleStart a_entryOperator a_entryFirst a_entryLast a_treeStack a_treeOperator a_treeFirst a_treeLast a_treeSize a_treeCosts a_treeWays a_stateCosts a_cover a_pendingEntry a_pendingNode m (nI r) := by
  subst hsc
  intro d
  induction d with
  | zero =>
    intro r hr m hm
    obtain ⟨m', rfl⟩ : ∃ m', m = m' + 1 := ⟨m - 1, by omega⟩
    have e : r = c := by omega
    subst e
    exact br_t (nI_le (Nat.le_refl _) (by omega)) (nm_r (nI_1 r) (hp (r + 1) (by omega) (by omega)))
  | succ d ih =>
    intro r hr m hm
    obtain ⟨m', rfl⟩ : ∃ m', m = m' + 1 := ⟨m - 1, by omega⟩
    obtain ⟨t, t1, t2⟩ := hs r (by omega)
    obtain ⟨u, u1, u2⟩ := hs c (by omega)
    refine br_f (nI_ge (by omega) (by omega)) ?_
    exact xsc_s_wp ok (by omega) hc hx.2.1 t1 u1 t2 u2 (fun _ => br_f (by decide) (hp c (Nat.le_refl _) (by omega))) (fun _ => br_t rfl (nm_r (nI_1 r) (ih (r + 1) (by omega) m' (by omega))))
theorem xs_add (ok : tc_ok S) {post : SX → Prop} {f_patternDepth : Int32} {f_patternNodes : Int32} {f_ruleCount : Int32} {f_entryCount : Int32} {f_treeDepth : Int32} {f_treeNodes : Int32} {f_stateCount : Int32} {f_coverLength : Int32} {f_pendingCount : Int32} {a_patternStack : Nat → Int32} {a_patternSymbol : Nat → Int32} {a_patternFirst : Nat → Int32} {a_patternLast : Nat → Int32} {a_patternEntry : Nat → Int32} {a_ruleLeft : Nat → Int32} {a_ruleCost : Nat → Int32} {a_ruleEntry : Nat → Int32} {a_ruleStart : Nat → Int32} {a_entryOperator : Nat → Int32} {a_entryFirst : Nat → Int32} {a_entryLast : Nat → Int32} {a_treeStack : Nat → Int32} {a_treeOperator : Nat → Int32} {a_treeFirst : Nat → Int32} {a_treeLast : Nat → Int32} {a_treeSize : Nat → Int32} {a_treeCosts : Nat → Int32} {a_treeWays : Nat → Int32} {a_stateCosts : Nat → Int32} {a_cover : Nat → Int32} {a_pendingEntry : Nat → Int32} {a_pendingNode : Nat → Int32} (hx : tc_xr S f_ruleCount f_entryCount a_ruleLeft a_ruleCost a_ruleEntry a_ruleStart a_entryOperator a_entryFirst a_entryLast) {c o fi la : Nat} (hc : c ≤ 21) (hsc : f_stateCount = nI c) (ho : o < 6)
    (hs : tc_xs S a_stateCosts c) (hla : 2 ≤ o → la < c) (hfi : 4 ≤ o → fi < c)
    (hp : ∀ (a' : Nat → Int32) (c' : Nat), c ≤ c' → c' ≤ c + 1 → c' ≤ 21 → tc_xs S a' c' → post (f_patternDepth, f_patternNodes, f_ruleCount, f_entryCount, f_treeDepth, f_treeNodes, nI c', f_coverLength, f_pendingCount, a_patternStack, a_patternSymbol, a_patternFirst, a_patternLast, a_patternEntry, a_ruleLeft, a_ruleCost, a_ruleEntry, a_ruleStart, a_entryOperator, a_entryFirst, a_entryLast, a_treeStack, a_treeOperator, a_treeFirst, a_treeLast, a_treeSize, a_treeCosts, a_treeWays, a', a_cover, a_pendingEntry, a_pendingNode)) :
    wpX_addState post (f_patternDepth, f_patternNodes, f_ruleCount, f_entryCount, f_treeDepth, f_treeNodes, f_stateCount, f_coverLength, f_pendingCount, a_patternStack, a_patternSymbol, a_patternFirst, a_patternLast, a_patternEntry, a_ruleLeft, a_ruleCost, a_ruleEntry, a_ruleStart, a_entryOperator, a_entryFirst, a_entryLast, a_treeStack, a_treeOperator, a_treeFirst, a_treeLast, a_treeSize, a_treeCosts, a_treeWays, a_stateCosts, a_cover, a_pendingEntry, a_pendingNode) (nI o) (nI fi) (nI la) := by
  subst hsc
  refine pk_lt c 21 (fun h => ?_) (fun h => ?_) rfl rfl (by omega) (by omega)
  · obtain ⟨y, hy⟩ : ∃ y : Nat → Nat, 2 ≤ o → (∀ e, y e ≤ 536870912) ∧ tc_tr a_stateCosts (la * 74) (tc_E S) y := by
      by_cases h2 : 2 ≤ o
      · obtain ⟨t, t1, t2⟩ := hs la (hla h2)
        exact ⟨t, fun _ => ⟨t1, t2⟩⟩
      · exact ⟨fun _ => 0, fun z => absurd z h2⟩
    obtain ⟨x, hxr⟩ : ∃ x : Nat → Nat, 4 ≤ o → (∀ e, x e ≤ 536870912) ∧ tc_tr a_stateCosts (fi * 74) (tc_E S) x := by
      by_cases h2 : 4 ≤ o
      · obtain ⟨t, t1, t2⟩ := hs fi (hfi h2)
        exact ⟨t, fun _ => ⟨t1, t2⟩⟩
      · exact ⟨fun _ => 0, fun z => absurd z h2⟩
    refine xsc_f_wp ok h ho (x := x) (y := y) hx (fun z => ⟨la, rfl, by have := hla z; omega, by have := hla z; omega, fun e he => ⟨(hy z).2 e he, (hy z).1 e⟩⟩) (fun z => ⟨fi, rfl, by have := hfi z; omega, by have := hfi z; omega, fun e he => ⟨(hxr z).2 e he, (hxr z).1 e⟩⟩) (fun a' hf hr => ?_)
    have hs' : tc_xs S a' (c + 1) := fun j hj => by
      by_cases e : j = c
      · rw [e]
        exact ⟨_, fun e => tc_row_le e 4, hr⟩
      · obtain ⟨t, t1, t2⟩ := hs j (by omega)
        have hE := tc_ok_E ok
        refine ⟨t, t1, fun e he => ?_⟩
        rw [hf _ (by omega)]
        exact t2 e he
    exact ⟨c + 1, xs_28 ok hx h rfl hs' (fun c' h1 h2 => hp a' c' h1 h2 (by omega) (fun j hj => hs' j (by omega))) c 0 (by omega) _ (by omega)⟩
  · exact hp a_stateCosts c (Nat.le_refl _) (by omega) hc hs
theorem xs_30 (ok : tc_ok S) {post : SX → Prop} {J : Int32 → Int32 → Int32 → Int32 → Int32 → Int32 → Int32 → Int32 → Int32 → Int32 → (Nat → Int32) → (Nat → Int32) → (Nat → Int32) → (Nat → Int32) → (Nat → Int32) → (Nat → Int32) → (Nat → Int32) → (Nat → Int32) → (Nat → Int32) → (Nat → Int32) → (Nat → Int32) → (Nat → Int32) → (Nat → Int32) → (Nat → Int32) → (Nat → Int32) → (Nat → Int32) → (Nat → Int32) → (Nat → Int32) → (Nat → Int32) → (Nat → Int32) → (Nat → Int32) → (Nat → Int32) → (Nat → Int32) → Prop} {f_patternDepth : Int32} {f_patternNodes : Int32} {f_ruleCount : Int32} {f_entryCount : Int32} {f_treeDepth : Int32} {f_treeNodes : Int32} {f_coverLength : Int32} {f_pendingCount : Int32} {a_patternStack : Nat → Int32} {a_patternSymbol : Nat → Int32} {a_patternFirst : Nat → Int32} {a_patternLast : Nat → Int32} {a_patternEntry : Nat → Int32} {a_ruleLeft : Nat → Int32} {a_ruleCost : Nat → Int32} {a_ruleEntry : Nat → Int32} {a_ruleStart : Nat → Int32} {a_entryOperator : Nat → Int32} {a_entryFirst : Nat → Int32} {a_entryLast : Nat → Int32} {a_treeStack : Nat → Int32} {a_treeOperator : Nat → Int32} {a_treeFirst : Nat → Int32} {a_treeLast : Nat → Int32} {a_treeSize : Nat → Int32} {a_treeCosts : Nat → Int32} {a_treeWays : Nat → Int32} {a_cover : Nat → Int32} {a_pendingEntry : Nat → Int32} {a_pendingNode : Nat → Int32} (hx : tc_xr S f_ruleCount f_entryCount a_ruleLeft a_ruleCost a_ruleEntry a_ruleStart a_entryOperator a_entryFirst a_entryLast) {row o : Nat} (ho : o < 6) :
    ∀ (d k : Nat), k + d = row + 1 → ∀ (c : Nat) (a_stateCosts : Nat → Int32), row < c → c ≤ 21 → tc_xs S a_stateCosts c →
    (∀ (a' : Nat → Int32) (c' : Nat), c ≤ c' → c' ≤ 21 → tc_xs S a' c' → J (nI (o + 1)) f_patternDepth f_patternNodes f_ruleCount f_entryCount f_treeDepth f_treeNodes (nI c') f_coverLength f_pendingCount a_patternStack a_patternSymbol a_patternFirst a_patternLast a_patternEntry a_ruleLeft a_ruleCost a_ruleEntry a_ruleStart a_entryOperator a_entryFirst a_entryLast a_treeStack a_treeOperator a_treeFirst a_treeLast a_treeSize a_treeCosts a_treeWays a' a_cover a_pendingEntry a_pendingNode) →
    ∀ m, d < m → wX_combineState_30 post J (nI row) (nI o) m (nI k) f_patternDepth f_patternNodes f_ruleCount f_entryCount f_treeDepth f_treeNodes (nI c) f_coverLength f_pendingCount a_patternStack a_patternSymbol a_patternFirst a_patternLast a_patternEntry a_ruleLeft a_ruleCost a_ruleEntry a_ruleStart a_entryOperator a_entryFirst a_entryLast a_treeStack a_treeOperator a_treeFirst a_treeLast a_treeSize a_treeCosts a_treeWays a_stateCosts a_cover a_pendingEntry a_pendingNode := by
  intro d
  induction d with
  | zero =>
    intro k hk c a_stateCosts hrow hc hs hp m hm
    obtain ⟨m', rfl⟩ : ∃ m', m = m' + 1 := ⟨m - 1, by omega⟩
    exact br_t (nI_lt (by omega) (by omega)) (nm_r (nI_1 o) (hp _ c (Nat.le_refl _) hc hs))
  | succ d ih =>
    intro k hk c a_stateCosts hrow hc hs hp m hm
    obtain ⟨m', rfl⟩ : ∃ m', m = m' + 1 := ⟨m - 1, by omega⟩
    refine br_f (nI_nlt (by omega) (by omega)) ?_
    refine xs_add ok hx hc rfl ho hs (fun _ => by omega) (fun _ => hrow) (fun a' c' h1 h2 h3 h4 => ?_)
    refine xs_add ok hx h3 rfl ho h4 (fun _ => by omega) (fun _ => by omega) (fun a2 c2 g1 g2 g3 g4 => ?_)
    exact nm_r (nI_1 k) (ih (k + 1) (by omega) c2 a2 (by omega) g3 g4 (fun a3 c3 q1 q2 q3 => hp a3 c3 (by omega) q2 q3) m' (by omega))
theorem xs_22 (ok : tc_ok S) {post : SX → Prop} {f_patternDepth : Int32} {f_patternNodes : Int32} {f_ruleCount : Int32} {f_entryCount : Int32} {f_treeDepth : Int32} {f_treeNodes : Int32} {f_coverLength : Int32} {f_pendingCount : Int32} {a_patternStack : Nat → Int32} {a_patternSymbol : Nat → Int32} {a_patternFirst : Nat → Int32} {a_patternLast : Nat → Int32} {a_patternEntry : Nat → Int32} {a_ruleLeft : Nat → Int32} {a_ruleCost : Nat → Int32} {a_ruleEntry : Nat → Int32} {a_ruleStart : Nat → Int32} {a_entryOperator : Nat → Int32} {a_entryFirst : Nat → Int32} {a_entryLast : Nat → Int32} {a_treeStack : Nat → Int32} {a_treeOperator : Nat → Int32} {a_treeFirst : Nat → Int32} {a_treeLast : Nat → Int32} {a_treeSize : Nat → Int32} {a_treeCosts : Nat → Int32} {a_treeWays : Nat → Int32} {a_cover : Nat → Int32} {a_pendingEntry : Nat → Int32} {a_pendingNode : Nat → Int32} (hx : tc_xr S f_ruleCount f_entryCount a_ruleLeft a_ruleCost a_ruleEntry a_ruleStart a_entryOperator a_entryFirst a_entryLast) {row : Nat} :
    ∀ (d o : Nat), o + d = 6 → ∀ (c : Nat) (a_stateCosts : Nat → Int32), row < c → c ≤ 21 → tc_xs S a_stateCosts c →
    (∀ (a' : Nat → Int32) (c' : Nat), c ≤ c' → c' ≤ 21 → tc_xs S a' c' → post (f_patternDepth, f_patternNodes, f_ruleCount, f_entryCount, f_treeDepth, f_treeNodes, nI c', f_coverLength, f_pendingCount, a_patternStack, a_patternSymbol, a_patternFirst, a_patternLast, a_patternEntry, a_ruleLeft, a_ruleCost, a_ruleEntry, a_ruleStart, a_entryOperator, a_entryFirst, a_entryLast, a_treeStack, a_treeOperator, a_treeFirst, a_treeLast, a_treeSize, a_treeCosts, a_treeWays, a', a_cover, a_pendingEntry, a_pendingNode)) →
    ∀ m, d < m → wX_combineState_22 post (nI row) m (nI o) f_patternDepth f_patternNodes f_ruleCount f_entryCount f_treeDepth f_treeNodes (nI c) f_coverLength f_pendingCount a_patternStack a_patternSymbol a_patternFirst a_patternLast a_patternEntry a_ruleLeft a_ruleCost a_ruleEntry a_ruleStart a_entryOperator a_entryFirst a_entryLast a_treeStack a_treeOperator a_treeFirst a_treeLast a_treeSize a_treeCosts a_treeWays a_stateCosts a_cover a_pendingEntry a_pendingNode := by
  intro d
  induction d with
  | zero =>
    intro o ho c a_stateCosts hrow hc hs hp m hm
    obtain ⟨m', rfl⟩ : ∃ m', m = m' + 1 := ⟨m - 1, by omega⟩
    exact br_t (nI_le (a := 6) (by omega) (by omega)) (hp _ c (Nat.le_refl _) hc hs)
  | succ d ih =>
    intro o ho c a_stateCosts hrow hc hs hp m hm
    obtain ⟨m', rfl⟩ : ∃ m', m = m' + 1 := ⟨m - 1, by omega⟩
    refine br_f (nI_ge (b := 6) (by omega) (by decide)) ⟨row + 2, ?_⟩
    refine xs_30 ok hx (by omega) (row + 1) 0 (by omega) c a_stateCosts hrow hc hs (fun a' c' h1 h2 h3 => ?_) _ (by omega)
    exact ih (o + 1) (by omega) c' a' (by omega) h2 h3 (fun a3 c3 q1 q2 q3 => hp a3 c3 (by omega) q2 q3) m' (by omega)
theorem xs_2 (ok : tc_ok S) {post : SX → Prop} {f_patternDepth : Int32} {f_patternNodes : Int32} {f_ruleCount : Int32} {f_entryCount : Int32} {f_treeDepth : Int32} {f_treeNodes : Int32} {f_coverLength : Int32} {f_pendingCount : Int32} {a_patternStack : Nat → Int32} {a_patternSymbol : Nat → Int32} {a_patternFirst : Nat → Int32} {a_patternLast : Nat → Int32} {a_patternEntry : Nat → Int32} {a_ruleLeft : Nat → Int32} {a_ruleCost : Nat → Int32} {a_ruleEntry : Nat → Int32} {a_ruleStart : Nat → Int32} {a_entryOperator : Nat → Int32} {a_entryFirst : Nat → Int32} {a_entryLast : Nat → Int32} {a_treeStack : Nat → Int32} {a_treeOperator : Nat → Int32} {a_treeFirst : Nat → Int32} {a_treeLast : Nat → Int32} {a_treeSize : Nat → Int32} {a_treeCosts : Nat → Int32} {a_treeWays : Nat → Int32} {a_cover : Nat → Int32} {a_pendingEntry : Nat → Int32} {a_pendingNode : Nat → Int32} (hx : tc_xr S f_ruleCount f_entryCount a_ruleLeft a_ruleCost a_ruleEntry a_ruleStart a_entryOperator a_entryFirst a_entryLast) {row : Nat} :
    ∀ (d o : Nat), o + d = 4 → ∀ (c : Nat) (a_stateCosts : Nat → Int32), row < c → c ≤ 21 → tc_xs S a_stateCosts c →
    (∀ (a' : Nat → Int32) (c' : Nat), c ≤ c' → c' ≤ 21 → tc_xs S a' c' → post (f_patternDepth, f_patternNodes, f_ruleCount, f_entryCount, f_treeDepth, f_treeNodes, nI c', f_coverLength, f_pendingCount, a_patternStack, a_patternSymbol, a_patternFirst, a_patternLast, a_patternEntry, a_ruleLeft, a_ruleCost, a_ruleEntry, a_ruleStart, a_entryOperator, a_entryFirst, a_entryLast, a_treeStack, a_treeOperator, a_treeFirst, a_treeLast, a_treeSize, a_treeCosts, a_treeWays, a', a_cover, a_pendingEntry, a_pendingNode)) →
    ∀ m, d < m → wX_combineState_2 post (nI row) m (nI o) f_patternDepth f_patternNodes f_ruleCount f_entryCount f_treeDepth f_treeNodes (nI c) f_coverLength f_pendingCount a_patternStack a_patternSymbol a_patternFirst a_patternLast a_patternEntry a_ruleLeft a_ruleCost a_ruleEntry a_ruleStart a_entryOperator a_entryFirst a_entryLast a_treeStack a_treeOperator a_treeFirst a_treeLast a_treeSize a_treeCosts a_treeWays a_stateCosts a_cover a_pendingEntry a_pendingNode := by
  intro d
  induction d with
  | zero =>
    intro o ho c a_stateCosts hrow hc hs hp m hm
    obtain ⟨m', rfl⟩ : ∃ m', m = m' + 1 := ⟨m - 1, by omega⟩
    exact br_t (nI_le (a := 4) (by omega) (by omega)) ⟨3, xs_22 ok hx 2 4 (by omega) c a_stateCosts hrow hc hs hp 3 (by omega)⟩
  | succ d ih =>
    intro o ho c a_stateCosts hrow hc hs hp m hm
    obtain ⟨m', rfl⟩ : ∃ m', m = m' + 1 := ⟨m - 1, by omega⟩
    refine br_f (nI_ge (b := 4) (by omega) (by decide)) ?_
    refine xs_add ok hx hc rfl (by omega) hs (fun _ => hrow) (fun _ => hrow) (fun a' c' h1 h2 h3 h4 => ?_)
    exact nm_r (nI_1 o) (ih (o + 1) (by omega) c' a' (by omega) h3 h4 (fun a3 c3 q1 q2 q3 => hp a3 c3 (by omega) q2 q3) m' (by omega))
theorem xs_27 (ok : tc_ok S) {post : SX → Prop} {f_patternDepth : Int32} {f_patternNodes : Int32} {f_ruleCount : Int32} {f_entryCount : Int32} {f_treeDepth : Int32} {f_treeNodes : Int32} {f_coverLength : Int32} {f_pendingCount : Int32} {a_patternStack : Nat → Int32} {a_patternSymbol : Nat → Int32} {a_patternFirst : Nat → Int32} {a_patternLast : Nat → Int32} {a_patternEntry : Nat → Int32} {a_ruleLeft : Nat → Int32} {a_ruleCost : Nat → Int32} {a_ruleEntry : Nat → Int32} {a_ruleStart : Nat → Int32} {a_entryOperator : Nat → Int32} {a_entryFirst : Nat → Int32} {a_entryLast : Nat → Int32} {a_treeStack : Nat → Int32} {a_treeOperator : Nat → Int32} {a_treeFirst : Nat → Int32} {a_treeLast : Nat → Int32} {a_treeSize : Nat → Int32} {a_treeCosts : Nat → Int32} {a_treeWays : Nat → Int32} {a_cover : Nat → Int32} {a_pendingEntry : Nat → Int32} {a_pendingNode : Nat → Int32} (hx : tc_xr S f_ruleCount f_entryCount a_ruleLeft a_ruleCost a_ruleEntry a_ruleStart a_entryOperator a_entryFirst a_entryLast) :
    ∀ (d k : Nat), k + d = 20 → ∀ (c : Nat) (a_stateCosts : Nat → Int32), c ≤ 21 → tc_xs S a_stateCosts c →
    (∀ (a' : Nat → Int32) (c' : Nat), c' ≤ 21 → tc_xs S a' c' → post (f_patternDepth, f_patternNodes, f_ruleCount, f_entryCount, f_treeDepth, f_treeNodes, nI c', f_coverLength, f_pendingCount, a_patternStack, a_patternSymbol, a_patternFirst, a_patternLast, a_patternEntry, a_ruleLeft, a_ruleCost, a_ruleEntry, a_ruleStart, a_entryOperator, a_entryFirst, a_entryLast, a_treeStack, a_treeOperator, a_treeFirst, a_treeLast, a_treeSize, a_treeCosts, a_treeWays, a', a_cover, a_pendingEntry, a_pendingNode)) →
    ∀ m, d < m → wX_collectStates_27 post m (nI k) f_patternDepth f_patternNodes f_ruleCount f_entryCount f_treeDepth f_treeNodes (nI c) f_coverLength f_pendingCount a_patternStack a_patternSymbol a_patternFirst a_patternLast a_patternEntry a_ruleLeft a_ruleCost a_ruleEntry a_ruleStart a_entryOperator a_entryFirst a_entryLast a_treeStack a_treeOperator a_treeFirst a_treeLast a_treeSize a_treeCosts a_treeWays a_stateCosts a_cover a_pendingEntry a_pendingNode := by
  intro d
  induction d with
  | zero =>
    intro k hk c a_stateCosts hc hs hp m hm
    obtain ⟨m', rfl⟩ : ∃ m', m = m' + 1 := ⟨m - 1, by omega⟩
    exact pk_le c k (fun _ => hp _ c hc hs) (fun _ => br_t (nI_le (a := 20) (by omega) (by omega)) (hp _ c hc hs)) rfl rfl (by omega) (by omega)
  | succ d ih =>
    intro k hk c a_stateCosts hc hs hp m hm
    obtain ⟨m', rfl⟩ : ∃ m', m = m' + 1 := ⟨m - 1, by omega⟩
    refine pk_le c k (fun _ => hp _ c hc hs) (fun hlt => ?_) rfl rfl (by omega) (by omega)
    refine br_f (nI_ge (b := 20) (by omega) (by decide)) ⟨3, ?_⟩
    refine xs_2 ok hx 2 2 (by omega) c a_stateCosts hlt hc hs (fun a' c' h1 h2 h3 => ?_) 3 (by omega)
    exact nm_r (nI_1 k) (ih (k + 1) (by omega) c' a' h2 h3 hp m' (by omega))
theorem xs_7 (ok : tc_ok S) {post : SX → Prop} {f_patternDepth : Int32} {f_patternNodes : Int32} {f_ruleCount : Int32} {f_entryCount : Int32} {f_treeDepth : Int32} {f_treeNodes : Int32} {f_coverLength : Int32} {f_pendingCount : Int32} {a_patternStack : Nat → Int32} {a_patternSymbol : Nat → Int32} {a_patternFirst : Nat → Int32} {a_patternLast : Nat → Int32} {a_patternEntry : Nat → Int32} {a_ruleLeft : Nat → Int32} {a_ruleCost : Nat → Int32} {a_ruleEntry : Nat → Int32} {a_ruleStart : Nat → Int32} {a_entryOperator : Nat → Int32} {a_entryFirst : Nat → Int32} {a_entryLast : Nat → Int32} {a_treeStack : Nat → Int32} {a_treeOperator : Nat → Int32} {a_treeFirst : Nat → Int32} {a_treeLast : Nat → Int32} {a_treeSize : Nat → Int32} {a_treeCosts : Nat → Int32} {a_treeWays : Nat → Int32} {a_cover : Nat → Int32} {a_pendingEntry : Nat → Int32} {a_pendingNode : Nat → Int32} (hx : tc_xr S f_ruleCount f_entryCount a_ruleLeft a_ruleCost a_ruleEntry a_ruleStart a_entryOperator a_entryFirst a_entryLast) :
    ∀ (d o : Nat), o + d = 2 → ∀ (c : Nat) (a_stateCosts : Nat → Int32), c ≤ 21 → tc_xs S a_stateCosts c →
    (∀ (a' : Nat → Int32) (c' : Nat), c' ≤ 21 → tc_xs S a' c' → post (f_patternDepth, f_patternNodes, f_ruleCount, f_entryCount, f_treeDepth, f_treeNodes, nI c', f_coverLength, f_pendingCount, a_patternStack, a_patternSymbol, a_patternFirst, a_patternLast, a_patternEntry, a_ruleLeft, a_ruleCost, a_ruleEntry, a_ruleStart, a_entryOperator, a_entryFirst, a_entryLast, a_treeStack, a_treeOperator, a_treeFirst, a_treeLast, a_treeSize, a_treeCosts, a_treeWays, a', a_cover, a_pendingEntry, a_pendingNode)) →
    ∀ m, d < m → wX_collectStates_7 post m (nI o) f_patternDepth f_patternNodes f_ruleCount f_entryCount f_treeDepth f_treeNodes (nI c) f_coverLength f_pendingCount a_patternStack a_patternSymbol a_patternFirst a_patternLast a_patternEntry a_ruleLeft a_ruleCost a_ruleEntry a_ruleStart a_entryOperator a_entryFirst a_entryLast a_treeStack a_treeOperator a_treeFirst a_treeLast a_treeSize a_treeCosts a_treeWays a_stateCosts a_cover a_pendingEntry a_pendingNode := by
  intro d
  induction d with
  | zero =>
    intro o ho c a_stateCosts hc hs hp m hm
    obtain ⟨m', rfl⟩ : ∃ m', m = m' + 1 := ⟨m - 1, by omega⟩
    exact br_t (nI_le (a := 2) (by omega) (by omega)) ⟨21, xs_27 ok hx 20 0 (by omega) c a_stateCosts hc hs hp 21 (by omega)⟩
  | succ d ih =>
    intro o ho c a_stateCosts hc hs hp m hm
    obtain ⟨m', rfl⟩ : ∃ m', m = m' + 1 := ⟨m - 1, by omega⟩
    refine br_f (nI_ge (b := 2) (by omega) (by decide)) ?_
    refine xs_add (fi := 0) (la := 0) ok hx hc rfl (by omega) hs (fun _ => by omega) (fun _ => by omega) (fun a' c' h1 h2 h3 h4 => ?_)
    exact nm_r (nI_1 o) (ih (o + 1) (by omega) c' a' h3 h4 hp m' (by omega))
theorem xs_coll (ok : tc_ok S) {post : SX → Prop} {f_patternDepth : Int32} {f_patternNodes : Int32} {f_ruleCount : Int32} {f_entryCount : Int32} {f_treeDepth : Int32} {f_treeNodes : Int32} {f_stateCount : Int32} {f_coverLength : Int32} {f_pendingCount : Int32} {a_patternStack : Nat → Int32} {a_patternSymbol : Nat → Int32} {a_patternFirst : Nat → Int32} {a_patternLast : Nat → Int32} {a_patternEntry : Nat → Int32} {a_ruleLeft : Nat → Int32} {a_ruleCost : Nat → Int32} {a_ruleEntry : Nat → Int32} {a_ruleStart : Nat → Int32} {a_entryOperator : Nat → Int32} {a_entryFirst : Nat → Int32} {a_entryLast : Nat → Int32} {a_treeStack : Nat → Int32} {a_treeOperator : Nat → Int32} {a_treeFirst : Nat → Int32} {a_treeLast : Nat → Int32} {a_treeSize : Nat → Int32} {a_treeCosts : Nat → Int32} {a_treeWays : Nat → Int32} {a_stateCosts : Nat → Int32} {a_cover : Nat → Int32} {a_pendingEntry : Nat → Int32} {a_pendingNode : Nat → Int32} (hx : tc_xr S f_ruleCount f_entryCount a_ruleLeft a_ruleCost a_ruleEntry a_ruleStart a_entryOperator a_entryFirst a_entryLast)
    (hp : ∀ (a' : Nat → Int32) (c' : Nat), c' ≤ 21 → tc_xs S a' c' → post (f_patternDepth, f_patternNodes, f_ruleCount, f_entryCount, f_treeDepth, f_treeNodes, nI c', f_coverLength, f_pendingCount, a_patternStack, a_patternSymbol, a_patternFirst, a_patternLast, a_patternEntry, a_ruleLeft, a_ruleCost, a_ruleEntry, a_ruleStart, a_entryOperator, a_entryFirst, a_entryLast, a_treeStack, a_treeOperator, a_treeFirst, a_treeLast, a_treeSize, a_treeCosts, a_treeWays, a', a_cover, a_pendingEntry, a_pendingNode)) : wpX_collectStates post (f_patternDepth, f_patternNodes, f_ruleCount, f_entryCount, f_treeDepth, f_treeNodes, f_stateCount, f_coverLength, f_pendingCount, a_patternStack, a_patternSymbol, a_patternFirst, a_patternLast, a_patternEntry, a_ruleLeft, a_ruleCost, a_ruleEntry, a_ruleStart, a_entryOperator, a_entryFirst, a_entryLast, a_treeStack, a_treeOperator, a_treeFirst, a_treeLast, a_treeSize, a_treeCosts, a_treeWays, a_stateCosts, a_cover, a_pendingEntry, a_pendingNode) :=
  ⟨3, xs_7 ok hx 2 0 (by omega) 0 a_stateCosts (by omega) (fun j hj => absurd hj (Nat.not_lt_zero _)) hp 3 (by omega)⟩
theorem xs_cov_29 (ok : tc_ok S) {post : Int32 → SX → Prop} {f_patternDepth : Int32} {f_patternNodes : Int32} {f_ruleCount : Int32} {f_entryCount : Int32} {f_treeDepth : Int32} {f_treeNodes : Int32} {f_stateCount : Int32} {f_coverLength : Int32} {f_pendingCount : Int32} {a_patternStack : Nat → Int32} {a_patternSymbol : Nat → Int32} {a_patternFirst : Nat → Int32} {a_patternLast : Nat → Int32} {a_patternEntry : Nat → Int32} {a_ruleLeft : Nat → Int32} {a_ruleCost : Nat → Int32} {a_ruleEntry : Nat → Int32} {a_ruleStart : Nat → Int32} {a_entryOperator : Nat → Int32} {a_entryFirst : Nat → Int32} {a_entryLast : Nat → Int32} {a_treeStack : Nat → Int32} {a_treeOperator : Nat → Int32} {a_treeFirst : Nat → Int32} {a_treeLast : Nat → Int32} {a_treeSize : Nat → Int32} {a_treeCosts : Nat → Int32} {a_treeWays : Nat → Int32} {a_stateCosts : Nat → Int32} {a_cover : Nat → Int32} {a_pendingEntry : Nat → Int32} {a_pendingNode : Nat → Int32} {g c : Nat} (hg : g < 4) (hc : c ≤ 21) (hsc : f_stateCount = nI c) (hp : ∀ r, post r (f_patternDepth, f_patternNodes, f_ruleCount, f_entryCount, f_treeDepth, f_treeNodes, f_stateCount, f_coverLength, f_pendingCount, a_patternStack, a_patternSymbol, a_patternFirst, a_patternLast, a_patternEntry, a_ruleLeft, a_ruleCost, a_ruleEntry, a_ruleStart, a_entryOperator, a_entryFirst, a_entryLast, a_treeStack, a_treeOperator, a_treeFirst, a_treeLast, a_treeSize, a_treeCosts, a_treeWays, a_stateCosts, a_cover, a_pendingEntry, a_pendingNode)) : ∀ (d k : Nat), k + d = c → ∀ (z : Int32) (m : Nat), d < m → wX_covering_29 post (nI g) f_patternDepth f_patternNodes f_ruleCount f_entryCount f_treeDepth f_treeNodes f_stateCount f_coverLength f_pendingCount a_patternStack a_patternSymbol a_patternFirst a_patternLast a_patternEntry a_ruleLeft a_ruleCost a_ruleEntry a_ruleStart a_entryOperator a_entryFirst a_entryLast a_treeStack a_treeOperator a_treeFirst a_treeLast a_treeSize a_treeCosts a_treeWays a_stateCosts a_cover a_pendingEntry a_pendingNode m z (nI k) := by
  subst hsc
  intro d
  induction d with
  | zero =>
    intro k hk z m hm
    obtain ⟨m', rfl⟩ : ∃ m', m = m' + 1 := ⟨m - 1, by omega⟩
    exact br_t (nI_le (by omega) (by omega)) (hp _)
  | succ d ih =>
    intro k hk z m hm
    obtain ⟨m', rfl⟩ : ∃ m', m = m' + 1 := ⟨m - 1, by omega⟩
    have w : nI k * 74 + nI g = nI (k * 74 + g) := by rw [show (74 : Int32) = nI 74 from rfl, pk_mul, nI_add]
    refine br_f (nI_ge (by omega) (by omega)) ⟨by rw [w]; exact vp_in_nI (by omega) (by decide), ?_⟩
    exact br_c (fun _ => nm_r (nI_1 k) (ih (k + 1) (by omega) z m' (by omega))) (fun _ => nm_e (nm_r (nI_1 k) (ih (k + 1) (by omega) _ m' (by omega))))
end
