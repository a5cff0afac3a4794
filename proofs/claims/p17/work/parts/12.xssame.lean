section
variable {S : tc_S} {post : Int32 → Prop}
theorem xsc_l_6 (ok : tc_ok S) {ro : Nat} (hb : ro < 21) {f_patternDepth : Int32} {f_patternNodes : Int32} {f_ruleCount : Int32} {f_entryCount : Int32} {f_treeDepth : Int32} {f_treeNodes : Int32} {f_stateCount : Int32} {f_coverLength : Int32} {f_pendingCount : Int32} {a_patternStack : Nat → Int32} {a_patternSymbol : Nat → Int32} {a_patternFirst : Nat → Int32} {a_patternLast : Nat → Int32} {a_patternEntry : Nat → Int32} {a_ruleLeft : Nat → Int32} {a_ruleCost : Nat → Int32} {a_ruleEntry : Nat → Int32} {a_ruleStart : Nat → Int32} {a_entryOperator : Nat → Int32} {a_entryFirst : Nat → Int32} {a_entryLast : Nat → Int32} {a_treeStack : Nat → Int32} {a_treeOperator : Nat → Int32} {a_treeFirst : Nat → Int32} {a_treeLast : Nat → Int32} {a_treeSize : Nat → Int32} {a_treeCosts : Nat → Int32} {a_treeWays : Nat → Int32} {a_stateCosts : Nat → Int32} {a_cover : Nat → Int32} {a_pendingEntry : Nat → Int32} {a_pendingNode : Nat → Int32} (hE : f_entryCount = nI (tc_E S)) {t : Nat → Nat} (hK : ∀ e, t e ≤ 536870912) (ht : tc_tr a_stateCosts (ro * 74) (tc_E S) t) (hp : post (nI (tc_lw 536870912 t (tc_E S)))) :
    ∀ (d e : Nat), e + d = tc_E S → ∀ m, d < m → wX_leastOfRow__stateCosts_6 post (nI ro) f_patternDepth f_patternNodes f_ruleCount f_entryCount f_treeDepth f_treeNodes f_stateCount f_coverLength f_pendingCount a_patternStack a_patternSymbol a_patternFirst a_patternLast a_patternEntry a_ruleLeft a_ruleCost a_ruleEntry a_ruleStart a_entryOperator a_entryFirst a_entryLast a_treeStack a_treeOperator a_treeFirst a_treeLast a_treeSize a_treeCosts a_treeWays a_stateCosts a_cover a_pendingEntry a_pendingNode m (nI (tc_lw 536870912 t e)) (nI e) := by
  subst hE
  have hE2 := tc_ok_E ok
  intro d
  induction d with
  | zero =>
    intro e hr m hm
    obtain ⟨m', rfl⟩ : ∃ m', m = m' + 1 := ⟨m - 1, by omega⟩
    have e1 : e = tc_E S := by omega
    subst e1
    exact br_t (nI_le (Nat.le_refl _) (by omega)) hp
  | succ d ih =>
    intro e hr m hm
    obtain ⟨m', rfl⟩ : ∃ m', m = m' + 1 := ⟨m - 1, by omega⟩
    have heE : e < tc_E S := by omega
    have w : nI ro * 74 + nI e = nI (ro * 74 + e) := by rw [show (74 : Int32) = nI 74 from rfl, pk_mul, nI_add]
    have h1 := (tc_lw_le (K := 536870912) (t := t) e).1
    have h2 := hK e
    refine br_f (nI_ge heE (by omega)) ⟨by rw [w]; exact vp_in_nI (by omega) (by decide), nm_r (e' := nI (t e)) (by rw [w, nI_clamp (by omega)]; exact ht e heE) ?_⟩
    refine pk_le (tc_lw 536870912 t e) (t e) (fun h => nm_r (nI_1 e) ?_) (fun h => nm_r (nI_1 e) ?_) rfl rfl (by omega) (by omega)
    · have k := ih (e + 1) (by omega) m' (by omega)
      rw [tc_lw_s, Nat.min_eq_left h] at k
      exact k
    · have k := ih (e + 1) (by omega) m' (by omega)
      rw [tc_lw_s, Nat.min_eq_right (by omega)] at k
      exact k
theorem xsc_l_wp (ok : tc_ok S) {ro : Nat} (hb : ro < 21) {f_patternDepth : Int32} {f_patternNodes : Int32} {f_ruleCount : Int32} {f_entryCount : Int32} {f_treeDepth : Int32} {f_treeNodes : Int32} {f_stateCount : Int32} {f_coverLength : Int32} {f_pendingCount : Int32} {a_patternStack : Nat → Int32} {a_patternSymbol : Nat → Int32} {a_patternFirst : Nat → Int32} {a_patternLast : Nat → Int32} {a_patternEntry : Nat → Int32} {a_ruleLeft : Nat → Int32} {a_ruleCost : Nat → Int32} {a_ruleEntry : Nat → Int32} {a_ruleStart : Nat → Int32} {a_entryOperator : Nat → Int32} {a_entryFirst : Nat → Int32} {a_entryLast : Nat → Int32} {a_treeStack : Nat → Int32} {a_treeOperator : Nat → Int32} {a_treeFirst : Nat → Int32} {a_treeLast : Nat → Int32} {a_treeSize : Nat → Int32} {a_treeCosts : Nat → Int32} {a_treeWays : Nat → Int32} {a_stateCosts : Nat → Int32} {a_cover : Nat → Int32} {a_pendingEntry : Nat → Int32} {a_pendingNode : Nat → Int32} (hE : f_entryCount = nI (tc_E S)) {t : Nat → Nat} (hK : ∀ e, t e ≤ 536870912) (ht : tc_tr a_stateCosts (ro * 74) (tc_E S) t) (hp : post (nI (tc_lw 536870912 t (tc_E S)))) :
    wpX_leastOfRow__stateCosts post (f_patternDepth, f_patternNodes, f_ruleCount, f_entryCount, f_treeDepth, f_treeNodes, f_stateCount, f_coverLength, f_pendingCount, a_patternStack, a_patternSymbol, a_patternFirst, a_patternLast, a_patternEntry, a_ruleLeft, a_ruleCost, a_ruleEntry, a_ruleStart, a_entryOperator, a_entryFirst, a_entryLast, a_treeStack, a_treeOperator, a_treeFirst, a_treeLast, a_treeSize, a_treeCosts, a_treeWays, a_stateCosts, a_cover, a_pendingEntry, a_pendingNode) (nI ro) :=
  ⟨tc_E S + 1, xsc_l_6 ok hb hE hK ht hp (tc_E S) 0 (by omega) _ (by omega)⟩
theorem xsc_s_19 (ok : tc_ok S) {r1 r2 : Nat} (hb1 : r1 < 21) (hb2 : r2 < 21) {f_patternDepth : Int32} {f_patternNodes : Int32} {f_ruleCount : Int32} {f_entryCount : Int32} {f_treeDepth : Int32} {f_treeNodes : Int32} {f_stateCount : Int32} {f_coverLength : Int32} {f_pendingCount : Int32} {a_patternStack : Nat → Int32} {a_patternSymbol : Nat → Int32} {a_patternFirst : Nat → Int32} {a_patternLast : Nat → Int32} {a_patternEntry : Nat → Int32} {a_ruleLeft : Nat → Int32} {a_ruleCost : Nat → Int32} {a_ruleEntry : Nat → Int32} {a_ruleStart : Nat → Int32} {a_entryOperator : Nat → Int32} {a_entryFirst : Nat → Int32} {a_entryLast : Nat → Int32} {a_treeStack : Nat → Int32} {a_treeOperator : Nat → Int32} {a_treeFirst : Nat → Int32} {a_treeLast : Nat → Int32} {a_treeSize : Nat → Int32} {a_treeCosts : Nat → Int32} {a_treeWays : Nat → Int32} {a_stateCosts : Nat → Int32} {a_cover : Nat → Int32} {a_pendingEntry : Nat → Int32} {a_pendingNode : Nat → Int32} (hE : f_entryCount = nI (tc_E S)) {t u : Nat → Nat} (hK : ∀ e, t e ≤ 536870912) (hL : ∀ e, u e ≤ 536870912)
    (ht : tc_tr a_stateCosts (r1 * 74) (tc_E S) t) (hu : tc_tr a_stateCosts (r2 * 74) (tc_E S) u)
    (hp1 : tc_sa 536870912 (tc_E S) t u → post 1) (hp0 : ¬ tc_sa 536870912 (tc_E S) t u → post 0) :
    ∀ (d e : Nat), e + d = tc_E S → (∀ j, j < e → tc_sc 536870912 (tc_E S) t u j) → ∀ m, d < m →
    wX_sameState__stateCosts_19 post (nI r1) (nI r2) (nI (tc_lw 536870912 t (tc_E S))) (nI (tc_lw 536870912 u (tc_E S))) f_patternDepth f_patternNodes f_ruleCount f_entryCount f_treeDepth f_treeNodes f_stateCount f_coverLength f_pendingCount a_patternStack a_patternSymbol a_patternFirst a_patternLast a_patternEntry a_ruleLeft a_ruleCost a_ruleEntry a_ruleStart a_entryOperator a_entryFirst a_entryLast a_treeStack a_treeOperator a_treeFirst a_treeLast a_treeSize a_treeCosts a_treeWays a_stateCosts a_cover a_pendingEntry a_pendingNode m (nI e) := by
  subst hE
  have hE2 := tc_ok_E ok
  have b1 := (tc_lw_le (K := 536870912) (t := t) (tc_E S)).1
  have b2 := (tc_lw_le (K := 536870912) (t := u) (tc_E S)).1
  intro d
  induction d with
  | zero =>
    intro e hr hc m hm
    obtain ⟨m', rfl⟩ : ∃ m', m = m' + 1 := ⟨m - 1, by omega⟩
    have e1 : e = tc_E S := by omega
    subst e1
    exact br_t (nI_le (Nat.le_refl _) (by omega)) (hp1 hc)
  | succ d ih =>
    intro e hr hc m hm
    obtain ⟨m', rfl⟩ : ∃ m', m = m' + 1 := ⟨m - 1, by omega⟩
    have heE : e < tc_E S := by omega
    have w1 : nI r1 * 74 + nI e = nI (r1 * 74 + e) := by rw [show (74 : Int32) = nI 74 from rfl, pk_mul, nI_add]
    have w2 : nI r2 * 74 + nI e = nI (r2 * 74 + e) := by rw [show (74 : Int32) = nI 74 from rfl, pk_mul, nI_add]
    have h1 := hK e
    have h2 := hL e
    have go : tc_sc 536870912 (tc_E S) t u e → wX_sameState__stateCosts_19 post (nI r1) (nI r2) (nI (tc_lw 536870912 t (tc_E S))) (nI (tc_lw 536870912 u (tc_E S))) f_patternDepth f_patternNodes f_ruleCount (nI (tc_E S)) f_treeDepth f_treeNodes f_stateCount f_coverLength f_pendingCount a_patternStack a_patternSymbol a_patternFirst a_patternLast a_patternEntry a_ruleLeft a_ruleCost a_ruleEntry a_ruleStart a_entryOperator a_entryFirst a_entryLast a_treeStack a_treeOperator a_treeFirst a_treeLast a_treeSize a_treeCosts a_treeWays a_stateCosts a_cover a_pendingEntry a_pendingNode m' (nI (e + 1)) := fun hh =>
      ih (e + 1) (by omega) (fun j hj => by
        by_cases cj : j = e
        · rw [cj]; exact hh
        · exact hc j (by omega)) m' (by omega)
    have no : ¬ tc_sc 536870912 (tc_E S) t u e → post 0 := fun hh => hp0 (fun z => hh (z e heE))
    refine br_f (nI_ge heE (by omega)) ⟨by rw [w1]; exact vp_in_nI (by omega) (by decide), nm_r (e' := nI (t e)) (by rw [w1, nI_clamp (by omega)]; exact ht e heE) ⟨by rw [w2]; exact vp_in_nI (by omega) (by decide), nm_r (e' := nI (u e)) (by rw [w2, nI_clamp (by omega)]; exact hu e heE) ?_⟩⟩
    refine pk_eq (t e) 536870912 (fun ht1 => ?_) (fun ht1 => ?_) rfl rfl (by omega) (by omega)
    · refine pk_eq (u e) 536870912 (fun hu1 => ?_) (fun hu1 => ?_) rfl rfl (by omega) (by omega)
      · refine br_t rfl (br_t (by rw [ht1]; rfl) (nm_r (nI_1 e) (go ⟨⟨fun _ => hu1, fun _ => ht1⟩, fun h => absurd ht1 h⟩)))
      · exact br_f (by decide) (no (fun z => hu1 (z.1.mp ht1)))
    · refine pk_eq (u e) 536870912 (fun hu1 => ?_) (fun hu1 => ?_) rfl rfl (by omega) (by omega)
      · exact br_f (by decide) (no (fun z => ht1 (z.1.mpr hu1)))
      · refine br_t rfl (br_f (fun z => ht1 ((nI_eq (by omega) (by omega)).mp z)) ?_)
        by_cases q : t e + tc_lw 536870912 u (tc_E S) = u e + tc_lw 536870912 t (tc_E S)
        · exact br_t ((tc_subeq (by omega) (by omega) (by omega) (by omega)).mpr q) (nm_r (nI_1 e) (go ⟨⟨fun h => absurd h ht1, fun h => absurd h hu1⟩, fun _ => q⟩))
        · exact br_f (fun z => q ((tc_subeq (by omega) (by omega) (by omega) (by omega)).mp z)) (no (fun z => q (z.2 ht1)))
theorem xsc_s_wp (ok : tc_ok S) {r1 r2 : Nat} (hb1 : r1 < 21) (hb2 : r2 < 21) {f_patternDepth : Int32} {f_patternNodes : Int32} {f_ruleCount : Int32} {f_entryCount : Int32} {f_treeDepth : Int32} {f_treeNodes : Int32} {f_stateCount : Int32} {f_coverLength : Int32} {f_pendingCount : Int32} {a_patternStack : Nat → Int32} {a_patternSymbol : Nat → Int32} {a_patternFirst : Nat → Int32} {a_patternLast : Nat → Int32} {a_patternEntry : Nat → Int32} {a_ruleLeft : Nat → Int32} {a_ruleCost : Nat → Int32} {a_ruleEntry : Nat → Int32} {a_ruleStart : Nat → Int32} {a_entryOperator : Nat → Int32} {a_entryFirst : Nat → Int32} {a_entryLast : Nat → Int32} {a_treeStack : Nat → Int32} {a_treeOperator : Nat → Int32} {a_treeFirst : Nat → Int32} {a_treeLast : Nat → Int32} {a_treeSize : Nat → Int32} {a_treeCosts : Nat → Int32} {a_treeWays : Nat → Int32} {a_stateCosts : Nat → Int32} {a_cover : Nat → Int32} {a_pendingEntry : Nat → Int32} {a_pendingNode : Nat → Int32} (hE : f_entryCount = nI (tc_E S)) {t u : Nat → Nat} (hK : ∀ e, t e ≤ 536870912) (hL : ∀ e, u e ≤ 536870912)
    (ht : tc_tr a_stateCosts (r1 * 74) (tc_E S) t) (hu : tc_tr a_stateCosts (r2 * 74) (tc_E S) u)
    (hp1 : tc_sa 536870912 (tc_E S) t u → post 1) (hp0 : ¬ tc_sa 536870912 (tc_E S) t u → post 0) : wpX_sameState__stateCosts post (f_patternDepth, f_patternNodes, f_ruleCount, f_entryCount, f_treeDepth, f_treeNodes, f_stateCount, f_coverLength, f_pendingCount, a_patternStack, a_patternSymbol, a_patternFirst, a_patternLast, a_patternEntry, a_ruleLeft, a_ruleCost, a_ruleEntry, a_ruleStart, a_entryOperator, a_entryFirst, a_entryLast, a_treeStack, a_treeOperator, a_treeFirst, a_treeLast, a_treeSize, a_treeCosts, a_treeWays, a_stateCosts, a_cover, a_pendingEntry, a_pendingNode) (nI r1) (nI r2) := by
  unfold wpX_sameState__stateCosts
  refine xsc_l_wp ok hb1 hE hK ht ?_
  refine xsc_l_wp ok hb2 hE hL hu ?_
  exact ⟨tc_E S + 1, xsc_s_19 ok hb1 hb2 hE hK hL ht hu hp1 hp0 (tc_E S) 0 (by omega) (fun j hj => absurd hj (Nat.not_lt_zero _)) _ (by omega)⟩
end
