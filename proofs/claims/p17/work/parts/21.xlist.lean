section
variable {S : tc_S} {tn td : Nat} {ty tz tk : Nat → Nat}
theorem tc_cv_nil {K : Nat} : tc_cv S K ty tz [] = [] := rfl
theorem xm_lc_41 (ok : tc_ok S) (hn : tc_tn ty tz tn) (hN : tn ≤ 24) {post : SX → Prop} {f_patternDepth : Int32} {f_patternNodes : Int32} {f_ruleCount : Int32} {f_entryCount : Int32} {f_treeDepth : Int32} {f_treeNodes : Int32} {f_stateCount : Int32} {a_patternStack : Nat → Int32} {a_patternSymbol : Nat → Int32} {a_patternFirst : Nat → Int32} {a_patternLast : Nat → Int32} {a_patternEntry : Nat → Int32} {a_ruleLeft : Nat → Int32} {a_ruleCost : Nat → Int32} {a_ruleEntry : Nat → Int32} {a_ruleStart : Nat → Int32} {a_entryOperator : Nat → Int32} {a_entryFirst : Nat → Int32} {a_entryLast : Nat → Int32} {a_treeStack : Nat → Int32} {a_treeOperator : Nat → Int32} {a_treeFirst : Nat → Int32} {a_treeLast : Nat → Int32} {a_treeSize : Nat → Int32} {a_treeCosts : Nat → Int32} {a_treeWays : Nat → Int32} {a_stateCosts : Nat → Int32}
    (hx : tc_xr S f_ruleCount f_entryCount a_ruleLeft a_ruleCost a_ruleEntry a_ruleStart a_entryOperator a_entryFirst a_entryLast)
    (ht : tc_xt tn td ty tz tk f_treeDepth f_treeNodes a_treeStack a_treeOperator a_treeFirst a_treeLast a_treeSize) (hr : tc_rows S 536870912 ty tz a_treeCosts tn) {L0 : List Nat} :
    ∀ (d k : Nat), k + d = 24 → ∀ (l : List Nat) (h : Nat) (s : List (Nat × Nat)) (a_cover a_pendingEntry a_pendingNode : Nat → Int32), l.length ≤ 4 * k → tc_al a_cover l → h ≤ k + 1 →
    tc_sk (tc_xp2 a_pendingEntry a_pendingNode) h s → (∀ p, p ∈ s → tc_gd S 536870912 ty tz tn p.1 p.2) → tc_sp tz s + k ≤ 24 → l ++ tc_cv S 536870912 ty tz s = L0 →
    (∀ (co pe pn : Nat → Int32) (fp : Int32), L0.length ≤ 96 → tc_al co L0 → post (f_patternDepth, f_patternNodes, f_ruleCount, f_entryCount, f_treeDepth, f_treeNodes, f_stateCount, nI L0.length, fp, a_patternStack, a_patternSymbol, a_patternFirst, a_patternLast, a_patternEntry, a_ruleLeft, a_ruleCost, a_ruleEntry, a_ruleStart, a_entryOperator, a_entryFirst, a_entryLast, a_treeStack, a_treeOperator, a_treeFirst, a_treeLast, a_treeSize, a_treeCosts, a_treeWays, a_stateCosts, co, pe, pn)) →
    ∀ m, d < m → wX_listCover_41 post m (nI k) f_patternDepth f_patternNodes f_ruleCount f_entryCount f_treeDepth f_treeNodes f_stateCount (nI l.length) (nI h) a_patternStack a_patternSymbol a_patternFirst a_patternLast a_patternEntry a_ruleLeft a_ruleCost a_ruleEntry a_ruleStart a_entryOperator a_entryFirst a_entryLast a_treeStack a_treeOperator a_treeFirst a_treeLast a_treeSize a_treeCosts a_treeWays a_stateCosts a_cover a_pendingEntry a_pendingNode := by
  intro d
  induction d with
  | zero =>
    intro k hk l h s a_cover a_pendingEntry a_pendingNode h1 h2 h3 h4 h5 h6 h7 hp m hm
    obtain ⟨m', rfl⟩ : ∃ m', m = m' + 1 := ⟨m - 1, by omega⟩
    have e1 : k = 24 := by omega
    subst e1
    cases s with
    | nil =>
      rw [tc_cv_nil, List.append_nil] at h7
      subst h7
      exact br_t (nI_le (a := 24) (Nat.le_refl _) (by decide)) (hp _ _ _ _ (by omega) h2)
    | cons p s =>
      exfalso
      have g := h5 p List.mem_cons_self
      have z := (hn p.1 g.1).2.1
      have e2 : tc_sp tz (p :: s) = tz p.1 + tc_sp tz s := rfl
      omega
  | succ d ih =>
    intro k hk l h s a_cover a_pendingEntry a_pendingNode h1 h2 h3 h4 h5 h6 h7 hp m hm
    obtain ⟨m', rfl⟩ : ∃ m', m = m' + 1 := ⟨m - 1, by omega⟩
    refine br_f (nI_ge (b := 24) (by omega) (by decide)) ?_
    cases s with
    | nil =>
      have e0 : h = 0 := h4
      subst e0
      rw [tc_cv_nil, List.append_nil] at h7
      subst h7
      exact br_t (nI_le (b := 0) (Nat.le_refl _) (by decide)) (hp _ _ _ _ (by omega) h2)
    | cons p s =>
      obtain ⟨n, e⟩ := p
      obtain ⟨h', e0, ⟨q1, q2⟩, q3⟩ := h4
      subst e0
      have e2 : tc_sp tz ((n, e) :: s) = tz n + tc_sp tz s := rfl
      refine br_f (nI_nle (by omega) (by omega)) (nm_r (nI_pred h') ⟨vp_in_nI (by omega) (by decide), vp_in_nI (by omega) (by decide), ?_⟩)
      rw [nI_clamp (by omega), q1, q2]
      refine xm_cn ok hn hN hx ht hr rfl (by omega) q3 rfl (by omega) h2 h5 h7 (fun co pe pn l' h'' s' p1 p2 p3 p4 p5 p6 p7 => ?_)
      have p6' : tc_sp tz s' + 1 = tz n + tc_sp tz s := p6
      exact nm_r (nI_1 k) (ih (k + 1) (by omega) l' h'' s' co pe pn (by omega) p2 (by omega) p4 p5 (by omega) p7 hp m' (by omega))
theorem xm_lc (ok : tc_ok S) (hF : tc_fo tn td ty tz tk) (h6 : ∀ i, i < tn → ty i < 6) (hN : tn ≤ 24) (hD : td ≤ 8) {g : Nat} (hg : g < 4) {post : SX → Prop} {f_patternDepth : Int32} {f_patternNodes : Int32} {f_ruleCount : Int32} {f_entryCount : Int32} {f_treeDepth : Int32} {f_treeNodes : Int32} {f_stateCount : Int32} {f_coverLength : Int32} {f_pendingCount : Int32} {a_patternStack : Nat → Int32} {a_patternSymbol : Nat → Int32} {a_patternFirst : Nat → Int32} {a_patternLast : Nat → Int32} {a_patternEntry : Nat → Int32} {a_ruleLeft : Nat → Int32} {a_ruleCost : Nat → Int32} {a_ruleEntry : Nat → Int32} {a_ruleStart : Nat → Int32} {a_entryOperator : Nat → Int32} {a_entryFirst : Nat → Int32} {a_entryLast : Nat → Int32} {a_treeStack : Nat → Int32} {a_treeOperator : Nat → Int32} {a_treeFirst : Nat → Int32} {a_treeLast : Nat → Int32} {a_treeSize : Nat → Int32} {a_treeCosts : Nat → Int32} {a_treeWays : Nat → Int32} {a_stateCosts : Nat → Int32} {a_cover : Nat → Int32} {a_pendingEntry : Nat → Int32} {a_pendingNode : Nat → Int32}
    (hx : tc_xr S f_ruleCount f_entryCount a_ruleLeft a_ruleCost a_ruleEntry a_ruleStart a_entryOperator a_entryFirst a_entryLast)
    (ht : tc_xt tn td ty tz tk f_treeDepth f_treeNodes a_treeStack a_treeOperator a_treeFirst a_treeLast a_treeSize)
    (hp : ∀ (tc co pe pn : Nat → Int32) (fp : Int32), (tc_cl S 536870912 ty tz tn td g).length ≤ 96 → tc_al co (tc_cl S 536870912 ty tz tn td g) → post (f_patternDepth, f_patternNodes, f_ruleCount, f_entryCount, f_treeDepth, f_treeNodes, f_stateCount, nI (tc_cl S 536870912 ty tz tn td g).length, fp, a_patternStack, a_patternSymbol, a_patternFirst, a_patternLast, a_patternEntry, a_ruleLeft, a_ruleCost, a_ruleEntry, a_ruleStart, a_entryOperator, a_entryFirst, a_entryLast, a_treeStack, a_treeOperator, a_treeFirst, a_treeLast, a_treeSize, tc, a_treeWays, a_stateCosts, co, pe, pn)) :
    wpX_listCover post (f_patternDepth, f_patternNodes, f_ruleCount, f_entryCount, f_treeDepth, f_treeNodes, f_stateCount, f_coverLength, f_pendingCount, a_patternStack, a_patternSymbol, a_patternFirst, a_patternLast, a_patternEntry, a_ruleLeft, a_ruleCost, a_ruleEntry, a_ruleStart, a_entryOperator, a_entryFirst, a_entryLast, a_treeStack, a_treeOperator, a_treeFirst, a_treeLast, a_treeSize, a_treeCosts, a_treeWays, a_stateCosts, a_cover, a_pendingEntry, a_pendingNode) (nI g) := by
  have hn : tc_tn ty tz tn := fun i hi => ⟨h6 i hi, hF.2.2.2.2.2 i hi⟩
  have hE := tc_ok_E ok
  unfold wpX_listCover
  refine xq_top ok hF h6 hN hD hg hx ht (fun a' ha => ?_)
  have vle : tc_tp S 536870912 ty tz tn td g ≤ 536870912 := by
    unfold tc_tp
    by_cases h : td = 0
    · rw [if_pos h]
      exact Nat.le_refl _
    · rw [if_neg h]
      have s1 := (tc_fo_t1 hF (by omega)).1
      exact tc_v_le (fun h => (hn (tn - 1) (by omega)).2.2.2.1 h (hn (tn - 1) (by omega)).1) g
  refine pk_eq (tc_tp S 536870912 ty tz tn td g) 536870912 (fun h => ?_) (fun h => ?_) rfl rfl (by omega) (by omega)
  · have e : tc_cl S 536870912 ty tz tn td g = [] := if_pos h
    rw [e] at hp
    exact hp _ _ _ _ _ (Nat.zero_le _) (tc_al_nil _)
  · have e : tc_cl S 536870912 ty tz tn td g = tc_cv S 536870912 ty tz [(tn - 1, g)] := if_neg h
    rw [e] at hp
    have htd : ¬ td = 0 := fun z => h (by unfold tc_tp; rw [if_pos z])
    obtain ⟨s1, s2⟩ := tc_fo_t1 hF (by omega)
    have hv : tc_v S 536870912 ty tz (tn - 1) g ≠ 536870912 := by
      unfold tc_tp at h
      rw [if_neg htd] at h
      exact h
    have w : f_treeDepth - 1 = nI (td - 1) := by rw [ht.1, show (1 : Int32) = nI 1 from rfl, pk_sub (by omega)]
    refine ⟨by rw [w]; exact vp_in_nI (by omega) (by decide), ?_⟩
    rw [w, nI_clamp (by omega), ht.2.2.1 (td - 1) (by omega), s2]
    refine ⟨vp_in_iff.mpr (by decide), nm_r (e' := upd a_pendingEntry 0 (nI g)) rfl ⟨vp_in_iff.mpr (by decide), nm_r (e' := upd a_pendingNode 0 (nI (tn - 1))) rfl (nm_r (e' := nI 1) rfl ⟨25, ?_⟩)⟩⟩
    have hz := (hn (tn - 1) (by omega)).2.2.1
    refine xm_lc_41 ok hn hN hx ht (ha (by omega)) 24 0 (by omega) [] 1 [(tn - 1, g)] a_cover _ _ (Nat.zero_le _) (tc_al_nil _) (by omega) ⟨0, rfl, ⟨pk_us, pk_us⟩, rfl⟩ (fun p hp => ?_) ?_ rfl (fun co pe pn fp h96 hal => hp a' co pe pn fp h96 hal) 25 (by omega)
    · rw [List.mem_singleton] at hp
      rw [hp]
      exact ⟨by show tn - 1 < tn; omega, by show g < tc_E S; omega, hv⟩
    · show tz (tn - 1) + 0 + 0 ≤ 24
      omega
end
