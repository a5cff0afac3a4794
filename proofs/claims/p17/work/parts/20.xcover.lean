/-- the pending stack of X -/
abbrev tc_xp2 (pe pn : Nat → Int32) : Nat → Nat × Nat → Prop := fun k p => pe k = nI p.2 ∧ pn k = nI p.1
def tc_sp (tz : Nat → Nat) : List (Nat × Nat) → Nat
  | [] => 0
  | p :: s => tz p.1 + tc_sp tz s
/-- the cover that is listed -/
def tc_cl (S : tc_S) (K : Nat) (ty tz : Nat → Nat) (tn td g : Nat) : List Nat := if tc_tp S K ty tz tn td g = K then [] else tc_cv S K ty tz [(tn - 1, g)]
section
variable {S : tc_S} {tn td : Nat} {ty tz tk : Nat → Nat}
theorem xm_lo_2 (ok : tc_ok S) {post : Int32 → Prop} {f_patternDepth : Int32} {f_patternNodes : Int32} {f_ruleCount : Int32} {f_entryCount : Int32} {f_treeDepth : Int32} {f_treeNodes : Int32} {f_stateCount : Int32} {f_coverLength : Int32} {f_pendingCount : Int32} {a_patternStack : Nat → Int32} {a_patternSymbol : Nat → Int32} {a_patternFirst : Nat → Int32} {a_patternLast : Nat → Int32} {a_patternEntry : Nat → Int32} {a_ruleLeft : Nat → Int32} {a_ruleCost : Nat → Int32} {a_ruleEntry : Nat → Int32} {a_ruleStart : Nat → Int32} {a_entryOperator : Nat → Int32} {a_entryFirst : Nat → Int32} {a_entryLast : Nat → Int32} {a_treeStack : Nat → Int32} {a_treeOperator : Nat → Int32} {a_treeFirst : Nat → Int32} {a_treeLast : Nat → Int32} {a_treeSize : Nat → Int32} {a_treeCosts : Nat → Int32} {a_treeWays : Nat → Int32} {a_stateCosts : Nat → Int32} {a_cover : Nat → Int32} {a_pendingEntry : Nat → Int32} {a_pendingNode : Nat → Int32} (hx : tc_xr S f_ruleCount f_entryCount a_ruleLeft a_ruleCost a_ruleEntry a_ruleStart a_entryOperator a_entryFirst a_entryLast)
    {n g : Nat} (hn : n < 24) (hg : g < 4) {t : Nat → Nat} (hK : ∀ e, t e ≤ 536870912) (ht : tc_tr a_treeCosts (n * 74) (tc_E S) t)
    (hl : tc_lo S 536870912 t g < tc_R S) (hb : tc_pb S 536870912 t g (tc_lo S 536870912 t g)) (hmin : ∀ j, j < tc_lo S 536870912 t g → ¬ tc_pb S 536870912 t g j)
    (hp : post (nI (tc_lo S 536870912 t g))) : ∀ (d k : Nat), k + d = tc_lo S 536870912 t g → ∀ m, d < m → wX_lowestRule_2 post (nI g) (nI n) f_patternDepth f_patternNodes f_ruleCount f_entryCount f_treeDepth f_treeNodes f_stateCount f_coverLength f_pendingCount a_patternStack a_patternSymbol a_patternFirst a_patternLast a_patternEntry a_ruleLeft a_ruleCost a_ruleEntry a_ruleStart a_entryOperator a_entryFirst a_entryLast a_treeStack a_treeOperator a_treeFirst a_treeLast a_treeSize a_treeCosts a_treeWays a_stateCosts a_cover a_pendingEntry a_pendingNode m (nI k) := by
  have hR := ok.1
  intro d
  induction d with
  | zero =>
    intro k hk m hm
    obtain ⟨m', rfl⟩ : ∃ m', m = m' + 1 := ⟨m - 1, by omega⟩
    have e : k = tc_lo S 536870912 t g := by omega
    rw [← e] at hl hb hp
    obtain ⟨x1, x2, x3, _⟩ := hx.2.2.1 k hl
    obtain ⟨l1, l2, l3, l4⟩ := tc_ok_r ok hl
    have c : (nI k).toNatClampNeg = k := nI_clamp (by omega)
    refine br_f (by rw [hx.1]; exact nI_ge hl (by omega)) ⟨vp_in_nI (by omega) (by decide), ?_⟩
    refine pk_eq (tc_lf S k) g (fun h => ?_) (fun h => absurd hb.1 h) (by rw [c, x1]) rfl (by omega) (by omega)
    exact xm_least ok hx hl hn hK ht (fun _ => br_f (by decide) hp) (fun z => absurd hb.2 z)
  | succ d ih =>
    intro k hk m hm
    obtain ⟨m', rfl⟩ : ∃ m', m = m' + 1 := ⟨m - 1, by omega⟩
    have hk' : k < tc_R S := by omega
    obtain ⟨x1, x2, x3, _⟩ := hx.2.2.1 k hk'
    obtain ⟨l1, l2, l3, l4⟩ := tc_ok_r ok hk'
    have c : (nI k).toNatClampNeg = k := nI_clamp (by omega)
    have nb := hmin k (by omega)
    have nxt := ih (k + 1) (by omega) m' (by omega)
    refine br_f (by rw [hx.1]; exact nI_ge hk' (by omega)) ⟨vp_in_nI (by omega) (by decide), ?_⟩
    refine pk_eq (tc_lf S k) g (fun h => ?_) (fun h => nm_r (nI_1 k) nxt) (by rw [c, x1]) rfl (by omega) (by omega)
    exact xm_least ok hx hk' hn hK ht (fun z => absurd ⟨h, z⟩ nb) (fun _ => br_t rfl (nm_r (nI_1 k) nxt))
theorem xm_lo (ok : tc_ok S) (hn : tc_tn ty tz tn) (hN : tn ≤ 24) {post : Int32 → Prop} {f_patternDepth : Int32} {f_patternNodes : Int32} {f_ruleCount : Int32} {f_entryCount : Int32} {f_treeDepth : Int32} {f_treeNodes : Int32} {f_stateCount : Int32} {f_coverLength : Int32} {f_pendingCount : Int32} {a_patternStack : Nat → Int32} {a_patternSymbol : Nat → Int32} {a_patternFirst : Nat → Int32} {a_patternLast : Nat → Int32} {a_patternEntry : Nat → Int32} {a_ruleLeft : Nat → Int32} {a_ruleCost : Nat → Int32} {a_ruleEntry : Nat → Int32} {a_ruleStart : Nat → Int32} {a_entryOperator : Nat → Int32} {a_entryFirst : Nat → Int32} {a_entryLast : Nat → Int32} {a_treeStack : Nat → Int32} {a_treeOperator : Nat → Int32} {a_treeFirst : Nat → Int32} {a_treeLast : Nat → Int32} {a_treeSize : Nat → Int32} {a_treeCosts : Nat → Int32} {a_treeWays : Nat → Int32} {a_stateCosts : Nat → Int32} {a_cover : Nat → Int32} {a_pendingEntry : Nat → Int32} {a_pendingNode : Nat → Int32} (hx : tc_xr S f_ruleCount f_entryCount a_ruleLeft a_ruleCost a_ruleEntry a_ruleStart a_entryOperator a_entryFirst a_entryLast)
    (hr : tc_rows S 536870912 ty tz a_treeCosts tn) {n g : Nat} (hg : g < 4) (hgd : tc_gd S 536870912 ty tz tn n g) (hp : post (nI (tc_lo S 536870912 (tc_v S 536870912 ty tz n) g))) :
    wpX_lowestRule post (f_patternDepth, f_patternNodes, f_ruleCount, f_entryCount, f_treeDepth, f_treeNodes, f_stateCount, f_coverLength, f_pendingCount, a_patternStack, a_patternSymbol, a_patternFirst, a_patternLast, a_patternEntry, a_ruleLeft, a_ruleCost, a_ruleEntry, a_ruleStart, a_entryOperator, a_entryFirst, a_entryLast, a_treeStack, a_treeOperator, a_treeFirst, a_treeLast, a_treeSize, a_treeCosts, a_treeWays, a_stateCosts, a_cover, a_pendingEntry, a_pendingNode) (nI g) (nI n) := by
  obtain ⟨a, b, c, _⟩ := tc_gd_lo ok hn hgd hg
  have hnt := hgd.1
  exact ⟨tc_lo S 536870912 (tc_v S 536870912 ty tz n) g + 1, xm_lo_2 (t := tc_v S 536870912 ty tz n) ok hx (by omega) hg (fun e => tc_v_le (fun h => (hn n hnt).2.2.2.1 h (hn n hnt).1) e) (hr n hnt) a b c hp (tc_lo S 536870912 (tc_v S 536870912 ty tz n) g) 0 (by omega) _ (by omega)⟩
theorem xm_cn_59 (ok : tc_ok S) (hn : tc_tn ty tz tn) (hN : tn ≤ 24) {post : SX → Prop} {f_patternDepth : Int32} {f_patternNodes : Int32} {f_ruleCount : Int32} {f_entryCount : Int32} {f_treeDepth : Int32} {f_treeNodes : Int32} {f_stateCount : Int32} {f_coverLength : Int32} {f_pendingCount : Int32} {a_patternStack : Nat → Int32} {a_patternSymbol : Nat → Int32} {a_patternFirst : Nat → Int32} {a_patternLast : Nat → Int32} {a_patternEntry : Nat → Int32} {a_ruleLeft : Nat → Int32} {a_ruleCost : Nat → Int32} {a_ruleEntry : Nat → Int32} {a_ruleStart : Nat → Int32} {a_entryOperator : Nat → Int32} {a_entryFirst : Nat → Int32} {a_entryLast : Nat → Int32} {a_treeStack : Nat → Int32} {a_treeOperator : Nat → Int32} {a_treeFirst : Nat → Int32} {a_treeLast : Nat → Int32} {a_treeSize : Nat → Int32} {a_treeCosts : Nat → Int32} {a_treeWays : Nat → Int32} {a_stateCosts : Nat → Int32} {a_cover : Nat → Int32} {a_pendingEntry : Nat → Int32} {a_pendingNode : Nat → Int32} (hx : tc_xr S f_ruleCount f_entryCount a_ruleLeft a_ruleCost a_ruleEntry a_ruleStart a_entryOperator a_entryFirst a_entryLast)
    (ht : tc_xt tn td ty tz tk f_treeDepth f_treeNodes a_treeStack a_treeOperator a_treeFirst a_treeLast a_treeSize) {n e h : Nat} {s : List (Nat × Nat)} (he : ¬ e < 4)
    (hgd : ∀ p, p ∈ (n, e) :: s → tc_gd S 536870912 ty tz tn p.1 p.2) (hh : f_pendingCount = nI h) (hh2 : h + 2 ≤ 25) (hs : tc_sk (tc_xp2 a_pendingEntry a_pendingNode) h s)
    (hp : ∀ (pe pn : Nat → Int32) (h' : Nat) (s' : List (Nat × Nat)), h' ≤ h + 2 → tc_sk (tc_xp2 pe pn) h' s' → (∀ p, p ∈ s' → tc_gd S 536870912 ty tz tn p.1 p.2) → tc_sp tz s' + 1 = tz n + tc_sp tz s →
      tc_cv S 536870912 ty tz ((n, e) :: s) = tc_cv S 536870912 ty tz s' → post (f_patternDepth, f_patternNodes, f_ruleCount, f_entryCount, f_treeDepth, f_treeNodes, f_stateCount, f_coverLength, nI h', a_patternStack, a_patternSymbol, a_patternFirst, a_patternLast, a_patternEntry, a_ruleLeft, a_ruleCost, a_ruleEntry, a_ruleStart, a_entryOperator, a_entryFirst, a_entryLast, a_treeStack, a_treeOperator, a_treeFirst, a_treeLast, a_treeSize, a_treeCosts, a_treeWays, a_stateCosts, a_cover, pe, pn)) :
    wX_coverNode_59 post (nI n) (nI e) f_patternDepth f_patternNodes f_ruleCount f_entryCount f_treeDepth f_treeNodes f_stateCount f_coverLength f_pendingCount a_patternStack a_patternSymbol a_patternFirst a_patternLast a_patternEntry a_ruleLeft a_ruleCost a_ruleEntry a_ruleStart a_entryOperator a_entryFirst a_entryLast a_treeStack a_treeOperator a_treeFirst a_treeLast a_treeSize a_treeCosts a_treeWays a_stateCosts a_cover a_pendingEntry a_pendingNode := by
  have hg : tc_gd S 536870912 ty tz tn n e := hgd (n, e) List.mem_cons_self
  have hnt : n < tn := hg.1
  have heE : e < tc_E S := hg.2.1
  have hE := tc_ok_E ok
  obtain ⟨h6, n1, n2, n3, n4, n5, n6, n7⟩ := hn n hnt
  obtain ⟨t1, t2, t3, t4⟩ := ht.2.2.2 n hnt
  obtain ⟨x1, x2, x3⟩ := hx.2.2.2 e (by omega) heE
  obtain ⟨g1, g2, g3⟩ := tc_gd_op ok hn hg he
  have hcv := tc_cv_cons ok hn hgd
  have cn : (nI n).toNatClampNeg = n := nI_clamp (by omega)
  have ce : (nI e).toNatClampNeg = e := nI_clamp (by omega)
  have hou : tc_ou S 536870912 ty tz n e = [] := if_neg he
  rw [hou, List.nil_append] at hcv
  have hs0 : ∀ p, p ∈ s → tc_gd S 536870912 ty tz tn p.1 p.2 := fun p hp => hgd p (List.mem_cons_of_mem _ hp)
  subst hh
  refine ⟨vp_in_nI (by omega) (by decide), ?_⟩
  rw [cn, t1]
  refine xm_parts (by omega) ?_
  by_cases h2 : ty n < 2
  · rw [tc_ar0 h2]
    refine br_t (by decide) (br_f (by decide) ?_)
    refine hp _ _ h s (by omega) hs hs0 (by have := n5 h2; omega) ?_
    rw [hcv]
    have e1 : tc_nx S 536870912 ty tz n e = [] := by
      unfold tc_nx
      rw [if_neg he, if_pos h2]
    rw [e1]
    rfl
  · obtain ⟨b1, b2⟩ := g2 (by omega)
    by_cases h4 : ty n < 4
    · rw [tc_ar1 (by omega) h4]
      have e1 : tc_nx S 536870912 ty tz n e = [(n - 1, tc_el S e)] := by
        unfold tc_nx
        rw [if_neg he, if_neg h2, if_pos h4]
      refine br_f (by decide) ⟨vp_in_nI (by omega) (by decide), vp_in_nI (by omega) (by decide), ?_⟩
      rw [ce, x2 (by omega), t3 (by omega)]
      refine ⟨vp_in_nI (by omega) (by decide), nm_r (e' := upd a_pendingEntry h (nI (tc_el S e))) (by rw [nI_clamp (by omega)]) ⟨vp_in_nI (by omega) (by decide), nm_r (e' := upd a_pendingNode h (nI (n - 1))) (by rw [nI_clamp (by omega)]) (nm_r (nI_1 h) (br_f (by decide) ?_))⟩⟩
      refine hp _ _ (h + 1) ((n - 1, tc_el S e) :: s) (by omega) ⟨h, rfl, ⟨pk_us, pk_us⟩, ?_⟩ (fun p hp => ?_) ?_ ?_
      · exact tc_sk_congr s h (fun k hk p hpp => ⟨by rw [pk_un (by omega)]; exact hpp.1, by rw [pk_un (by omega)]; exact hpp.2⟩) hs
      · rcases List.mem_cons.mp hp with hp | hp
        · rw [hp]
          exact b2
        · exact hs0 p hp
      · show tz (n - 1) + tc_sp tz s + 1 = tz n + tc_sp tz s
        have := n6 (by omega) h4
        omega
      · rw [hcv, e1]
        rfl
    · rw [tc_ar2 (by omega)]
      obtain ⟨c1, c2⟩ := g3 (by omega)
      have e1 : tc_nx S 536870912 ty tz n e = [(n - 1 - tz (n - 1), tc_ef S e), (n - 1, tc_el S e)] := by
        unfold tc_nx
        rw [if_neg he, if_neg h2, if_neg h4]
      refine br_f (by decide) ⟨vp_in_nI (by omega) (by decide), vp_in_nI (by omega) (by decide), ?_⟩
      rw [ce, x2 (by omega), t3 (by omega)]
      refine ⟨vp_in_nI (by omega) (by decide), nm_r (e' := upd a_pendingEntry h (nI (tc_el S e))) (by rw [nI_clamp (by omega)]) ⟨vp_in_nI (by omega) (by decide), nm_r (e' := upd a_pendingNode h (nI (n - 1))) (by rw [nI_clamp (by omega)]) (nm_r (nI_1 h) (br_t rfl ⟨vp_in_nI (by omega) (by decide), vp_in_nI (by omega) (by decide), ?_⟩))⟩⟩
      rw [ce, cn, x3 (by omega), t4 (by omega)]
      refine ⟨vp_in_nI (by omega) (by decide), nm_r (e' := upd (upd a_pendingEntry h (nI (tc_el S e))) (h + 1) (nI (tc_ef S e))) (by rw [nI_clamp (by omega)]) ⟨vp_in_nI (by omega) (by decide), nm_r (e' := upd (upd a_pendingNode h (nI (n - 1))) (h + 1) (nI (n - 1 - tz (n - 1)))) (by rw [nI_clamp (by omega)]) (nm_r (nI_1 (h + 1)) ?_)⟩⟩
      refine hp _ _ (h + 1 + 1) ((n - 1 - tz (n - 1), tc_ef S e) :: (n - 1, tc_el S e) :: s) (by omega) ⟨h + 1, rfl, ⟨pk_us, pk_us⟩, h, rfl, ⟨by rw [pk_un (by omega)]; exact pk_us, by rw [pk_un (by omega)]; exact pk_us⟩, ?_⟩ (fun p hp => ?_) ?_ ?_
      · exact tc_sk_congr s h (fun k hk p hpp => ⟨by rw [pk_un (by omega), pk_un (by omega)]; exact hpp.1, by rw [pk_un (by omega), pk_un (by omega)]; exact hpp.2⟩) hs
      · rcases List.mem_cons.mp hp with hp | hp
        · rw [hp]
          exact c2
        · rcases List.mem_cons.mp hp with hp | hp
          · rw [hp]
            exact b2
          · exact hs0 p hp
      · show tz (n - 1 - tz (n - 1)) + (tz (n - 1) + tc_sp tz s) + 1 = tz n + tc_sp tz s
        have := n7 (by omega) h6
        omega
      · rw [hcv, e1]
        rfl
theorem xm_cn_5 (ok : tc_ok S) (hn : tc_tn ty tz tn) (hN : tn ≤ 24) {post : SX → Prop} {f_patternDepth : Int32} {f_patternNodes : Int32} {f_ruleCount : Int32} {f_entryCount : Int32} {f_treeDepth : Int32} {f_treeNodes : Int32} {f_stateCount : Int32} {f_pendingCount : Int32} {a_patternStack : Nat → Int32} {a_patternSymbol : Nat → Int32} {a_patternFirst : Nat → Int32} {a_patternLast : Nat → Int32} {a_patternEntry : Nat → Int32} {a_ruleLeft : Nat → Int32} {a_ruleCost : Nat → Int32} {a_ruleEntry : Nat → Int32} {a_ruleStart : Nat → Int32} {a_entryOperator : Nat → Int32} {a_entryFirst : Nat → Int32} {a_entryLast : Nat → Int32} {a_treeStack : Nat → Int32} {a_treeOperator : Nat → Int32} {a_treeFirst : Nat → Int32} {a_treeLast : Nat → Int32} {a_treeSize : Nat → Int32} {a_treeCosts : Nat → Int32} {a_treeWays : Nat → Int32} {a_stateCosts : Nat → Int32} {a_pendingEntry : Nat → Int32} {a_pendingNode : Nat → Int32} (hx : tc_xr S f_ruleCount f_entryCount a_ruleLeft a_ruleCost a_ruleEntry a_ruleStart a_entryOperator a_entryFirst a_entryLast)
    (ht : tc_xt tn td ty tz tk f_treeDepth f_treeNodes a_treeStack a_treeOperator a_treeFirst a_treeLast a_treeSize) (hr : tc_rows S 536870912 ty tz a_treeCosts tn) {n h : Nat} {s : List (Nat × Nat)}
    (hh : f_pendingCount = nI h) (hh2 : h + 2 ≤ 25) (hs : tc_sk (tc_xp2 a_pendingEntry a_pendingNode) h s) {L0 : List Nat} {l0 : Nat} (hl0 : l0 + 4 ≤ 96) :
    ∀ (d k : Nat), k + d = 4 → ∀ (e : Nat) (l : List Nat) (a_cover : Nat → Int32), (e < 4 → tc_L (tc_v S 536870912 ty tz n) e + k ≤ 3) → l.length ≤ l0 + k → tc_al a_cover l →
    (∀ p, p ∈ (n, e) :: s → tc_gd S 536870912 ty tz tn p.1 p.2) → l ++ tc_cv S 536870912 ty tz ((n, e) :: s) = L0 →
    (∀ (co pe pn : Nat → Int32) (l' : List Nat) (h' : Nat) (s' : List (Nat × Nat)), l'.length ≤ l0 + 4 → tc_al co l' → h' ≤ h + 2 → tc_sk (tc_xp2 pe pn) h' s' → (∀ p, p ∈ s' → tc_gd S 536870912 ty tz tn p.1 p.2) →
      tc_sp tz s' + 1 = tz n + tc_sp tz s → l' ++ tc_cv S 536870912 ty tz s' = L0 → post (f_patternDepth, f_patternNodes, f_ruleCount, f_entryCount, f_treeDepth, f_treeNodes, f_stateCount, nI l'.length, nI h', a_patternStack, a_patternSymbol, a_patternFirst, a_patternLast, a_patternEntry, a_ruleLeft, a_ruleCost, a_ruleEntry, a_ruleStart, a_entryOperator, a_entryFirst, a_entryLast, a_treeStack, a_treeOperator, a_treeFirst, a_treeLast, a_treeSize, a_treeCosts, a_treeWays, a_stateCosts, co, pe, pn)) →
    ∀ m, d < m → wX_coverNode_5 post (nI n) f_patternDepth f_patternNodes f_ruleCount f_entryCount f_treeDepth f_treeNodes f_stateCount f_pendingCount m (nI e) (nI k) (nI l.length) a_patternStack a_patternSymbol a_patternFirst a_patternLast a_patternEntry a_ruleLeft a_ruleCost a_ruleEntry a_ruleStart a_entryOperator a_entryFirst a_entryLast a_treeStack a_treeOperator a_treeFirst a_treeLast a_treeSize a_treeCosts a_treeWays a_stateCosts a_cover a_pendingEntry a_pendingNode := by
  have hE := tc_ok_E ok
  have hR := ok.1
  have fin : ∀ (e : Nat) (l : List Nat) (a_cover : Nat → Int32), ¬ e < 4 → l.length ≤ l0 + 4 → tc_al a_cover l → (∀ p, p ∈ (n, e) :: s → tc_gd S 536870912 ty tz tn p.1 p.2) → l ++ tc_cv S 536870912 ty tz ((n, e) :: s) = L0 →
      (∀ (co pe pn : Nat → Int32) (l' : List Nat) (h' : Nat) (s' : List (Nat × Nat)), l'.length ≤ l0 + 4 → tc_al co l' → h' ≤ h + 2 → tc_sk (tc_xp2 pe pn) h' s' → (∀ p, p ∈ s' → tc_gd S 536870912 ty tz tn p.1 p.2) →
        tc_sp tz s' + 1 = tz n + tc_sp tz s → l' ++ tc_cv S 536870912 ty tz s' = L0 → post (f_patternDepth, f_patternNodes, f_ruleCount, f_entryCount, f_treeDepth, f_treeNodes, f_stateCount, nI l'.length, nI h', a_patternStack, a_patternSymbol, a_patternFirst, a_patternLast, a_patternEntry, a_ruleLeft, a_ruleCost, a_ruleEntry, a_ruleStart, a_entryOperator, a_entryFirst, a_entryLast, a_treeStack, a_treeOperator, a_treeFirst, a_treeLast, a_treeSize, a_treeCosts, a_treeWays, a_stateCosts, co, pe, pn)) →
      wX_coverNode_59 post (nI n) (nI e) f_patternDepth f_patternNodes f_ruleCount f_entryCount f_treeDepth f_treeNodes f_stateCount (nI l.length) f_pendingCount a_patternStack a_patternSymbol a_patternFirst a_patternLast a_patternEntry a_ruleLeft a_ruleCost a_ruleEntry a_ruleStart a_entryOperator a_entryFirst a_entryLast a_treeStack a_treeOperator a_treeFirst a_treeLast a_treeSize a_treeCosts a_treeWays a_stateCosts a_cover a_pendingEntry a_pendingNode := fun e l a_cover he hl hal hgd hL hp => by
    refine xm_cn_59 ok hn hN hx ht he hgd hh hh2 hs (fun pe pn h' s' p1 p2 p3 p4 p5 => ?_)
    exact hp a_cover pe pn l h' s' hl hal p1 p2 p3 p4 (by rw [← p5]; exact hL)
  intro d
  induction d with
  | zero =>
    intro k hk e l a_cover hrk hl hal hgd hL hp m hm
    obtain ⟨m', rfl⟩ : ∃ m', m = m' + 1 := ⟨m - 1, by omega⟩
    have e1 : k = 4 := by omega
    subst e1
    refine br_t (nI_le (a := 4) (Nat.le_refl _) (by decide)) (fin e l a_cover (fun z => ?_) hl hal hgd hL hp)
    have := hrk z
    omega
  | succ d ih =>
    intro k hk e l a_cover hrk hl hal hgd hL hp m hm
    obtain ⟨m', rfl⟩ : ∃ m', m = m' + 1 := ⟨m - 1, by omega⟩
    have hg : tc_gd S 536870912 ty tz tn n e := hgd (n, e) List.mem_cons_self
    have hnt : n < tn := hg.1
    have heE : e < tc_E S := hg.2.1
    refine br_f (nI_ge (b := 4) (by omega) (by decide)) ?_
    refine pk_le 4 e (fun h4 => fin e l a_cover (by omega) (by omega) hal hgd hL hp) (fun h4 => ?_) rfl rfl (by omega) (by omega)
    refine xm_lo ok hn hN hx hr h4 hg ?_
    obtain ⟨g1, g2, g3, g4⟩ := tc_gd_lo ok hn hg h4
    have x3 := (hx.2.2.1 _ g1).2.2.1
    refine ⟨vp_in_nI (by omega) (by decide), nm_r (e' := upd a_cover l.length (nI (tc_lo S 536870912 (tc_v S 536870912 ty tz n) e))) (by rw [nI_clamp (by omega)]) (nm_r (nI_1 l.length) ⟨vp_in_nI (by omega) (by decide), nm_r (e' := nI (tc_rt S (tc_lo S 536870912 (tc_v S 536870912 ty tz n) e))) (by rw [nI_clamp (by omega), x3]) (nm_r (nI_1 k) ?_)⟩)⟩
    have hcv := tc_cv_cons ok hn hgd
    have e1 : tc_nx S 536870912 ty tz n e = [(n, tc_rt S (tc_lo S 536870912 (tc_v S 536870912 ty tz n) e))] := if_pos h4
    have e2 : tc_ou S 536870912 ty tz n e = [tc_lo S 536870912 (tc_v S 536870912 ty tz n) e] := if_pos h4
    rw [e1, e2] at hcv
    have hlen : (l ++ [tc_lo S 536870912 (tc_v S 536870912 ty tz n) e]).length = l.length + 1 := by
      rw [List.length_append]
      rfl
    have key := ih (k + 1) (by omega) (tc_rt S (tc_lo S 536870912 (tc_v S 536870912 ty tz n) e)) (l ++ [tc_lo S 536870912 (tc_v S 536870912 ty tz n) e]) _ (fun z => ?_) (by rw [hlen]; omega) (tc_al_snoc hal) (fun p hpm => ?_) ?_ hp m' (by omega)
    · rw [hlen] at key
      exact key
    · have := tc_bs_L ok g1 z g2.2
      rw [g2.1] at this
      have := hrk h4
      omega
    · rcases List.mem_cons.mp hpm with hpm | hpm
      · rw [hpm]
        exact g4
      · exact hgd p (List.mem_cons_of_mem _ hpm)
    · rw [List.append_assoc]
      rw [hcv] at hL
      exact hL
theorem xm_cn (ok : tc_ok S) (hn : tc_tn ty tz tn) (hN : tn ≤ 24) {post : SX → Prop} {f_patternDepth : Int32} {f_patternNodes : Int32} {f_ruleCount : Int32} {f_entryCount : Int32} {f_treeDepth : Int32} {f_treeNodes : Int32} {f_stateCount : Int32} {f_coverLength : Int32} {f_pendingCount : Int32} {a_patternStack : Nat → Int32} {a_patternSymbol : Nat → Int32} {a_patternFirst : Nat → Int32} {a_patternLast : Nat → Int32} {a_patternEntry : Nat → Int32} {a_ruleLeft : Nat → Int32} {a_ruleCost : Nat → Int32} {a_ruleEntry : Nat → Int32} {a_ruleStart : Nat → Int32} {a_entryOperator : Nat → Int32} {a_entryFirst : Nat → Int32} {a_entryLast : Nat → Int32} {a_treeStack : Nat → Int32} {a_treeOperator : Nat → Int32} {a_treeFirst : Nat → Int32} {a_treeLast : Nat → Int32} {a_treeSize : Nat → Int32} {a_treeCosts : Nat → Int32} {a_treeWays : Nat → Int32} {a_stateCosts : Nat → Int32} {a_cover : Nat → Int32} {a_pendingEntry : Nat → Int32} {a_pendingNode : Nat → Int32} (hx : tc_xr S f_ruleCount f_entryCount a_ruleLeft a_ruleCost a_ruleEntry a_ruleStart a_entryOperator a_entryFirst a_entryLast)
    (ht : tc_xt tn td ty tz tk f_treeDepth f_treeNodes a_treeStack a_treeOperator a_treeFirst a_treeLast a_treeSize) (hr : tc_rows S 536870912 ty tz a_treeCosts tn) {n e h : Nat} {s : List (Nat × Nat)}
    (hh : f_pendingCount = nI h) (hh2 : h + 2 ≤ 25) (hs : tc_sk (tc_xp2 a_pendingEntry a_pendingNode) h s) {L0 l : List Nat} (hlc : f_coverLength = nI l.length) (hl0 : l.length + 4 ≤ 96) (hal : tc_al a_cover l)
    (hgd : ∀ p, p ∈ (n, e) :: s → tc_gd S 536870912 ty tz tn p.1 p.2) (hL : l ++ tc_cv S 536870912 ty tz ((n, e) :: s) = L0)
    (hp : ∀ (co pe pn : Nat → Int32) (l' : List Nat) (h' : Nat) (s' : List (Nat × Nat)), l'.length ≤ l.length + 4 → tc_al co l' → h' ≤ h + 2 → tc_sk (tc_xp2 pe pn) h' s' → (∀ p, p ∈ s' → tc_gd S 536870912 ty tz tn p.1 p.2) →
      tc_sp tz s' + 1 = tz n + tc_sp tz s → l' ++ tc_cv S 536870912 ty tz s' = L0 → post (f_patternDepth, f_patternNodes, f_ruleCount, f_entryCount, f_treeDepth, f_treeNodes, f_stateCount, nI l'.length, nI h', a_patternStack, a_patternSymbol, a_patternFirst, a_patternLast, a_patternEntry, a_ruleLeft, a_ruleCost, a_ruleEntry, a_ruleStart, a_entryOperator, a_entryFirst, a_entryLast, a_treeStack, a_treeOperator, a_treeFirst, a_treeLast, a_treeSize, a_treeCosts, a_treeWays, a_stateCosts, co, pe, pn)) :
    wpX_coverNode post (f_patternDepth, f_patternNodes, f_ruleCount, f_entryCount, f_treeDepth, f_treeNodes, f_stateCount, f_coverLength, f_pendingCount, a_patternStack, a_patternSymbol, a_patternFirst, a_patternLast, a_patternEntry, a_ruleLeft, a_ruleCost, a_ruleEntry, a_ruleStart, a_entryOperator, a_entryFirst, a_entryLast, a_treeStack, a_treeOperator, a_treeFirst, a_treeLast, a_treeSize, a_treeCosts, a_treeWays, a_stateCosts, a_cover, a_pendingEntry, a_pendingNode) (nI e) (nI n) := by
  subst hlc
  exact ⟨5, xm_cn_5 ok hn hN hx ht hr hh hh2 hs hl0 4 0 (by omega) e l a_cover (fun z => tc_L_le3 z) (by omega) hal hgd hL hp 5 (by omega)⟩
end
