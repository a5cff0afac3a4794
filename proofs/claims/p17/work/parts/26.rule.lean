/-- what addEntries has done when i nodes are done -/
def tc_ae (E : Nat) (py pz : Nat → Nat) (eo0 ef0 el0 : Nat → Int32) (i : Nat) (pe eo ef el : Nat → Int32) : Prop :=
  (∀ j, j < i → pe j = nI (tc_pe E py j)) ∧
  (∀ j, j < i → py j < 6 → eo (E + tc_cn py j) = nI (py j) ∧ (2 ≤ py j → el (E + tc_cn py j) = nI (tc_pe E py (j - 1))) ∧ (4 ≤ py j → ef (E + tc_cn py j) = nI (tc_pe E py (j - 1 - pz (j - 1))))) ∧
  (∀ e, e < E → eo e = eo0 e ∧ ef e = ef0 e ∧ el e = el0 e)
section
variable {pn pd : Nat} {py pz pk : Nat → Nat}
theorem xe_add {post : SX → Prop} {f_patternDepth : Int32} {f_patternNodes : Int32} {f_ruleCount : Int32} {f_entryCount : Int32} {f_treeDepth : Int32} {f_treeNodes : Int32} {f_stateCount : Int32} {f_coverLength : Int32} {f_pendingCount : Int32} {a_patternStack : Nat → Int32} {a_patternSymbol : Nat → Int32} {a_patternFirst : Nat → Int32} {a_patternLast : Nat → Int32} {a_patternEntry : Nat → Int32} {a_ruleLeft : Nat → Int32} {a_ruleCost : Nat → Int32} {a_ruleEntry : Nat → Int32} {a_ruleStart : Nat → Int32} {a_entryOperator : Nat → Int32} {a_entryFirst : Nat → Int32} {a_entryLast : Nat → Int32} {a_treeStack : Nat → Int32} {a_treeOperator : Nat → Int32} {a_treeFirst : Nat → Int32} {a_treeLast : Nat → Int32} {a_treeSize : Nat → Int32} {a_treeCosts : Nat → Int32} {a_treeWays : Nat → Int32} {a_stateCosts : Nat → Int32} {a_cover : Nat → Int32} {a_pendingEntry : Nat → Int32} {a_pendingNode : Nat → Int32} {o c i : Nat} (ho : o < 6) (hc : c < 74) (hi : i < 7) (hec : f_entryCount = nI c) (hl : 2 ≤ o → ∃ l, l < 7 ∧ a_patternLast i = nI l) (hf : 4 ≤ o → ∃ l, l < 7 ∧ a_patternFirst i = nI l)
    (hp : ∀ eo ef el : Nat → Int32, eo c = nI o → (∀ l, 2 ≤ o → l < 7 → a_patternLast i = nI l → el c = a_patternEntry l) → (∀ l, 4 ≤ o → l < 7 → a_patternFirst i = nI l → ef c = a_patternEntry l) →
      (∀ j, j ≠ c → eo j = a_entryOperator j ∧ ef j = a_entryFirst j ∧ el j = a_entryLast j) → post (f_patternDepth, f_patternNodes, f_ruleCount, nI (c + 1), f_treeDepth, f_treeNodes, f_stateCount, f_coverLength, f_pendingCount, a_patternStack, a_patternSymbol, a_patternFirst, a_patternLast, a_patternEntry, a_ruleLeft, a_ruleCost, a_ruleEntry, a_ruleStart, eo, ef, el, a_treeStack, a_treeOperator, a_treeFirst, a_treeLast, a_treeSize, a_treeCosts, a_treeWays, a_stateCosts, a_cover, a_pendingEntry, a_pendingNode)) :
    wpX_addEntry post (f_patternDepth, f_patternNodes, f_ruleCount, f_entryCount, f_treeDepth, f_treeNodes, f_stateCount, f_coverLength, f_pendingCount, a_patternStack, a_patternSymbol, a_patternFirst, a_patternLast, a_patternEntry, a_ruleLeft, a_ruleCost, a_ruleEntry, a_ruleStart, a_entryOperator, a_entryFirst, a_entryLast, a_treeStack, a_treeOperator, a_treeFirst, a_treeLast, a_treeSize, a_treeCosts, a_treeWays, a_stateCosts, a_cover, a_pendingEntry, a_pendingNode) (nI i) (nI o) := by
  subst hec
  have cc : (nI c).toNatClampNeg = c := nI_clamp (by omega)
  have ci : (nI i).toNatClampNeg = i := nI_clamp (by omega)
  unfold wpX_addEntry
  refine xm_parts (by omega) ?_
  refine ⟨vp_in_nI hc (by decide), nm_r (e' := upd a_entryOperator c (nI o)) (by rw [cc]) ?_⟩
  by_cases h2 : o < 2
  · rw [tc_ar0 h2]
    exact br_t (by decide) (br_f (by decide) (nm_r (nI_1 c) (hp _ _ _ pk_us (fun l z => by omega) (fun l z => by omega) (fun j hj => ⟨pk_un hj, rfl, rfl⟩))))
  · obtain ⟨l, l1, l2⟩ := hl (by omega)
    have w1 : a_patternLast (nI i).toNatClampNeg = nI l := by rw [ci, l2]
    have w2 : upd a_entryLast (nI c).toNatClampNeg (a_patternEntry (a_patternLast (nI i).toNatClampNeg).toNatClampNeg) = upd a_entryLast c (a_patternEntry l) := by rw [cc, w1, nI_clamp (by omega)]
    have uq : ∀ l', l' < 7 → a_patternLast i = nI l' → l' = l := fun l' h1 h3 => by
      rw [l2] at h3
      exact ((nI_eq (by omega) (by omega)).mp h3).symm
    by_cases h4 : o < 4
    · rw [tc_ar1 (by omega) h4]
      refine br_f (by decide) ⟨vp_in_nI hi (by decide), by rw [w1]; exact vp_in_nI l1 (by decide), vp_in_nI hc (by decide), nm_r w2 (br_f (by decide) (nm_r (nI_1 c) ?_))⟩
      exact hp _ _ _ pk_us (fun l' z h1 h3 => by rw [uq l' h1 h3]; exact pk_us) (fun l z => by omega) (fun j hj => ⟨pk_un hj, rfl, pk_un hj⟩)
    · rw [tc_ar2 (by omega)]
      obtain ⟨f, f1, f2⟩ := hf (by omega)
      have w3 : a_patternFirst (nI i).toNatClampNeg = nI f := by rw [ci, f2]
      have w4 : upd a_entryFirst (nI c).toNatClampNeg (a_patternEntry (a_patternFirst (nI i).toNatClampNeg).toNatClampNeg) = upd a_entryFirst c (a_patternEntry f) := by rw [cc, w3, nI_clamp (by omega)]
      have uf : ∀ l', l' < 7 → a_patternFirst i = nI l' → l' = f := fun l' h1 h3 => by
        rw [f2] at h3
        exact ((nI_eq (by omega) (by omega)).mp h3).symm
      refine br_f (by decide) ⟨vp_in_nI hi (by decide), by rw [w1]; exact vp_in_nI l1 (by decide), vp_in_nI hc (by decide), nm_r w2 (br_t rfl ⟨vp_in_nI hi (by decide), by rw [w3]; exact vp_in_nI f1 (by decide), vp_in_nI hc (by decide), nm_r w4 (nm_r (nI_1 c) ?_)⟩)⟩
      exact hp _ _ _ pk_us (fun l' z h1 h3 => by rw [uq l' h1 h3]; exact pk_us) (fun l' z h1 h3 => by rw [uf l' h1 h3]; exact pk_us) (fun j hj => ⟨pk_un hj, pk_un hj, pk_un hj⟩)
theorem xe_2 (F : tc_fo pn pd py pz pk) (h10 : ∀ i, i < pn → py i < 10) (hN : pn ≤ 7) {E : Nat} (hE4 : 4 ≤ E) (hE : E ≤ 67) {post : SX → Prop} {f_patternDepth : Int32} {f_patternNodes : Int32} {f_ruleCount : Int32} {f_treeDepth : Int32} {f_treeNodes : Int32} {f_stateCount : Int32} {f_coverLength : Int32} {f_pendingCount : Int32} {a_patternStack : Nat → Int32} {a_patternSymbol : Nat → Int32} {a_patternFirst : Nat → Int32} {a_patternLast : Nat → Int32} {a_ruleLeft : Nat → Int32} {a_ruleCost : Nat → Int32} {a_ruleEntry : Nat → Int32} {a_ruleStart : Nat → Int32} {a_treeStack : Nat → Int32} {a_treeOperator : Nat → Int32} {a_treeFirst : Nat → Int32} {a_treeLast : Nat → Int32} {a_treeSize : Nat → Int32} {a_treeCosts : Nat → Int32} {a_treeWays : Nat → Int32} {a_stateCosts : Nat → Int32} {a_cover : Nat → Int32} {a_pendingEntry : Nat → Int32} {a_pendingNode : Nat → Int32}
    (hx : tc_xp pn pd py pz pk f_patternDepth f_patternNodes a_patternStack a_patternSymbol a_patternFirst a_patternLast) {eo0 ef0 el0 : Nat → Int32} :
    ∀ (d i : Nat), i + d = pn → ∀ a_patternEntry a_entryOperator a_entryFirst a_entryLast : Nat → Int32, tc_ae E py pz eo0 ef0 el0 i a_patternEntry a_entryOperator a_entryFirst a_entryLast →
    (∀ pe eo ef el : Nat → Int32, tc_ae E py pz eo0 ef0 el0 pn pe eo ef el → post (f_patternDepth, f_patternNodes, f_ruleCount, nI (E + tc_cn py pn), f_treeDepth, f_treeNodes, f_stateCount, f_coverLength, f_pendingCount, a_patternStack, a_patternSymbol, a_patternFirst, a_patternLast, pe, a_ruleLeft, a_ruleCost, a_ruleEntry, a_ruleStart, eo, ef, el, a_treeStack, a_treeOperator, a_treeFirst, a_treeLast, a_treeSize, a_treeCosts, a_treeWays, a_stateCosts, a_cover, a_pendingEntry, a_pendingNode)) →
    ∀ m, d < m → wX_addEntries_2 post m (nI i) f_patternDepth f_patternNodes f_ruleCount (nI (E + tc_cn py i)) f_treeDepth f_treeNodes f_stateCount f_coverLength f_pendingCount a_patternStack a_patternSymbol a_patternFirst a_patternLast a_patternEntry a_ruleLeft a_ruleCost a_ruleEntry a_ruleStart a_entryOperator a_entryFirst a_entryLast a_treeStack a_treeOperator a_treeFirst a_treeLast a_treeSize a_treeCosts a_treeWays a_stateCosts a_cover a_pendingEntry a_pendingNode := by
  obtain ⟨rfl, rfl, x3, x4⟩ := hx
  intro d
  induction d with
  | zero =>
    intro i hi a_patternEntry a_entryOperator a_entryFirst a_entryLast ha hp m hm
    obtain ⟨m', rfl⟩ : ∃ m', m = m' + 1 := ⟨m - 1, by omega⟩
    have e : i = pn := by omega
    subst e
    exact br_t (nI_le (Nat.le_refl _) (by omega)) (hp _ _ _ _ ha)
  | succ d ih =>
    intro i hi a_patternEntry a_entryOperator a_entryFirst a_entryLast ha hp m hm
    obtain ⟨m', rfl⟩ : ∃ m', m = m' + 1 := ⟨m - 1, by omega⟩
    obtain ⟨A1, A2, A3⟩ := ha
    have hip : i < pn := by omega
    have hb := h10 i hip
    have c : (nI i).toNatClampNeg = i := nI_clamp (by omega)
    obtain ⟨y1, y2, y3⟩ := x4 i hip
    have cn := tc_cn_le (py := py) i
    obtain ⟨n1, n2, n3, n4, n5, n6, n7⟩ := F.2.2.2.2.2 i hip
    refine br_f (nI_ge hip (by omega)) ⟨vp_in_nI (by omega) (by decide), nm_r (e' := nI (py i)) (by rw [c, y1]) ?_⟩
    refine pk_lt (py i) 6 (fun h6 => ?_) (fun h6 => ?_) rfl rfl (by omega) (by omega)
    · have epe : tc_pe E py i = E + tc_cn py i := if_pos h6
      refine ⟨vp_in_nI (by omega) (by decide), nm_r (e' := upd a_patternEntry i (nI (E + tc_cn py i))) (by rw [c]) ?_⟩
      refine xe_add h6 (c := E + tc_cn py i) (by omega) (by omega) rfl (fun h2 => ⟨i - 1, by omega, y2 h2 h6⟩) (fun h4 => ⟨i - 1 - pz (i - 1), by omega, y3 h4 h6⟩) (fun eo ef el q1 q2 q3 q4 => ?_)
      have nxt := ih (i + 1) (by omega) (upd a_patternEntry i (nI (E + tc_cn py i))) eo ef el ⟨fun j hj => ?_, fun j hj hj6 => ?_, fun e he => ?_⟩ hp m' (by omega)
      · rw [tc_cn_y h6, ← Nat.add_assoc] at nxt
        exact nm_r (nI_1 i) nxt
      · by_cases cj : j = i
        · rw [cj, pk_us, epe]
        · rw [pk_un cj]
          exact A1 j (by omega)
      · by_cases cj : j = i
        · subst cj
          refine ⟨q1, fun h2 => ?_, fun h4 => ?_⟩
          · have := n3 h2 h6
            rw [q2 (j - 1) h2 (by omega) (y2 h2 h6), pk_un (by omega)]
            exact A1 (j - 1) (by omega)
          · have := n3 (by omega) h6
            have := n4 h4 h6
            rw [q3 (j - 1 - pz (j - 1)) h4 (by omega) (y3 h4 h6), pk_un (by omega)]
            exact A1 (j - 1 - pz (j - 1)) (by omega)
        · have hlt := tc_cn_lt hj6 (show j < i by omega)
          obtain ⟨r1, r2, r3⟩ := q4 (E + tc_cn py j) (by omega)
          rw [r1, r2, r3]
          exact A2 j (by omega) hj6
      · obtain ⟨r1, r2, r3⟩ := q4 e (by omega)
        rw [r1, r2, r3]
        exact A3 e he
    · have epe : tc_pe E py i = py i - 6 := if_neg (by omega)
      have w : nI (py i) - 6 = nI (py i - 6) := by rw [show (6 : Int32) = nI 6 from rfl, pk_sub h6]
      refine ⟨vp_in_nI (by omega) (by decide), nm_r (e' := upd a_patternEntry i (nI (py i - 6))) (by rw [c, w]) (nm_r (nI_1 i) ?_)⟩
      have nxt := ih (i + 1) (by omega) (upd a_patternEntry i (nI (py i - 6))) a_entryOperator a_entryFirst a_entryLast ⟨fun j hj => ?_, fun j hj hj6 => ?_, A3⟩ hp m' (by omega)
      · rw [tc_cn_n (by omega)] at nxt
        exact nxt
      · by_cases cj : j = i
        · rw [cj, pk_us, epe]
        · rw [pk_un cj]
          exact A1 j (by omega)
      · have : j ≠ i := fun z => by rw [z] at hj6; omega
        exact A2 j (by omega) hj6
/-- the rules with one more -/
def tc_Sn (S : tc_S) (g co pn : Nat) (py : Nat → Nat) (eo ef el : Nat → Int32) : tc_S :=
  (tc_R S + 1, tc_un (tc_sr S) (tc_R S + 1) (tc_E S + tc_cn py pn), tc_un (tc_lf S) (tc_R S) g, tc_un (tc_co S) (tc_R S) co, tc_un (tc_rt S) (tc_R S) (tc_pe (tc_E S) py (pn - 1)),
    fun e => (eo e).toNatClampNeg, fun e => (ef e).toNatClampNeg, fun e => (el e).toNatClampNeg)
theorem tc_clamp {x : Int32} {n : Nat} (h : x = nI n) (hn : n < 2 ^ 31) : x = nI x.toNatClampNeg ∧ x.toNatClampNeg = n := by
  rw [h, nI_clamp hn]
  exact ⟨rfl, rfl⟩
/-- the entries of the rules with one more: each is an old one, or that of a node -/
theorem tc_Sn_e {S : tc_S} (ok : tc_ok S) (hR : tc_R S < 10) (hN : pn ≤ 7) (h10 : ∀ i, i < pn → py i < 10) (F : tc_fo pn pd py pz pk) {g co : Nat} {eo0 ef0 el0 pe eo ef el : Nat → Int32}
    (h0 : ∀ e, 4 ≤ e → e < tc_E S → eo0 e = nI (tc_eo S e) ∧ (2 ≤ tc_eo S e → el0 e = nI (tc_el S e)) ∧ (4 ≤ tc_eo S e → ef0 e = nI (tc_ef S e)))
    (A : tc_ae (tc_E S) py pz eo0 ef0 el0 pn pe eo ef el) {e : Nat} (he : 4 ≤ e) (hE : e < tc_E S + tc_cn py pn) :
    (eo e = nI (tc_eo (tc_Sn S g co pn py eo ef el) e) ∧ (2 ≤ tc_eo (tc_Sn S g co pn py eo ef el) e → el e = nI (tc_el (tc_Sn S g co pn py eo ef el) e)) ∧ (4 ≤ tc_eo (tc_Sn S g co pn py eo ef el) e → ef e = nI (tc_ef (tc_Sn S g co pn py eo ef el) e))) ∧
    (tc_eo (tc_Sn S g co pn py eo ef el) e < 6 ∧ (2 ≤ tc_eo (tc_Sn S g co pn py eo ef el) e → tc_el (tc_Sn S g co pn py eo ef el) e < e) ∧ (4 ≤ tc_eo (tc_Sn S g co pn py eo ef el) e → tc_ef (tc_Sn S g co pn py eo ef el) e < e)) ∧
    (e < tc_E S → tc_eo (tc_Sn S g co pn py eo ef el) e = tc_eo S e ∧ (2 ≤ tc_eo S e → tc_el (tc_Sn S g co pn py eo ef el) e = tc_el S e) ∧ (4 ≤ tc_eo S e → tc_ef (tc_Sn S g co pn py eo ef el) e = tc_ef S e)) ∧
    (∀ j, j < pn → py j < 6 → e = tc_E S + tc_cn py j → tc_eo (tc_Sn S g co pn py eo ef el) e = py j ∧ (2 ≤ py j → tc_el (tc_Sn S g co pn py eo ef el) e = tc_pe (tc_E S) py (j - 1)) ∧ (4 ≤ py j → tc_ef (tc_Sn S g co pn py eo ef el) e = tc_pe (tc_E S) py (j - 1 - pz (j - 1)))) := by
  have hE4 := tc_ok_E ok
  obtain ⟨A1, A2, A3⟩ := A
  have cnl := tc_cn_le (py := py) pn
  show (eo e = nI (eo e).toNatClampNeg ∧ (2 ≤ (eo e).toNatClampNeg → el e = nI (el e).toNatClampNeg) ∧ (4 ≤ (eo e).toNatClampNeg → ef e = nI (ef e).toNatClampNeg)) ∧
    ((eo e).toNatClampNeg < 6 ∧ (2 ≤ (eo e).toNatClampNeg → (el e).toNatClampNeg < e) ∧ (4 ≤ (eo e).toNatClampNeg → (ef e).toNatClampNeg < e)) ∧
    (e < tc_E S → (eo e).toNatClampNeg = tc_eo S e ∧ (2 ≤ tc_eo S e → (el e).toNatClampNeg = tc_el S e) ∧ (4 ≤ tc_eo S e → (ef e).toNatClampNeg = tc_ef S e)) ∧
    (∀ j, j < pn → py j < 6 → e = tc_E S + tc_cn py j → (eo e).toNatClampNeg = py j ∧ (2 ≤ py j → (el e).toNatClampNeg = tc_pe (tc_E S) py (j - 1)) ∧ (4 ≤ py j → (ef e).toNatClampNeg = tc_pe (tc_E S) py (j - 1 - pz (j - 1))))
  by_cases old : e < tc_E S
  · obtain ⟨a1, a2, a3⟩ := A3 e old
    obtain ⟨b1, b2, b3⟩ := h0 e he old
    have hk := ok.2.2.2 e he old
    rw [a1, a2, a3]
    obtain ⟨c1, c2⟩ := tc_clamp b1 (by omega)
    rw [c2]
    refine ⟨⟨b1, fun z => (tc_clamp (b2 z) (by omega)).1, fun z => (tc_clamp (b3 z) (by omega)).1⟩, ⟨hk.1, fun z => by rw [(tc_clamp (b2 z) (by omega)).2]; omega, fun z => by rw [(tc_clamp (b3 z) (by omega)).2]; omega⟩,
      fun _ => ⟨rfl, fun z => (tc_clamp (b2 z) (by omega)).2, fun z => (tc_clamp (b3 z) (by omega)).2⟩, fun j _ _ hj => by omega⟩
  · obtain ⟨j, hj, hj6, hjc⟩ := tc_cn_su (py := py) (c := e - tc_E S) pn (by omega)
    have ee : e = tc_E S + tc_cn py j := by omega
    obtain ⟨b1, b2, b3⟩ := A2 j hj hj6
    obtain ⟨n1, n2, n3, n4, n5, n6, n7⟩ := F.2.2.2.2.2 j hj
    rw [← ee] at b1 b2 b3
    obtain ⟨c1, c2⟩ := tc_clamp b1 (by omega)
    rw [c2]
    have lt1 : 2 ≤ py j → tc_pe (tc_E S) py (j - 1) < e := fun z => by
      have := n3 z hj6
      rw [ee]
      exact tc_pe_lt hE4.1 (h10 _ (by omega)) (by omega)
    have lt2 : 4 ≤ py j → tc_pe (tc_E S) py (j - 1 - pz (j - 1)) < e := fun z => by
      have := n3 (by omega) hj6
      rw [ee]
      exact tc_pe_lt hE4.1 (h10 _ (by omega)) (by omega)
    refine ⟨⟨b1, fun z => (tc_clamp (b2 z) (by have := lt1 z; omega)).1, fun z => (tc_clamp (b3 z) (by have := lt2 z; omega)).1⟩, ⟨hj6, fun z => by rw [(tc_clamp (b2 z) (by have := lt1 z; omega)).2]; exact lt1 z, fun z => by rw [(tc_clamp (b3 z) (by have := lt2 z; omega)).2]; exact lt2 z⟩,
      fun z => absurd z old, fun i hi hi6 hic => ?_⟩
    have hij : i = j := by
      rcases Nat.lt_trichotomy i j with h | h | h
      · have := tc_cn_lt hi6 h
        omega
      · exact h
      · have := tc_cn_lt hj6 h
        omega
    subst hij
    exact ⟨rfl, fun z => (tc_clamp (b2 z) (by have := lt1 z; omega)).2, fun z => (tc_clamp (b3 z) (by have := lt2 z; omega)).2⟩
end
