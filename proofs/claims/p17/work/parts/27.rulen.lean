/-- the entries of the nodes, with one rule more -/
def tc_en (S : tc_S) (ent : Nat → Nat → Nat) (py : Nat → Nat) (r i : Nat) : Nat := if r = tc_R S then tc_pe (tc_E S) py i else ent r i
theorem tc_en_n {S : tc_S} {ent : Nat → Nat → Nat} {py : Nat → Nat} {i : Nat} : tc_en S ent py (tc_R S) i = tc_pe (tc_E S) py i := if_pos rfl
theorem tc_en_o {S : tc_S} {ent : Nat → Nat → Nat} {py : Nat → Nat} {r i : Nat} (h : ¬ r = tc_R S) : tc_en S ent py r i = ent r i := if_neg h
section
variable {S : tc_S} {pn pd : Nat} {py pz pk : Nat → Nat} {g co : Nat} {eo0 ef0 el0 pe eo ef el : Nat → Int32}
theorem tc_Sn_E : tc_E (tc_Sn S g co pn py eo ef el) = tc_E S + tc_cn py pn := tc_us
theorem tc_Sn_sr {r : Nat} (h : r ≤ tc_R S) : tc_sr (tc_Sn S g co pn py eo ef el) r = tc_sr S r := tc_ne (by omega)
theorem tc_Sn_r {r : Nat} (h : r < tc_R S) : tc_lf (tc_Sn S g co pn py eo ef el) r = tc_lf S r ∧ tc_co (tc_Sn S g co pn py eo ef el) r = tc_co S r ∧ tc_rt (tc_Sn S g co pn py eo ef el) r = tc_rt S r :=
  ⟨tc_ne (by omega), tc_ne (by omega), tc_ne (by omega)⟩
theorem tc_Sn_n : tc_lf (tc_Sn S g co pn py eo ef el) (tc_R S) = g ∧ tc_co (tc_Sn S g co pn py eo ef el) (tc_R S) = co ∧ tc_rt (tc_Sn S g co pn py eo ef el) (tc_R S) = tc_pe (tc_E S) py (pn - 1) ∧
    tc_sr (tc_Sn S g co pn py eo ef el) (tc_R S + 1) = tc_E S + tc_cn py pn := ⟨tc_us, tc_us, tc_us, tc_us⟩
theorem tc_Sn_R : tc_R (tc_Sn S g co pn py eo ef el) = tc_R S + 1 := rfl
theorem tc_Sn_ok (ok : tc_ok S) (hR : tc_R S < 10) (hN1 : 1 ≤ pn) (hN : pn ≤ 7) (h10 : ∀ i, i < pn → py i < 10) (F : tc_fo pn pd py pz pk) (hg : g < 4) (hco : co ≤ 9) (hc0 : py (pn - 1) < 6 ∨ 1 ≤ co)
    (h0 : ∀ e, 4 ≤ e → e < tc_E S → eo0 e = nI (tc_eo S e) ∧ (2 ≤ tc_eo S e → el0 e = nI (tc_el S e)) ∧ (4 ≤ tc_eo S e → ef0 e = nI (tc_ef S e)))
    (A : tc_ae (tc_E S) py pz eo0 ef0 el0 pn pe eo ef el) : tc_ok (tc_Sn S g co pn py eo ef el) := by
  have hE4 := tc_ok_E ok
  have cnl := tc_cn_le (py := py) pn
  refine ⟨by rw [tc_Sn_R]; omega, by rw [tc_Sn_sr (Nat.zero_le _)]; exact ok.2.1, fun r hr => ?_, fun e he hE => ?_⟩
  · rw [tc_Sn_R] at hr
    by_cases c : r = tc_R S
    · subst c
      obtain ⟨a1, a2, a3, a4⟩ := tc_Sn_n (S := S) (pn := pn) (py := py) (g := g) (co := co) (eo := eo) (ef := ef) (el := el)
      rw [a1, a2, a3, a4, tc_Sn_sr (Nat.le_refl _)]
      have hlt := tc_pe_lt (E := tc_E S) (n := pn) hE4.1 (h10 (pn - 1) (by omega)) (by omega)
      refine ⟨?_, ?_, hg, hco, hlt, fun z => ?_⟩
      · show tc_E S ≤ _
        omega
      · show _ ≤ tc_E S + 7
        omega
      · rcases hc0 with h | h
        · have e1 : tc_pe (tc_E S) py (pn - 1) = tc_E S + tc_cn py (pn - 1) := if_pos h
          omega
        · exact h
    · obtain ⟨b1, b2, b3⟩ := tc_Sn_r (S := S) (pn := pn) (py := py) (g := g) (co := co) (eo := eo) (ef := ef) (el := el) (show r < tc_R S by omega)
      rw [b1, b2, b3, tc_Sn_sr (by omega), tc_Sn_sr (by omega)]
      exact ok.2.2.1 r (by omega)
  · rw [tc_Sn_E] at hE
    exact (tc_Sn_e ok hR hN h10 F h0 A he hE).2.1
theorem tc_Sn_x (ok : tc_ok S) (hR : tc_R S < 10) (hN1 : 1 ≤ pn) (hN : pn ≤ 7) (h10 : ∀ i, i < pn → py i < 10) (F : tc_fo pn pd py pz pk) {rc ec : Int32} {rl ro re rs : Nat → Int32}
    (hx : tc_xr S rc ec rl ro re rs eo0 ef0 el0) (A : tc_ae (tc_E S) py pz eo0 ef0 el0 pn pe eo ef el) :
    tc_xr (tc_Sn S g co pn py eo ef el) (nI (tc_R S + 1)) (nI (tc_E S + tc_cn py pn)) (upd rl (tc_R S) (nI g)) (upd ro (tc_R S) (nI co)) (upd re (tc_R S) (nI (tc_pe (tc_E S) py (pn - 1)))) (upd rs (tc_R S) (nI (tc_E S))) eo ef el := by
  refine ⟨rfl, by rw [tc_Sn_E], fun r hr => ?_, fun e he hE => ?_⟩
  · rw [tc_Sn_R] at hr
    by_cases c : r = tc_R S
    · subst c
      obtain ⟨a1, a2, a3, a4⟩ := tc_Sn_n (S := S) (pn := pn) (py := py) (g := g) (co := co) (eo := eo) (ef := ef) (el := el)
      rw [a1, a2, a3, tc_Sn_sr (Nat.le_refl _), pk_us, pk_us, pk_us, pk_us]
      exact ⟨rfl, rfl, rfl, rfl⟩
    · obtain ⟨b1, b2, b3⟩ := tc_Sn_r (S := S) (pn := pn) (py := py) (g := g) (co := co) (eo := eo) (ef := ef) (el := el) (show r < tc_R S by omega)
      rw [b1, b2, b3, tc_Sn_sr (by omega), pk_un c, pk_un c, pk_un c, pk_un c]
      exact hx.2.2.1 r (by omega)
  · rw [tc_Sn_E] at hE
    exact (tc_Sn_e ok hR hN h10 F hx.2.2.2 A he hE).1
theorem tc_Sn_y (ok : tc_ok S) (hR : tc_R S < 10) (hN1 : 1 ≤ pn) (hN : pn ≤ 7) (h10 : ∀ i, i < pn → py i < 10) (F : tc_fo pn pd py pz pk) {len : Nat → Nat} {ent : Nat → Nat → Nat} {ru : Int32} {le cs ln mk sz mk' sz' : Nat → Int32}
    (hy : tc_yr S len ent ru le cs ln mk sz) (h0 : ∀ e, 4 ≤ e → e < tc_E S → eo0 e = nI (tc_eo S e) ∧ (2 ≤ tc_eo S e → el0 e = nI (tc_el S e)) ∧ (4 ≤ tc_eo S e → ef0 e = nI (tc_ef S e)))
    (A : tc_ae (tc_E S) py pz eo0 ef0 el0 pn pe eo ef el) (hm1 : ∀ j, j < 7 * tc_R S → mk' j = mk j ∧ sz' j = sz j) (hm2 : ∀ i, i < pn → mk' (7 * tc_R S + i) = nI (tc_mk (py i)) ∧ sz' (7 * tc_R S + i) = nI (pz i)) :
    tc_yr (tc_Sn S g co pn py eo ef el) (tc_un len (tc_R S) pn) (tc_en S ent py) (nI (tc_R S + 1)) (upd le (tc_R S) (nI g)) (upd cs (tc_R S) (nI co)) (upd ln (tc_R S) (nI pn)) mk' sz' := by
  have hE4 := tc_ok_E ok
  have cnl := tc_cn_le (py := py) pn
  refine ⟨rfl, fun r hr => ?_, fun r e hr h1 h2 => ?_⟩
  · rw [tc_Sn_R] at hr
    by_cases c : r = tc_R S
    · subst c
      obtain ⟨a1, a2, a3, a4⟩ := tc_Sn_n (S := S) (pn := pn) (py := py) (g := g) (co := co) (eo := eo) (ef := ef) (el := el)
      rw [a1, a2, a3, pk_us, pk_us, pk_us, tc_us]
      refine ⟨rfl, rfl, rfl, hN1, hN, tc_en_n, fun i hi => ?_⟩
      obtain ⟨m1, m2⟩ := hm2 i hi
      obtain ⟨n1, n2, n3, n4, n5, n6, n7⟩ := F.2.2.2.2.2 i hi
      have hb := h10 i hi
      unfold tc_ym
      by_cases h6 : py i < 6
      · have e1 : tc_pe (tc_E S) py i = tc_E S + tc_cn py i := if_pos h6
        have e2 : tc_mk (py i) = py i := if_pos h6
        have hlt := tc_cn_lt h6 hi
        obtain ⟨f1, f2, f3⟩ := (tc_Sn_e ok hR hN h10 F (g := g) (co := co) h0 A (e := tc_E S + tc_cn py i) (by omega) (by omega)).2.2.2 i hi h6 rfl
        refine Or.inr ⟨py i, h6, by rw [m1, e2], ?_⟩
        rw [tc_en_n, e1, a4]
        refine ⟨by omega, by omega, f1, fun z => ⟨n3 z h6, ?_⟩, fun z => ⟨pz (i - 1), ?_, ?_, n4 z h6, ?_⟩⟩
        · rw [f2 z, tc_en_n]
        · have := n3 (by omega) h6
          rw [show 7 * tc_R S + i - 1 = 7 * tc_R S + (i - 1) by omega]
          exact (hm2 (i - 1) (by omega)).2
        · have := n3 (by omega) h6
          exact (F.2.2.2.2.2 (i - 1) (by omega)).1
        · rw [f3 z, tc_en_n]
      · have e1 : tc_pe (tc_E S) py i = py i - 6 := if_neg h6
        have e2 : tc_mk (py i) = py i + 4 := if_neg h6
        refine Or.inl ⟨py i - 6, by omega, ?_, ?_⟩
        · rw [m1, e2]
          exact congrArg nI (by omega)
        · rw [tc_en_n, e1]
    · have hr' : r < tc_R S := by omega
      obtain ⟨b1, b2, b3⟩ := tc_Sn_r (S := S) (pn := pn) (py := py) (g := g) (co := co) (eo := eo) (ef := ef) (el := el) hr'
      obtain ⟨l1, l2, l3, l4, l5, l6, l7⟩ := hy.2.1 r hr'
      have hup := tc_ok_up ok (tc_R S - (r + 1)) (r + 1) (by omega)
      rw [b1, b2, b3, pk_un c, pk_un c, pk_un c, tc_ne c]
      refine ⟨l1, l2, l3, l4, l5, by rw [tc_en_o c]; exact l6, fun i hi => ?_⟩
      have m := (hm1 (7 * r + i) (by omega)).1
      unfold tc_ym
      rw [m, tc_en_o c, tc_Sn_sr (by omega)]
      rcases l7 i hi with ⟨q, c1, c2, c3⟩ | ⟨o, c1, c2, c3, c4, c5, c6, c7⟩
      · exact Or.inl ⟨q, c1, c2, c3⟩
      · obtain ⟨f1, f2, f3⟩ := (tc_Sn_e ok hR hN h10 F (g := g) (co := co) h0 A (e := ent r i) c3 (by omega)).2.2.1 (by omega)
        refine Or.inr ⟨o, c1, c2, c3, c4, by rw [f1]; exact c5, fun z => ⟨(c6 z).1, ?_⟩, fun z => ?_⟩
        · rw [f2 (by omega), tc_en_o c]
          exact (c6 z).2
        · obtain ⟨s, d1, d2, d3, d4⟩ := c7 z
          refine ⟨s, by rw [(hm1 (7 * r + i - 1) (by omega)).2]; exact d1, d2, d3, ?_⟩
          rw [f3 (by omega), tc_en_o c]
          exact d4
  · rw [tc_Sn_R] at hr
    by_cases c : r = tc_R S
    · subst c
      have a4 := (tc_Sn_n (S := S) (pn := pn) (py := py) (g := g) (co := co) (eo := eo) (ef := ef) (el := el)).2.2.2
      rw [tc_Sn_sr (Nat.le_refl _)] at h1
      rw [a4] at h2
      have h1' : tc_E S ≤ e := h1
      obtain ⟨j, hj, hj6, hjc⟩ := tc_cn_su (py := py) (c := e - tc_E S) pn (by omega)
      refine ⟨j, by rw [tc_us]; exact hj, ?_⟩
      rw [tc_en_n]
      have e1 : tc_pe (tc_E S) py j = tc_E S + tc_cn py j := if_pos hj6
      omega
    · rw [tc_Sn_sr (by omega)] at h1
      rw [tc_Sn_sr (by omega)] at h2
      obtain ⟨i, hi, e1⟩ := hy.2.2 r e (by omega) h1 h2
      exact ⟨i, by rw [tc_ne c]; exact hi, by rw [tc_en_o c]; exact e1⟩
/-- Y's copy of the pattern -/
theorem yr_69 (hR : tc_R S < 10) (hN1 : 1 ≤ pn) (hN : pn ≤ 7) {post : Int32 → SY → Prop} {f_noted : Int32} {f_depth : Int32} {f_rules : Int32} {f_planted : Int32} {f_trees : Int32} {f_stateCount : Int32} {f_known : Int32} {f_listed : Int32} {a_lefts : Nat → Int32} {a_costs : Nat → Int32} {a_lengths : Nat → Int32} {a_operators : Nat → Int32} {a_spans : Nat → Int32} {a_least : Nat → Int32} {a_ways : Nat → Int32} {a_tasks : Nat → Int32} {a_list : Nat → Int32} (hru : f_rules = nI (tc_R S)) (hno : f_noted = nI pn) {mk sz : Nat → Int32}
    (hm : ∀ i, i < pn → mk (70 + i) = nI (tc_mk (py i)) ∧ sz (70 + i) = nI (pz i)) {x1 x2 : Int32} :
    ∀ (d i : Nat), i + d = pn → ∀ a_marks a_sizes : Nat → Int32, (∀ j, (j < 7 * tc_R S ∨ 70 ≤ j) → a_marks j = mk j ∧ a_sizes j = sz j) → (∀ j, j < i → a_marks (7 * tc_R S + j) = nI (tc_mk (py j)) ∧ a_sizes (7 * tc_R S + j) = nI (pz j)) →
    (∀ mk' sz' : Nat → Int32, (∀ j, j < 7 * tc_R S → mk' j = mk j ∧ sz' j = sz j) → (∀ j, j < pn → mk' (7 * tc_R S + j) = nI (tc_mk (py j)) ∧ sz' (7 * tc_R S + j) = nI (pz j)) →
      post (nI (tc_R S)) (0, 0, nI (tc_R S + 1), f_planted, f_trees, f_stateCount, 0, f_listed, mk', sz', upd a_lefts (tc_R S) x1, upd a_costs (tc_R S) x2, upd a_lengths (tc_R S) (nI pn), a_operators, a_spans, a_least, a_ways, a_tasks, a_list)) →
    ∀ m, d < m → wY_rule_69 post x1 x2 f_noted f_depth f_rules f_planted f_trees f_stateCount f_known f_listed m (nI i) a_marks a_sizes a_lefts a_costs a_lengths a_operators a_spans a_least a_ways a_tasks a_list := by
  subst hru hno
  have cr : (nI (tc_R S)).toNatClampNeg = tc_R S := nI_clamp (by omega)
  intro d
  induction d with
  | zero =>
    intro i hi a_marks a_sizes h1 h2 hp m hmm
    obtain ⟨m', rfl⟩ : ∃ m', m = m' + 1 := ⟨m - 1, by omega⟩
    have e : i = pn := by omega
    subst e
    have k := hp a_marks a_sizes (fun j hj => h1 j (Or.inl hj)) h2
    refine br_t (nI_le (Nat.le_refl _) (by omega)) ⟨vp_in_nI hR (by decide), nm_r (e' := upd a_lefts (tc_R S) x1) (by rw [cr]) ⟨vp_in_nI hR (by decide), nm_r (e' := upd a_costs (tc_R S) x2) (by rw [cr]) ⟨vp_in_nI hR (by decide), nm_r (e' := upd a_lengths (tc_R S) (nI i)) (by rw [cr]) (nm_r (nI_1 _) ?_)⟩⟩⟩
    rw [nI_pred]
    exact k
  | succ d ih =>
    intro i hi a_marks a_sizes h1 h2 hp m hmm
    obtain ⟨m', rfl⟩ : ∃ m', m = m' + 1 := ⟨m - 1, by omega⟩
    have w1 : (70 : Int32) + nI i = nI (70 + i) := by rw [show (70 : Int32) = nI 70 from rfl, nI_add]
    have w2 : (7 : Int32) * nI (tc_R S) + nI i = nI (7 * tc_R S + i) := by rw [show (7 : Int32) = nI 7 from rfl, pk_mul, nI_add]
    obtain ⟨q1, q2⟩ := hm i (by omega)
    refine br_f (nI_ge (by omega) (by omega)) ⟨by rw [w1]; exact vp_in_nI (by omega) (by decide), by rw [w2]; exact vp_in_nI (by omega) (by decide), nm_r (e' := upd a_marks (7 * tc_R S + i) (nI (tc_mk (py i)))) (by rw [w1, w2, nI_clamp (by omega), nI_clamp (by omega), (h1 (70 + i) (by omega)).1, q1]) ⟨by rw [w1]; exact vp_in_nI (by omega) (by decide), by rw [w2]; exact vp_in_nI (by omega) (by decide), nm_r (e' := upd a_sizes (7 * tc_R S + i) (nI (pz i))) (by rw [w1, w2, nI_clamp (by omega), nI_clamp (by omega), (h1 (70 + i) (by omega)).2, q2]) (nm_r (nI_1 i) ?_)⟩⟩
    refine ih (i + 1) (by omega) _ _ (fun j hj => ?_) (fun j hj => ?_) hp m' (by omega)
    · rw [pk_un (by omega), pk_un (by omega)]
      exact h1 j hj
    · by_cases c : j = i
      · rw [c, pk_us, pk_us]
        exact ⟨rfl, rfl⟩
      · rw [pk_un (by omega), pk_un (by omega)]
        exact h2 j (by omega)
end
