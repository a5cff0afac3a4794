section
variable {S : tc_S} {len : Nat → Nat} {ent : Nat → Nat → Nat} {tn td : Nat} {ty tz tk : Nat → Nat}
theorem ym_w_goal (ok : tc_ok S) (hn : tc_tn ty tz tn) (hN : tn ≤ 24) {post : Int32 → SY → Prop} {f_noted : Int32} {f_depth : Int32} {f_rules : Int32} {f_planted : Int32} {f_trees : Int32} {f_stateCount : Int32} {f_known : Int32} {a_marks : Nat → Int32} {a_sizes : Nat → Int32} {a_lefts : Nat → Int32} {a_costs : Nat → Int32} {a_lengths : Nat → Int32} {a_operators : Nat → Int32} {a_spans : Nat → Int32} {a_least : Nat → Int32} {a_ways : Nat → Int32} {a_tasks : Nat → Int32} {a_list : Nat → Int32} (hy : tc_yr S len ent f_rules a_lefts a_costs a_lengths a_marks a_sizes)
    (ht : tc_yt tn td ty tz f_planted f_trees a_operators a_spans) (hr : tc_yrows S 1000000 len ent ty tz a_least tn) {n e h m' : Nat} {s : List (Nat × Nat)} {l : List Nat} (he : e < 4)
    (hgd : ∀ p, p ∈ (n, e) :: s → tc_gd S 1000000 ty tz tn p.1 p.2) (hta : a_tasks h = nI (100 * n + e)) (hs : tc_sk (tc_yp2 S len ent a_tasks) h s) (hh : h + 2 ≤ 400) (hl : l.length < 400) (hal : tc_al a_list l)
    (K : ∀ (li ta : Nat → Int32) (h' : Nat) (s' : List (Nat × Nat)) (l' : List Nat), l'.length = l.length + 1 → tc_sk (tc_yp2 S len ent ta) h' s' → (∀ p, p ∈ s' → tc_gd S 1000000 ty tz tn p.1 p.2) →
      tc_mu S 1000000 ty tz s' < tc_mu S 1000000 ty tz ((n, e) :: s) → l' ++ tc_cv S 1000000 ty tz s' = l ++ tc_cv S 1000000 ty tz ((n, e) :: s) → tc_al li l' →
      wY_write_38 post m' (nI h') f_noted f_depth f_rules f_planted f_trees f_stateCount f_known (nI l'.length) a_marks a_sizes a_lefts a_costs a_lengths a_operators a_spans a_least a_ways ta li) : wY_write_38 post (m' + 1) (nI (h + 1)) f_noted f_depth f_rules f_planted f_trees f_stateCount f_known (nI l.length) a_marks a_sizes a_lefts a_costs a_lengths a_operators a_spans a_least a_ways a_tasks a_list := by
  have hR := ok.1
  have hg : tc_gd S 1000000 ty tz tn n e := hgd (n, e) List.mem_cons_self
  have hnt : n < tn := hg.1
  have hs0 : ∀ p, p ∈ s → tc_gd S 1000000 ty tz tn p.1 p.2 := fun p hp => hgd p (List.mem_cons_of_mem _ hp)
  obtain ⟨g1, g2, g3, g4⟩ := tc_gd_lo ok hn hg he
  have w1 : nI (100 * n + e) / 100 = nI n := by
    rw [show (100 : Int32) = nI 100 from rfl, pk_div (by omega) (by decide) (by decide)]
    exact congrArg nI (by omega)
  have w2 : nI (100 * n + e) - nI (100 * n + e) / 100 * 100 = nI e := by
    rw [show (100 : Int32) = nI 100 from rfl, pk_rem (by omega) (by decide) (by decide)]
    exact congrArg nI (by omega)
  refine br_f (nI_nle (by omega) (by omega)) (nm_r (pk_m1 h) ⟨vp_in_nI (by omega) (by decide), nm_r (e' := nI (100 * n + e)) (by rw [nI_clamp (by omega), hta]) ?_⟩)
  refine br_f (nI_ge (b := 10000) (by omega) (by decide)) ⟨by decide, by decide, ?_⟩
  rw [w2, w1]
  refine ym_bst ok hn hN hy hr he hg ?_
  obtain ⟨l1, l2, l3, l4, l5, l6, l7⟩ := hy.2.1 _ g1
  have hlen : (l ++ [tc_lo S 1000000 (tc_v S 1000000 ty tz n) e]).length = l.length + 1 := by
    rw [List.length_append]
    rfl
  refine ⟨vp_in_nI (by omega) (by decide), nm_r (e' := upd a_list l.length (nI (tc_lo S 1000000 (tc_v S 1000000 ty tz n) e))) (by rw [nI_clamp (by omega)]) (nm_r (nI_1 l.length) ⟨vp_in_nI (by omega) (by decide), by decide, ?_⟩)⟩
  rw [nI_clamp (by omega), l3, show (1 : Int32) = nI 1 from rfl, pk_sub (by omega)]
  have hcv := tc_cv_cons ok hn hgd
  have e1 : tc_nx S 1000000 ty tz n e = [(n, tc_rt S (tc_lo S 1000000 (tc_v S 1000000 ty tz n) e))] := if_pos he
  have e2 : tc_ou S 1000000 ty tz n e = [tc_lo S 1000000 (tc_v S 1000000 ty tz n) e] := if_pos he
  have hm1 := (tc_gd_nx ok hn hg).2
  rw [e1] at hm1
  rw [e1, e2] at hcv
  have hm2 : tc_mu S 1000000 ty tz [(n, tc_rt S (tc_lo S 1000000 (tc_v S 1000000 ty tz n) e))] = tc_m1 S 1000000 ty tz n (tc_rt S (tc_lo S 1000000 (tc_v S 1000000 ty tz n) e)) + 0 := rfl
  have hm3 : tc_mu S 1000000 ty tz ((n, e) :: s) = tc_m1 S 1000000 ty tz n e + tc_mu S 1000000 ty tz s := rfl
  have hgd2 : ∀ p, p ∈ (n, tc_rt S (tc_lo S 1000000 (tc_v S 1000000 ty tz n) e)) :: s → tc_gd S 1000000 ty tz tn p.1 p.2 := fun p hpm => by
    rcases List.mem_cons.mp hpm with hpm | hpm
    · rw [hpm]
      exact g4
    · exact hs0 p hpm
  refine ym_spread ok hn hN hy ht g1 (by omega) (by rw [l6]; exact g4) hh hs (fun ta h' q1 q2 q3 q4 => ?_)
  rw [l6] at q2 q4
  have fin := K (upd a_list l.length (nI (tc_lo S 1000000 (tc_v S 1000000 ty tz n) e))) ta h' ((if tc_rt S (tc_lo S 1000000 (tc_v S 1000000 ty tz n) e) < 4 then [(n, tc_rt S (tc_lo S 1000000 (tc_v S 1000000 ty tz n) e))] else tc_nx S 1000000 ty tz n (tc_rt S (tc_lo S 1000000 (tc_v S 1000000 ty tz n) e))) ++ s)
    (l ++ [tc_lo S 1000000 (tc_v S 1000000 ty tz n) e]) hlen q2 ?_ ?_ ?_ (tc_al_snoc hal)
  · rw [hlen] at fin
    exact fin
  · by_cases c : tc_rt S (tc_lo S 1000000 (tc_v S 1000000 ty tz n) e) < 4
    · rw [if_pos c]
      exact hgd2
    · rw [if_neg c]
      intro p hpm
      rcases List.mem_append.mp hpm with hpm | hpm
      · exact (tc_gd_nx ok hn g4).1 p hpm
      · exact hs0 p hpm
  · by_cases c : tc_rt S (tc_lo S 1000000 (tc_v S 1000000 ty tz n) e) < 4
    · rw [if_pos c, tc_mu_app]
      omega
    · rw [if_neg c, tc_mu_app]
      have := (tc_gd_nx ok hn g4).2
      omega
  · rw [hcv, List.append_assoc]
    by_cases c : tc_rt S (tc_lo S 1000000 (tc_v S 1000000 ty tz n) e) < 4
    · rw [if_pos c]
    · rw [if_neg c]
      have hc2 := tc_cv_cons ok hn hgd2
      have e3 : tc_ou S 1000000 ty tz n (tc_rt S (tc_lo S 1000000 (tc_v S 1000000 ty tz n) e)) = [] := if_neg c
      rw [e3, List.nil_append] at hc2
      rw [← hc2]
      rfl
theorem ym_w_38 (ok : tc_ok S) (hn : tc_tn ty tz tn) (hN : tn ≤ 24) {post : Int32 → SY → Prop} {f_noted : Int32} {f_depth : Int32} {f_rules : Int32} {f_planted : Int32} {f_trees : Int32} {f_stateCount : Int32} {f_known : Int32} {a_marks : Nat → Int32} {a_sizes : Nat → Int32} {a_lefts : Nat → Int32} {a_costs : Nat → Int32} {a_lengths : Nat → Int32} {a_operators : Nat → Int32} {a_spans : Nat → Int32} {a_least : Nat → Int32} {a_ways : Nat → Int32} (hy : tc_yr S len ent f_rules a_lefts a_costs a_lengths a_marks a_sizes)
    (ht : tc_yt tn td ty tz f_planted f_trees a_operators a_spans) (hr : tc_yrows S 1000000 len ent ty tz a_least tn) {L0 : List Nat} :
    ∀ (B : Nat) (s : List (Nat × Nat)) (h : Nat) (l : List Nat) (a_tasks a_list : Nat → Int32), tc_mu S 1000000 ty tz s ≤ B → tc_sk (tc_yp2 S len ent a_tasks) h s → (∀ p, p ∈ s → tc_gd S 1000000 ty tz tn p.1 p.2) →
    l.length + tc_mu S 1000000 ty tz s ≤ 300 → tc_al a_list l → l ++ tc_cv S 1000000 ty tz s = L0 →
    (∀ ta li : Nat → Int32, tc_al li L0 → post 1 (f_noted, f_depth, f_rules, f_planted, f_trees, f_stateCount, f_known, nI L0.length, a_marks, a_sizes, a_lefts, a_costs, a_lengths, a_operators, a_spans, a_least, a_ways, ta, li)) →
    ∀ m, 2 * tc_mu S 1000000 ty tz s < m → wY_write_38 post m (nI h) f_noted f_depth f_rules f_planted f_trees f_stateCount f_known (nI l.length) a_marks a_sizes a_lefts a_costs a_lengths a_operators a_spans a_least a_ways a_tasks a_list := by
  have hR := ok.1
  intro B
  induction B with
  | zero =>
    intro s h l a_tasks a_list hB hs hgd hlm hal hL hp m hm
    obtain ⟨m', rfl⟩ : ∃ m', m = m' + 1 := ⟨m - 1, by omega⟩
    have hlen := tc_mu_len hn s hgd
    have e0 : s = [] := List.eq_nil_of_length_eq_zero (by omega)
    subst e0
    have e1 : h = 0 := hs
    subst e1
    rw [tc_cv_nil, List.append_nil] at hL
    subst hL
    exact br_t (nI_le (b := 0) (Nat.le_refl _) (by decide)) (hp _ _ hal)
  | succ B ih =>
    intro s h l a_tasks a_list hB hs hgd hlm hal hL hp m hm
    obtain ⟨m', rfl⟩ : ∃ m', m = m' + 1 := ⟨m - 1, by omega⟩
    cases s with
    | nil =>
      have e1 : h = 0 := hs
      subst e1
      rw [tc_cv_nil, List.append_nil] at hL
      subst hL
      exact br_t (nI_le (b := 0) (Nat.le_refl _) (by decide)) (hp _ _ hal)
    | cons p s =>
      obtain ⟨n, e⟩ := p
      have hlen := tc_mu_len hn _ hgd
      have hsl := tc_sk_len _ _ hs
      obtain ⟨h', e0, ⟨c, hc1, hc2⟩, hs'⟩ := hs
      subst e0
      have hg : tc_gd S 1000000 ty tz tn n e := hgd (n, e) List.mem_cons_self
      have hnt : n < tn := hg.1
      have hs0 : ∀ p, p ∈ s → tc_gd S 1000000 ty tz tn p.1 p.2 := fun p hp => hgd p (List.mem_cons_of_mem _ hp)
      have hm3 : tc_mu S 1000000 ty tz ((n, e) :: s) = tc_m1 S 1000000 ty tz n e + tc_mu S 1000000 ty tz s := rfl
      have hz := (hn n hnt).2.1
      have hm4 : 10 * tz n ≤ tc_m1 S 1000000 ty tz n e := Nat.le_add_right _ _
      have goalK : ∀ (a_tasks : Nat → Int32) (m'' : Nat), e < 4 → a_tasks h' = nI (100 * n + e) → tc_sk (tc_yp2 S len ent a_tasks) h' s → 2 * tc_mu S 1000000 ty tz ((n, e) :: s) < m'' + 2 →
          wY_write_38 post (m'' + 1) (nI (h' + 1)) f_noted f_depth f_rules f_planted f_trees f_stateCount f_known (nI l.length) a_marks a_sizes a_lefts a_costs a_lengths a_operators a_spans a_least a_ways a_tasks a_list := fun a_tasks m'' he hta hsk hmm => by
        refine ym_w_goal ok hn hN hy ht hr he hgd hta hsk (by omega) (by omega) hal (fun li ta h2 s2 l2 p1 p2 p3 p4 p5 p6 => ?_)
        exact ih s2 h2 l2 ta li (by omega) p2 p3 (by omega) p6 (by rw [p5]; exact hL) hp m'' (by omega)
      rcases hc2 with ⟨he, hc⟩ | ⟨r, i, hr', hi, he, hc⟩
      · have he' : e < 4 := he
        have hc' : c = 100 * n + e := hc
        rw [hc'] at hc1
        exact goalK a_tasks m' he' hc1 hs' (by omega)
      · have he' : e = ent r i := he
        have hc' : c = 10000 + 100 * n + 7 * r + i := hc
        have hl7 := (hy.2.1 r hr').2.2.2.2.1
        have w1 : nI c / 100 - 100 = nI n := by
          rw [show (100 : Int32) = nI 100 from rfl, pk_div (by omega) (by decide) (by decide), pk_sub (by omega)]
          exact congrArg nI (by omega)
        have w2 : nI c - nI c / 100 * 100 = nI (7 * r + i) := by
          rw [show (100 : Int32) = nI 100 from rfl, pk_rem (by omega) (by decide) (by decide)]
          exact congrArg nI (by omega)
        have w3 : nI (7 * r + i) / 7 = nI r := by
          rw [show (7 : Int32) = nI 7 from rfl, pk_div (by omega) (by decide) (by decide)]
          exact congrArg nI (by omega)
        have w4 : nI (7 * r + i) - nI (7 * r + i) / 7 * 7 = nI i := by
          rw [show (7 : Int32) = nI 7 from rfl, pk_rem (by omega) (by decide) (by decide)]
          exact congrArg nI (by omega)
        refine br_f (nI_nle (by omega) (by omega)) (nm_r (pk_m1 h') ⟨vp_in_nI (by omega) (by decide), nm_r (e' := nI c) (by rw [nI_clamp (by omega), hc1]) ?_⟩)
        refine br_t (nI_le (a := 10000) (by omega) (by omega)) ⟨by decide, nm_r w2 ⟨by decide, by decide, by decide, ?_⟩⟩
        rw [w4, w3, w1]
        refine ym_spread ok hn hN hy ht hr' hi (by rw [← he']; exact hg) (by omega) hs' (fun ta h2 q1 q2 q3 q4 => ?_)
        rw [← he'] at q2 q4
        by_cases c4 : e < 4
        · obtain ⟨q5, q6⟩ := q4 c4
          rw [if_pos c4] at q2
          subst q5
          obtain ⟨h3, e3, _, hs3⟩ := q2
          have e4 : h3 = h' := by omega
          subst e4
          obtain ⟨m'', rfl⟩ : ∃ m'', m' = m'' + 1 := ⟨m' - 1, by omega⟩
          exact goalK ta m'' c4 q6 hs3 (by omega)
        · rw [if_neg c4] at q2
          have hcv := tc_cv_cons ok hn hgd
          have e3 : tc_ou S 1000000 ty tz n e = [] := if_neg c4
          rw [e3, List.nil_append] at hcv
          have hnx := tc_gd_nx ok hn hg
          have happ := tc_mu_app (S := S) (K := 1000000) (sy := ty) (ps := tz) (tc_nx S 1000000 ty tz n e) s
          refine ih _ h2 l ta a_list (by omega) q2 (fun p hpm => ?_) (by omega) hal (by rw [← hcv]; exact hL) hp m' (by omega)
          rcases List.mem_append.mp hpm with hpm | hpm
          · exact hnx.1 p hpm
          · exact hs0 p hpm
theorem ym_write (ok : tc_ok S) (hF : tc_fo tn td ty tz tk) (h6 : ∀ i, i < tn → ty i < 6) (hN : tn ≤ 24) (hD : td ≤ 8) {g : Nat} (hg : g < 4) {post : Int32 → SY → Prop} {f_noted : Int32} {f_depth : Int32} {f_rules : Int32} {f_planted : Int32} {f_trees : Int32} {f_stateCount : Int32} {f_known : Int32} {f_listed : Int32} {a_marks : Nat → Int32} {a_sizes : Nat → Int32} {a_lefts : Nat → Int32} {a_costs : Nat → Int32} {a_lengths : Nat → Int32} {a_operators : Nat → Int32} {a_spans : Nat → Int32} {a_least : Nat → Int32} {a_ways : Nat → Int32} {a_tasks : Nat → Int32} {a_list : Nat → Int32}
    (hy : tc_yr S len ent f_rules a_lefts a_costs a_lengths a_marks a_sizes) (ht : tc_yt tn td ty tz f_planted f_trees a_operators a_spans)
    (hp0 : tc_tp S 1000000 ty tz tn td g = 1000000 → ∀ le : Nat → Int32, (∀ j, 74 * tn ≤ j → le j = a_least j) → post 0 (f_noted, f_depth, f_rules, f_planted, f_trees, f_stateCount, f_known, f_listed, a_marks, a_sizes, a_lefts, a_costs, a_lengths, a_operators, a_spans, le, a_ways, a_tasks, a_list))
    (hp1 : tc_tp S 1000000 ty tz tn td g ≠ 1000000 → ∀ le ta li : Nat → Int32, (∀ j, 74 * tn ≤ j → le j = a_least j) → tc_al li (tc_cv S 1000000 ty tz [(tn - 1, g)]) →
      post 1 (f_noted, f_depth, f_rules, f_planted, f_trees, f_stateCount, f_known, nI (tc_cv S 1000000 ty tz [(tn - 1, g)]).length, a_marks, a_sizes, a_lefts, a_costs, a_lengths, a_operators, a_spans, le, a_ways, ta, li)) :
    wpY_write post (f_noted, f_depth, f_rules, f_planted, f_trees, f_stateCount, f_known, f_listed, a_marks, a_sizes, a_lefts, a_costs, a_lengths, a_operators, a_spans, a_least, a_ways, a_tasks, a_list) (nI g) := by
  have hn : tc_tn ty tz tn := fun i hi => ⟨h6 i hi, hF.2.2.2.2.2 i hi⟩
  have hE := tc_ok_E ok
  unfold wpY_write
  refine yq_top ok hF h6 hN hD hg hy ht (fun a' ha hfa => ?_)
  have vle : tc_tp S 1000000 ty tz tn td g ≤ 1000000 := by
    unfold tc_tp
    by_cases h : td = 0
    · rw [if_pos h]
      exact Nat.le_refl _
    · rw [if_neg h]
      have s1 := (tc_fo_t1 hF (by omega)).1
      exact tc_v_le (fun h => (hn (tn - 1) (by omega)).2.2.2.1 h (hn (tn - 1) (by omega)).1) g
  refine pk_lt (tc_tp S 1000000 ty tz tn td g) 1000000 (fun h => ?_) (fun h => ?_) rfl rfl (by omega) (by omega)
  · have htd : ¬ td = 0 := fun z => by
      unfold tc_tp at h
      rw [if_pos z] at h
      omega
    obtain ⟨s1, s2⟩ := tc_fo_t1 hF (by omega)
    have hv : tc_v S 1000000 ty tz (tn - 1) g ≠ 1000000 := by
      unfold tc_tp at h
      rw [if_neg htd] at h
      omega
    refine nm_r (e' := nI (tn - 1)) (by rw [ht.1, show (1 : Int32) = nI 1 from rfl, pk_sub (by omega)]) (nm_r (e' := upd a_tasks 0 (nI (100 * (tn - 1) + g))) (by rw [show (100 : Int32) = nI 100 from rfl, pk_mul, nI_add]) ⟨601, ?_⟩)
    have hz := (hn (tn - 1) (by omega)).2.2.1
    have hgd : ∀ p, p ∈ [(tn - 1, g)] → tc_gd S 1000000 ty tz tn p.1 p.2 := fun p hp => by
      rw [List.mem_singleton] at hp
      rw [hp]
      exact ⟨by show tn - 1 < tn; omega, by show g < tc_E S; omega, hv⟩
    have hmu : tc_mu S 1000000 ty tz [(tn - 1, g)] ≤ 244 := by
      show tc_m1 S 1000000 ty tz (tn - 1) g + 0 ≤ 244
      unfold tc_m1
      have := tc_L_le3 (t := tc_v S 1000000 ty tz (tn - 1)) hg
      rw [if_pos hg]
      omega
    exact ym_w_38 ok hn hN hy ht ha (tc_mu S 1000000 ty tz [(tn - 1, g)]) [(tn - 1, g)] 1 [] _ a_list (Nat.le_refl _) ⟨0, rfl, ⟨_, pk_us, Or.inl ⟨hg, rfl⟩⟩, rfl⟩ hgd (by show 0 + _ ≤ 300; omega) (tc_al_nil _) rfl
      (fun ta li hal => hp1 (by omega) a' ta li hfa hal) 601 (by omega)
  · exact hp0 (by omega) a' hfa
end
