def tc_lp (t : Nat → Nat) (g : Nat) : Nat → Nat
  | 0 => 0
  | h + 1 => tc_lp t g h + tc_c t g h
theorem tc_lp4 (t : Nat → Nat) (g : Nat) : tc_lp t g 4 = tc_L t g := by
  show 0 + tc_c t g 0 + tc_c t g 1 + tc_c t g 2 + tc_c t g 3 = tc_c t g 0 + tc_c t g 1 + tc_c t g 2 + tc_c t g 3
  omega
def tc_yww (S : tc_S) (len : Nat → Nat) (ent : Nat → Nat → Nat) (a : Nat → Int32) (n : Nat) (w : Nat → Int32) : Prop :=
  (∀ g, g < 4 → a (74 * n + g) = w g) ∧ ∀ r, r < tc_R S → ∀ i, i < len r → a (74 * n + 4 + 7 * r + i) = w (ent r i)
theorem tc_yww_fr {S : tc_S} {len : Nat → Nat} {ent : Nat → Nat → Nat} {ru : Int32} {le co ln mk sz : Nat → Int32} (ok : tc_ok S) (h : tc_yr S len ent ru le co ln mk sz) {a a' : Nat → Int32} {n x : Nat} {t : Nat → Int32}
    (hf : tc_fr a a' (74 * n)) (hx : x ≠ n) (hw : tc_yww S len ent a x t) : tc_yww S len ent a' x t := by
  have hR := ok.1
  refine ⟨fun g hg => ?_, fun r hr i hi => ?_⟩
  · rw [hf _ (by omega)]
    exact hw.1 g hg
  · have hl := (h.2.1 r hr).2.2.2.2.1
    rw [hf _ (by omega)]
    exact hw.2 r hr i hi
section
variable {S : tc_S} {len : Nat → Nat} {ent : Nat → Nat → Nat} {tn td : Nat} {ty tz tk : Nat → Nat}
theorem ym_best1 (ok : tc_ok S) {post : Int32 → Prop} {f_noted : Int32} {f_depth : Int32} {f_rules : Int32} {f_planted : Int32} {f_trees : Int32} {f_stateCount : Int32} {f_known : Int32} {f_listed : Int32} {a_marks : Nat → Int32} {a_sizes : Nat → Int32} {a_lefts : Nat → Int32} {a_costs : Nat → Int32} {a_lengths : Nat → Int32} {a_operators : Nat → Int32} {a_spans : Nat → Int32} {a_least : Nat → Int32} {a_ways : Nat → Int32} {a_tasks : Nat → Int32} {a_list : Nat → Int32} (hy : tc_yr S len ent f_rules a_lefts a_costs a_lengths a_marks a_sizes) {n g r : Nat} (hn : n < 46) (hg : g < 4) (hr : r < tc_R S) {t : Nat → Nat} (hK : ∀ e, t e ≤ 1000000)
    (hB : ∀ e, e < tc_E S → t e = 1000000 ∨ t e ≤ 900) (hw : tc_yw S len ent a_least n t) (h1 : tc_pb S 1000000 t g r → post 1) (h0 : ¬ tc_pb S 1000000 t g r → post 0) : wpY_isBest post (f_noted, f_depth, f_rules, f_planted, f_trees, f_stateCount, f_known, f_listed, a_marks, a_sizes, a_lefts, a_costs, a_lengths, a_operators, a_spans, a_least, a_ways, a_tasks, a_list) (nI n) (nI g) (nI r) := by
  have hR := ok.1
  obtain ⟨l1, l2, l3, l4, l5, l6, l7⟩ := hy.2.1 r hr
  obtain ⟨k1, k2, k3, k4⟩ := tc_ok_r ok hr
  have c : (nI r).toNatClampNeg = r := nI_clamp (by omega)
  have w : (74 : Int32) * nI n + 4 + 7 * nI r + a_lengths (nI r).toNatClampNeg - 1 = nI (74 * n + 4 + 7 * r + (len r - 1)) := by
    rw [c, l3, show (74 : Int32) = nI 74 from rfl, show (7 : Int32) = nI 7 from rfl, show (4 : Int32) = nI 4 from rfl, show (1 : Int32) = nI 1 from rfl, pk_mul, pk_mul, nI_add, nI_add, nI_add, pk_sub (by omega)]
    exact congrArg nI (by omega)
  have w2 : (74 : Int32) * nI n + nI g = nI (74 * n + g) := by rw [show (74 : Int32) = nI 74 from rfl, pk_mul, nI_add]
  have v := hw.2 r hr (len r - 1) (by omega)
  rw [l6] at v
  have q1 := hK (tc_rt S r)
  have q2 := hK g
  have q3 := hB _ k3
  refine ⟨vp_in_nI (by omega) (by decide), by rw [w]; exact vp_in_nI (by omega) (by decide), nm_r (e' := nI (t (tc_rt S r))) (by rw [w, nI_clamp (by omega), v]) ⟨vp_in_nI (by omega) (by decide), ?_⟩⟩
  refine pk_eq (tc_lf S r) g (fun h => ?_) (fun h => h0 (fun z => h z.1)) (by rw [c, l1]) rfl (by omega) (by omega)
  refine pk_le 1000000 (t (tc_rt S r)) (fun h' => h0 (fun z => ?_)) (fun h' => ?_) rfl rfl (by omega) (by omega)
  · obtain ⟨z1, z2, z3⟩ := z
    rw [z1] at z2 z3
    omega
  · refine ⟨vp_in_nI (by omega) (by decide), by rw [w2]; exact vp_in_nI (by omega) (by decide), ?_⟩
    refine pk_eq (t (tc_rt S r) + tc_co S r) (t g) (fun e => h1 ⟨h, ?_, ?_⟩) (fun e => h0 (fun z => e ?_)) (by rw [c, l2, nI_add]) (by rw [w2, nI_clamp (by omega), hw.1 g hg]) (by omega) (by omega)
    · rw [h]
      omega
    · rw [h]
      omega
    · obtain ⟨z1, z2, z3⟩ := z
      rw [z1] at z2 z3
      omega
theorem ym_rank_5 {post : Int32 → Prop} {f_noted : Int32} {f_depth : Int32} {f_rules : Int32} {f_planted : Int32} {f_trees : Int32} {f_stateCount : Int32} {f_known : Int32} {f_listed : Int32} {a_marks : Nat → Int32} {a_sizes : Nat → Int32} {a_lefts : Nat → Int32} {a_costs : Nat → Int32} {a_lengths : Nat → Int32} {a_operators : Nat → Int32} {a_spans : Nat → Int32} {a_least : Nat → Int32} {a_ways : Nat → Int32} {a_tasks : Nat → Int32} {a_list : Nat → Int32} {n g : Nat} (hn : n < 46) (hg : g < 4) {t : Nat → Nat} (hK : ∀ e, t e ≤ 1000000) (hw : ∀ g, g < 4 → a_least (74 * n + g) = nI (t g)) (hp : post (nI (tc_L t g))) :
    ∀ (d h : Nat), h + d = 4 → ∀ m, d < m → wY_rankOf_5 post (nI n) (nI g) f_noted f_depth f_rules f_planted f_trees f_stateCount f_known f_listed a_marks a_sizes a_lefts a_costs a_lengths a_operators a_spans a_least a_ways a_tasks a_list m (nI (tc_lp t g h)) (nI h) := by
  intro d
  induction d with
  | zero =>
    intro h hh m hm
    obtain ⟨m', rfl⟩ : ∃ m', m = m' + 1 := ⟨m - 1, by omega⟩
    have e : h = 4 := by omega
    subst e
    rw [tc_lp4]
    exact br_t (nI_le (a := 4) (Nat.le_refl _) (by decide)) hp
  | succ d ih =>
    intro h hh m hm
    obtain ⟨m', rfl⟩ : ∃ m', m = m' + 1 := ⟨m - 1, by omega⟩
    have w1 : (74 : Int32) * nI n + nI h = nI (74 * n + h) := by rw [show (74 : Int32) = nI 74 from rfl, pk_mul, nI_add]
    have w2 : (74 : Int32) * nI n + nI g = nI (74 * n + g) := by rw [show (74 : Int32) = nI 74 from rfl, pk_mul, nI_add]
    have q1 := hK h
    have q2 := hK g
    have nxt := ih (h + 1) (by omega) m' (by omega)
    have e0 : tc_lp t g (h + 1) = tc_lp t g h + tc_c t g h := rfl
    refine br_f (nI_ge (b := 4) (by omega) (by decide)) ⟨by rw [w1]; exact vp_in_nI (by omega) (by decide), by rw [w2]; exact vp_in_nI (by omega) (by decide), ?_⟩
    refine pk_le (t g) (t h) (fun z => nm_r (nI_1 h) ?_) (fun z => ?_) (by rw [w2, nI_clamp (by omega), hw g hg]) (by rw [w1, nI_clamp (by omega), hw h (by omega)]) (by omega) (by omega)
    · have e1 : tc_c t g h = 0 := if_neg (by omega)
      rw [e0, e1, Nat.add_zero] at nxt
      exact nxt
    · have e1 : tc_c t g h = 1 := if_pos z
      rw [e0, e1] at nxt
      exact nm_r (nI_1 _) (nm_r (nI_1 h) nxt)
theorem ym_rank {post : Int32 → Prop} {f_noted : Int32} {f_depth : Int32} {f_rules : Int32} {f_planted : Int32} {f_trees : Int32} {f_stateCount : Int32} {f_known : Int32} {f_listed : Int32} {a_marks : Nat → Int32} {a_sizes : Nat → Int32} {a_lefts : Nat → Int32} {a_costs : Nat → Int32} {a_lengths : Nat → Int32} {a_operators : Nat → Int32} {a_spans : Nat → Int32} {a_least : Nat → Int32} {a_ways : Nat → Int32} {a_tasks : Nat → Int32} {a_list : Nat → Int32} {n g : Nat} (hn : n < 46) (hg : g < 4) {t : Nat → Nat} (hK : ∀ e, t e ≤ 1000000) (hw : ∀ g, g < 4 → a_least (74 * n + g) = nI (t g)) (hp : post (nI (tc_L t g))) :
    wpY_rankOf post (f_noted, f_depth, f_rules, f_planted, f_trees, f_stateCount, f_known, f_listed, a_marks, a_sizes, a_lefts, a_costs, a_lengths, a_operators, a_spans, a_least, a_ways, a_tasks, a_list) (nI n) (nI g) := ⟨5, ym_rank_5 hn hg hK hw hp 4 0 (by omega) 5 (by omega)⟩
/-- an entry's ways -/
theorem ym_pw (ok : tc_ok S) (hn : tc_tn ty tz tn) (hN : tn ≤ 24) {post : Int32 → Prop} {f_noted : Int32} {f_depth : Int32} {f_rules : Int32} {f_planted : Int32} {f_trees : Int32} {f_stateCount : Int32} {f_known : Int32} {f_listed : Int32} {a_marks : Nat → Int32} {a_sizes : Nat → Int32} {a_lefts : Nat → Int32} {a_costs : Nat → Int32} {a_lengths : Nat → Int32} {a_operators : Nat → Int32} {a_spans : Nat → Int32} {a_least : Nat → Int32} {a_ways : Nat → Int32} {a_tasks : Nat → Int32} {a_list : Nat → Int32} (hy : tc_yr S len ent f_rules a_lefts a_costs a_lengths a_marks a_sizes)
    (ht : tc_yt tn td ty tz f_planted f_trees a_operators a_spans) {n r i : Nat} (hnt : n < tn) (hr : r < tc_R S) (hi : i < len r) {cw : Nat → Int32} (hg : ∀ g, g < 4 → a_ways (74 * n + g) = cw g)
    (hw : ∀ m, m < n → tc_yww S len ent a_ways m (tc_w S 1000000 ty tz m))
    (hp : post (if ent r i < 4 then cw (ent r i) else tc_wo S 1000000 (tc_v S 1000000 ty tz n) (ty n) (tc_w S 1000000 ty tz (n - 1 - tz (n - 1))) (tc_w S 1000000 ty tz (n - 1)) (ent r i))) :
    wpY_patternWays post (f_noted, f_depth, f_rules, f_planted, f_trees, f_stateCount, f_known, f_listed, a_marks, a_sizes, a_lefts, a_costs, a_lengths, a_operators, a_spans, a_least, a_ways, a_tasks, a_list) (nI n) (nI r) (nI i) := by
  have hR := ok.1
  obtain ⟨h6, n1, n2, n3, n4, n5, n6, n7⟩ := hn n hnt
  obtain ⟨t1, t2⟩ := ht.2.2 n hnt
  obtain ⟨l1, l2, l3, l4, l5, l6, l7⟩ := hy.2.1 r hr
  have hent := tc_yr_ent ok hy hr hi
  have w : (7 : Int32) * nI r + nI i = nI (7 * r + i) := by rw [show (7 : Int32) = nI 7 from rfl, pk_mul, nI_add]
  have cn : (nI n).toNatClampNeg = n := nI_clamp (by omega)
  refine ⟨by rw [w]; exact vp_in_nI (by omega) (by decide), ?_⟩
  rcases l7 i hi with ⟨g, hg4, e1, e2⟩ | ⟨o, ho6, e1, e2, e3, e4, e5, e6⟩
  · rw [if_pos (by omega)] at hp
    refine nm_r (e' := nI (10 + g)) (by rw [w, nI_clamp (by omega), e1]) ⟨vp_in_nI (by omega) (by decide), nm_r (e' := nI (ty n)) (by rw [cn, t1]) ?_⟩
    refine br_f (nI_ge (a := 9) (b := 10 + g) (by omega) (by omega)) ?_
    have w2 : (74 : Int32) * nI n + nI (10 + g) - 10 = nI (74 * n + g) := by
      rw [show (74 : Int32) = nI 74 from rfl, pk_mul, nI_add, show (10 : Int32) = nI 10 from rfl, pk_sub (by omega)]
      exact congrArg nI (by omega)
    refine ⟨by rw [w2]; exact vp_in_nI (by omega) (by decide), ?_⟩
    rw [w2, nI_clamp (by omega), hg g hg4, ← e2]
    exact hp
  · rw [if_neg (by omega)] at hp
    refine nm_r (e' := nI o) (by rw [w, nI_clamp (by omega), e1]) ⟨vp_in_nI (by omega) (by decide), nm_r (e' := nI (ty n)) (by rw [cn, t1]) ?_⟩
    refine br_t (nI_le (b := 9) (by omega) (by decide)) ?_
    have h1n : 2 ≤ ty n → 1 ≤ n := fun h => n3 h h6
    have hv := tc_v_eq (S := S) (K := 1000000) (ps := tz) h1n
    refine pk_eq o (ty n) (fun h => ?_) (fun h => ?_) rfl rfl (by omega) (by omega)
    · subst h
      have hl : (4 : Int32) + 7 * nI r + nI i - 1 = nI (4 + 7 * r + i - 1) := by
        rw [show (7 : Int32) = nI 7 from rfl, show (4 : Int32) = nI 4 from rfl, show (1 : Int32) = nI 1 from rfl, pk_mul, nI_add, nI_add, pk_sub (by omega)]
      refine nm_r hl ?_
      have hop : tc_v S 1000000 ty tz n (ent r i) = (if ty n < 2 then 0 else if ty n < 4 then min 1000000 (tc_v S 1000000 ty tz (n - 1) (tc_el S (ent r i))) else min 1000000 (tc_v S 1000000 ty tz (n - 1 - tz (n - 1)) (tc_ef S (ent r i)) + tc_v S 1000000 ty tz (n - 1) (tc_el S (ent r i)))) := by
        rw [hv, tc_row_ge ok e2]
        exact if_pos e4
      by_cases h2 : ty n < 2
      · have e0 : tc_wo S 1000000 (tc_v S 1000000 ty tz n) (ty n) (tc_w S 1000000 ty tz (n - 1 - tz (n - 1))) (tc_w S 1000000 ty tz (n - 1)) (ent r i) = 1 := by
          unfold tc_wo
          rw [hop, if_pos h2, if_neg (by decide), if_pos h2]
        rw [e0] at hp
        refine nm_e (br_t (nI_lt (b := 4) (by omega) (by decide)) ?_)
        exact br_f (nI_ge (b := 4) (by omega) (by decide)) (br_f (nI_ge (b := 2) (by omega) (by decide)) hp)
      · have hn1 := h1n (by omega)
        have w7 : nI n - 1 = nI (n - 1) := by rw [show (1 : Int32) = nI 1 from rfl, pk_sub (by omega)]
        obtain ⟨f1, f2⟩ := e5 (by omega)
        have hel := tc_yr_ent ok hy hr (show i - 1 < len r by omega)
        have w5 : (74 : Int32) * nI (n - 1) + nI (4 + 7 * r + i - 1) = nI (74 * (n - 1) + 4 + 7 * r + (i - 1)) := by
          rw [show (74 : Int32) = nI 74 from rfl, pk_mul, nI_add]
          exact congrArg nI (by omega)
        have vy : a_ways (74 * (n - 1) + 4 + 7 * r + (i - 1)) = tc_w S 1000000 ty tz (n - 1) (ent r (i - 1)) := (hw (n - 1) (by omega)).2 r hr (i - 1) (by omega)
        have by1 := tc_v_B ok (K := 1000000) hn (n - 1) (by omega) (ent r (i - 1)) hel
        have hz1 := (hn (n - 1) (by omega)).2.2.1
        have z1 : 2 ≤ ty (n - 1) → 1 ≤ n - 1 := fun h => (hn (n - 1) (by omega)).2.2.2.1 h (hn (n - 1) (by omega)).1
        refine nm_r w7 ?_
        by_cases h4 : ty n < 4
        · refine br_t (nI_lt (b := 4) (by omega) (by decide)) (br_f (nI_ge (b := 4) (by omega) (by decide)) (br_t (nI_le (a := 2) (by omega) (by omega)) ⟨by rw [w5]; exact vp_in_nI (by omega) (by decide), ?_⟩))
          rw [w5, nI_clamp (by omega), vy]
          rw [if_neg h2, if_pos h4, f2] at hop
          unfold tc_wo at hp
          rw [if_neg h2, if_pos h4, f2] at hp
          by_cases hK : tc_v S 1000000 ty tz n (ent r i) = 1000000
          · rw [if_pos hK] at hp
            rw [tc_w_0 z1 (by omega)]
            exact hp
          · rw [if_neg hK] at hp
            exact hp
        · obtain ⟨s, s1, s2, s3, s4⟩ := e6 (by omega)
          have hn2 := n4 (by omega) h6
          have hef := tc_yr_ent ok hy hr (show i - 1 - s < len r by omega)
          have w3 : (7 : Int32) * nI r + nI i - 1 = nI (7 * r + i - 1) := by
            rw [w, show (1 : Int32) = nI 1 from rfl, pk_sub (by omega)]
          have w8 : nI (n - 1) - a_spans (nI (n - 1)).toNatClampNeg = nI (n - 1 - tz (n - 1)) := by
            rw [nI_clamp (by omega), (ht.2.2 (n - 1) (by omega)).2, pk_sub (by omega)]
          have w9 : (74 : Int32) * nI (n - 1 - tz (n - 1)) + nI (4 + 7 * r + i - 1) - a_sizes ((7 : Int32) * nI r + nI i - 1).toNatClampNeg = nI (74 * (n - 1 - tz (n - 1)) + 4 + 7 * r + (i - 1 - s)) := by
            rw [w3, nI_clamp (by omega), s1, show (74 : Int32) = nI 74 from rfl, pk_mul, nI_add, pk_sub (by omega)]
            exact congrArg nI (by omega)
          have hz2 := (hn (n - 1) (by omega)).2.1
          have vx : a_ways (74 * (n - 1 - tz (n - 1)) + 4 + 7 * r + (i - 1 - s)) = tc_w S 1000000 ty tz (n - 1 - tz (n - 1)) (ent r (i - 1 - s)) := (hw (n - 1 - tz (n - 1)) (by omega)).2 r hr (i - 1 - s) (by omega)
          have bx1 := tc_v_B ok (K := 1000000) hn (n - 1 - tz (n - 1)) (by omega) (ent r (i - 1 - s)) hef
          have hz3 := (hn (n - 1 - tz (n - 1)) (by omega)).2.2.1
          have z2 : 2 ≤ ty (n - 1 - tz (n - 1)) → 1 ≤ n - 1 - tz (n - 1) := fun h => (hn (n - 1 - tz (n - 1)) (by omega)).2.2.2.1 h (hn (n - 1 - tz (n - 1)) (by omega)).1
          refine br_f (nI_nlt (b := 4) (by omega) (by omega)) (br_f (nI_ne0 (by omega) (by omega)) ⟨vp_in_nI (by omega) (by decide), ?_⟩)
          rw [w8]
          refine br_t (nI_le (a := 4) (by omega) (by omega)) ⟨by rw [w3]; exact vp_in_nI (by omega) (by decide), by rw [w9]; exact vp_in_nI (by omega) (by decide), by rw [w5]; exact vp_in_nI (by omega) (by decide), ?_⟩
          rw [w9, w5, nI_clamp (by omega), nI_clamp (by omega), vx, vy]
          rw [if_neg h2, if_neg h4, f2, s4] at hop
          unfold tc_wo at hp
          rw [if_neg h2, if_neg h4, f2, s4] at hp
          by_cases hK : tc_v S 1000000 ty tz n (ent r i) = 1000000
          · rw [if_pos hK] at hp
            by_cases hKx : tc_v S 1000000 ty tz (n - 1 - tz (n - 1)) (ent r (i - 1 - s)) = 1000000
            · rw [tc_w_0 z2 hKx, Int32.zero_mul]
              exact hp
            · rw [tc_w_0 z1 (by omega), Int32.mul_zero]
              exact hp
          · rw [if_neg hK] at hp
            exact hp
    · have e0 : tc_wo S 1000000 (tc_v S 1000000 ty tz n) (ty n) (tc_w S 1000000 ty tz (n - 1 - tz (n - 1))) (tc_w S 1000000 ty tz (n - 1)) (ent r i) = 0 := by
        have hop : tc_v S 1000000 ty tz n (ent r i) = 1000000 := by
          rw [hv, tc_row_ge ok e2]
          exact if_neg (by omega)
        unfold tc_wo
        rw [if_pos hop]
      rw [e0] at hp
      exact hp
end
