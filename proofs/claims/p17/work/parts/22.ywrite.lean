/-- a task of Y stands for an entry at a node -/
def tc_yc (S : tc_S) (len : Nat → Nat) (ent : Nat → Nat → Nat) (c : Nat) (p : Nat × Nat) : Prop :=
  (p.2 < 4 ∧ c = 100 * p.1 + p.2) ∨ ∃ r i, r < tc_R S ∧ i < len r ∧ p.2 = ent r i ∧ c = 10000 + 100 * p.1 + 7 * r + i
def tc_yp2 (S : tc_S) (len : Nat → Nat) (ent : Nat → Nat → Nat) (ta : Nat → Int32) (k : Nat) (p : Nat × Nat) : Prop := ∃ c, ta k = nI c ∧ tc_yc S len ent c p
section
variable {S : tc_S} {len : Nat → Nat} {ent : Nat → Nat → Nat} {tn td : Nat} {ty tz tk : Nat → Nat}
theorem tc_mu_len {K : Nat} (hn : tc_tn ty tz tn) : ∀ s : List (Nat × Nat), (∀ p, p ∈ s → tc_gd S K ty tz tn p.1 p.2) → 10 * s.length ≤ tc_mu S K ty tz s := by
  intro s
  induction s with
  | nil => intro _; exact Nat.le_refl _
  | cons p s ih =>
    intro hs
    have h1 := ih (fun q hq => hs q (List.mem_cons_of_mem _ hq))
    have h2 := (hn p.1 (hs p List.mem_cons_self).1).2.1
    have h3 : 10 * tz p.1 ≤ tc_m1 S K ty tz p.1 p.2 := Nat.le_add_right _ _
    show 10 * (s.length + 1) ≤ tc_m1 S K ty tz p.1 p.2 + tc_mu S K ty tz s
    omega
theorem ym_bst_2 (ok : tc_ok S) {post : Int32 → Prop} {f_noted : Int32} {f_depth : Int32} {f_rules : Int32} {f_planted : Int32} {f_trees : Int32} {f_stateCount : Int32} {f_known : Int32} {f_listed : Int32} {a_marks : Nat → Int32} {a_sizes : Nat → Int32} {a_lefts : Nat → Int32} {a_costs : Nat → Int32} {a_lengths : Nat → Int32} {a_operators : Nat → Int32} {a_spans : Nat → Int32} {a_least : Nat → Int32} {a_ways : Nat → Int32} {a_tasks : Nat → Int32} {a_list : Nat → Int32} (hy : tc_yr S len ent f_rules a_lefts a_costs a_lengths a_marks a_sizes) {n g : Nat} (hn : n < 46) (hg : g < 4) {t : Nat → Nat} (hK : ∀ e, t e ≤ 1000000)
    (hB : ∀ e, e < tc_E S → t e = 1000000 ∨ t e ≤ 900) (hw : tc_yw S len ent a_least n t)
    (hl : tc_lo S 1000000 t g < tc_R S) (hb : tc_pb S 1000000 t g (tc_lo S 1000000 t g)) (hmin : ∀ j, j < tc_lo S 1000000 t g → ¬ tc_pb S 1000000 t g j) (hp : post (nI (tc_lo S 1000000 t g))) :
    ∀ (d k : Nat), k + d = tc_lo S 1000000 t g → ∀ m, d < m → wY_best_2 post (nI n) (nI g) f_noted f_depth f_rules f_planted f_trees f_stateCount f_known f_listed a_marks a_sizes a_lefts a_costs a_lengths a_operators a_spans a_least a_ways a_tasks a_list m (nI k) := by
  intro d
  induction d with
  | zero =>
    intro k hk m hm
    obtain ⟨m', rfl⟩ : ∃ m', m = m' + 1 := ⟨m - 1, by omega⟩
    have e : k = tc_lo S 1000000 t g := by omega
    rw [← e] at hl hb hp
    unfold wY_best_2
    exact ym_best1 ok hy hn hg hl hK hB hw (fun _ => br_f (by decide) hp) (fun z => absurd hb z)
  | succ d ih =>
    intro k hk m hm
    obtain ⟨m', rfl⟩ : ∃ m', m = m' + 1 := ⟨m - 1, by omega⟩
    have nb := hmin k (by omega)
    unfold wY_best_2
    exact ym_best1 ok hy hn hg (by omega) hK hB hw (fun z => absurd z nb) (fun _ => br_t rfl (nm_r (nI_1 k) (ih (k + 1) (by omega) m' (by omega))))
theorem ym_bst (ok : tc_ok S) (hn : tc_tn ty tz tn) (hN : tn ≤ 24) {post : Int32 → Prop} {f_noted : Int32} {f_depth : Int32} {f_rules : Int32} {f_planted : Int32} {f_trees : Int32} {f_stateCount : Int32} {f_known : Int32} {f_listed : Int32} {a_marks : Nat → Int32} {a_sizes : Nat → Int32} {a_lefts : Nat → Int32} {a_costs : Nat → Int32} {a_lengths : Nat → Int32} {a_operators : Nat → Int32} {a_spans : Nat → Int32} {a_least : Nat → Int32} {a_ways : Nat → Int32} {a_tasks : Nat → Int32} {a_list : Nat → Int32} (hy : tc_yr S len ent f_rules a_lefts a_costs a_lengths a_marks a_sizes)
    (hr : tc_yrows S 1000000 len ent ty tz a_least tn) {n g : Nat} (hg : g < 4) (hgd : tc_gd S 1000000 ty tz tn n g) (hp : post (nI (tc_lo S 1000000 (tc_v S 1000000 ty tz n) g))) :
    wpY_best post (f_noted, f_depth, f_rules, f_planted, f_trees, f_stateCount, f_known, f_listed, a_marks, a_sizes, a_lefts, a_costs, a_lengths, a_operators, a_spans, a_least, a_ways, a_tasks, a_list) (nI n) (nI g) := by
  obtain ⟨a, b, c, _⟩ := tc_gd_lo ok hn hgd hg
  have hnt := hgd.1
  exact ⟨tc_lo S 1000000 (tc_v S 1000000 ty tz n) g + 1, ym_bst_2 (t := tc_v S 1000000 ty tz n) ok hy (by omega) hg (fun e => tc_v_le (fun h => (hn n hnt).2.2.2.1 h (hn n hnt).1) e) (tc_v_900 ok hn hN hnt) (hr n hnt) a b c hp (tc_lo S 1000000 (tc_v S 1000000 ty tz n) g) 0 (by omega) _ (by omega)⟩
theorem ym_spread (ok : tc_ok S) (hn : tc_tn ty tz tn) (hN : tn ≤ 24) {post : Int32 → SY → Prop} {f_noted : Int32} {f_depth : Int32} {f_rules : Int32} {f_planted : Int32} {f_trees : Int32} {f_stateCount : Int32} {f_known : Int32} {f_listed : Int32} {a_marks : Nat → Int32} {a_sizes : Nat → Int32} {a_lefts : Nat → Int32} {a_costs : Nat → Int32} {a_lengths : Nat → Int32} {a_operators : Nat → Int32} {a_spans : Nat → Int32} {a_least : Nat → Int32} {a_ways : Nat → Int32} {a_tasks : Nat → Int32} {a_list : Nat → Int32} (hy : tc_yr S len ent f_rules a_lefts a_costs a_lengths a_marks a_sizes)
    (ht : tc_yt tn td ty tz f_planted f_trees a_operators a_spans) {n r i h : Nat} {s : List (Nat × Nat)} (hr : r < tc_R S) (hi : i < len r) (hgd : tc_gd S 1000000 ty tz tn n (ent r i)) (hh : h + 2 ≤ 400)
    (hs : tc_sk (tc_yp2 S len ent a_tasks) h s)
    (hp : ∀ (ta : Nat → Int32) (h' : Nat), h' ≤ h + 2 → tc_sk (tc_yp2 S len ent ta) h' ((if ent r i < 4 then [(n, ent r i)] else tc_nx S 1000000 ty tz n (ent r i)) ++ s) →
      (∀ k, k < h → ta k = a_tasks k) → (ent r i < 4 → h' = h + 1 ∧ ta h = nI (100 * n + ent r i)) → post (nI h') (f_noted, f_depth, f_rules, f_planted, f_trees, f_stateCount, f_known, f_listed, a_marks, a_sizes, a_lefts, a_costs, a_lengths, a_operators, a_spans, a_least, a_ways, ta, a_list)) :
    wpY_spread post (f_noted, f_depth, f_rules, f_planted, f_trees, f_stateCount, f_known, f_listed, a_marks, a_sizes, a_lefts, a_costs, a_lengths, a_operators, a_spans, a_least, a_ways, a_tasks, a_list) (nI r) (nI i) (nI n) (nI h) := by
  have hR := ok.1
  have hnt : n < tn := hgd.1
  obtain ⟨h6, n1, n2, n3, n4, n5, n6, n7⟩ := hn n hnt
  obtain ⟨l1, l2, l3, l4, l5, l6, l7⟩ := hy.2.1 r hr
  have hent := tc_yr_ent ok hy hr hi
  have w : (7 : Int32) * nI r + nI i = nI (7 * r + i) := by rw [show (7 : Int32) = nI 7 from rfl, pk_mul, nI_add]
  refine ⟨by rw [w]; exact vp_in_nI (by omega) (by decide), ?_⟩
  rcases l7 i hi with ⟨g, hg4, e1, e2⟩ | ⟨o, ho6, e1, e2, e3, e4, e5, e6⟩
  · rw [if_pos (by omega)] at hp
    refine nm_r (e' := nI (10 + g)) (by rw [w, nI_clamp (by omega), e1]) ?_
    have w2 : (100 : Int32) * nI n + nI (10 + g) - 10 = nI (100 * n + ent r i) := by
      rw [show (100 : Int32) = nI 100 from rfl, pk_mul, nI_add, show (10 : Int32) = nI 10 from rfl, pk_sub (by omega)]
      exact congrArg nI (by omega)
    refine br_f (nI_ge (a := 9) (b := 10 + g) (by omega) (by omega)) ⟨vp_in_nI (by omega) (by decide), nm_r (e' := upd a_tasks h (nI (100 * n + ent r i))) (by rw [nI_clamp (by omega), w2]) ?_⟩
    rw [nI_1]
    refine hp _ (h + 1) (by omega) ⟨h, rfl, ⟨100 * n + ent r i, pk_us, Or.inl ⟨by show ent r i < 4; omega, rfl⟩⟩, ?_⟩ (fun k hk => pk_un (by omega)) (fun _ => ⟨rfl, pk_us⟩)
    exact tc_sk_congr s h (fun k hk p hpp => by unfold tc_yp2 at hpp ⊢; rw [pk_un (by omega)]; exact hpp) hs
  · rw [if_neg (by omega)] at hp
    obtain ⟨g1, g2, g3⟩ := tc_gd_op ok hn hgd (by omega)
    refine nm_r (e' := nI o) (by rw [w, nI_clamp (by omega), e1]) ?_
    refine br_t (nI_le (b := 9) (by omega) (by decide)) ?_
    have hoy : o = ty n := by omega
    refine pk_le 2 o (fun h2 => ?_) (fun h2 => ?_)
    · obtain ⟨f1, f2⟩ := e5 h2
      have hn1 := n3 (by omega) h6
      have w3 : (10000 : Int32) + 100 * (nI n - 1) + 7 * nI r + nI i - 1 = nI (10000 + 100 * (n - 1) + 7 * r + (i - 1)) := by
        rw [show (1 : Int32) = nI 1 from rfl, pk_sub hn1, show (100 : Int32) = nI 100 from rfl, show (7 : Int32) = nI 7 from rfl, show (10000 : Int32) = nI 10000 from rfl, pk_mul, pk_mul, nI_add, nI_add, nI_add, pk_sub (by omega)]
        exact congrArg nI (by omega)
      refine ⟨vp_in_nI (by omega) (by decide), nm_r (e' := upd a_tasks h (nI (10000 + 100 * (n - 1) + 7 * r + (i - 1)))) (by rw [nI_clamp (by omega), w3]) (nm_r (nI_1 h) ?_)⟩
      refine pk_le o 3 (fun h3 => ?_) (fun h3 => ?_)
      · have e0 : tc_nx S 1000000 ty tz n (ent r i) = [(n - 1, tc_el S (ent r i))] := by
          unfold tc_nx
          rw [if_neg (by omega), if_neg (by omega), if_pos (by omega)]
        rw [e0] at hp
        refine hp _ (h + 1) (by omega) ⟨h, rfl, ⟨_, pk_us, Or.inr ⟨r, i - 1, hr, by omega, f2, rfl⟩⟩, ?_⟩ (fun k hk => pk_un (by omega)) (fun z => by omega)
        exact tc_sk_congr s h (fun k hk p hpp => by unfold tc_yp2 at hpp ⊢; rw [pk_un (by omega)]; exact hpp) hs
      · obtain ⟨q, s1, s2, s3, s4⟩ := e6 (by omega)
        have hn2 := n4 (by omega) h6
        have e0 : tc_nx S 1000000 ty tz n (ent r i) = [(n - 1 - tz (n - 1), tc_ef S (ent r i)), (n - 1, tc_el S (ent r i))] := by
          unfold tc_nx
          rw [if_neg (by omega), if_neg (by omega), if_neg (by omega)]
        rw [e0] at hp
        have w4 : nI n - 1 = nI (n - 1) := by rw [show (1 : Int32) = nI 1 from rfl, pk_sub hn1]
        have w5 : (7 : Int32) * nI r + nI i - 1 = nI (7 * r + i - 1) := by rw [w, show (1 : Int32) = nI 1 from rfl, pk_sub (by omega)]
        refine ⟨by rw [w4]; exact vp_in_nI (by omega) (by decide), nm_r (e' := nI (n - 1 - tz (n - 1))) (by rw [w4, nI_clamp (by omega), (ht.2.2 (n - 1) (by omega)).2, pk_sub (by omega)]) ⟨by rw [w5]; exact vp_in_nI (by omega) (by decide), vp_in_nI (by omega) (by decide), ?_⟩⟩
        have w6 : (10000 : Int32) + 100 * nI (n - 1 - tz (n - 1)) + 7 * nI r + nI i - 1 - a_sizes ((7 : Int32) * nI r + nI i - 1).toNatClampNeg = nI (10000 + 100 * (n - 1 - tz (n - 1)) + 7 * r + (i - 1 - q)) := by
          rw [w5, nI_clamp (by omega), s1, show (1 : Int32) = nI 1 from rfl, show (100 : Int32) = nI 100 from rfl, show (7 : Int32) = nI 7 from rfl, show (10000 : Int32) = nI 10000 from rfl, pk_mul, pk_mul, nI_add, nI_add, nI_add, pk_sub (by omega), pk_sub (by omega)]
          exact congrArg nI (by omega)
        refine nm_r (e' := upd (upd a_tasks h (nI (10000 + 100 * (n - 1) + 7 * r + (i - 1)))) (h + 1) (nI (10000 + 100 * (n - 1 - tz (n - 1)) + 7 * r + (i - 1 - q)))) (by rw [nI_clamp (by omega), w6]) (nm_r (nI_1 (h + 1)) ?_)
        refine hp _ (h + 1 + 1) (by omega) ⟨h + 1, rfl, ⟨_, pk_us, Or.inr ⟨r, i - 1 - q, hr, by omega, s4, rfl⟩⟩, h, rfl, ⟨_, (pk_un (by omega)).trans pk_us, Or.inr ⟨r, i - 1, hr, by omega, f2, rfl⟩⟩, ?_⟩ (fun k hk => (pk_un (by omega)).trans (pk_un (by omega))) (fun z => by omega)
        exact tc_sk_congr s h (fun k hk p hpp => by unfold tc_yp2 at hpp ⊢; rw [pk_un (by omega), pk_un (by omega)]; exact hpp) hs
    · have e0 : tc_nx S 1000000 ty tz n (ent r i) = [] := by
        unfold tc_nx
        rw [if_neg (by omega), if_pos (by omega)]
      rw [e0] at hp
      exact hp a_tasks h (by omega) hs (fun _ _ => rfl) (fun z => by omega)
end
