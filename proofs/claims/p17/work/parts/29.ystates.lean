/-- the rows of Y's states are rows of costs -/
def tc_ys (S : tc_S) (len : Nat → Nat) (ent : Nat → Nat → Nat) (a : Nat → Int32) (c : Nat) : Prop := ∀ j, j < c → ∃ t : Nat → Nat, (∀ e, t e ≤ 1000000) ∧ tc_yw S len ent a (24 + j) t
/-- a state as it is kept: its lowest cost taken away -/
def tc_nr (E : Nat) (t : Nat → Nat) (e : Nat) : Nat := if t e = 1000000 then 1000000 else t e - tc_lw 1000000 t E
theorem tc_nb0 : narrow .boolean (.int 0) = .int 0 := rfl
theorem tc_nb1 : narrow .boolean (.int 1) = .int 1 := rfl
section
variable {S : tc_S} {len : Nat → Nat} {ent : Nat → Nat → Nat}
theorem yk_61 (ok : tc_ok S) {post : Int32 → SY → Prop} {f_noted : Int32} {f_depth : Int32} {f_rules : Int32} {f_planted : Int32} {f_trees : Int32} {f_stateCount : Int32} {f_known : Int32} {f_listed : Int32} {a_marks : Nat → Int32} {a_sizes : Nat → Int32} {a_lefts : Nat → Int32} {a_costs : Nat → Int32} {a_lengths : Nat → Int32} {a_operators : Nat → Int32} {a_spans : Nat → Int32} {a_ways : Nat → Int32} {a_tasks : Nat → Int32} {a_list : Nat → Int32} (hy : tc_yr S len ent f_rules a_lefts a_costs a_lengths a_marks a_sizes) {c : Nat} (hc : c ≤ 20) (hsc : f_stateCount = nI c) {t : Nat → Nat} (hK : ∀ e, t e ≤ 1000000) :
    ∀ (d e : Nat), e + d = 74 → ∀ a_least : Nat → Int32, tc_yw S len ent a_least 45 t → (∀ j x, j < e → tc_mp S len ent j x → a_least (74 * (24 + c) + j) = nI (tc_nr (tc_E S) t x)) →
    (∀ a', tc_fr a_least a' (74 * (24 + c)) → tc_yw S len ent a' (24 + c) (tc_nr (tc_E S) t) → post 1 (f_noted, f_depth, f_rules, f_planted, f_trees, nI (c + 1), f_known, f_listed, a_marks, a_sizes, a_lefts, a_costs, a_lengths, a_operators, a_spans, a', a_ways, a_tasks, a_list)) →
    ∀ m, d < m → wY_keepState_61 post (nI (24 + c)) (nI (tc_lw 1000000 t (tc_E S))) f_noted f_depth f_rules f_planted f_trees f_stateCount f_known f_listed m (nI e) a_marks a_sizes a_lefts a_costs a_lengths a_operators a_spans a_least a_ways a_tasks a_list := by
  subst hsc
  have b1 := tc_lw_le (K := 1000000) (t := t) (tc_E S)
  intro d
  induction d with
  | zero =>
    intro e he a_least hw hd hp m hm
    obtain ⟨m', rfl⟩ : ∃ m', m = m' + 1 := ⟨m - 1, by omega⟩
    have e1 : e = 74 := by omega
    subst e1
    refine br_t (nI_le (a := 74) (Nat.le_refl _) (by decide)) (nm_r (nI_1 c) (hp _ (tc_fr_refl _ _) ⟨fun g hg => hd g g (by omega) (Or.inl ⟨hg, rfl⟩), fun r hr i hi => ?_⟩))
    have hR := ok.1
    have hl := (hy.2.1 r hr).2.2.2.2.1
    have k := hd (4 + 7 * r + i) (ent r i) (by omega) (Or.inr ⟨r, i, hr, hi, rfl, rfl⟩)
    rw [← Nat.add_assoc, ← Nat.add_assoc] at k
    exact k
  | succ d ih =>
    intro e he a_least hw hd hp m hm
    obtain ⟨m', rfl⟩ : ∃ m', m = m' + 1 := ⟨m - 1, by omega⟩
    have w1 : (3330 : Int32) + nI e = nI (74 * 45 + e) := by rw [show (3330 : Int32) = nI 3330 from rfl, nI_add]
    have w2 : (74 : Int32) * nI (24 + c) + nI e = nI (74 * (24 + c) + e) := by rw [show (74 : Int32) = nI 74 from rfl, pk_mul, nI_add]
    have key : ∀ z : Int32, (∀ x, tc_mp S len ent e x → z = nI (tc_nr (tc_E S) t x)) → wY_keepState_61 post (nI (24 + c)) (nI (tc_lw 1000000 t (tc_E S))) f_noted f_depth f_rules f_planted f_trees (nI c) f_known f_listed m' (nI (e + 1)) a_marks a_sizes a_lefts a_costs a_lengths a_operators a_spans (upd a_least (74 * (24 + c) + e) z) a_ways a_tasks a_list := fun z hz => by
      have hfr : tc_fr a_least (upd a_least (74 * (24 + c) + e) z) (74 * (24 + c)) := tc_fr_upd (by omega)
      refine ih (e + 1) (by omega) _ (tc_yw_fr ok hy hfr (by omega) hw) (fun j x hj hmp => ?_) (fun a' f1 f2 => hp a' (tc_fr_trans hfr f1) f2) m' (by omega)
      by_cases cj : j = e
      · subst cj
        rw [pk_us]
        exact hz x hmp
      · rw [pk_un (by omega)]
        exact hd j x (by omega) hmp
    have val : ∀ x, tc_mp S len ent e x → a_least (74 * 45 + e) = nI (t x) ∧ x < tc_E S := fun x hx => tc_mp_val ok hy hw hx
    refine br_f (nI_ge (b := 74) (by omega) (by decide)) ⟨by rw [w1]; exact vp_in_nI (by omega) (by decide), nm_r (e' := a_least (74 * 45 + e)) (by rw [w1, nI_clamp (by omega)]) ?_⟩
    refine br_c (fun h => ⟨by rw [w2]; exact vp_in_nI (by omega) (by decide), nm_r (e' := upd a_least (74 * (24 + c) + e) (a_least (74 * 45 + e) - nI (tc_lw 1000000 t (tc_E S)))) (by rw [w2, nI_clamp (by omega)]) (nm_r (nI_1 e) (key _ (fun x hx => ?_)))⟩)
      (fun h => ⟨by rw [w2]; exact vp_in_nI (by omega) (by decide), nm_r (e' := upd a_least (74 * (24 + c) + e) (nI 1000000)) (by rw [w2, nI_clamp (by omega)]; rfl) (nm_r (nI_1 e) (key _ (fun x hx => ?_)))⟩)
    · obtain ⟨v1, v2⟩ := val x hx
      have v3 := hK x
      rw [v1] at h ⊢
      have h' : t x < 1000000 := (nI_ltI (b := 1000000) (by omega) (by decide)).mp h
      have e2 : tc_nr (tc_E S) t x = t x - tc_lw 1000000 t (tc_E S) := if_neg (by omega)
      rw [e2, pk_sub (b1.2 x v2)]
    · obtain ⟨v1, v2⟩ := val x hx
      have v3 := hK x
      rw [v1] at h
      have h' : ¬ t x < 1000000 := fun z => h ((nI_ltI (b := 1000000) (by omega) (by decide)).mpr z)
      have e2 : tc_nr (tc_E S) t x = 1000000 := if_pos (by omega)
      rw [e2]
theorem tc_nr_le {E : Nat} {t : Nat → Nat} (hK : ∀ e, t e ≤ 1000000) (e : Nat) : tc_nr E t e ≤ 1000000 := by
  have := hK e
  unfold tc_nr
  split
  · omega
  · omega
theorem yk_keep (ok : tc_ok S) {post : Int32 → SY → Prop} {f_noted : Int32} {f_depth : Int32} {f_rules : Int32} {f_planted : Int32} {f_trees : Int32} {f_stateCount : Int32} {f_known : Int32} {f_listed : Int32} {a_marks : Nat → Int32} {a_sizes : Nat → Int32} {a_lefts : Nat → Int32} {a_costs : Nat → Int32} {a_lengths : Nat → Int32} {a_operators : Nat → Int32} {a_spans : Nat → Int32} {a_least : Nat → Int32} {a_ways : Nat → Int32} {a_tasks : Nat → Int32} {a_list : Nat → Int32} (hy : tc_yr S len ent f_rules a_lefts a_costs a_lengths a_marks a_sizes) {c : Nat} (hc : c ≤ 21) (hsc : f_stateCount = nI c) {t : Nat → Nat} (hK : ∀ e, t e ≤ 1000000)
    (hw : tc_yw S len ent a_least 45 t) (hs : tc_ys S len ent a_least c)
    (hp : ∀ (a' : Nat → Int32) (c' : Nat) (r : Int32), (r = 0 ∧ c' = c) ∨ (r = 1 ∧ c' = c + 1 ∧ c' ≤ 21) → tc_ys S len ent a' c' → (∀ j, j < 74 * 24 → a' j = a_least j) → post r (f_noted, f_depth, f_rules, f_planted, f_trees, nI c', f_known, f_listed, a_marks, a_sizes, a_lefts, a_costs, a_lengths, a_operators, a_spans, a', a_ways, a_tasks, a_list)) :
    wpY_keepState post (f_noted, f_depth, f_rules, f_planted, f_trees, f_stateCount, f_known, f_listed, a_marks, a_sizes, a_lefts, a_costs, a_lengths, a_operators, a_spans, a_least, a_ways, a_tasks, a_list) := by
  subst hsc
  have w24 : (24 : Int32) + nI c = nI (24 + c) := by rw [show (24 : Int32) = nI 24 from rfl, nI_add]
  have k0 : post 0 (f_noted, f_depth, f_rules, f_planted, f_trees, nI c, f_known, f_listed, a_marks, a_sizes, a_lefts, a_costs, a_lengths, a_operators, a_spans, a_least, a_ways, a_tasks, a_list) := hp a_least c 0 (Or.inl ⟨rfl, rfl⟩) hs (fun _ _ => rfl)
  have k30 : ∀ k, k ≤ c → wY_keepState_30 post (nI (24 + k)) f_noted f_depth f_rules f_planted f_trees (nI c) f_known f_listed a_marks a_sizes a_lefts a_costs a_lengths a_operators a_spans a_least a_ways a_tasks a_list := fun k hk => by
    refine pk_lt (24 + k) (24 + c) (fun _ => k0) (fun h => ?_) rfl w24 (by omega) (by omega)
    have e : k = c := by omega
    subst e
    refine pk_le k 20 (fun h20 => ?_) (fun _ => k0) rfl rfl (by omega) (by omega)
    refine ym_lowest (n := 45) ok hy (by omega) hK hw ?_
    refine ⟨75, yk_61 ok hy h20 rfl hK 74 0 (by omega) a_least hw (fun j x hj => absurd hj (Nat.not_lt_zero _)) (fun a' f1 f2 => ?_) 75 (by omega)⟩
    refine hp a' (k + 1) 1 (Or.inr ⟨rfl, rfl, by omega⟩) (fun j hj => ?_) (fun j hj => f1 j (by omega))
    by_cases cj : j = k
    · subst cj
      exact ⟨_, tc_nr_le hK, f2⟩
    · obtain ⟨u, u1, u2⟩ := hs j (by omega)
      exact ⟨u, u1, tc_yw_fr ok hy f1 (by omega) u2⟩
  have k3 : ∀ (d k : Nat), k + d = c → ∀ m, d < m → wY_keepState_3 post f_noted f_depth f_rules f_planted f_trees (nI c) f_known f_listed a_marks a_sizes a_lefts a_costs a_lengths a_operators a_spans a_least a_ways a_tasks a_list m (nI (24 + k)) := by
    intro d
    induction d with
    | zero =>
      intro k hk m hm
      obtain ⟨m', rfl⟩ : ∃ m', m = m' + 1 := ⟨m - 1, by omega⟩
      exact br_t (by rw [w24]; exact nI_le (by omega) (by omega)) (k30 k (by omega))
    | succ d ih =>
      intro k hk m hm
      obtain ⟨m', rfl⟩ : ∃ m', m = m' + 1 := ⟨m - 1, by omega⟩
      obtain ⟨u, u1, u2⟩ := hs k (by omega)
      refine br_f (by rw [w24]; exact nI_ge (by omega) (by omega)) ?_
      exact ym_same (n := 24 + k) (k := 45) ok hy (by omega) (by omega) u1 hK u2 hw (fun _ => br_f (by decide) (k30 k (by omega))) (fun _ => br_t rfl (nm_r (nI_1 (24 + k)) (ih (k + 1) (by omega) m' (by omega))))
  exact ⟨c + 1, k3 c 0 (by omega) _ (by omega)⟩
/-- one pair of states: work it out, keep it -/
theorem yk_85 (ok : tc_ok S) {post : Int32 → SY → Prop} {J : Int32 → Int32 → Int32 → Int32 → Int32 → Int32 → Int32 → Int32 → Int32 → Int32 → (Nat → Int32) → (Nat → Int32) → (Nat → Int32) → (Nat → Int32) → (Nat → Int32) → (Nat → Int32) → (Nat → Int32) → (Nat → Int32) → (Nat → Int32) → (Nat → Int32) → (Nat → Int32) → Prop} {f_noted : Int32} {f_depth : Int32} {f_rules : Int32} {f_planted : Int32} {f_trees : Int32} {f_known : Int32} {f_listed : Int32} {a_marks : Nat → Int32} {a_sizes : Nat → Int32} {a_lefts : Nat → Int32} {a_costs : Nat → Int32} {a_lengths : Nat → Int32} {a_operators : Nat → Int32} {a_spans : Nat → Int32} {a_ways : Nat → Int32} {a_tasks : Nat → Int32} {a_list : Nat → Int32} (hy : tc_yr S len ent f_rules a_lefts a_costs a_lengths a_marks a_sizes) {o i j c k : Nat} (ho : o < 6) (hc : c ≤ 21) {x2 x3 x4 : Int32} (hx2 : x2 = 0 ∨ x2 = 1)
    (hi : i < 21) (hj : j < 21) (hij : o < 4 → i = j) (hix : 4 ≤ o → i < c) (hjx : 2 ≤ o → j < c) {a_least : Nat → Int32} (hs : tc_ys S len ent a_least c)
    (hp : ∀ (a' : Nat → Int32) (c' : Nat) (r : Int32), (r = 0 ∧ x2 = 0 ∧ c' = c) ∨ (r = 1 ∧ c ≤ c' ∧ c' ≤ 21 ∧ (x2 = 1 ∨ c < c')) → tc_ys S len ent a' c' → (∀ j, j < 74 * 24 → a' j = a_least j) → J r (nI (k + 1)) f_noted f_depth f_rules f_planted f_trees (nI c') f_known f_listed a_marks a_sizes a_lefts a_costs a_lengths a_operators a_spans a' a_ways a_tasks a_list) :
    wY_makeStates_85 post J (nI o) x2 x3 x4 (nI k) (nI (24 + i)) (nI j) 24 f_noted f_depth f_rules f_planted f_trees (nI c) f_known f_listed a_marks a_sizes a_lefts a_costs a_lengths a_operators a_spans a_least a_ways a_tasks a_list := by
  refine nm_r (e' := nI (24 + j)) (by rw [show (24 : Int32) = nI 24 from rfl, nI_add]) ?_
  obtain ⟨yr, hyr, hyw⟩ : ∃ y : Nat → Nat, (∀ e, y e ≤ 1000000) ∧ (2 ≤ o → tc_yw S len ent a_least (24 + j) y) := by
    by_cases h2 : 2 ≤ o
    · obtain ⟨t, t1, t2⟩ := hs j (hjx h2)
      exact ⟨t, t1, fun _ => t2⟩
    · exact ⟨fun _ => 0, fun _ => Nat.zero_le _, fun z => absurd z h2⟩
  obtain ⟨xr, hxr, hxw⟩ : ∃ y : Nat → Nat, (∀ e, y e ≤ 1000000) ∧ (4 ≤ o → tc_yw S len ent a_least (24 + i) y) := by
    by_cases h2 : 4 ≤ o
    · obtain ⟨t, t1, t2⟩ := hs i (hix h2)
      exact ⟨t, t1, fun _ => t2⟩
    · exact ⟨fun _ => 0, fun _ => Nat.zero_le _, fun z => absurd z h2⟩
  refine yc_wo (n := 45) ok hy (by omega) ho (by omega) (by omega) (fun z => by rw [hij z]) (fun _ => by omega) (fun _ => by omega) hxr hyr hxw hyw (fun a' f1 f2 => ?_)
  refine yk_keep ok hy hc rfl (fun e => tc_row_le e 4) f2 (fun q hq => ?_) (fun a2 c2 r hr h2 h3 => ?_)
  · obtain ⟨u, u1, u2⟩ := hs q hq
    exact ⟨u, u1, tc_yw_fr ok hy f1 (by omega) u2⟩
  · have hfr : ∀ j, j < 74 * 24 → a2 j = a_least j := fun j hj => (h3 j hj).trans (f1 j (by omega))
    rcases hr with ⟨rfl, rfl⟩ | ⟨rfl, e, h21⟩
    · refine br_t rfl (br_c (fun z => nm_r (nI_1 k) (hp a2 c2 0 (Or.inl ⟨rfl, z, rfl⟩) h2 hfr)) (fun z => nm_r (nI_1 k) (hp a2 c2 1 (Or.inr ⟨rfl, Nat.le_refl _, hc, Or.inl ?_⟩) h2 hfr)))
      rcases hx2 with h | h
      · exact absurd h z
      · exact h
    · exact br_f (by decide) (nm_r (nI_1 k) (hp a2 c2 1 (Or.inr ⟨rfl, by omega, h21, Or.inr (by omega)⟩) h2 hfr))
theorem yk_42 (ok : tc_ok S) {post : Int32 → SY → Prop} {f_noted : Int32} {f_depth : Int32} {f_rules : Int32} {f_planted : Int32} {f_trees : Int32} {f_known : Int32} {f_listed : Int32} {a_marks : Nat → Int32} {a_sizes : Nat → Int32} {a_lefts : Nat → Int32} {a_costs : Nat → Int32} {a_lengths : Nat → Int32} {a_operators : Nat → Int32} {a_spans : Nat → Int32} {a_ways : Nat → Int32} {a_tasks : Nat → Int32} {a_list : Nat → Int32} (hy : tc_yr S len ent f_rules a_lefts a_costs a_lengths a_marks a_sizes) {o many pairs c0 : Nat} (ho : o < 6) (hm21 : many ≤ 21) (hp0 : o < 2 → pairs = 1) (hp2 : 2 ≤ o → o < 4 → pairs = many) (hp4 : 4 ≤ o → pairs = many * many) {a0 : Nat → Int32}
    (hp : ∀ (a' : Nat → Int32) (c' : Nat) (r : Int32), (r = 0 ∧ c' = c0) ∨ (r = 1 ∧ c0 < c' ∧ c' ≤ 21) → tc_ys S len ent a' c' → (∀ j, j < 74 * 24 → a' j = a0 j) → post r (f_noted, f_depth, f_rules, f_planted, f_trees, nI c', f_known, f_listed, a_marks, a_sizes, a_lefts, a_costs, a_lengths, a_operators, a_spans, a', a_ways, a_tasks, a_list)) :
    ∀ (d k : Nat), k + d = pairs → ∀ (c : Nat) (x2 : Int32) (a_least : Nat → Int32), (x2 = 0 ∧ c = c0) ∨ (x2 = 1 ∧ c0 < c) → many ≤ c → c ≤ 21 → tc_ys S len ent a_least c → (∀ j, j < 74 * 24 → a_least j = a0 j) →
    ∀ m, d < m → wY_makeStates_42 post (nI o) (nI pairs) (nI many) m x2 (nI k) f_noted f_depth f_rules f_planted f_trees (nI c) f_known f_listed a_marks a_sizes a_lefts a_costs a_lengths a_operators a_spans a_least a_ways a_tasks a_list := by
  have hpb : pairs ≤ 441 := by
    by_cases h2 : o < 2
    · rw [hp0 h2]
      omega
    · by_cases h4 : o < 4
      · rw [hp2 (by omega) h4]
        omega
      · rw [hp4 (by omega)]
        exact Nat.mul_le_mul hm21 hm21
  intro d
  induction d with
  | zero =>
    intro k hk c x2 a_least hx2 hmc hc hs hfr m hm
    obtain ⟨m', rfl⟩ : ∃ m', m = m' + 1 := ⟨m - 1, by omega⟩
    have e : k = pairs := by omega
    subst e
    refine br_t (nI_le (Nat.le_refl _) (by omega)) ?_
    rcases hx2 with ⟨rfl, h⟩ | ⟨rfl, h⟩
    · exact ⟨tc_nb0, hp a_least c 0 (Or.inl ⟨rfl, h⟩) hs hfr⟩
    · exact ⟨tc_nb1, hp a_least c 1 (Or.inr ⟨rfl, h, hc⟩) hs hfr⟩
  | succ d ih =>
    intro k hk c x2 a_least hx2 hmc hc hs hfr m hm
    obtain ⟨m', rfl⟩ : ∃ m', m = m' + 1 := ⟨m - 1, by omega⟩
    have hkp : k < pairs := by omega
    have x01 : x2 = 0 ∨ x2 = 1 := by
      rcases hx2 with ⟨h, _⟩ | ⟨h, _⟩
      · exact Or.inl h
      · exact Or.inr h
    have go : ∀ i j : Nat, i < 21 → j < 21 → (o < 4 → i = j) → (4 ≤ o → i < c) → (2 ≤ o → j < c) → wY_makeStates_85 post (wY_makeStates_42 post (nI o) (nI pairs) (nI many) m') (nI o) x2 (nI pairs) (nI many) (nI k) (nI (24 + i)) (nI j) 24 f_noted f_depth f_rules f_planted f_trees (nI c) f_known f_listed a_marks a_sizes a_lefts a_costs a_lengths a_operators a_spans a_least a_ways a_tasks a_list := fun i j hi hj hij hix hjx => by
      refine yk_85 ok hy ho hc x01 hi hj hij hix hjx hs (fun a' c' r hr h2 h3 => ?_)
      refine ih (k + 1) (by omega) c' r a' ?_ ?_ ?_ h2 (fun j hj => (h3 j hj).trans (hfr j hj)) m' (by omega)
      · rcases hr with ⟨h1, h4, h5⟩ | ⟨h1, h4, h5, h6⟩
        · rcases hx2 with ⟨z1, z2⟩ | ⟨z1, z2⟩
          · exact Or.inl ⟨h1, by omega⟩
          · rw [h4] at z1
            exact absurd z1 (by decide)
        · refine Or.inr ⟨h1, ?_⟩
          rcases hx2 with ⟨z1, z2⟩ | ⟨z1, z2⟩
          · rcases h6 with h6 | h6
            · rw [z1] at h6
              exact absurd h6 (by decide)
            · omega
          · omega
      · rcases hr with ⟨h1, h4, h5⟩ | ⟨h1, h4, h5, h6⟩ <;> omega
      · rcases hr with ⟨h1, h4, h5⟩ | ⟨h1, h4, h5, h6⟩ <;> omega
    have w24 : ∀ i : Nat, (24 : Int32) + nI i = nI (24 + i) := fun i => by rw [show (24 : Int32) = nI 24 from rfl, nI_add]
    refine br_f (nI_ge hkp (by omega)) ?_
    refine pk_le 4 o (fun h4 => ?_) (fun h4 => ?_) rfl rfl (by omega) (by omega)
    · have hpm := hp4 h4
      have hm1 : 1 ≤ many := by
        rcases Nat.eq_zero_or_pos many with h | h
        · rw [h] at hpm
          omega
        · exact h
      have hlt : k / many < many := Nat.div_lt_of_lt_mul (by rw [← hpm]; exact hkp)
      have hmd : k % many < many := Nat.mod_lt _ hm1
      have wd : nI k / nI many = nI (k / many) := pk_div (by omega) hm1 (by omega)
      have wr : nI k - nI k / nI many * nI many = nI (k % many) := pk_rem (by omega) hm1 (by omega)
      refine ⟨nI_ne0 hm1 (by omega), nm_r (e' := nI (24 + k / many)) (by rw [wd, w24]) ?_⟩
      refine br_t (nI_le (a := 4) h4 (by omega)) ⟨nI_ne0 hm1 (by omega), ?_⟩
      rw [wr]
      exact go (k / many) (k % many) (by omega) (by omega) (fun z => by omega) (fun _ => by omega) (fun _ => by omega)
    · have hk21 : k < 21 := by
        by_cases h2 : o < 2
        · have := hp0 h2
          omega
        · have := hp2 (by omega) (by omega)
          omega
      refine nm_r (e' := nI (24 + k)) (w24 k) ?_
      refine br_f (nI_ge (b := 4) (by omega) (by decide)) ?_
      refine go k k hk21 hk21 (fun _ => rfl) (fun z => by omega) (fun z => ?_)
      have := hp2 z (by omega)
      omega
theorem yk_make (ok : tc_ok S) {post : Int32 → SY → Prop} {f_noted : Int32} {f_depth : Int32} {f_rules : Int32} {f_planted : Int32} {f_trees : Int32} {f_stateCount : Int32} {f_known : Int32} {f_listed : Int32} {a_marks : Nat → Int32} {a_sizes : Nat → Int32} {a_lefts : Nat → Int32} {a_costs : Nat → Int32} {a_lengths : Nat → Int32} {a_operators : Nat → Int32} {a_spans : Nat → Int32} {a_least : Nat → Int32} {a_ways : Nat → Int32} {a_tasks : Nat → Int32} {a_list : Nat → Int32} (hy : tc_yr S len ent f_rules a_lefts a_costs a_lengths a_marks a_sizes) {o c : Nat} (ho : o < 6) (hc : c ≤ 21) (hsc : f_stateCount = nI c) (hs : tc_ys S len ent a_least c)
    (hp : ∀ (a' : Nat → Int32) (c' : Nat) (r : Int32), (r = 0 ∧ c' = c) ∨ (r = 1 ∧ c < c' ∧ c' ≤ 21) → tc_ys S len ent a' c' → (∀ j, j < 74 * 24 → a' j = a_least j) → post r (f_noted, f_depth, f_rules, f_planted, f_trees, nI c', f_known, f_listed, a_marks, a_sizes, a_lefts, a_costs, a_lengths, a_operators, a_spans, a', a_ways, a_tasks, a_list)) :
    wpY_makeStates post (f_noted, f_depth, f_rules, f_planted, f_trees, f_stateCount, f_known, f_listed, a_marks, a_sizes, a_lefts, a_costs, a_lengths, a_operators, a_spans, a_least, a_ways, a_tasks, a_list) (nI o) := by
  subst hsc
  refine pk_le 2 o (fun h2 => ?_) (fun h2 => ?_) rfl rfl (by omega) (by omega)
  · refine pk_le 4 o (fun h4 => ?_) (fun h4 => ?_) rfl rfl (by omega) (by omega)
    · refine nm_r (pk_mul c c) ⟨c * c + 1, ?_⟩
      exact yk_42 ok hy ho hc (fun z => by omega) (fun _ z => by omega) (fun _ => rfl) hp (c * c) 0 (by omega) c 0 a_least (Or.inl ⟨rfl, rfl⟩) (Nat.le_refl _) hc hs (fun _ _ => rfl) _ (by omega)
    · exact ⟨c + 1, yk_42 ok hy ho hc (fun z => by omega) (fun _ _ => rfl) (fun z => by omega) hp c 0 (by omega) c 0 a_least (Or.inl ⟨rfl, rfl⟩) (Nat.le_refl _) hc hs (fun _ _ => rfl) _ (by omega)⟩
  · exact ⟨2, yk_42 (pairs := 1) (many := c) ok hy ho hc (fun _ => rfl) (fun z => by omega) (fun z => by omega) hp 1 0 (by omega) c 0 a_least (Or.inl ⟨rfl, rfl⟩) (Nat.le_refl _) hc hs (fun _ _ => rfl) _ (by omega)⟩
theorem yk_32 (ok : tc_ok S) {post : SY → Prop} {J : Int32 → Int32 → Int32 → Int32 → Int32 → Int32 → Int32 → Int32 → Int32 → (Nat → Int32) → (Nat → Int32) → (Nat → Int32) → (Nat → Int32) → (Nat → Int32) → (Nat → Int32) → (Nat → Int32) → (Nat → Int32) → (Nat → Int32) → (Nat → Int32) → (Nat → Int32) → Prop} {f_noted : Int32} {f_depth : Int32} {f_rules : Int32} {f_planted : Int32} {f_trees : Int32} {f_known : Int32} {f_listed : Int32} {a_marks : Nat → Int32} {a_sizes : Nat → Int32} {a_lefts : Nat → Int32} {a_costs : Nat → Int32} {a_lengths : Nat → Int32} {a_operators : Nat → Int32} {a_spans : Nat → Int32} {a_ways : Nat → Int32} {a_tasks : Nat → Int32} {a_list : Nat → Int32} (hy : tc_yr S len ent f_rules a_lefts a_costs a_lengths a_marks a_sizes) {c0 : Nat} {a0 : Nat → Int32}
    (hp : ∀ (a' : Nat → Int32) (c' : Nat) (r : Int32), (r = 0 ∧ c' = c0) ∨ (r = 1 ∧ c0 < c' ∧ c' ≤ 21) → tc_ys S len ent a' c' → (∀ j, j < 74 * 24 → a' j = a0 j) → J r f_noted f_depth f_rules f_planted f_trees (nI c') f_known f_listed a_marks a_sizes a_lefts a_costs a_lengths a_operators a_spans a' a_ways a_tasks a_list) :
    ∀ (d o : Nat), o + d = 6 → ∀ (c : Nat) (x1 : Int32) (a_least : Nat → Int32), (x1 = 0 ∧ c = c0) ∨ (x1 = 1 ∧ c0 < c) → c ≤ 21 → tc_ys S len ent a_least c → (∀ j, j < 74 * 24 → a_least j = a0 j) →
    ∀ m, d < m → wY_findStates_32 post J m x1 (nI o) f_noted f_depth f_rules f_planted f_trees (nI c) f_known f_listed a_marks a_sizes a_lefts a_costs a_lengths a_operators a_spans a_least a_ways a_tasks a_list := by
  intro d
  induction d with
  | zero =>
    intro o ho c x1 a_least hx1 hc hs hfr m hm
    obtain ⟨m', rfl⟩ : ∃ m', m = m' + 1 := ⟨m - 1, by omega⟩
    refine br_t (nI_le (a := 6) (by omega) (by omega)) (hp _ c x1 ?_ hs hfr)
    rcases hx1 with ⟨h1, h2⟩ | ⟨h1, h2⟩
    · exact Or.inl ⟨h1, h2⟩
    · exact Or.inr ⟨h1, h2, hc⟩
  | succ d ih =>
    intro o ho c x1 a_least hx1 hc hs hfr m hm
    obtain ⟨m', rfl⟩ : ∃ m', m = m' + 1 := ⟨m - 1, by omega⟩
    refine br_f (nI_ge (b := 6) (by omega) (by decide)) ?_
    refine yk_make ok hy (by omega) hc rfl hs (fun a' c' r hr h2 h3 => ?_)
    have hf' : ∀ j, j < 74 * 24 → a' j = a0 j := fun j hj => (h3 j hj).trans (hfr j hj)
    rcases hr with ⟨rfl, rfl⟩ | ⟨rfl, h4, h5⟩
    · refine br_t rfl (br_c (fun z => nm_r (nI_1 o) (ih (o + 1) (by omega) c' 0 a' ?_ hc h2 hf' m' (by omega))) (fun z => nm_r (nI_1 o) (ih (o + 1) (by omega) c' 1 a' ?_ hc h2 hf' m' (by omega))))
      · rcases hx1 with ⟨z1, z2⟩ | ⟨z1, z2⟩
        · exact Or.inl ⟨rfl, z2⟩
        · rw [z1] at z
          exact absurd z (by decide)
      · rcases hx1 with ⟨z1, z2⟩ | ⟨z1, z2⟩
        · exact absurd z1 z
        · exact Or.inr ⟨rfl, z2⟩
    · refine br_f (by decide) (nm_r (nI_1 o) (ih (o + 1) (by omega) c' 1 a' (Or.inr ⟨rfl, ?_⟩) h5 h2 hf' m' (by omega)))
      rcases hx1 with ⟨z1, z2⟩ | ⟨z1, z2⟩ <;> omega
theorem yk_15 (ok : tc_ok S) {post : SY → Prop} {f_noted : Int32} {f_depth : Int32} {f_rules : Int32} {f_planted : Int32} {f_trees : Int32} {f_known : Int32} {f_listed : Int32} {a_marks : Nat → Int32} {a_sizes : Nat → Int32} {a_lefts : Nat → Int32} {a_costs : Nat → Int32} {a_lengths : Nat → Int32} {a_operators : Nat → Int32} {a_spans : Nat → Int32} {a_ways : Nat → Int32} {a_tasks : Nat → Int32} {a_list : Nat → Int32} (hy : tc_yr S len ent f_rules a_lefts a_costs a_lengths a_marks a_sizes) {a0 : Nat → Int32}
    (hp : ∀ (a' : Nat → Int32) (c' : Nat), c' ≤ 21 → tc_ys S len ent a' c' → (∀ j, j < 74 * 24 → a' j = a0 j) → post (f_noted, f_depth, f_rules, f_planted, f_trees, nI c', 1, f_listed, a_marks, a_sizes, a_lefts, a_costs, a_lengths, a_operators, a_spans, a', a_ways, a_tasks, a_list)) :
    ∀ (d c : Nat), c + d = 21 → ∀ (x1 : Int32) (a_least : Nat → Int32), tc_ys S len ent a_least c → (∀ j, j < 74 * 24 → a_least j = a0 j) → ∀ m, d + 1 < m → wY_findStates_15 post m x1 f_noted f_depth f_rules f_planted f_trees (nI c) f_known f_listed a_marks a_sizes a_lefts a_costs a_lengths a_operators a_spans a_least a_ways a_tasks a_list := by
  intro d
  induction d using Nat.strongRecOn with
  | ind d ih =>
    intro c hcd x1 a_least hs hfr m hm
    obtain ⟨m', rfl⟩ : ∃ m', m = m' + 1 := ⟨m - 1, by omega⟩
    refine br_c (fun _ => hp _ c (by omega) hs hfr) (fun _ => ?_)
    refine pk_le 21 c (fun _ => hp _ c (by omega) hs hfr) (fun h => ⟨7, ?_⟩) rfl rfl (by omega) (by omega)
    refine yk_32 ok hy (c0 := c) (a0 := a0) (fun a' c' r hr h2 h3 => ?_) 6 0 (by omega) c 0 a_least (Or.inl ⟨rfl, rfl⟩) (by omega) hs hfr 7 (by omega)
    rcases hr with ⟨rfl, rfl⟩ | ⟨rfl, h4, h5⟩
    · obtain ⟨m'', rfl⟩ : ∃ m'', m' = m'' + 1 := ⟨m' - 1, by omega⟩
      exact br_t rfl (hp a' c' (by omega) h2 h3)
    · exact ih (21 - c') (by omega) c' (by omega) 1 a' h2 h3 m' (by omega)
theorem yk_find (ok : tc_ok S) {post : SY → Prop} {f_noted : Int32} {f_depth : Int32} {f_rules : Int32} {f_planted : Int32} {f_trees : Int32} {f_stateCount : Int32} {f_known : Int32} {f_listed : Int32} {a_marks : Nat → Int32} {a_sizes : Nat → Int32} {a_lefts : Nat → Int32} {a_costs : Nat → Int32} {a_lengths : Nat → Int32} {a_operators : Nat → Int32} {a_spans : Nat → Int32} {a_least : Nat → Int32} {a_ways : Nat → Int32} {a_tasks : Nat → Int32} {a_list : Nat → Int32} (hy : tc_yr S len ent f_rules a_lefts a_costs a_lengths a_marks a_sizes) {c : Nat} (hc : c ≤ 21) (hsc : f_stateCount = nI c)
    (hp : ∀ (a' : Nat → Int32) (c' : Nat) (kn : Int32), c' ≤ 21 → (∀ j, j < 74 * 24 → a' j = a_least j) → post (f_noted, f_depth, f_rules, f_planted, f_trees, nI c', kn, f_listed, a_marks, a_sizes, a_lefts, a_costs, a_lengths, a_operators, a_spans, a', a_ways, a_tasks, a_list)) : wpY_findStates post (f_noted, f_depth, f_rules, f_planted, f_trees, f_stateCount, f_known, f_listed, a_marks, a_sizes, a_lefts, a_costs, a_lengths, a_operators, a_spans, a_least, a_ways, a_tasks, a_list) := by
  subst hsc
  refine br_c (fun _ => ⟨24, ?_⟩) (fun _ => hp a_least c f_known hc (fun _ _ => rfl))
  exact yk_15 ok hy (a0 := a_least) (fun a' c' h1 h2 h3 => hp a' c' 1 h1 h3) 21 0 (by omega) 1 a_least (fun j hj => absurd hj (Nat.not_lt_zero _)) (fun _ _ => rfl) 24 (by omega)
theorem yk_cov_19 {post : Int32 → SY → Prop} {f_noted : Int32} {f_depth : Int32} {f_rules : Int32} {f_planted : Int32} {f_trees : Int32} {f_stateCount : Int32} {f_known : Int32} {f_listed : Int32} {a_marks : Nat → Int32} {a_sizes : Nat → Int32} {a_lefts : Nat → Int32} {a_costs : Nat → Int32} {a_lengths : Nat → Int32} {a_operators : Nat → Int32} {a_spans : Nat → Int32} {a_least : Nat → Int32} {a_ways : Nat → Int32} {a_tasks : Nat → Int32} {a_list : Nat → Int32} {g c : Nat} (hg : g < 4) (hc : c ≤ 21) (hsc : f_stateCount = nI c) (hp : ∀ r, post r (f_noted, f_depth, f_rules, f_planted, f_trees, f_stateCount, f_known, f_listed, a_marks, a_sizes, a_lefts, a_costs, a_lengths, a_operators, a_spans, a_least, a_ways, a_tasks, a_list)) : ∀ (d k : Nat), k + d = c → ∀ (z : Int32) (m : Nat), d < m → wY_covering_19 post (nI g) f_noted f_depth f_rules f_planted f_trees f_stateCount f_known f_listed a_marks a_sizes a_lefts a_costs a_lengths a_operators a_spans a_least a_ways a_tasks a_list m z (nI k) := by
  subst hsc
  intro d
  induction d with
  | zero =>
    intro k hk z m hm
    obtain ⟨m', rfl⟩ : ∃ m', m = m' + 1 := ⟨m - 1, by omega⟩
    exact br_t (nI_le (by omega) (by omega)) (br_c (fun _ => hp _) (fun _ => hp _))
  | succ d ih =>
    intro k hk z m hm
    obtain ⟨m', rfl⟩ : ∃ m', m = m' + 1 := ⟨m - 1, by omega⟩
    have w : (74 : Int32) * (24 + nI k) + nI g = nI (74 * (24 + k) + g) := by rw [show (24 : Int32) = nI 24 from rfl, nI_add, show (74 : Int32) = nI 74 from rfl, pk_mul, nI_add]
    refine br_f (nI_ge (by omega) (by omega)) ⟨by rw [w]; exact vp_in_nI (by omega) (by decide), ?_⟩
    exact br_c (fun _ => nm_r (nI_1 k) (ih (k + 1) (by omega) z m' (by omega))) (fun _ => nm_e (nm_r (nI_1 k) (ih (k + 1) (by omega) _ m' (by omega))))
end
