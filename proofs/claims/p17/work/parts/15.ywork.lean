theorem tc_rd_ge {S : tc_S} (ok : tc_ok S) {t : Nat → Nat} {e : Nat} (he : 4 ≤ e) {k : Nat} (hk : k ≤ tc_R S) : tc_rd S t k e = t e :=
  tc_rd_ind (fun _ u => u e = t e) rfl (fun j hj u hu => by
    have h := (tc_ok_r ok hj).1
    rw [tc_st_ne (by omega)]
    exact hu) k hk
section
variable {S : tc_S} {len : Nat → Nat} {ent : Nat → Nat → Nat}
theorem yc_wo_41 (ok : tc_ok S) {post : SY → Prop} {J : Int32 → Int32 → Int32 → Int32 → Int32 → Int32 → Int32 → Int32 → Int32 → (Nat → Int32) → (Nat → Int32) → (Nat → Int32) → (Nat → Int32) → (Nat → Int32) → (Nat → Int32) → (Nat → Int32) → (Nat → Int32) → (Nat → Int32) → (Nat → Int32) → (Nat → Int32) → Prop} {f_noted : Int32} {f_depth : Int32} {f_rules : Int32} {f_planted : Int32} {f_trees : Int32} {f_stateCount : Int32} {f_known : Int32} {f_listed : Int32} {a_marks : Nat → Int32} {a_sizes : Nat → Int32} {a_lefts : Nat → Int32} {a_costs : Nat → Int32} {a_lengths : Nat → Int32} {a_operators : Nat → Int32} {a_spans : Nat → Int32} {a_ways : Nat → Int32} {a_tasks : Nat → Int32} {a_list : Nat → Int32} (hy : tc_yr S len ent f_rules a_lefts a_costs a_lengths a_marks a_sizes)
    {n o x y p : Nat} (hn : n < 46) (ho : o < 6) (hx : x < 46) (hyy : y < 46) (hxy : o < 4 → x = y) (hxn : 4 ≤ o → x ≠ n) (hyn : 2 ≤ o → y ≠ n) {w xr yr : Nat → Nat}
    (hu : ∀ e, w e ≤ 1000000) (hxr : ∀ e, xr e ≤ 1000000) (hyr : ∀ e, yr e ≤ 1000000) (h4 : ∀ e, 4 ≤ e → e < tc_E S → w e = tc_op S 1000000 o xr yr e) :
    ∀ (d r : Nat), r + d = tc_R S → ∀ a_least : Nat → Int32,
    (∀ g, g < 4 → a_least (74 * n + g) = nI (tc_rd S w r g)) → ((∀ k, k ≤ tc_R S → tc_rd S w k = w) → ∀ r', r' < r → ∀ i, i < len r' → a_least (74 * n + 4 + 7 * r' + i) = nI (w (ent r' i))) →
    (4 ≤ o → tc_yw S len ent a_least x xr) → (2 ≤ o → tc_yw S len ent a_least y yr) →
    (∀ a', tc_fr a_least a' (74 * n) → (∀ g, g < 4 → a' (74 * n + g) = nI (tc_rd S w (tc_R S) g)) →
      ((∀ k, k ≤ tc_R S → tc_rd S w k = w) → ∀ r', r' < tc_R S → ∀ i, i < len r' → a' (74 * n + 4 + 7 * r' + i) = nI (w (ent r' i))) → J (nI (p + 1)) f_noted f_depth f_rules f_planted f_trees f_stateCount f_known f_listed a_marks a_sizes a_lefts a_costs a_lengths a_operators a_spans a' a_ways a_tasks a_list) →
    ∀ m, d < m → wY_workOut_41 post J (nI n) (nI o) (nI x) (nI y) (nI p) m (nI r) f_noted f_depth f_rules f_planted f_trees f_stateCount f_known f_listed a_marks a_sizes a_lefts a_costs a_lengths a_operators a_spans a_least a_ways a_tasks a_list := by
  have hR := ok.1
  intro d
  induction d with
  | zero =>
    intro r hr a_least hg he rx ry hp m hm
    obtain ⟨m', rfl⟩ : ∃ m', m = m' + 1 := ⟨m - 1, by omega⟩
    have e : r = tc_R S := by omega
    subst e
    exact br_t (by rw [hy.1]; exact nI_le (Nat.le_refl _) (by omega)) (nm_r (nI_1 p) (hp _ (tc_fr_refl _ _) hg he))
  | succ d ih =>
    intro r hr a_least hg he rx ry hp m hm
    obtain ⟨m', rfl⟩ : ∃ m', m = m' + 1 := ⟨m - 1, by omega⟩
    have hr' : r < tc_R S := by omega
    have hl7 := (hy.2.1 r hr').2.2.2.2.1
    refine br_f (by rw [hy.1]; exact nI_ge hr' (by omega)) ?_
    refine yc_wr ok hy hn ho hx hyy hr' hxy hxn hyn (u := tc_rd S w r) (fun e => Nat.le_trans (tc_rd_le (by omega) e) (hu e)) hxr hyr (fun e h1 h2 => by rw [tc_rd_ge ok h1 (by omega)]; exact h4 e h1 h2) hg rx ry (fun a' p1 p2 p3 => ?_)
    have hfr : tc_fr a_least a' (74 * n) := fun j hj => p3 j (by omega) (by omega)
    refine nm_r (nI_1 r) (ih (r + 1) (by omega) a' p1 (fun hfx r1 hr1 i hi => ?_) (fun h => tc_yw_fr ok hy hfr (hxn h) (rx h)) (fun h => tc_yw_fr ok hy hfr (hyn h) (ry h)) (fun a2 q1 q2 q3 => hp a2 (tc_fr_trans hfr q1) q2 q3) m' (by omega))
    by_cases cr : r1 = r
    · subst cr
      rw [p2 i hi, hfx r1 (by omega)]
    · have hl71 := (hy.2.1 r1 (by omega)).2.2.2.2.1
      rw [p3 _ (by omega) (by omega)]
      exact he hfx r1 (by omega) i hi
theorem yc_wo_32 (ok : tc_ok S) {post : SY → Prop} {f_noted : Int32} {f_depth : Int32} {f_rules : Int32} {f_planted : Int32} {f_trees : Int32} {f_stateCount : Int32} {f_known : Int32} {f_listed : Int32} {a_marks : Nat → Int32} {a_sizes : Nat → Int32} {a_lefts : Nat → Int32} {a_costs : Nat → Int32} {a_lengths : Nat → Int32} {a_operators : Nat → Int32} {a_spans : Nat → Int32} {a_ways : Nat → Int32} {a_tasks : Nat → Int32} {a_list : Nat → Int32} (hy : tc_yr S len ent f_rules a_lefts a_costs a_lengths a_marks a_sizes)
    {n o x y : Nat} (hn : n < 46) (ho : o < 6) (hx : x < 46) (hyy : y < 46) (hxy : o < 4 → x = y) (hxn : 4 ≤ o → x ≠ n) (hyn : 2 ≤ o → y ≠ n) {xr yr : Nat → Nat}
    (hxr : ∀ e, xr e ≤ 1000000) (hyr : ∀ e, yr e ≤ 1000000) :
    ∀ (d p : Nat), p + d = 5 → ∀ a_least : Nat → Int32,
    (∀ g, g < 4 → a_least (74 * n + g) = nI (tc_it S (tc_i0 S 1000000 o xr yr) p g)) →
    (p = 5 → ∀ r', r' < tc_R S → ∀ i, i < len r' → a_least (74 * n + 4 + 7 * r' + i) = nI (tc_row S 1000000 o xr yr (ent r' i))) →
    (4 ≤ o → tc_yw S len ent a_least x xr) → (2 ≤ o → tc_yw S len ent a_least y yr) →
    (∀ a', tc_fr a_least a' (74 * n) → tc_yw S len ent a' n (tc_row S 1000000 o xr yr) → post (f_noted, f_depth, f_rules, f_planted, f_trees, f_stateCount, f_known, f_listed, a_marks, a_sizes, a_lefts, a_costs, a_lengths, a_operators, a_spans, a', a_ways, a_tasks, a_list)) →
    ∀ m, d < m → wY_workOut_32 post (nI n) (nI o) (nI x) (nI y) m (nI p) f_noted f_depth f_rules f_planted f_trees f_stateCount f_known f_listed a_marks a_sizes a_lefts a_costs a_lengths a_operators a_spans a_least a_ways a_tasks a_list := by
  intro d
  induction d with
  | zero =>
    intro p hpp a_least hg he rx ry hp m hm
    obtain ⟨m', rfl⟩ : ∃ m', m = m' + 1 := ⟨m - 1, by omega⟩
    have e : p = 5 := by omega
    subst e
    refine br_t (nI_le (a := 5) (Nat.le_refl _) (by decide)) (hp _ (tc_fr_refl _ _) ⟨fun g hg4 => ?_, he rfl⟩)
    rw [hg g hg4]
    have e1 : tc_it S (tc_i0 S 1000000 o xr yr) 5 = tc_row S 1000000 o xr yr := tc_row_fix ok (tc_R S) (Nat.le_refl _)
    rw [e1]
  | succ d ih =>
    intro p hpp a_least hg he rx ry hp m hm
    obtain ⟨m', rfl⟩ : ∃ m', m = m' + 1 := ⟨m - 1, by omega⟩
    refine br_f (nI_ge (b := 5) (by omega) (by decide)) ⟨tc_R S + 1, ?_⟩
    refine yc_wo_41 ok hy hn ho hx hyy hxy hxn hyn (w := tc_it S (tc_i0 S 1000000 o xr yr) p) (fun e => tc_row_le e p) hxr hyr (fun e h1 h2 => by
      rw [tc_it_ge ok h1]
      exact if_neg (by omega)) (tc_R S) 0 (by omega) a_least hg (fun _ r' hr' => absurd hr' (Nat.not_lt_zero _)) rx ry (fun a' q1 q2 q3 => ?_) _ (by omega)
    refine ih (p + 1) (by omega) a' q2 (fun h5 => ?_) (fun h => tc_yw_fr ok hy q1 (hxn h) (rx h)) (fun h => tc_yw_fr ok hy q1 (hyn h) (ry h)) (fun a2 s1 s2 => hp a2 (tc_fr_trans q1 s1) s2) m' (by omega)
    have e4 : p = 4 := by omega
    subst e4
    exact q3 (tc_row_fix ok)
theorem yc_wo_3 (ok : tc_ok S) {post : SY → Prop} {f_noted : Int32} {f_depth : Int32} {f_rules : Int32} {f_planted : Int32} {f_trees : Int32} {f_stateCount : Int32} {f_known : Int32} {f_listed : Int32} {a_marks : Nat → Int32} {a_sizes : Nat → Int32} {a_lefts : Nat → Int32} {a_costs : Nat → Int32} {a_lengths : Nat → Int32} {a_operators : Nat → Int32} {a_spans : Nat → Int32} {a_ways : Nat → Int32} {a_tasks : Nat → Int32} {a_list : Nat → Int32} (hy : tc_yr S len ent f_rules a_lefts a_costs a_lengths a_marks a_sizes)
    {n o x y : Nat} (hn : n < 46) (ho : o < 6) (hx : x < 46) (hyy : y < 46) (hxy : o < 4 → x = y) (hxn : 4 ≤ o → x ≠ n) (hyn : 2 ≤ o → y ≠ n) {xr yr : Nat → Nat}
    (hxr : ∀ e, xr e ≤ 1000000) (hyr : ∀ e, yr e ≤ 1000000) :
    ∀ (d g : Nat), g + d = 4 → ∀ a_least : Nat → Int32, (∀ h, h < g → a_least (74 * n + h) = nI 1000000) →
    (4 ≤ o → tc_yw S len ent a_least x xr) → (2 ≤ o → tc_yw S len ent a_least y yr) →
    (∀ a', tc_fr a_least a' (74 * n) → tc_yw S len ent a' n (tc_row S 1000000 o xr yr) → post (f_noted, f_depth, f_rules, f_planted, f_trees, f_stateCount, f_known, f_listed, a_marks, a_sizes, a_lefts, a_costs, a_lengths, a_operators, a_spans, a', a_ways, a_tasks, a_list)) →
    ∀ m, d < m → wY_workOut_3 post (nI n) (nI o) (nI x) (nI y) f_noted f_depth f_rules f_planted f_trees f_stateCount f_known f_listed m (nI g) a_marks a_sizes a_lefts a_costs a_lengths a_operators a_spans a_least a_ways a_tasks a_list := by
  intro d
  induction d with
  | zero =>
    intro g hgg a_least hg rx ry hp m hm
    obtain ⟨m', rfl⟩ : ∃ m', m = m' + 1 := ⟨m - 1, by omega⟩
    have e : g = 4 := by omega
    subst e
    refine br_t (nI_le (a := 4) (Nat.le_refl _) (by decide)) ⟨6, ?_⟩
    refine yc_wo_32 ok hy hn ho hx hyy hxy hxn hyn hxr hyr 5 0 (by omega) a_least (fun h hh => ?_) (fun h => absurd h (by decide)) rx ry hp 6 (by omega)
    rw [hg h hh]
    show nI 1000000 = nI (tc_i0 S 1000000 o xr yr h)
    unfold tc_i0
    rw [if_pos hh]
  | succ d ih =>
    intro g hgg a_least hg rx ry hp m hm
    obtain ⟨m', rfl⟩ : ∃ m', m = m' + 1 := ⟨m - 1, by omega⟩
    have w : (74 : Int32) * nI n + nI g = nI (74 * n + g) := by rw [show (74 : Int32) = nI 74 from rfl, pk_mul, nI_add]
    refine br_f (nI_ge (b := 4) (by omega) (by decide)) ⟨by rw [w]; exact vp_in_nI (by omega) (by decide), nm_r (e' := upd a_least (74 * n + g) (nI 1000000)) (by rw [w, nI_clamp (by omega)]; rfl) (nm_r (nI_1 g) ?_)⟩
    have hfr : tc_fr a_least (upd a_least (74 * n + g) (nI 1000000)) (74 * n) := tc_fr_upd (by omega)
    refine ih (g + 1) (by omega) _ (fun h hh => ?_) (fun h => tc_yw_fr ok hy hfr (hxn h) (rx h)) (fun h => tc_yw_fr ok hy hfr (hyn h) (ry h)) (fun a2 s1 s2 => hp a2 (tc_fr_trans hfr s1) s2) m' (by omega)
    by_cases c : h = g
    · rw [c, pk_us]
    · rw [pk_un (by omega)]
      exact hg h (by omega)
theorem yc_wo (ok : tc_ok S) {post : SY → Prop} {f_noted : Int32} {f_depth : Int32} {f_rules : Int32} {f_planted : Int32} {f_trees : Int32} {f_stateCount : Int32} {f_known : Int32} {f_listed : Int32} {a_marks : Nat → Int32} {a_sizes : Nat → Int32} {a_lefts : Nat → Int32} {a_costs : Nat → Int32} {a_lengths : Nat → Int32} {a_operators : Nat → Int32} {a_spans : Nat → Int32} {a_least : Nat → Int32} {a_ways : Nat → Int32} {a_tasks : Nat → Int32} {a_list : Nat → Int32} (hy : tc_yr S len ent f_rules a_lefts a_costs a_lengths a_marks a_sizes)
    {n o x y : Nat} (hn : n < 46) (ho : o < 6) (hx : x < 46) (hyy : y < 46) (hxy : o < 4 → x = y) (hxn : 4 ≤ o → x ≠ n) (hyn : 2 ≤ o → y ≠ n) {xr yr : Nat → Nat}
    (hxr : ∀ e, xr e ≤ 1000000) (hyr : ∀ e, yr e ≤ 1000000) (rx : 4 ≤ o → tc_yw S len ent a_least x xr) (ry : 2 ≤ o → tc_yw S len ent a_least y yr)
    (hp : ∀ a', tc_fr a_least a' (74 * n) → tc_yw S len ent a' n (tc_row S 1000000 o xr yr) → post (f_noted, f_depth, f_rules, f_planted, f_trees, f_stateCount, f_known, f_listed, a_marks, a_sizes, a_lefts, a_costs, a_lengths, a_operators, a_spans, a', a_ways, a_tasks, a_list)) :
    wpY_workOut post (f_noted, f_depth, f_rules, f_planted, f_trees, f_stateCount, f_known, f_listed, a_marks, a_sizes, a_lefts, a_costs, a_lengths, a_operators, a_spans, a_least, a_ways, a_tasks, a_list) (nI n) (nI o) (nI x) (nI y) :=
  ⟨5, yc_wo_3 ok hy hn ho hx hyy hxy hxn hyn hxr hyr 4 0 (by omega) a_least (fun h hh => absurd hh (Nat.not_lt_zero _)) rx ry hp 5 (by omega)⟩
end
/-! Y's trees -/
def tc_yt (tn td : Nat) (ty tz : Nat → Nat) (pl tr : Int32) (op sp : Nat → Int32) : Prop := pl = nI tn ∧ tr = nI td ∧ ∀ i, i < tn → op i = nI (ty i) ∧ sp i = nI (tz i)
def tc_yrows (S : tc_S) (K : Nat) (len : Nat → Nat) (ent : Nat → Nat → Nat) (ty tz : Nat → Nat) (a : Nat → Int32) (n : Nat) : Prop := ∀ m, m < n → tc_yw S len ent a m (tc_v S K ty tz m)
section
variable {S : tc_S} {len : Nat → Nat} {ent : Nat → Nat → Nat} {tn td : Nat} {ty tz tk : Nat → Nat}
theorem yq_wt_2 (ok : tc_ok S) (hn : tc_tn ty tz tn) (hN : tn ≤ 24) (hD : td ≤ 8) {post : Int32 → SY → Prop} {f_noted : Int32} {f_depth : Int32} {f_rules : Int32} {f_planted : Int32} {f_trees : Int32} {f_stateCount : Int32} {f_known : Int32} {f_listed : Int32} {a_marks : Nat → Int32} {a_sizes : Nat → Int32} {a_lefts : Nat → Int32} {a_costs : Nat → Int32} {a_lengths : Nat → Int32} {a_operators : Nat → Int32} {a_spans : Nat → Int32} {a_ways : Nat → Int32} {a_tasks : Nat → Int32} {a_list : Nat → Int32} (hy : tc_yr S len ent f_rules a_lefts a_costs a_lengths a_marks a_sizes)
    (ht : tc_yt tn td ty tz f_planted f_trees a_operators a_spans) :
    ∀ (d i : Nat), i + d = tn → ∀ a_least : Nat → Int32, tc_yrows S 1000000 len ent ty tz a_least i →
    (∀ a', tc_yrows S 1000000 len ent ty tz a' tn → (∀ j, 74 * tn ≤ j → a' j = a_least j) → post (if td = 0 then 0 else 1) (f_noted, f_depth, f_rules, f_planted, f_trees, f_stateCount, f_known, f_listed, a_marks, a_sizes, a_lefts, a_costs, a_lengths, a_operators, a_spans, a', a_ways, a_tasks, a_list)) →
    ∀ m, d < m → wY_workTrees_2 post m (nI i) f_noted f_depth f_rules f_planted f_trees f_stateCount f_known f_listed a_marks a_sizes a_lefts a_costs a_lengths a_operators a_spans a_least a_ways a_tasks a_list := by
  have hE := tc_ok_E ok
  intro d
  induction d with
  | zero =>
    intro i hi a_least hr hp m hm
    obtain ⟨m', rfl⟩ : ∃ m', m = m' + 1 := ⟨m - 1, by omega⟩
    have e : i = tn := by omega
    subst e
    have k := hp a_least hr (fun _ _ => rfl)
    refine br_t (by rw [ht.1]; exact nI_le (Nat.le_refl _) (by omega)) ?_
    refine pk_le td 0 (fun h => ?_) (fun h => ?_) ht.2.1 rfl (by omega) (by omega)
    · rw [if_pos (by omega)] at k
      exact k
    · rw [if_neg (by omega)] at k
      exact k
  | succ d ih =>
    intro i hi a_least hr hp m hm
    obtain ⟨m', rfl⟩ : ∃ m', m = m' + 1 := ⟨m - 1, by omega⟩
    have hit : i < tn := by omega
    obtain ⟨h6, n1, n2, n3, n4, n5, n6, n7⟩ := hn i hit
    obtain ⟨t1, t2⟩ := ht.2.2 i hit
    have c : (nI i).toNatClampNeg = i := nI_clamp (by omega)
    have vle : ∀ m, m < tn → ∀ e, tc_v S 1000000 ty tz m e ≤ 1000000 := fun m hm e => tc_v_le (fun h => (hn m hm).2.2.2.1 h (hn m hm).1) e
    have key : ∀ x y : Nat, x < 46 → y < 46 → (ty i < 4 → x = y) → (4 ≤ ty i → x = i - 1 - tz (i - 1)) → (2 ≤ ty i → y = i - 1) →
        wY_workTrees_47 post (wY_workTrees_2 post m') (nI i) (nI (ty i)) (nI y) (nI x) f_noted f_depth f_rules f_planted f_trees f_stateCount f_known f_listed a_marks a_sizes a_lefts a_costs a_lengths a_operators a_spans a_least a_ways a_tasks a_list := fun x y hx hyy hxy ex ey => by
      refine yc_wo ok hy (by omega) h6 hx hyy hxy (fun h => by have := n3 (by omega) h6; have := ex h; omega) (fun h => by have := n3 h h6; have := ey h; omega)
        (xr := fun e => if 4 ≤ ty i then tc_v S 1000000 ty tz (i - 1 - tz (i - 1)) e else 0) (yr := fun e => if 2 ≤ ty i then tc_v S 1000000 ty tz (i - 1) e else 0) (fun e => ?_) (fun e => ?_) (fun h => ?_) (fun h => ?_) (fun a' hf hra => ?_)
      · show (if 4 ≤ ty i then tc_v S 1000000 ty tz (i - 1 - tz (i - 1)) e else 0) ≤ 1000000
        split
        · exact vle _ (by omega) e
        · omega
      · show (if 2 ≤ ty i then tc_v S 1000000 ty tz (i - 1) e else 0) ≤ 1000000
        split
        · exact vle _ (by omega) e
        · omega
      · have e1 : (fun e => if 4 ≤ ty i then tc_v S 1000000 ty tz (i - 1 - tz (i - 1)) e else 0) = tc_v S 1000000 ty tz (i - 1 - tz (i - 1)) := by
          funext e
          exact if_pos h
        have := n3 (by omega) h6
        rw [e1, ex h]
        exact hr _ (by omega)
      · have e1 : (fun e => if 2 ≤ ty i then tc_v S 1000000 ty tz (i - 1) e else 0) = tc_v S 1000000 ty tz (i - 1) := by
          funext e
          exact if_pos h
        have := n3 h h6
        rw [e1, ey h]
        exact hr _ (by omega)
      · have e2 : tc_row S 1000000 (ty i) (fun e => if 4 ≤ ty i then tc_v S 1000000 ty tz (i - 1 - tz (i - 1)) e else 0) (fun e => if 2 ≤ ty i then tc_v S 1000000 ty tz (i - 1) e else 0) = tc_v S 1000000 ty tz i := by
          rw [tc_v_eq (fun h => n3 h h6)]
          exact tc_row_congr (fun h => by funext e; exact if_pos h) (fun h => by funext e; exact if_pos h)
        rw [e2] at hra
        refine nm_r (nI_1 i) (ih (i + 1) (by omega) a' (fun k hk => ?_) (fun a2 r2 f2 => hp a2 r2 (fun j hj => (f2 j hj).trans (hf j (by omega)))) m' (by omega))
        by_cases e : k = i
        · rw [e]
          exact hra
        · exact tc_yw_fr ok hy hf e (hr k (by omega))
    refine br_f (by rw [ht.1]; exact nI_ge hit (by omega)) ⟨vp_in_nI (by omega) (by decide), nm_r (e' := nI (ty i)) (by rw [c, t1]) ?_⟩
    refine pk_le 2 (ty i) (fun h2 => ?_) (fun h2 => ?_) rfl rfl (by omega) (by omega)
    · have hi1 := n3 h2 h6
      have w : nI i - 1 = nI (i - 1) := by rw [show (1 : Int32) = nI 1 from rfl, pk_sub (by omega)]
      rw [w]
      refine pk_le 4 (ty i) (fun h4 => ?_) (fun h4 => ?_) rfl rfl (by omega) (by omega)
      · have hi2 := n4 h4 h6
        refine ⟨vp_in_nI (by omega) (by decide), ?_⟩
        rw [nI_clamp (by omega), (ht.2.2 (i - 1) (by omega)).2, pk_sub (by omega)]
        exact key (i - 1 - tz (i - 1)) (i - 1) (by omega) (by omega) (fun h => by omega) (fun _ => rfl) (fun _ => rfl)
      · exact key (i - 1) (i - 1) (by omega) (by omega) (fun _ => rfl) (fun h => by omega) (fun _ => rfl)
    · refine br_f (nI_ge (b := 4) (by omega) (by decide)) ?_
      exact key i i (by omega) (by omega) (fun _ => rfl) (fun h => by omega) (fun h => by omega)
theorem yq_wt (ok : tc_ok S) (hn : tc_tn ty tz tn) (hN : tn ≤ 24) (hD : td ≤ 8) {post : Int32 → SY → Prop} {f_noted : Int32} {f_depth : Int32} {f_rules : Int32} {f_planted : Int32} {f_trees : Int32} {f_stateCount : Int32} {f_known : Int32} {f_listed : Int32} {a_marks : Nat → Int32} {a_sizes : Nat → Int32} {a_lefts : Nat → Int32} {a_costs : Nat → Int32} {a_lengths : Nat → Int32} {a_operators : Nat → Int32} {a_spans : Nat → Int32} {a_least : Nat → Int32} {a_ways : Nat → Int32} {a_tasks : Nat → Int32} {a_list : Nat → Int32} (hy : tc_yr S len ent f_rules a_lefts a_costs a_lengths a_marks a_sizes)
    (ht : tc_yt tn td ty tz f_planted f_trees a_operators a_spans)
    (hp : ∀ a', tc_yrows S 1000000 len ent ty tz a' tn → (∀ j, 74 * tn ≤ j → a' j = a_least j) → post (if td = 0 then 0 else 1) (f_noted, f_depth, f_rules, f_planted, f_trees, f_stateCount, f_known, f_listed, a_marks, a_sizes, a_lefts, a_costs, a_lengths, a_operators, a_spans, a', a_ways, a_tasks, a_list)) : wpY_workTrees post (f_noted, f_depth, f_rules, f_planted, f_trees, f_stateCount, f_known, f_listed, a_marks, a_sizes, a_lefts, a_costs, a_lengths, a_operators, a_spans, a_least, a_ways, a_tasks, a_list) :=
  ⟨tn + 1, yq_wt_2 ok hn hN hD hy ht tn 0 (by omega) a_least (fun m hm => absurd hm (Nat.not_lt_zero _)) hp _ (by omega)⟩
theorem yq_top (ok : tc_ok S) (hF : tc_fo tn td ty tz tk) (h6 : ∀ i, i < tn → ty i < 6) (hN : tn ≤ 24) (hD : td ≤ 8) {g : Nat} (hg : g < 4) {post : Int32 → SY → Prop} {f_noted : Int32} {f_depth : Int32} {f_rules : Int32} {f_planted : Int32} {f_trees : Int32} {f_stateCount : Int32} {f_known : Int32} {f_listed : Int32} {a_marks : Nat → Int32} {a_sizes : Nat → Int32} {a_lefts : Nat → Int32} {a_costs : Nat → Int32} {a_lengths : Nat → Int32} {a_operators : Nat → Int32} {a_spans : Nat → Int32} {a_least : Nat → Int32} {a_ways : Nat → Int32} {a_tasks : Nat → Int32} {a_list : Nat → Int32}
    (hy : tc_yr S len ent f_rules a_lefts a_costs a_lengths a_marks a_sizes) (ht : tc_yt tn td ty tz f_planted f_trees a_operators a_spans)
    (hp : ∀ a', tc_yrows S 1000000 len ent ty tz a' tn → (∀ j, 74 * tn ≤ j → a' j = a_least j) → post (nI (tc_tp S 1000000 ty tz tn td g)) (f_noted, f_depth, f_rules, f_planted, f_trees, f_stateCount, f_known, f_listed, a_marks, a_sizes, a_lefts, a_costs, a_lengths, a_operators, a_spans, a', a_ways, a_tasks, a_list)) : wpY_topCost post (f_noted, f_depth, f_rules, f_planted, f_trees, f_stateCount, f_known, f_listed, a_marks, a_sizes, a_lefts, a_costs, a_lengths, a_operators, a_spans, a_least, a_ways, a_tasks, a_list) (nI g) := by
  have hn : tc_tn ty tz tn := fun i hi => ⟨h6 i hi, hF.2.2.2.2.2 i hi⟩
  unfold wpY_topCost
  refine yq_wt ok hn hN hD hy ht (fun a' ha hfa => ?_)
  have k := hp a' ha hfa
  unfold tc_tp at k
  by_cases h : td = 0
  · rw [if_pos h] at k ⊢
    exact br_t rfl k
  · rw [if_neg h] at k ⊢
    obtain ⟨s1, s2⟩ := tc_fo_t1 hF (by omega)
    have w : (74 : Int32) * (f_planted - 1) + nI g = nI (74 * (tn - 1) + g) := by
      rw [ht.1, show (1 : Int32) = nI 1 from rfl, pk_sub (by omega), show (74 : Int32) = nI 74 from rfl, pk_mul, nI_add]
    refine br_f (by decide) ⟨by rw [w]; exact vp_in_nI (by omega) (by decide), ?_⟩
    rw [w, nI_clamp (by omega), (ha (tn - 1) (by omega)).1 g hg]
    exact k
end
