/-! forests in postfix order: symbols sy, sizes ps; the last part of node i is i - 1, the first i - 1 - ps (i - 1) -/
def tc_nd (sy ps : Nat → Nat) (i : Nat) : Prop :=
  1 ≤ ps i ∧ ps i ≤ i + 1 ∧ (2 ≤ sy i → sy i < 6 → 1 ≤ i) ∧ (4 ≤ sy i → sy i < 6 → ps (i - 1) < i) ∧
  (sy i < 2 → ps i = 1) ∧ (2 ≤ sy i → sy i < 4 → ps i = 1 + ps (i - 1)) ∧ (4 ≤ sy i → sy i < 6 → ps i = 1 + ps (i - 1) + ps (i - 1 - ps (i - 1)))
/-- a stack of trees -/
def tc_fo (nn dd : Nat) (sy ps sk : Nat → Nat) : Prop :=
  (dd = 0 → nn = 0) ∧ (∀ k, k + 1 = dd → sk k + 1 = nn) ∧ (∀ k, k + 1 < dd → sk k + ps (sk (k + 1)) = sk (k + 1)) ∧ (0 < dd → sk 0 + 1 = ps (sk 0)) ∧
  (∀ k, k < dd → sk k < nn) ∧ (∀ i, i < nn → tc_nd sy ps i)
def tc_V (S : tc_S) (K : Nat) (sy ps : Nat → Nat) : Nat → Nat → Nat → Nat
  | 0 => fun _ _ => 0
  | n + 1 => fun m => if m = n then tc_row S K (sy n) (tc_V S K sy ps n (n - 1 - ps (n - 1))) (tc_V S K sy ps n (n - 1)) else tc_V S K sy ps n m
def tc_v (S : tc_S) (K : Nat) (sy ps : Nat → Nat) (m : Nat) : Nat → Nat := tc_V S K sy ps (m + 1) m
theorem tc_V_v {S : tc_S} {K : Nat} {sy ps : Nat → Nat} {m : Nat} : ∀ n, m < n → tc_V S K sy ps n m = tc_v S K sy ps m := by
  intro n
  induction n with
  | zero => intro h; omega
  | succ n ih =>
    intro h
    by_cases e : m = n
    · rw [e]
      rfl
    · have e2 : tc_V S K sy ps (n + 1) m = tc_V S K sy ps n m := if_neg e
      rw [e2]
      exact ih (by omega)
theorem tc_v_eq {S : tc_S} {K : Nat} {sy ps : Nat → Nat} {m : Nat} (h1 : 2 ≤ sy m → 1 ≤ m) :
    tc_v S K sy ps m = tc_row S K (sy m) (tc_v S K sy ps (m - 1 - ps (m - 1))) (tc_v S K sy ps (m - 1)) := by
  have e : tc_v S K sy ps m = tc_row S K (sy m) (tc_V S K sy ps m (m - 1 - ps (m - 1))) (tc_V S K sy ps m (m - 1)) := if_pos rfl
  rw [e]
  exact tc_row_congr (fun h => tc_V_v m (by have := h1 h; omega)) (fun h => tc_V_v m (by have := h1 (by omega); omega))
/-- a tree's node -/
def tc_tn (sy ps : Nat → Nat) (N : Nat) : Prop := ∀ i, i < N → sy i < 6 ∧ tc_nd sy ps i
theorem tc_v_B {S : tc_S} (ok : tc_ok S) {K N : Nat} {sy ps : Nat → Nat} (hn : tc_tn sy ps N) : ∀ m, m < N → ∀ e, e < tc_E S → tc_v S K sy ps m e = K ∨ tc_v S K sy ps m e ≤ 36 * ps m := by
  intro m
  induction m using Nat.strongRecOn with
  | ind m ih =>
    intro hm e he
    obtain ⟨h6, n1, n2, n3, n4, n5, n6, n7⟩ := hn m hm
    rw [tc_v_eq (fun h => n3 h h6)]
    have hB := tc_row_B ok (K := K) (o := sy m) (x := tc_v S K sy ps (m - 1 - ps (m - 1))) (y := tc_v S K sy ps (m - 1)) (Mx := 36 * ps (m - 1 - ps (m - 1))) (My := 36 * ps (m - 1))
      (fun h => ih (m - 1) (by have := n3 h h6; omega) (by omega)) (fun h => ih (m - 1 - ps (m - 1)) (by have := n3 (by omega) h6; omega) (by omega)) 4
    have h := tc_B_36 hB he
    have e2 : tc_M (sy m) (36 * ps (m - 1 - ps (m - 1))) (36 * ps (m - 1)) + 36 ≤ 36 * ps m := by
      unfold tc_M
      split
      · omega
      · split
        · have := n6 (by omega) (by omega)
          omega
        · have := n7 (by omega) h6
          omega
    rcases h with h | h
    · exact Or.inl h
    · right
      exact Nat.le_trans h e2
theorem tc_v_q {S : tc_S} (ok : tc_ok S) {K1 K2 N : Nat} {sy ps : Nat → Nat} (hn : tc_tn sy ps N) (hN : N ≤ 24) (h1 : 1000 ≤ K1) (h2 : 1000 ≤ K2) :
    ∀ m, m < N → ∀ e, e < tc_E S → tc_q K1 K2 (tc_v S K1 sy ps m e) (tc_v S K2 sy ps m e) := by
  intro m
  induction m using Nat.strongRecOn with
  | ind m ih =>
    intro hm e he
    obtain ⟨h6, n1, n2, n3, n4, n5, n6, n7⟩ := hn m hm
    rw [tc_v_eq (fun h => n3 h h6), tc_v_eq (fun h => n3 h h6)]
    have e2 : 36 * (if 4 ≤ sy m then ps (m - 1 - ps (m - 1)) else 0) + 36 * (if 2 ≤ sy m then ps (m - 1) else 0) + 36 ≤ 36 * ps m := by
      by_cases h4 : 4 ≤ sy m
      · have := n7 h4 h6
        rw [if_pos h4, if_pos (by omega)]
        omega
      · by_cases h2' : 2 ≤ sy m
        · have := n6 h2' (by omega)
          rw [if_neg h4, if_pos h2']
          omega
        · rw [if_neg h4, if_neg h2']
          omega
    exact tc_row_q ok (Mx := 36 * (if 4 ≤ sy m then ps (m - 1 - ps (m - 1)) else 0)) (My := 36 * (if 2 ≤ sy m then ps (m - 1) else 0)) (by omega) (by omega)
      (fun h => by rw [if_pos h]; exact tc_v_B ok hn (m - 1) (by omega))
      (fun h => by rw [if_pos h]; exact tc_v_B ok hn (m - 1 - ps (m - 1)) (by omega))
      (fun h => ih (m - 1) (by have := n3 h h6; omega) (by omega)) (fun h => ih (m - 1 - ps (m - 1)) (by have := n3 (by omega) h6; omega) (by omega)) 4 e he
theorem tc_v_le {S : tc_S} {K : Nat} {sy ps : Nat → Nat} {m : Nat} (h1 : 2 ≤ sy m → 1 ≤ m) (e : Nat) : tc_v S K sy ps m e ≤ K := by
  rw [tc_v_eq h1]
  exact tc_row_le e 4
/-! the rules that begin a least cover, and the sums over them -/
abbrev tc_bs (S : tc_S) (K : Nat) (t : Nat → Nat) (r : Nat) : Prop := t (tc_lf S r) ≠ K ∧ t (tc_lf S r) = tc_co S r + t (tc_rt S r)
theorem tc_bs_L {S : tc_S} (ok : tc_ok S) {K r : Nat} {t : Nat → Nat} (hr : r < tc_R S) (hc : tc_rt S r < 4) (b : tc_bs S K t r) : tc_L t (tc_rt S r) < tc_L t (tc_lf S r) := by
  have h1 := (tc_ok_r ok hr).2.2.2 hc
  have h2 := b.2
  exact tc_L_lt hc (fun j _ h => by omega) (by omega)
def tc_ws (S : tc_S) (K : Nat) (t : Nat → Nat) (w : Nat → Int32) (g : Nat) : Nat → Int32
  | 0 => 0
  | k + 1 => if tc_lf S k = g ∧ tc_bs S K t k then tc_ws S K t w g k + w (tc_rt S k) else tc_ws S K t w g k
theorem tc_ws_congr {S : tc_S} {K g : Nat} {t : Nat → Nat} {w w' : Nat → Int32} (h : ∀ r, r < tc_R S → tc_lf S r = g → tc_bs S K t r → w (tc_rt S r) = w' (tc_rt S r)) :
    ∀ k, k ≤ tc_R S → tc_ws S K t w g k = tc_ws S K t w' g k := by
  intro k
  induction k with
  | zero => intro _; rfl
  | succ k ih =>
    intro hk
    unfold tc_ws
    rw [ih (by omega)]
    by_cases c : tc_lf S k = g ∧ tc_bs S K t k
    · rw [if_pos c, if_pos c, h k (by omega) c.1 c.2]
    · rw [if_neg c, if_neg c]
def tc_wf (S : tc_S) (K : Nat) (t : Nat → Nat) (wo : Nat → Int32) : Nat → Nat → Int32
  | 0 => fun e => if e < 4 then 0 else wo e
  | k + 1 => fun e => if e < 4 then tc_ws S K t (tc_wf S K t wo k) e (tc_R S) else wo e
theorem tc_wf_ge {S : tc_S} {K : Nat} {t : Nat → Nat} {wo : Nat → Int32} {e : Nat} (he : 4 ≤ e) : ∀ k, tc_wf S K t wo k e = wo e := by
  intro k
  cases k with
  | zero => exact if_neg (by omega)
  | succ k => exact if_neg (by omega)
theorem tc_wf_s {S : tc_S} {K : Nat} {t : Nat → Nat} {wo : Nat → Int32} {g : Nat} (hg : g < 4) (k : Nat) : tc_wf S K t wo (k + 1) g = tc_ws S K t (tc_wf S K t wo k) g (tc_R S) := if_pos hg
theorem tc_wf_up {S : tc_S} (ok : tc_ok S) {K : Nat} {t : Nat → Nat} {wo : Nat → Int32} : ∀ k g, g < 4 → tc_L t g < k → tc_wf S K t wo k g = tc_wf S K t wo (k + 1) g := by
  intro k
  induction k with
  | zero => intro g _ h; omega
  | succ k ih =>
    intro g hg h
    rw [tc_wf_s hg, tc_wf_s hg]
    refine tc_ws_congr (fun r hr hl hb => ?_) (tc_R S) (Nat.le_refl _)
    by_cases hc : tc_rt S r < 4
    · have := tc_bs_L ok hr hc hb
      rw [hl] at this
      exact ih _ hc (by omega)
    · rw [tc_wf_ge (by omega), tc_wf_ge (by omega)]
theorem tc_wf_fix {S : tc_S} (ok : tc_ok S) {K : Nat} {t : Nat → Nat} {wo : Nat → Int32} {g : Nat} (hg : g < 4) : tc_ws S K t (tc_wf S K t wo 4) g (tc_R S) = tc_wf S K t wo 4 g := by
  rw [tc_wf_s hg 3]
  refine tc_ws_congr (fun r hr hl hb => ?_) (tc_R S) (Nat.le_refl _)
  by_cases hc : tc_rt S r < 4
  · have h1 := tc_bs_L ok hr hc hb
    have h2 := tc_L_le3 (t := t) hg
    rw [hl] at h1
    exact (tc_wf_up ok 3 _ hc (by omega)).symm
  · rw [tc_wf_ge (by omega), tc_wf_ge (by omega)]
theorem tc_wf_settle {S : tc_S} (ok : tc_ok S) {K k g : Nat} {t : Nat → Nat} {wo w : Nat → Int32} (hw : ∀ e, 4 ≤ e → e < tc_E S → w e = wo e)
    (P : ∀ h, h < 4 → tc_L t h < k → w h = tc_wf S K t wo 4 h) (hg : g < 4) (hk : tc_L t g ≤ k) : tc_ws S K t w g (tc_R S) = tc_wf S K t wo 4 g := by
  rw [← tc_wf_fix ok hg]
  refine tc_ws_congr (fun r hr hl hb => ?_) (tc_R S) (Nat.le_refl _)
  by_cases hc : tc_rt S r < 4
  · have h1 := tc_bs_L ok hr hc hb
    rw [hl] at h1
    exact P _ hc (by omega)
  · rw [tc_wf_ge (by omega)]
    exact hw _ (by omega) (tc_ok_r ok hr).2.2.1
theorem tc_ws_none {S : tc_S} {K g : Nat} {t : Nat → Nat} {w : Nat → Int32} (h : t g = K) : ∀ k, tc_ws S K t w g k = 0 := by
  intro k
  induction k with
  | zero => rfl
  | succ k ih =>
    unfold tc_ws
    rw [if_neg (fun c => c.2.1 (by rw [c.1]; exact h))]
    exact ih
/-! ways of a node -/
def tc_wo (S : tc_S) (K : Nat) (t : Nat → Nat) (o : Nat) (x y : Nat → Int32) (e : Nat) : Int32 :=
  if t e = K then 0 else if o < 2 then 1 else if o < 4 then y (tc_el S e) else x (tc_ef S e) * y (tc_el S e)
def tc_wr (S : tc_S) (K : Nat) (t : Nat → Nat) (o : Nat) (x y : Nat → Int32) : Nat → Int32 := tc_wf S K t (tc_wo S K t o x y) 4
def tc_W (S : tc_S) (K : Nat) (sy ps : Nat → Nat) : Nat → Nat → Nat → Int32
  | 0 => fun _ _ => 0
  | n + 1 => fun m => if m = n then tc_wr S K (tc_v S K sy ps n) (sy n) (tc_W S K sy ps n (n - 1 - ps (n - 1))) (tc_W S K sy ps n (n - 1)) else tc_W S K sy ps n m
def tc_w (S : tc_S) (K : Nat) (sy ps : Nat → Nat) (m : Nat) : Nat → Int32 := tc_W S K sy ps (m + 1) m
theorem tc_W_w {S : tc_S} {K : Nat} {sy ps : Nat → Nat} {m : Nat} : ∀ n, m < n → tc_W S K sy ps n m = tc_w S K sy ps m := by
  intro n
  induction n with
  | zero => intro h; omega
  | succ n ih =>
    intro h
    by_cases e : m = n
    · rw [e]
      rfl
    · have e2 : tc_W S K sy ps (n + 1) m = tc_W S K sy ps n m := if_neg e
      rw [e2]
      exact ih (by omega)
theorem tc_wo_congr {S : tc_S} {K o : Nat} {t : Nat → Nat} {x y x' y' : Nat → Int32} (hy : 2 ≤ o → y = y') (hx : 4 ≤ o → x = x') : tc_wo S K t o x y = tc_wo S K t o x' y' := by
  funext e
  unfold tc_wo
  by_cases h4 : 4 ≤ o
  · rw [hx h4, hy (by omega)]
  · by_cases h2 : 2 ≤ o
    · rw [hy h2, if_neg (show ¬ o < 2 by omega), if_pos (show o < 4 by omega), if_neg (show ¬ o < 2 by omega), if_pos (show o < 4 by omega)]
    · rw [if_pos (show o < 2 by omega), if_pos (show o < 2 by omega)]
theorem tc_w_eq {S : tc_S} {K : Nat} {sy ps : Nat → Nat} {m : Nat} (h1 : 2 ≤ sy m → 1 ≤ m) :
    tc_w S K sy ps m = tc_wr S K (tc_v S K sy ps m) (sy m) (tc_w S K sy ps (m - 1 - ps (m - 1))) (tc_w S K sy ps (m - 1)) := by
  have e : tc_w S K sy ps m = tc_wr S K (tc_v S K sy ps m) (sy m) (tc_W S K sy ps m (m - 1 - ps (m - 1))) (tc_W S K sy ps m (m - 1)) := if_pos rfl
  rw [e]
  unfold tc_wr
  rw [tc_wo_congr (fun h => tc_W_w m (by have := h1 h; omega)) (fun h => tc_W_w m (by have := h1 (by omega); omega))]
theorem tc_w_0 {S : tc_S} {K : Nat} {sy ps : Nat → Nat} {m e : Nat} (h1 : 2 ≤ sy m → 1 ≤ m) (h : tc_v S K sy ps m e = K) : tc_w S K sy ps m e = 0 := by
  rw [tc_w_eq h1]
  unfold tc_wr
  by_cases c : e < 4
  · rw [tc_wf_s c 3]
    exact tc_ws_none h _
  · rw [tc_wf_ge (by omega)]
    exact if_pos h
/-- an operator entry that covers has the tree's operator, and its parts cover -/
theorem tc_v_op {S : tc_S} (ok : tc_ok S) {K e : Nat} {sy ps : Nat → Nat} {m : Nat} (h1 : 2 ≤ sy m → 1 ≤ m) (he : 4 ≤ e) (h : tc_v S K sy ps m e ≠ K) :
    tc_eo S e = sy m ∧ (2 ≤ sy m → tc_v S K sy ps (m - 1) (tc_el S e) < K) ∧ (4 ≤ sy m → tc_v S K sy ps (m - 1 - ps (m - 1)) (tc_ef S e) < K) := by
  rw [tc_v_eq h1, tc_row_ge ok he] at h
  unfold tc_op at h
  by_cases eo : tc_eo S e = sy m
  · rw [if_pos eo] at h
    refine ⟨eo, fun h2 => ?_, fun h4 => ?_⟩
    · rw [if_neg (show ¬ sy m < 2 by omega)] at h
      by_cases h4 : sy m < 4
      · rw [if_pos h4] at h
        omega
      · rw [if_neg h4] at h
        omega
    · rw [if_neg (show ¬ sy m < 2 by omega), if_neg (show ¬ sy m < 4 by omega)] at h
      omega
  · rw [if_neg eo] at h
    exact absurd rfl h
theorem tc_ws_q {S : tc_S} (ok : tc_ok S) {K1 K2 g : Nat} {t1 t2 : Nat → Nat} {w1 w2 : Nat → Int32} (q : ∀ e, e < tc_E S → tc_q K1 K2 (t1 e) (t2 e)) (hw : ∀ e, e < tc_E S → w1 e = w2 e) :
    ∀ k, k ≤ tc_R S → tc_ws S K1 t1 w1 g k = tc_ws S K2 t2 w2 g k := by
  intro k
  induction k with
  | zero => intro _; rfl
  | succ k ih =>
    intro hk
    obtain ⟨a, b, c, d⟩ := tc_ok_r ok (show k < tc_R S by omega)
    have q1 := q (tc_lf S k) (by have := tc_ok_E ok; omega)
    have q2 := q (tc_rt S k) c
    unfold tc_ws
    rw [ih (by omega), hw _ c]
    have e : (tc_lf S k = g ∧ tc_bs S K1 t1 k) ↔ (tc_lf S k = g ∧ tc_bs S K2 t2 k) := by
      unfold tc_q at q1 q2
      constructor
      · intro ⟨h1, h2, h3⟩
        exact ⟨h1, by omega, by omega⟩
      · intro ⟨h1, h2, h3⟩
        exact ⟨h1, by omega, by omega⟩
    by_cases z : tc_lf S k = g ∧ tc_bs S K1 t1 k
    · rw [if_pos z, if_pos (e.mp z)]
    · rw [if_neg z, if_neg (fun y => z (e.mpr y))]
theorem tc_wf_q {S : tc_S} (ok : tc_ok S) {K1 K2 : Nat} {t1 t2 : Nat → Nat} {w1 w2 : Nat → Int32} (q : ∀ e, e < tc_E S → tc_q K1 K2 (t1 e) (t2 e)) (hw : ∀ e, 4 ≤ e → e < tc_E S → w1 e = w2 e) :
    ∀ k e, e < tc_E S → tc_wf S K1 t1 w1 k e = tc_wf S K2 t2 w2 k e := by
  intro k
  induction k with
  | zero =>
    intro e he
    by_cases c : e < 4
    · have e1 : tc_wf S K1 t1 w1 0 e = 0 := if_pos c
      have e2 : tc_wf S K2 t2 w2 0 e = 0 := if_pos c
      rw [e1, e2]
    · rw [tc_wf_ge (by omega), tc_wf_ge (by omega)]
      exact hw e (by omega) he
  | succ k ih =>
    intro e he
    by_cases c : e < 4
    · rw [tc_wf_s c, tc_wf_s c]
      exact tc_ws_q ok q ih _ (Nat.le_refl _)
    · rw [tc_wf_ge (by omega), tc_wf_ge (by omega)]
      exact hw e (by omega) he
theorem tc_w_q {S : tc_S} (ok : tc_ok S) {K1 K2 N : Nat} {sy ps : Nat → Nat} (hn : tc_tn sy ps N) (hN : N ≤ 24) (h1 : 1000 ≤ K1) (h2 : 1000 ≤ K2) :
    ∀ m, m < N → ∀ e, e < tc_E S → tc_w S K1 sy ps m e = tc_w S K2 sy ps m e := by
  intro m
  induction m using Nat.strongRecOn with
  | ind m ih =>
    intro hm e he
    obtain ⟨h6, n1, n2, n3, n4, n5, n6, n7⟩ := hn m hm
    rw [tc_w_eq (fun h => n3 h h6), tc_w_eq (fun h => n3 h h6)]
    refine tc_wf_q ok (tc_v_q ok hn hN h1 h2 m hm) (fun e he hE => ?_) 4 e he
    have q := tc_v_q ok hn hN h1 h2 m hm e hE
    unfold tc_wo
    by_cases z : tc_v S K1 sy ps m e = K1
    · have z2 : tc_v S K2 sy ps m e = K2 := by
        unfold tc_q at q
        omega
      rw [if_pos z, if_pos z2]
    · have z2 : tc_v S K2 sy ps m e ≠ K2 := by
        unfold tc_q at q
        omega
      obtain ⟨eo, _, _⟩ := tc_v_op ok (fun h => n3 h h6) he z
      have hk := ok.2.2.2 e he hE
      rw [if_neg z, if_neg z2]
      by_cases c2 : sy m < 2
      · rw [if_pos c2, if_pos c2]
      · rw [if_neg c2, if_neg c2, ih (m - 1) (by have := n3 (by omega) h6; omega) (by omega) (tc_el S e) (by omega)]
        by_cases c4 : sy m < 4
        · rw [if_pos c4, if_pos c4]
        · rw [if_neg c4, if_neg c4, ih (m - 1 - ps (m - 1)) (by have := n3 (by omega) h6; omega) (by omega) (tc_ef S e) (by omega)]
