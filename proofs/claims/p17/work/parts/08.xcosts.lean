/-! X's arrays hold the ghosts -/
def tc_xr (S : tc_S) (rc ec : Int32) (rl ro re rs eo ef el : Nat → Int32) : Prop :=
  rc = nI (tc_R S) ∧ ec = nI (tc_E S) ∧ (∀ r, r < tc_R S → rl r = nI (tc_lf S r) ∧ ro r = nI (tc_co S r) ∧ re r = nI (tc_rt S r) ∧ rs r = nI (tc_sr S r)) ∧
  (∀ e, 4 ≤ e → e < tc_E S → eo e = nI (tc_eo S e) ∧ (2 ≤ tc_eo S e → el e = nI (tc_el S e)) ∧ (4 ≤ tc_eo S e → ef e = nI (tc_ef S e)))
/-- a row of a table -/
def tc_tr (a : Nat → Int32) (b E : Nat) (t : Nat → Nat) : Prop := ∀ e, e < E → a (b + e) = nI (t e)
/-- nothing but the row at b has changed -/
def tc_fr (a a' : Nat → Int32) (b : Nat) : Prop := ∀ j, (j < b ∨ b + 74 ≤ j) → a' j = a j
theorem tc_fr_refl (a : Nat → Int32) (b : Nat) : tc_fr a a b := fun _ _ => rfl
theorem tc_fr_trans {a a' a'' : Nat → Int32} {b : Nat} (h : tc_fr a a' b) (h' : tc_fr a' a'' b) : tc_fr a a'' b := fun j hj => (h' j hj).trans (h j hj)
theorem tc_fr_upd {a : Nat → Int32} {b e : Nat} {x : Int32} (he : e < 74) : tc_fr a (upd a (b + e) x) b := fun j hj => pk_un (by omega)
theorem tc_tr_upd {a : Nat → Int32} {b E e : Nat} {t : Nat → Nat} {x : Nat} (h : tc_tr a b E t) : tc_tr (upd a (b + e) (nI x)) b E (tc_un t e x) := fun j hj => by
  by_cases c : j = e
  · rw [c, pk_us, tc_us]
  · rw [pk_un (by omega), tc_ne c]
    exact h j hj
theorem tc_rd_le {S : tc_S} {t : Nat → Nat} {k : Nat} (hk : k ≤ tc_R S) (e : Nat) : tc_rd S t k e ≤ t e :=
  tc_rd_ind (fun _ u => u e ≤ t e) (Nat.le_refl _) (fun _ _ u hu => Nat.le_trans (tc_st_le e) hu) k hk
theorem tc_st_un {S : tc_S} {t : Nat → Nat} {r : Nat} (h : tc_co S r + t (tc_rt S r) < t (tc_lf S r)) : tc_un t (tc_lf S r) (tc_co S r + t (tc_rt S r)) = tc_st S t r := by
  funext j
  by_cases c : j = tc_lf S r
  · rw [c, tc_us, tc_st_yes h]
  · rw [tc_ne c, tc_st_ne c]
theorem xm_parts {post : Int32 → Prop} {o : Nat} (ho : o < 2 ^ 31) (h : post (nI (tc_ar o))) : wpX_partsOf post (nI o) := by
  refine pk_lt o 4 (fun h4 => pk_lt o 2 (fun h2 => ?_) (fun h2 => ?_)) (fun h4 => ?_)
  · rw [tc_ar0 h2] at h
    exact h
  · rw [tc_ar1 h2 h4] at h
    exact h
  · rw [tc_ar2 h4] at h
    exact h
theorem tc_subeq {a b c d : Nat} (ha : a < 2 ^ 30) (hb : b < 2 ^ 30) (hc : c < 2 ^ 30) (hd : d < 2 ^ 30) : nI a - nI b = nI c - nI d ↔ a + d = c + b := by
  rw [← Int32.toInt_inj, pk_sub_toInt ha hb, pk_sub_toInt hc hd]
  omega
theorem tc_lw_s {K : Nat} {t : Nat → Nat} (e : Nat) : tc_lw K t (e + 1) = min (tc_lw K t e) (t e) := rfl
/-- the condition at one entry -/
def tc_sc (K E : Nat) (t u : Nat → Nat) (e : Nat) : Prop := (t e = K ↔ u e = K) ∧ (t e ≠ K → t e + tc_lw K u E = u e + tc_lw K t E)
