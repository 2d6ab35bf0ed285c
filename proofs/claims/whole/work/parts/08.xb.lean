theorem mx_has_t {post : Int32 → Prop} {c i : Nat} (hc : c < 2 ^ 31) (hi : i < 32) (h : c.testBit i = true) (hp : post 1) : wpX_has post (nI c) (nI i) := by
  unfold wpX_has
  exact br_t (ma_hb_t hc hi h) hp
theorem mx_has_f {post : Int32 → Prop} {c i : Nat} (hc : c < 2 ^ 31) (hi : i < 32) (h : c.testBit i = false) (hp : post 0) : wpX_has post (nI c) (nI i) := by
  unfold wpX_has
  exact br_f (by rw [ma_hb_f hc hi h]; decide) hp
theorem mx_isNum_t {post : Int32 → Prop} {n i : Nat} {x : Int32} {ag ab ac ap : Nat → Int32} (hn : n ≤ 26) (hi : i < n) (hx : x = nI i) (hp : post 1) : wpX_isNumber post (nI n, ag, ab, ac, ap) x := by
  subst hx
  unfold wpX_isNumber
  exact br_f (nI_pos (by omega)) (br_f (nI_ge hi (by omega)) hp)
theorem mx_isNum_f {post : Int32 → Prop} {n : Nat} {x : Int32} {ag ab ac ap : Nat → Int32} (hn : n ≤ 26) (hx : ∀ i, i < n → x ≠ nI i) (hp : post 0) : wpX_isNumber post (nI n, ag, ab, ac, ap) x := by
  unfold wpX_isNumber
  refine br_c (fun _ => hp) (fun h => br_c (fun _ => hp) (fun h2 => ?_))
  obtain ⟨j, hj, rfl⟩ := nI_of h
  refine absurd rfl (hx j ?_)
  apply Classical.byContradiction
  intro w
  exact h2 (nI_le (by omega) hj)
theorem mx_isNum_m {post : Int32 → Prop} {n : Nat} {x : Int32} {ag ab ac ap : Nat → Int32} (hn : n ≤ 26) (hx : x = -1) (hp : post 0) : wpX_isNumber post (nI n, ag, ab, ac, ap) x :=
  mx_isNum_f hn (fun i hi e => ma_nm1 (m := i) (by omega) (e.symm.trans hx)) hp
theorem ma_pm (x : Int32) : x + (-1) = x - 1 := (Int32.sub_eq_add_neg x 1).symm
theorem mx_wb_l {post : Int32 → Prop} {b d e : Nat → Nat} {n K c : Nat} {ag ab ac ap : Nat → Int32} (hn : n ≤ 26) (hF : ma_Fr b d n) (hJ : ma_J b d e n) (hc : ma_arr ac e n) (hP : ∀ i, i < n → ma_P e n i (ap i)) (hp : ∀ r, ma_Red e d n K c r → r < 2 ^ n → post (nI r)) : ∀ i r, i ≤ n → r < 2 ^ n → ma_Sp (ma_fk e d K) n (r ^^^ c) → (∀ a, r.testBit a = true → d a + 1 = K) → (∀ m a, m < n → ma_T (e m) a → i ≤ a → r.testBit a = false) → wX_withoutBorders_9 post (nI n) ag ab ac ap (i + 1) (nI r) (nI i - 1) := by
  intro i
  induction i with
  | zero =>
    intro r _ hr hS _ hz
    exact br_t (by decide) (hp r ⟨hS, fun m a hm hT => hz m a hm hT (Nat.zero_le a)⟩ hr)
  | succ i ih =>
    intro r hi hr hS hh hz
    rw [nI_pred]
    have hr31 : r < 2 ^ 31 := Nat.lt_of_lt_of_le hr (ma_pl (by omega))
    refine br_f (nI_pos (by omega)) ⟨vp_in_nI (by omega) (by decide), ?_⟩
    refine nm_r (e' := ap i) (by rw [nI_clamp (by omega)]) ?_
    have next : (∀ m, m < n → ma_T (e m) i → r.testBit i = false) → wX_withoutBorders_9 post (nI n) ag ab ac ap (i + 1) (nI r) (nI i - 1) := fun w =>
      ih r (by omega) hr hS hh (fun m a hm hT ha => by
        by_cases q : a = i
        · subst q; exact w m hm hT
        · exact hz m a hm hT (by omega))
    cases hb : r.testBit i
    · exact mx_has_f hr31 (by omega) hb (br_t rfl (nm_r (ma_pm _) (next (fun _ _ _ => hb))))
    · refine mx_has_t hr31 (by omega) hb (br_f (by decide) ?_)
      rcases hP i (by omega) with ⟨a, h1, h2, h3⟩ | ⟨j, h1, h2, h3, h4, h5⟩ | ⟨h1, h2, h3⟩
      · refine mx_isNum_t hn (i := a) (by omega) h3 (br_f (by decide) (br_t ?_ (nm_r (ma_pm _) (next (fun m hm hT => ?_)))))
        · rw [h3]; exact nI_le (by omega) (by omega)
        · exact absurd (hJ.2.2 m i hm hT) (ma_T_ne h2)
      · refine mx_isNum_t hn (i := j) (by omega) h5 (br_f (by decide) (br_f ?_ ⟨?_, nm_r (e' := nI (r ^^^ e j)) ?_ (nm_r (ma_pm _) ?_)⟩))
        · rw [h5]; exact nI_ge (by omega) (by omega)
        · rw [h5]; exact vp_in_nI (by omega) (by decide)
        · rw [h5, ma_arr_c hc h2 hn, nx_xor]
        · have hK : d j = K := by
            have q1 := ma_J_hom hF hJ h2 i h4.1
            have q2 := hh i hb
            omega
          have hj := hJ.1 j h2
          refine ih (r ^^^ e j) (by omega) (Nat.xor_lt_two_pow hr (Nat.lt_of_lt_of_le hj.1 (ma_pl (by omega)))) ?_ (fun a ha => ?_) (fun m a hm hT ha => ?_)
          · rw [ma_x1]
            have q := ma_Sp_g (f := ma_fk e d K) h2
            rw [ma_fk_t hK] at q
            exact ma_Sp_x hS q
          · cases hra : r.testBit a
            · rw [Nat.testBit_xor, hra, Bool.false_xor] at ha
              rw [← hK]
              exact ma_J_hom hF hJ h2 a ha
            · exact hh a hra
          · rw [Nat.testBit_xor]
            by_cases q : a = i
            · subst q
              rw [hb, h4.1]
              rfl
            · rw [hz m a hm hT (by omega), ma_bf h4.2 (by omega)]
              rfl
      · exact mx_isNum_m hn h3 (br_t rfl (nm_r (ma_pm _) (next (fun m hm hT => absurd hT (h2 m hm)))))
theorem mx_wb {post : Int32 → Prop} {b d e : Nat → Nat} {n K c : Nat} {x : Int32} {ag ab ac ap : Nat → Int32} (hn : n ≤ 26) (hF : ma_Fr b d n) (hJ : ma_J b d e n) (hc : ma_arr ac e n) (hP : ∀ i, i < n → ma_P e n i (ap i)) (hx : x = nI c) (hcl : c < 2 ^ n) (hh : ∀ a, c.testBit a = true → d a + 1 = K) (hp : ∀ r, ma_Red e d n K c r → r < 2 ^ n → post (nI r)) : wpX_withoutBorders post (nI n, ag, ab, ac, ap) x := by
  subst hx
  unfold wpX_withoutBorders
  refine nm_e ⟨n + 1, mx_wb_l hn hF hJ hc hP hp n c (Nat.le_refl n) hcl ?_ hh (fun m a hm hT ha => ?_)⟩
  · rw [Nat.xor_self]; exact ma_Sp_0 _ _
  · exact ma_bf hcl ha
theorem ma_low {r i : Nat} (h : r < 2 ^ (i + 1)) (hb : r.testBit i = false) : r < 2 ^ i :=
  Nat.lt_pow_two_of_testBit _ (fun p hp => by
    by_cases q : p = i
    · rw [q]; exact hb
    · exact ma_bf h (by omega))
theorem mx_last_l {post : Int32 → Prop} {r : Nat} (h1 : ∀ a, ma_T r a → post (nI a)) (h0 : r = 0 → post (-1)) : ∀ i, i ≤ 26 → r < 2 ^ i → wX_lastOf_3 post (nI r) (i + 1) (nI i - 1) := by
  intro i
  induction i with
  | zero =>
    intro _ hr
    exact br_t (by decide) (h0 (by omega))
  | succ i ih =>
    intro hi hr
    rw [nI_pred]
    have hr31 : r < 2 ^ 31 := Nat.lt_of_lt_of_le hr (ma_pl (by omega))
    refine br_f (nI_pos (by omega)) ?_
    cases hb : r.testBit i
    · exact mx_has_f hr31 (by omega) hb (br_t rfl (nm_r (ma_pm _) (ih (by omega) (ma_low hr hb))))
    · exact mx_has_t hr31 (by omega) hb (br_f (by decide) (h1 i ⟨hb, hr⟩))
theorem mx_last {post : Int32 → Prop} {r : Nat} (hr : r < 2 ^ 26) (h1 : ∀ a, ma_T r a → post (nI a)) (h0 : r = 0 → post (-1)) : wpX_lastOf post (nI r) := by
  unfold wpX_lastOf
  exact ⟨27, mx_last_l h1 h0 26 (Nat.le_refl 26) hr⟩
/-- the component's arrays hold the growth g, its closed cycles e -/
def ma_XA (g e : Nat → Nat) (n : Nat) (ag ab ac ap : Nat → Int32) : Prop := ma_J (ma_bd g) (ma_d g) e n ∧ ma_arr ag g n ∧ ma_arr ab (ma_bd g) n ∧ ma_arr ac e n ∧ ∀ i, i < n → ma_P e n i (ap i)
theorem mx_append {post : SX → Prop} {g e : Nat → Nat} {n s : Nat} {ag ab ac ap : Nat → Int32} (hn : n < 26) (hG : ma_G g n) (hs : s < 64) (hall : ∀ r, ma_sd r s = true → ∃ j, j < n ∧ g j = r) (hG' : ma_G (ma_put g n s) (n + 1)) (hX : ma_XA g e n ag ab ac ap) (hp : ∀ e' ag' ab' ac' ap', ma_XA (ma_put g n s) e' (n + 1) ag' ab' ac' ap' → post (nI (n + 1), ag', ab', ac', ap')) : wpX_append post (nI n, ag, ab, ac, ap) (nI s) := by
  obtain ⟨hJ, hg, hb, hc, hP⟩ := hX
  have hF' := ma_G_Fr hG'
  have hJ' : ma_J (ma_bd (ma_put g n s)) (ma_d (ma_put g n s)) e n := ma_J_congr (fun i hi => (ma_bd_put hi).symm) (fun i hi => by
    unfold ma_d
    rw [ma_put_n (by omega)]) (fun _ _ => rfl) hJ
  have hFn : ma_Fr (ma_bd (ma_put g n s)) (ma_d (ma_put g n s)) n := fun i hi => hF' i (by omega)
  have hcl : ∀ x : Nat → Int32, ∀ y : Int32, upd x (nI n).toNatClampNeg y = upd x n y := fun x y => by rw [nI_clamp (by omega)]
  have hv : vp_in (nI n) 26 := vp_in_nI hn (by decide)
  unfold wpX_append
  refine ⟨hv, nm_r (hcl _ _) (mx_sides (by omega) hG (ma_arr_up hg) hs (fun _ => ⟨hv, nm_r (hcl _ _) ⟨hv, ?_⟩⟩) (fun ⟨r, h1, h2⟩ => ?_))⟩
  · refine mx_wb (c := ma_bd (ma_put g n s) n) (K := ma_d (ma_put g n s) n) (by omega) hFn hJ' hc hP (by rw [nI_clamp (by omega), pk_us, ma_bd_new]) (hF' n (by omega)).1 (hF' n (by omega)).2.1 (fun r hr hr2 => ?_)
    have hJn := ma_J_app hJ' hF' hr
    have hab : ma_arr (upd ab n (nI (ma_of (fun j => ma_sd (g j) s) n))) (ma_bd (ma_put g n s)) (n + 1) := by
      intro i hi
      by_cases q : i = n
      · rw [q, pk_us, ma_bd_new]
      · rw [pk_un q, ma_bd_put (by omega)]
        exact hb i (by omega)
    refine mx_last (Nat.lt_of_lt_of_le hr2 (ma_pl (by omega))) (fun a hT => ⟨hv, nm_r (hcl _ _) ⟨hv, nm_r (hcl _ _) ?_⟩⟩) (fun h0 => ⟨hv, nm_r (hcl _ _) ⟨hv, nm_r (hcl _ _) ?_⟩⟩)
    · have han : a < n := ma_T_lt hT hr2
      refine mx_isNum_t (by omega) han rfl (br_f (by decide) ⟨vp_in_nI (by omega) (by decide), nm_r (e' := upd (upd ap n (nI a)) a (nI n)) (by rw [nI_clamp (by omega)]) (nm_r (nI_1 n) (hp (ma_put e n r) _ _ _ _ ⟨hJn, ma_arr_put hg, hab, ma_arr_put hc, ma_P_app1 hJn hT hP⟩))⟩)
    · subst h0
      exact mx_isNum_m (by omega) rfl (br_t rfl (nm_r (nI_1 n) (hp (ma_put e n 0) _ _ _ _ ⟨hJn, ma_arr_put hg, hab, ma_arr_put hc, ma_P_app0 hJ' hP⟩)))
  · obtain ⟨j, hj, e'⟩ := hall r h1
    exact absurd e' (h2 j hj)
