theorem ma_arr_le {a : Nat → Int32} {g : Nat → Nat} {n m : Nat} (h : ma_arr a g n) (hm : m ≤ n) : ma_arr a g m := fun i hi => h i (by omega)
theorem ma_eu_0 (g : Nat → Nat) : ma_eu g 0 = 0 := by
  unfold ma_eu
  rw [ma_cp_0, ma_cp_0, ma_cp_0, ma_cp_0]
  decide
/-- both hold the growth g of n pieces; the reference's column is free -/
def i_Rel (k : Nat) (u : SX) (v : SY) : Prop := ∃ (n : Nat) (g e : Nat → Nat) (ag ab ac ap ay cy : Nat → Int32), n ≤ 26 ∧ ma_G g n ∧ ma_XA g e n ag ab ac ap ∧ ma_arr ay g n ∧ u = (nI n, ag, ab, ac, ap) ∧ v = (nI n, ay, cy)
theorem i_up {k : Nat} {u : SX} {v : SY} (h : i_Rel k u v) : i_Rel (k + 4) u v := h
theorem i_vc0 : wpX_init (fun u => wpY_init (fun v => i_Rel 0 u v)) := by
  unfold wpX_init wpY_init
  refine ⟨0, fun _ => 0, fun _ => 0, fun _ => 0, fun _ => 0, fun _ => 0, fun _ => 0, fun _ => 0, fun _ => 0, by omega, ⟨fun i hi => absurd hi (Nat.not_lt_zero i), fun i _ hi => absurd hi (Nat.not_lt_zero i), fun i hi => absurd hi (Nat.not_lt_zero i)⟩, ⟨ma_J_0 _ _ _, fun i hi => absurd hi (Nat.not_lt_zero i), fun i hi => absurd hi (Nat.not_lt_zero i), fun i hi => absurd hi (Nat.not_lt_zero i), fun i hi => absurd hi (Nat.not_lt_zero i)⟩, fun i hi => absurd hi (Nat.not_lt_zero i), rfl, rfl⟩
theorem i_vc_add {k : Nat} {u : SX} {v : SY} (I : i_Rel k u v) (hk : k + 4 ≤ 2048) (v1 : Int32) : wpX_add (fun r u' => wpY_add (fun r' v' => r' = r ∧ i_Rel (k + 4) u' v') v v1) u v1 := by
  obtain ⟨n, g, e, ag, ab, ac, ap, ay, cy, hn, hG, hX, hy, rfl, rfl⟩ := I
  have R : i_Rel (k + 4) (nI n, ag, ab, ac, ap) (nI n, ay, cy) := ⟨n, g, e, ag, ab, ac, ap, ay, cy, hn, hG, hX, hy, rfl, rfl⟩
  have hgl : ∀ i, i < n → g i < 64 := fun i hi => (hG.1 i hi).2.1
  unfold wpX_add wpY_add
  rcases ma_rng ma_ok v1 with ⟨s, hs, rfl⟩ | hv
  · have hs2 := hs.2.1
    refine mx_isPiece_t hs (br_f (by decide) (mx_num hn hX.2.1 hgl hs2 (fun i hi e => br_f (ma_nm1 (by omega)) ?_) (fun hno => br_t rfl ?_)))
    · exact my_badPiece_t hs (br_t rfl (my_find hn hy hgl rfl hs2 (fun j hj _ => br_f (nI_pos (by omega)) ⟨rfl, R⟩) (fun hno => absurd e (hno i hi))))
    · have fnd : ∀ post : Int32 → Prop, post (-1) → wpY_find post (nI n, ay, cy) (nI s) := fun post hp => my_find hn hy hgl rfl hs2 (fun j hj e => absurd e (hno j hj)) (fun _ => hp)
      refine mx_sides hn hG hX.2.1 hs2 (fun hall => ?_) (fun ⟨r, hr1, hr2⟩ => ?_)
      · have hlt : ma_of (fun j => ma_sd (g j) s) n < 2 ^ 31 := Nat.lt_of_lt_of_le (ma_of_lt _ _) (ma_pl (by omega))
        refine br_f (ma_nm1 hlt) ?_
        by_cases h26 : n < 26
        · have hG' := ma_G_app hG hs.1 hs2 hs.2.2 hno hall
          refine br_t (nI_lt (b := 26) h26 (by decide)) (mx_append h26 hG hs2 hall hG' hX (fun e' ag' ab' ac' ap' hX' => ?_))
          exact my_badPiece_t hs (br_t rfl (fnd _ (br_t (by decide) (my_st hn hG hy hs2 (fun _ => br_f (by decide) (my_put h26 ⟨(nI_pred n).symm, n + 1, ma_put g n s, e', ag', ab', ac', ap', _, cy, h26, hG', hX', ma_arr_put hy, rfl, rfl⟩)) (fun ⟨r, hr1, hr2⟩ => (hall r hr1).elim (fun j hj => absurd hj.2 (hr2 j hj.1)))))))
        · refine br_f (nI_nlt (b := 26) (by omega) (by omega)) ?_
          exact my_badPiece_t hs (br_t rfl (fnd _ (br_t (by decide) (my_st hn hG hy hs2 (fun _ => br_f (by decide) (my_put_f (by omega) ⟨rfl, R⟩)) (fun ⟨r, hr1, hr2⟩ => (hall r hr1).elim (fun j hj => absurd hj.2 (hr2 j hj.1)))))))
      · refine br_t rfl ?_
        exact my_badPiece_t hs (br_t rfl (fnd _ (br_t (by decide) (my_st hn hG hy hs2 (fun hall => (hall r hr1).elim (fun j hj => absurd hj.2 (hr2 j hj.1))) (fun _ => br_t rfl ⟨rfl, R⟩)))))
  · exact mx_isPiece_f hv (br_t rfl (my_badPiece_f hv (br_f (by decide) ⟨rfl, R⟩)))
theorem i_vc_fill {k : Nat} {u : SX} {v : SY} (I : i_Rel k u v) (hk : k + 4 ≤ 2048) (v1 : Int32) : wpX_fill (fun r u' => wpY_fill (fun r' v' => r' = r ∧ i_Rel (k + 4) u' v') v v1) u v1 := by
  obtain ⟨n, g, e, ag, ab, ac, ap, ay, cy, hn, hG, hX, hy, rfl, rfl⟩ := I
  have R : i_Rel (k + 4) (nI n, ag, ab, ac, ap) (nI n, ay, cy) := ⟨n, g, e, ag, ab, ac, ap, ay, cy, hn, hG, hX, hy, rfl, rfl⟩
  unfold wpX_fill
  rcases ma_rng ma_ok v1 with ⟨s, hs, rfl⟩ | hv
  · have hs2 := hs.2.1
    refine mx_isPiece_t hs (br_f (by decide) (mx_mw hn hG hX.2.1 hs2 ?_))
    have hc := ma_cp_le (ma_ms g n s) (s + 1)
    have hup := ma_ms_up (g := g) (n := n) hs2
    have hf0 : ma_fg g n s 1 = (g, n) := by
      rw [show (1 : Nat) = 0 + 1 from rfl, ma_fg_f (fun w => Nat.not_succ_le_zero 0 w.1)]
      rfl
    have hfe : ma_fg g n s 64 = ma_fg g n s (s + 1) := by
      have := ma_fg_up (g := g) (n := n) (s := s) (64 - (s + 1))
      rw [show s + 1 + (64 - (s + 1)) = 64 by omega] at this
      exact this
    rw [nI_add]
    refine pk_le (n + ma_cp (ma_ms g n s) (s + 1)) 26 (fun hroom => ?_) (fun hroom => ?_)
    · have hIe := ma_fg_I hG hs (s + 1)
      have hne := hIe.2.1
      have hx := mx_fill_l (post := fun r u' => wpY_fill (fun r' v' => r' = r ∧ i_Rel (k + 4) u' v') (nI n, ay, cy) (nI s)) hG hs hroom (fun e' ag' ab' ac' ap' hX' => ?_) s 1 e ag ab ac ap (by omega) (Nat.le_refl 1)
      · rw [hf0] at hx
        exact ⟨s + 1, hx hX⟩
      · unfold wpY_fill
        refine my_badPiece_t hs (br_t rfl ?_)
        have hy1 := my_fill_c (post := fun r' v' => r' = nI (ma_fg g n s (s + 1)).2 ∧ i_Rel (k + 4) (nI (ma_fg g n s (s + 1)).2, ag', ab', ac', ap') v') (cy := cy) hn hG hy hs (fun hr => ?_) (fun hr => ?_) 63 1 rfl (Nat.le_refl 1)
        · rw [ma_cp1] at hy1
          exact ⟨64, hy1⟩
        · have hy2 := my_fill_l (post := fun r' v' => r' = nI (ma_fg g n s (s + 1)).2 ∧ i_Rel (k + 4) (nI (ma_fg g n s (s + 1)).2, ag', ab', ac', ap') v') (cy := cy) hG hs hr (fun ay' hay => ?_) 63 1 ay rfl (Nat.le_refl 1)
          · rw [hf0] at hy2
            exact ⟨64, hy2 hy⟩
          · rw [hfe] at hay ⊢
            exact ⟨rfl, _, _, e', ag', ab', ac', ap', ay', cy, by omega, hIe.1, hX', hay, rfl, rfl⟩
        · omega
    · unfold wpY_fill
      refine my_badPiece_t hs (br_t rfl ?_)
      have hy1 := my_fill_c (post := fun r' v' => r' = -2 ∧ i_Rel (k + 4) (nI n, ag, ab, ac, ap) v') (cy := cy) hn hG hy hs (fun hr => by omega) (fun _ => ⟨rfl, R⟩) 63 1 rfl (Nat.le_refl 1)
      rw [ma_cp1] at hy1
      exact ⟨64, hy1⟩
  · unfold wpY_fill
    exact mx_isPiece_f hv (br_t rfl (my_badPiece_f hv (br_f (by decide) ⟨rfl, R⟩)))
theorem i_vc_undo {k : Nat} {u : SX} {v : SY} (I : i_Rel k u v) (hk : k + 4 ≤ 2048) : wpX_undo (fun r u' => wpY_undo (fun r' v' => r' = r ∧ i_Rel (k + 4) u' v') v) u := by
  obtain ⟨n, g, e, ag, ab, ac, ap, ay, cy, hn, hG, hX, hy, rfl, rfl⟩ := I
  unfold wpX_undo
  cases n with
  | zero =>
    refine br_f (by decide) ?_
    unfold wpY_undo
    exact br_t rfl ⟨rfl, 0, g, e, ag, ab, ac, ap, ay, cy, hn, hG, hX, hy, rfl, rfl⟩
  | succ n =>
    obtain ⟨hJ, hg, hb, hc, hP⟩ := hX
    have hv : vp_in (nI n) 26 := vp_in_nI (by omega) (by decide)
    have hcl : (nI n).toNatClampNeg = n := nI_clamp (by omega)
    have fin : ∀ ap' : Nat → Int32, (∀ i, i < n → ma_P e n i (ap' i)) → wpY_undo (fun r' v' => r' = ag (nI n).toNatClampNeg ∧ i_Rel (k + 4) (nI n, ag, ab, ac, ap') v') (nI (n + 1), ay, cy) := fun ap' hP' => by
      unfold wpY_undo
      refine br_f (nI_ne0 (by omega) (by omega)) (nm_r (nI_pred n) ⟨hv, ?_, n, g, e, ag, ab, ac, ap', ay, cy, by omega, ma_G_le hG (by omega), ⟨ma_J_le hJ (by omega), ma_arr_le hg (by omega), ma_arr_le hb (by omega), ma_arr_le hc (by omega), hP'⟩, ma_arr_le hy (by omega), rfl, rfl⟩)
      rw [hcl, hy n (by omega), hg n (by omega)]
    refine br_t (nI_lt (a := 0) (by omega) (by omega)) (nm_r (nI_pred n) ⟨hv, nm_r (e' := ap n) (by rw [hcl]) ?_⟩)
    rcases hP n (by omega) with ⟨a, h1, h2, h3⟩ | ⟨j, h1, h2, h3, h4, h5⟩ | ⟨h1, h2, h3⟩
    · refine mx_isNum_t (by omega) h1 h3 (br_f (by decide) ⟨?_, nm_r (e' := upd ap a (-1)) ?_ ⟨hv, fin _ (ma_P_undo1 hJ h2 hP)⟩⟩)
      · rw [h3]; exact vp_in_nI (by omega) (by decide)
      · rw [h3, nI_clamp (by omega)]
    · omega
    · exact mx_isNum_m (by omega) h3 (br_t rfl ⟨hv, fin _ (ma_P_undo0 h1 hP)⟩)
theorem i_vc_size {k : Nat} {u : SX} {v : SY} (I : i_Rel k u v) (hk : k + 4 ≤ 2048) : wpX_size (fun r => wpY_size (fun r' => r' = r ∧ i_Rel (k + 4) u v) v) u := by
  have R := i_up I
  obtain ⟨n, g, e, ag, ab, ac, ap, ay, cy, hn, hG, hX, hy, rfl, rfl⟩ := I
  unfold wpX_size wpY_size
  exact ⟨rfl, R⟩
theorem i_vc_piece {k : Nat} {u : SX} {v : SY} (I : i_Rel k u v) (hk : k + 4 ≤ 2048) (v1 : Int32) : wpX_piece (fun r => wpY_piece (fun r' => r' = r ∧ i_Rel (k + 4) u v) v v1) u v1 := by
  have R := i_up I
  obtain ⟨n, g, e, ag, ab, ac, ap, ay, cy, hn, hG, hX, hy, rfl, rfl⟩ := I
  unfold wpX_piece wpY_piece
  rcases ma_rng (fun i => i < n) v1 with ⟨i, hi, rfl⟩ | hv
  · have hi : i < n := hi
    refine mx_isNum_t hn hi rfl (br_f (by decide) ⟨vp_in_nI (by omega) (by decide), my_bad_t hn hi (br_t rfl ⟨vp_in_nI (by omega) (by decide), ?_, R⟩)⟩)
    rw [ma_arr_c hy hi hn, ma_arr_c hX.2.1 hi hn]
  · exact mx_isNum_f hn hv (br_t rfl (my_bad_f hn hv (br_f (by decide) ⟨rfl, R⟩)))
theorem i_vc_pieces {k : Nat} {u : SX} {v : SY} (I : i_Rel k u v) (hk : k + 4 ≤ 2048) (v1 : Int32) (v2 : Int32) : wpX_pieces (fun r => wpY_pieces (fun r' => r' = r ∧ i_Rel (k + 4) u v) v v1 v2) u v1 v2 := by
  have R := i_up I
  obtain ⟨n, g, e, ag, ab, ac, ap, ay, cy, hn, hG, hX, hy, rfl, rfl⟩ := I
  unfold wpX_pieces wpY_pieces
  rcases ma_rng (fun i => i ≤ n) v1 with ⟨t, ht, rfl⟩ | hv
  · have ht : t ≤ n := ht
    rcases ma_rng (fun i => i < 4) v2 with ⟨q, hq, rfl⟩ | hv2
    · have hq : q < 4 := hq
      exact mx_isTime_t hn ht (br_f (by decide) (mx_isDim_t hq (br_f (by decide) (mx_cp hn hG hX.2.1 ht (by omega) (my_badTime_t hn ht (br_t rfl (my_badDim_t hq (br_t rfl (my_tally hn hG hy ht (by omega) rfl rfl ⟨rfl, R⟩)))))))))
    · exact mx_isTime_t hn ht (br_f (by decide) (mx_isDim_f hv2 (br_t rfl (my_badTime_t hn ht (br_t rfl (my_badDim_f hv2 (br_f (by decide) ⟨rfl, R⟩)))))))
  · exact mx_isTime_f hn hv (br_t rfl (my_badTime_f hn hv (br_f (by decide) ⟨rfl, R⟩)))
theorem i_vc_holes {k : Nat} {u : SX} {v : SY} (I : i_Rel k u v) (hk : k + 4 ≤ 2048) (v1 : Int32) (v2 : Int32) : wpX_holes (fun r => wpY_holes (fun r' v' => r' = r ∧ i_Rel (k + 4) u v') v v1 v2) u v1 v2 := by
  obtain ⟨n, g, e, ag, ab, ac, ap, ay, cy, hn, hG, hX, hy, rfl, rfl⟩ := I
  have R : ∀ cy', i_Rel (k + 4) (nI n, ag, ab, ac, ap) (nI n, ay, cy') := fun cy' => ⟨n, g, e, ag, ab, ac, ap, ay, cy', hn, hG, hX, hy, rfl, rfl⟩
  unfold wpX_holes wpY_holes
  rcases ma_rng (fun i => i ≤ n) v1 with ⟨t, ht, rfl⟩ | hv
  · have ht : t ≤ n := ht
    rcases ma_rng (fun i => i < 4) v2 with ⟨q, hq, rfl⟩ | hv2
    · have hq : q < 4 := hq
      exact mx_isTime_t hn ht (br_f (by decide) (mx_isDim_t hq (br_f (by decide) (mx_cl hn hG hX (Nat.le_refl t) ht (by omega) (my_badTime_t hn ht (br_t rfl (my_badDim_t hq (br_t rfl (my_last hn hG hy hX.1 (Nat.le_refl t) ht (by omega) rfl rfl rfl (fun cy' => ⟨rfl, R cy'⟩))))))))))
    · exact mx_isTime_t hn ht (br_f (by decide) (mx_isDim_f hv2 (br_t rfl (my_badTime_t hn ht (br_t rfl (my_badDim_f hv2 (br_f (by decide) ⟨rfl, R cy⟩)))))))
  · exact mx_isTime_f hn hv (br_t rfl (my_badTime_f hn hv (br_f (by decide) ⟨rfl, R cy⟩)))
theorem i_vc_lasting {k : Nat} {u : SX} {v : SY} (I : i_Rel k u v) (hk : k + 4 ≤ 2048) (v1 : Int32) (v2 : Int32) (v3 : Int32) : wpX_lasting (fun r => wpY_lasting (fun r' v' => r' = r ∧ i_Rel (k + 4) u v') v v1 v2 v3) u v1 v2 v3 := by
  obtain ⟨n, g, e, ag, ab, ac, ap, ay, cy, hn, hG, hX, hy, rfl, rfl⟩ := I
  have R : ∀ cy', i_Rel (k + 4) (nI n, ag, ab, ac, ap) (nI n, ay, cy') := fun cy' => ⟨n, g, e, ag, ab, ac, ap, ay, cy', hn, hG, hX, hy, rfl, rfl⟩
  unfold wpX_lasting
  by_cases good : ∃ i j, i ≤ j ∧ j ≤ n ∧ v1 = nI i ∧ v2 = nI j
  · obtain ⟨i, j, hij, hj, rfl, rfl⟩ := good
    refine br_f (nI_pos (by omega)) (br_f (nI_nlt hij (by omega)) (br_t (nI_le hj (by omega)) ?_))
    unfold wpY_lasting
    rcases ma_rng (fun i => i < 4) v3 with ⟨q, hq, rfl⟩ | hv2
    · have hq : q < 4 := hq
      exact mx_isDim_t hq (br_f (by decide) (mx_cl hn hG hX hij hj (by omega) (my_badTime_t hn (by omega) (br_t rfl (my_badTime_t hn hj (br_t rfl (br_t (nI_le hij (by omega)) (my_badDim_t hq (br_t rfl (my_last hn hG hy hX.1 hij hj (by omega) rfl rfl rfl (fun cy' => ⟨rfl, R cy'⟩)))))))))))
    · exact mx_isDim_f hv2 (br_t rfl (my_badTime_t hn (by omega) (br_t rfl (my_badTime_t hn hj (br_t rfl (br_t (nI_le hij (by omega)) (my_badDim_f hv2 (br_f (by decide) ⟨rfl, R cy⟩))))))))
  · have P : wpY_lasting (fun r' v' => r' = -1 ∧ i_Rel (k + 4) (nI n, ag, ab, ac, ap) v') (nI n, ay, cy) v1 v2 v3 := by
      unfold wpY_lasting
      rcases ma_rng (fun i => i ≤ n) v1 with ⟨i, hi, rfl⟩ | hv
      · rcases ma_rng (fun i => i ≤ n) v2 with ⟨j, hj, rfl⟩ | hv2
        · have hi : i ≤ n := hi
          have hj : j ≤ n := hj
          refine my_badTime_t hn hi (br_t rfl (my_badTime_t hn hj (br_t rfl (br_f (nI_ge ?_ (by omega)) ⟨rfl, R cy⟩))))
          apply Classical.byContradiction
          intro w
          exact good ⟨i, j, by omega, hj, rfl, rfl⟩
        · exact my_badTime_t hn hi (br_t rfl (my_badTime_f hn hv2 (br_f (by decide) ⟨rfl, R cy⟩)))
      · exact my_badTime_f hn hv (br_f (by decide) ⟨rfl, R cy⟩)
    refine br_c (fun _ => P) (fun h1 => br_c (fun _ => P) (fun h2 => br_c (fun h3 => ?_) (fun _ => P)))
    obtain ⟨i, hi, rfl⟩ := nI_of h1
    have h4 : ¬ v2 < 0 := fun w => h2 (Int32.lt_of_lt_of_le w (nI_pos' hi))
    obtain ⟨j, hj, rfl⟩ := nI_of h4
    refine absurd ⟨i, j, ?_, (nI_leI hj (by omega)).mp h3, rfl, rfl⟩ good
    apply Classical.byContradiction
    intro w
    exact h2 (nI_lt (by omega) hi)
theorem i_vc_opens {k : Nat} {u : SX} {v : SY} (I : i_Rel k u v) (hk : k + 4 ≤ 2048) (v1 : Int32) : wpX_opens (fun r => wpY_opens (fun r' v' => r' = r ∧ i_Rel (k + 4) u v') v v1) u v1 := by
  obtain ⟨n, g, e, ag, ab, ac, ap, ay, cy, hn, hG, hX, hy, rfl, rfl⟩ := I
  have R : ∀ cy', i_Rel (k + 4) (nI n, ag, ab, ac, ap) (nI n, ay, cy') := fun cy' => ⟨n, g, e, ag, ab, ac, ap, ay, cy', hn, hG, hX, hy, rfl, rfl⟩
  unfold wpX_opens wpY_opens
  rcases ma_rng (fun i => i < n) v1 with ⟨i, hi, rfl⟩ | hv
  · have hi : i < n := hi
    have hvi : vp_in (nI i) 26 := vp_in_nI (by omega) (by decide)
    have ea : ap (nI i).toNatClampNeg = ap i := by rw [nI_clamp (by omega)]
    refine mx_isNum_t hn hi rfl (br_f (by decide) ⟨hvi, ?_⟩)
    rw [ea]
    rcases hX.2.2.2.2 i hi with ⟨a, h1, h2, h3⟩ | ⟨j, h1, h2, h3, h4, h5⟩ | ⟨h1, h2, h3⟩
    · rw [h3]
      exact br_f (ma_nm1 (by omega)) ⟨hvi, br_t (nI_le (by omega) (by omega)) (my_bad_t hn hi (br_t rfl (my_opening hn hG hy hX.1 hi rfl (fun q => absurd q (ma_T_ne h2)) (fun _ cy' => br_t rfl ⟨rfl, R cy'⟩))))⟩
    · rw [h5]
      exact br_f (ma_nm1 (by omega)) ⟨hvi, br_f (nI_ge (by omega) (by omega)) (my_bad_t hn hi (br_t rfl (my_opening hn hG hy hX.1 hi rfl (fun _ cy' => br_f (by decide) ⟨rfl, R cy'⟩) (fun q => absurd h3 q))))⟩
    · rw [h3]
      exact br_t rfl (my_bad_t hn hi (br_t rfl (my_opening hn hG hy hX.1 hi rfl (fun _ cy' => br_f (by decide) ⟨rfl, R cy'⟩) (fun q => absurd h1 q))))
  · exact mx_isNum_f hn hv (br_t rfl (my_bad_f hn hv (br_f (by decide) ⟨rfl, R cy⟩)))
theorem i_vc_partner {k : Nat} {u : SX} {v : SY} (I : i_Rel k u v) (hk : k + 4 ≤ 2048) (v1 : Int32) : wpX_partner (fun r => wpY_partner (fun r' v' => r' = r ∧ i_Rel (k + 4) u v') v v1) u v1 := by
  obtain ⟨n, g, e, ag, ab, ac, ap, ay, cy, hn, hG, hX, hy, rfl, rfl⟩ := I
  have R : ∀ cy', i_Rel (k + 4) (nI n, ag, ab, ac, ap) (nI n, ay, cy') := fun cy' => ⟨n, g, e, ag, ab, ac, ap, ay, cy', hn, hG, hX, hy, rfl, rfl⟩
  have hJ := hX.1
  unfold wpX_partner wpY_partner
  rcases ma_rng (fun i => i < n) v1 with ⟨i, hi, rfl⟩ | hv
  · have hi : i < n := hi
    have hvi : vp_in (nI i) 26 := vp_in_nI (by omega) (by decide)
    have ea : ap (nI i).toNatClampNeg = ap i := by rw [nI_clamp (by omega)]
    refine mx_isNum_t hn hi rfl (br_f (by decide) ⟨hvi, ?_⟩)
    rw [ea]
    rcases hX.2.2.2.2 i hi with ⟨a, h1, h2, h3⟩ | ⟨j, h1, h2, h3, h4, h5⟩ | ⟨h1, h2, h3⟩
    · rw [h3]
      exact br_f (ma_nm1 (by omega)) ⟨hvi, my_bad_t hn hi (br_t rfl (my_mate hn hG hy hJ hi rfl (fun a' _ hT cy' => ⟨by rw [ma_T_eq hT h2], R cy'⟩) (fun q => absurd q (ma_T_ne h2)) (fun q => absurd q (ma_T_ne h2))))⟩
    · rw [h5]
      exact br_f (ma_nm1 (by omega)) ⟨hvi, my_bad_t hn hi (br_t rfl (my_mate hn hG hy hJ hi rfl (fun a' _ hT => absurd h3 (ma_T_ne hT)) (fun _ j' _ hj2 hT cy' => ⟨by rw [hJ.2.1 j' j i hj2 h2 hT h4], R cy'⟩) (fun _ hno => absurd h4 (hno j h2))))⟩
    · rw [h3]
      exact br_t rfl (my_bad_t hn hi (br_t rfl (my_mate hn hG hy hJ hi rfl (fun a' _ hT => absurd h1 (ma_T_ne hT)) (fun _ j' _ hj2 hT => absurd hT (h2 j' hj2)) (fun _ _ cy' => ⟨rfl, R cy'⟩))))
  · exact mx_isNum_f hn hv (br_t rfl (my_bad_f hn hv (br_f (by decide) ⟨rfl, R cy⟩)))
theorem i_vc_forever {k : Nat} {u : SX} {v : SY} (I : i_Rel k u v) (hk : k + 4 ≤ 2048) (v1 : Int32) : wpX_forever (fun r => wpY_forever (fun r' v' => r' = r ∧ i_Rel (k + 4) u v') v v1) u v1 := by
  obtain ⟨n, g, e, ag, ab, ac, ap, ay, cy, hn, hG, hX, hy, rfl, rfl⟩ := I
  have R : ∀ cy', i_Rel (k + 4) (nI n, ag, ab, ac, ap) (nI n, ay, cy') := fun cy' => ⟨n, g, e, ag, ab, ac, ap, ay, cy', hn, hG, hX, hy, rfl, rfl⟩
  unfold wpX_forever wpY_forever
  rcases ma_rng (fun i => i < 4) v1 with ⟨q, hq, rfl⟩ | hv2
  · have hq : q < 4 := hq
    exact mx_isDim_t hq (br_f (by decide) (mx_cl hn hG hX (Nat.le_refl n) (Nat.le_refl n) (by omega) (my_badDim_t hq (br_t rfl ⟨n + 1, my_forever_l hn hG hy hX.1 (by omega) (fun cy' => ⟨rfl, R cy'⟩) n 0 cy (by omega)⟩))))
  · exact mx_isDim_f hv2 (br_t rfl (my_badDim_f hv2 (br_f (by decide) ⟨rfl, R cy⟩)))
theorem i_vc_longest {k : Nat} {u : SX} {v : SY} (I : i_Rel k u v) (hk : k + 4 ≤ 2048) (v1 : Int32) : wpX_longest (fun r => wpY_longest (fun r' v' => r' = r ∧ i_Rel (k + 4) u v') v v1) u v1 := by
  obtain ⟨n, g, e, ag, ab, ac, ap, ay, cy, hn, hG, hX, hy, rfl, rfl⟩ := I
  have R : ∀ cy', i_Rel (k + 4) (nI n, ag, ab, ac, ap) (nI n, ay, cy') := fun cy' => ⟨n, g, e, ag, ab, ac, ap, ay, cy', hn, hG, hX, hy, rfl, rfl⟩
  unfold wpX_longest wpY_longest
  rcases ma_rng (fun i => i < 4) v1 with ⟨q, hq, rfl⟩ | hv2
  · have hq : q < 4 := hq
    obtain ⟨r, h1, h2⟩ := ma_long hn hG hX hy (k := q) (by omega) n 0 0 (by omega) (by omega)
    exact mx_isDim_t hq (br_f (by decide) ⟨n + 1, h1 _ (my_badDim_t hq (br_t rfl ⟨n + 1, h2 _ cy (fun cy' => ⟨rfl, R cy'⟩)⟩))⟩)
  · exact mx_isDim_f hv2 (br_t rfl (my_badDim_f hv2 (br_f (by decide) ⟨rfl, R cy⟩)))
theorem i_vc_euler {k : Nat} {u : SX} {v : SY} (I : i_Rel k u v) (hk : k + 4 ≤ 2048) (v1 : Int32) : wpX_euler (fun r => wpY_euler (fun r' => r' = r ∧ i_Rel (k + 4) u v) v v1) u v1 := by
  have R := i_up I
  obtain ⟨n, g, e, ag, ab, ac, ap, ay, cy, hn, hG, hX, hy, rfl, rfl⟩ := I
  unfold wpX_euler wpY_euler
  rcases ma_rng (fun i => i ≤ n) v1 with ⟨t, ht, rfl⟩ | hv
  · have ht : t ≤ n := ht
    refine mx_isTime_t hn ht (br_f (by decide) ⟨t + 1, ?_⟩)
    have h1 := fun post hp => mx_eu_l (post := post) (ab := ab) (ac := ac) (ap := ap) hn hG hX.2.1 ht hp t 0 (by omega)
    rw [ma_eu_0] at h1
    exact h1 _ (my_badTime_t hn ht (br_t rfl (my_tally (k := 0) hn hG hy ht (by omega) rfl rfl (my_tally (k := 1) hn hG hy ht (by omega) rfl rfl (my_tally (k := 2) hn hG hy ht (by omega) rfl rfl (my_tally (k := 3) hn hG hy ht (by omega) rfl rfl ⟨rfl, R⟩))))))
  · exact mx_isTime_f hn hv (br_t rfl (my_badTime_f hn hv (br_f (by decide) ⟨rfl, R⟩)))
theorem ma_pn {n : Nat} (hn : n ≤ 26) : 2 ^ n ≤ 2 ^ 26 := ma_pl hn
theorem i_vc_border {k : Nat} {u : SX} {v : SY} (I : i_Rel k u v) (hk : k + 4 ≤ 2048) (v1 : Int32) : wpX_border (fun r => wpY_border (fun r' => r' = r ∧ i_Rel (k + 4) u v) v v1) u v1 := by
  have R := i_up I
  obtain ⟨n, g, e, ag, ab, ac, ap, ay, cy, hn, hG, hX, hy, rfl, rfl⟩ := I
  have hp := ma_pn hn
  have hsh := ma_sh1 n (by omega)
  unfold wpX_border wpX_isSetOfNumbers
  rcases ma_rng (fun c => c < 2 ^ n) v1 with ⟨c, hc, rfl⟩ | hv
  · have hc : c < 2 ^ n := hc
    have hc31 : c < 2 ^ 31 := by omega
    refine br_f (nI_pos hc31) (br_f (by rw [hsh]; exact nI_ge hc (by omega)) (br_f (by decide) ?_))
    have Y : ∀ post : Int32 → Prop, wpY_chainDimension (fun r_3 => (r_3 = (-2) → post (-2)) ∧ (¬ r_3 = (-2) → wpY_edge (fun r_8 => post r_8) (nI n, ay, cy) (nI c))) (nI n, ay, cy) (nI c) → wpY_border post (nI n, ay, cy) (nI c) := fun post h => by
      unfold wpY_border
      exact br_f (nI_pos hc31) (br_t (by rw [hsh]; exact nI_lt hc (by omega)) h)
    refine mx_od hn hG hX.2.1 hc31 (fun x hx => br_f (by decide) (mx_bo hn hX.2.2.1 hc31 ?_)) (fun hno => br_t rfl ?_)
    · exact Y _ (my_cd hn hG hy hc31 (fun y hy' => br_f (ma_st_lt hy') (my_ed hn hG hy hc31 ⟨rfl, R⟩)) (fun hno => absurd hx (hno x)))
    · exact Y _ (my_cd hn hG hy hc31 (fun y hy' => absurd hy' (hno y)) (fun _ => br_t rfl ⟨rfl, R⟩))
  · have Y : wpY_border (fun r' => r' = -1 ∧ i_Rel (k + 4) (nI n, ag, ab, ac, ap) (nI n, ay, cy)) (nI n, ay, cy) v1 := by
      unfold wpY_border
      refine br_c (fun _ => ⟨rfl, R⟩) (fun h1 => br_f (fun h2 => ?_) ⟨rfl, R⟩)
      obtain ⟨j, hj, rfl⟩ := nI_of h1
      rw [hsh] at h2
      exact absurd rfl (hv j ((nI_ltI hj (by omega)).mp h2))
    refine br_c (fun _ => br_t rfl Y) (fun h1 => br_t ?_ (br_t rfl Y))
    obtain ⟨j, hj, rfl⟩ := nI_of h1
    rw [hsh]
    refine nI_le ?_ hj
    apply Classical.byContradiction
    intro w
    exact absurd rfl (hv j (show j < 2 ^ n by omega))
theorem ma_F0 (b d : Nat → Nat) (K : Nat) : ma_F b d K 0 = ma_fk b d K := by
  funext i
  exact ma_hi_z _
theorem i_vc_bounds {k : Nat} {u : SX} {v : SY} (I : i_Rel k u v) (hk : k + 4 ≤ 2048) (v1 : Int32) : wpX_bounds (fun r => wpY_bounds (fun r' v' => r' = r ∧ i_Rel (k + 4) u v') v v1) u v1 := by
  obtain ⟨n, g, e, ag, ab, ac, ap, ay, cy, hn, hG, hX, hy, rfl, rfl⟩ := I
  have R : ∀ cy', i_Rel (k + 4) (nI n, ag, ab, ac, ap) (nI n, ay, cy') := fun cy' => ⟨n, g, e, ag, ab, ac, ap, ay, cy', hn, hG, hX, hy, rfl, rfl⟩
  have hp := ma_pn hn
  have hsh := ma_sh1 n (by omega)
  have hF := ma_G_Fr hG
  obtain ⟨hJ, hg, hb, hcc, hP⟩ := hX
  unfold wpX_bounds wpX_isSetOfNumbers
  rcases ma_rng (fun c => c < 2 ^ n) v1 with ⟨c, hc, rfl⟩ | hv
  · have hc : c < 2 ^ n := hc
    have hc31 : c < 2 ^ 31 := by omega
    have hl31 : ma_lin (ma_bd g) n c < 2 ^ 31 := Nat.lt_of_lt_of_le (ma_lin_lt (m := 26) (fun i hi => Nat.lt_of_lt_of_le (ma_of_lt _ _) (ma_pl (by omega)))) (by decide)
    refine br_f (nI_pos hc31) (br_f (by rw [hsh]; exact nI_ge hc (by omega)) (br_f (by decide) ?_))
    have Y : ∀ post : Int32 → SY → Prop, (∀ x, ma_st c (ma_d g) n x → wpY_edge (fun r_8 => (r_8 = 0 → wpY_rank (fun r_13 u => match u with | (f_count_14, a_pieces_15, a_column_16) => ∃ n60 : Nat, wY_bounds_60 post x r_13 f_count_14 a_pieces_15 a_column_16 n60 (nI c) 0) (nI n, ay, cy) (nI n) (x + 1) 0) ∧ (¬ r_8 = 0 → post 2 (nI n, ay, cy))) (nI n, ay, cy) (nI c)) → ((∀ x, ¬ ma_st c (ma_d g) n x) → post (-2) (nI n, ay, cy)) → wpY_bounds post (nI n, ay, cy) (nI c) := fun post h1 h0 => by
      unfold wpY_bounds
      exact br_f (nI_pos hc31) (br_t (by rw [hsh]; exact nI_lt hc (by omega)) (my_cd hn hG hy hc31 (fun x hx => br_f (ma_st_lt hx) (h1 x hx)) (fun hno => br_t rfl (h0 hno))))
    refine mx_od hn hG hg hc31 (fun x hx => br_f (by decide) (mx_bo hn hb hc31 ?_)) (fun hno => br_t rfl ?_)
    · by_cases hz : ma_lin (ma_bd g) n c = 0
      · refine br_t (by rw [hz]; rfl) ?_
        have fin : ∀ (r : Int32) (K q : Nat) (y : Int32), q + 1 = K → q < 8 → y + 1 = nI q → (y = -1 ∧ c = 0 ∨ ∃ m, m < 2 ^ 31 ∧ y = nI m) → (ma_Sp (ma_fk (ma_bd g) (ma_d g) K) n c → r = 1) → (¬ ma_Sp (ma_fk (ma_bd g) (ma_d g) K) n c → r = 0) → wpY_edge (fun r_8 => (r_8 = 0 → wpY_rank (fun r_13 u => match u with | (f_count_14, a_pieces_15, a_column_16) => ∃ n60 : Nat, wY_bounds_60 (fun r' v' => r' = r ∧ i_Rel (k + 4) (nI n, ag, ab, ac, ap) v') y r_13 f_count_14 a_pieces_15 a_column_16 n60 (nI c) 0) (nI n, ay, cy) (nI n) (y + 1) 0) ∧ (¬ r_8 = 0 → (2 = r ∧ i_Rel (k + 4) (nI n, ag, ab, ac, ap) (nI n, ay, cy)))) (nI n, ay, cy) (nI c) := fun r K q y hqK hq hyq hyc h1 h0 => by
          refine my_ed hn hG hy hc31 (br_t (by rw [hz]; rfl) (my_rank (t := n) (k := q) (s := 0) hn hG hy (Nat.le_refl n) (by omega) hq rfl hyq rfl (fun col cy' rows hR hcy => ?_)))
          rw [hqK, ma_F0] at hR
          have hrows : rows ≤ n := by
            rw [hR.2.2.1]
            exact ma_cp_le _ _
          rcases hyc with ⟨hy1, hc0⟩ | ⟨m, hm, hy1⟩
          · refine ⟨1, ?_⟩
            have e1 : r = 1 := h1 (by rw [hc0]; exact ma_Sp_0 _ _)
            have fin2 : wY_bounds_121 (fun r' v' => r' = r ∧ i_Rel (k + 4) (nI n, ag, ab, ac, ap) v') (nI c) (nI n) ay cy' := by
              unfold wY_bounds_121
              exact br_t (by rw [hc0]; rfl) ⟨e1.symm, R cy'⟩
            exact br_c (fun _ => fin2) (fun _ => br_t (by rw [hy1]; decide) fin2)
          · rw [hy1]
            refine ⟨rows + 1, my_bn_l (y := c) hR (by omega) hcy hm (fun w => ⟨(h1 w).symm, R cy'⟩) (fun w => ⟨(h0 w).symm, R cy'⟩) rows 0 c (by omega) (by omega) ?_ (fun i q hi => absurd hi (Nat.not_lt_zero i))⟩
            rw [Nat.xor_self]
            exact ma_Sp_0 _ _
        have main : ∀ (K q : Nat), q + 1 = K → q < 8 → (∀ y, ma_st c (ma_d g) n y → y + 1 = nI q ∧ (y = -1 ∧ c = 0 ∨ ∃ m, m < 2 ^ 31 ∧ y = nI m)) → (∀ a, c.testBit a = true → ma_d g a + 1 = K) → wpX_withoutBorders (fun r_22 => (r_22 = 0 → wpY_bounds (fun r' v' => r' = 1 ∧ i_Rel (k + 4) (nI n, ag, ab, ac, ap) v') (nI n, ay, cy) (nI c)) ∧ (¬ r_22 = 0 → wpY_bounds (fun r' v' => r' = 0 ∧ i_Rel (k + 4) (nI n, ag, ab, ac, ap) v') (nI n, ay, cy) (nI c))) (nI n, ag, ab, ac, ap) (nI c) := fun K q hqK hq hst hh => by
          refine mx_wb (K := K) hn hF hJ hcc hP rfl hc hh (fun r hr hr2 => ?_)
          have hr0 := ma_Red_0 hJ hr
          by_cases w : r = 0
          · exact br_t (by rw [w]; rfl) (Y _ (fun y hy' => fin 1 K q y hqK hq (hst y hy').1 (hst y hy').2 (fun _ => rfl) (fun z => absurd (hr0.mp w) z)) (fun hno => absurd hx (hno x)))
          · exact br_f (nI_ne0 (by omega) (by omega)) (Y _ (fun y hy' => fin 0 K q y hqK hq (hst y hy').1 (hst y hy').2 (fun z => absurd (hr0.mpr z) w) (fun _ => rfl)) (fun hno => absurd hx (hno x)))
        rcases hx with ⟨q1, q2⟩ | ⟨K, q1, q2, q3, ⟨m, hm1, hm2⟩, q5⟩
        · have hc0 : c = 0 := by
            apply Nat.eq_of_testBit_eq
            intro i
            rw [Nat.zero_testBit]
            by_cases hi : i < n
            · exact q2 i hi
            · exact ma_bf hc (by omega)
          refine main 1 0 rfl (by omega) (fun y hy' => ?_) (fun a ha => ?_)
          · rcases hy' with ⟨p1, p2⟩ | ⟨L, p1, p2, p3, ⟨m', hm1', hm2'⟩, p5⟩
            · exact ⟨by rw [p1]; decide, Or.inl ⟨p1, hc0⟩⟩
            · rw [hc0, Nat.zero_testBit] at hm2'
              exact Bool.noConfusion hm2'
          · rw [hc0, Nat.zero_testBit] at ha
            exact Bool.noConfusion ha
        · refine main (K + 1) K rfl (by omega) (fun y hy' => ?_) (fun a ha => ?_)
          · rcases hy' with ⟨p1, p2⟩ | ⟨L, p1, p2, p3, _, p5⟩
            · rw [p2 m hm1] at hm2
              exact Bool.noConfusion hm2
            · have e1 := p5 m hm1 hm2
              have e2 := q5 m hm1 hm2
              have e3 : L = K := by omega
              subst e3
              refine ⟨?_, Or.inr ⟨L - 1, by omega, p3⟩⟩
              rw [p3, nI_1]
              exact congrArg nI (by omega)
          · rw [q5 a (ma_bl hc ha) ha]
      · refine br_f (nI_ne0 (by omega) hl31) (Y _ (fun y _ => my_ed hn hG hy hc31 (br_f (nI_ne0 (by omega) hl31) ⟨rfl, R cy⟩)) (fun hno => absurd hx (hno x)))
    · exact Y _ (fun y hy' => absurd hy' (hno y)) (fun _ => ⟨rfl, R cy⟩)
  · have Y : wpY_bounds (fun r' v' => r' = -1 ∧ i_Rel (k + 4) (nI n, ag, ab, ac, ap) v') (nI n, ay, cy) v1 := by
      unfold wpY_bounds
      refine br_c (fun _ => ⟨rfl, R cy⟩) (fun h1 => br_f (fun h2 => ?_) ⟨rfl, R cy⟩)
      obtain ⟨j, hj, rfl⟩ := nI_of h1
      rw [hsh] at h2
      exact absurd rfl (hv j ((nI_ltI hj (by omega)).mp h2))
    refine br_c (fun _ => br_t rfl Y) (fun h1 => br_t ?_ (br_t rfl Y))
    obtain ⟨j, hj, rfl⟩ := nI_of h1
    rw [hsh]
    refine nI_le ?_ hj
    apply Classical.byContradiction
    intro w
    exact absurd rfl (hv j (show j < 2 ^ n by omega))
