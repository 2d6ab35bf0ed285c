theorem mx_isTime_t {post : Int32 → Prop} {n t : Nat} {ag ab ac ap : Nat → Int32} (hn : n ≤ 26) (ht : t ≤ n) (hp : post 1) : wpX_isTime post (nI n, ag, ab, ac, ap) (nI t) := by
  unfold wpX_isTime
  exact br_f (nI_pos (by omega)) (br_f (nI_nlt ht (by omega)) hp)
theorem mx_isTime_f {post : Int32 → Prop} {n : Nat} {x : Int32} {ag ab ac ap : Nat → Int32} (hn : n ≤ 26) (hx : ∀ i, i ≤ n → x ≠ nI i) (hp : post 0) : wpX_isTime post (nI n, ag, ab, ac, ap) x := by
  unfold wpX_isTime
  refine br_c (fun _ => hp) (fun h => br_c (fun _ => hp) (fun h2 => ?_))
  obtain ⟨j, hj, rfl⟩ := nI_of h
  refine absurd rfl (hx j ?_)
  apply Classical.byContradiction
  intro w
  exact h2 (nI_lt (by omega) hj)
theorem mx_isDim_t {post : Int32 → Prop} {k : Nat} (hk : k < 4) (hp : post 1) : wpX_isDimension post (nI k) := by
  unfold wpX_isDimension
  exact br_f (nI_pos (by omega)) (br_f (nI_nlt (a := 3) (by omega) (by decide)) hp)
theorem mx_isDim_f {post : Int32 → Prop} {x : Int32} (hx : ∀ i, i < 4 → x ≠ nI i) (hp : post 0) : wpX_isDimension post x := by
  unfold wpX_isDimension
  refine br_c (fun _ => hp) (fun h => br_c (fun _ => hp) (fun h2 => ?_))
  obtain ⟨j, hj, rfl⟩ := nI_of h
  refine absurd rfl (hx j ?_)
  apply Classical.byContradiction
  intro w
  exact h2 (nI_lt (a := 3) (by omega) hj)
theorem my_badTime_t {post : Int32 → Prop} {n t : Nat} {ay cy : Nat → Int32} (hn : n ≤ 26) (ht : t ≤ n) (hp : post 0) : wpY_badTime post (nI n, ay, cy) (nI t) := by
  unfold wpY_badTime
  exact br_f (nI_pos (by omega)) (br_t (nI_le ht (by omega)) hp)
theorem my_badTime_f {post : Int32 → Prop} {n : Nat} {x : Int32} {ay cy : Nat → Int32} (hn : n ≤ 26) (hx : ∀ i, i ≤ n → x ≠ nI i) (hp : post 1) : wpY_badTime post (nI n, ay, cy) x := by
  unfold wpY_badTime
  refine br_c (fun _ => hp) (fun h => br_c (fun h2 => ?_) (fun _ => hp))
  obtain ⟨j, hj, rfl⟩ := nI_of h
  exact absurd rfl (hx j ((nI_leI hj (by omega)).mp h2))
theorem my_badDim_t {post : Int32 → Prop} {k : Nat} {fc : Int32} {ay cy : Nat → Int32} (hk : k < 4) (hp : post 0) : wpY_badDimension post (fc, ay, cy) (nI k) := by
  unfold wpY_badDimension
  exact br_f (nI_pos (by omega)) (br_t (nI_le (b := 3) (by omega) (by decide)) hp)
theorem my_badDim_f {post : Int32 → Prop} {x fc : Int32} {ay cy : Nat → Int32} (hx : ∀ i, i < 4 → x ≠ nI i) (hp : post 1) : wpY_badDimension post (fc, ay, cy) x := by
  unfold wpY_badDimension
  refine br_c (fun _ => hp) (fun h => br_c (fun h2 => ?_) (fun _ => hp))
  obtain ⟨j, hj, rfl⟩ := nI_of h
  have := (nI_leI (b := 3) hj (by decide)).mp h2
  exact absurd rfl (hx j (by omega))
theorem my_bad_t {post : Int32 → Prop} {n i : Nat} {ay cy : Nat → Int32} (hn : n ≤ 26) (hi : i < n) (hp : post 0) : wpY_bad post (nI n, ay, cy) (nI i) := by
  unfold wpY_bad
  exact br_f (nI_pos (by omega)) (br_f (nI_ge hi (by omega)) (br_t (nI_le (b := 25) (by omega) (by decide)) hp))
theorem my_bad_f {post : Int32 → Prop} {n : Nat} {x : Int32} {ay cy : Nat → Int32} (hn : n ≤ 26) (hx : ∀ i, i < n → x ≠ nI i) (hp : post 1) : wpY_bad post (nI n, ay, cy) x := by
  unfold wpY_bad
  refine br_c (fun _ => hp) (fun h => br_c (fun _ => hp) (fun h2 => ?_))
  obtain ⟨j, hj, rfl⟩ := nI_of h
  refine absurd rfl (hx j ?_)
  apply Classical.byContradiction
  intro w
  exact h2 (nI_le (by omega) hj)
theorem ma_rng (P : Nat → Prop) (x : Int32) : (∃ i, P i ∧ x = nI i) ∨ (∀ i, P i → x ≠ nI i) := by
  by_cases h : ∃ i, P i ∧ x = nI i
  · exact Or.inl h
  · exact Or.inr (fun i hi e => h ⟨i, hi, e⟩)
theorem mx_dimg {post : Int32 → Prop} {g : Nat → Nat} {n i : Nat} {ag : Nat → Int32} (hn : n ≤ 26) (hG : ma_G g n) (hg : ma_arr ag g n) (hi : i < n) (h : post (nI (ma_d g i - 1))) : wpX_dimensionOf post (ag (nI i).toNatClampNeg) :=
  mx_dim (ma_arr_c hg hi hn) (hG.1 i hi).2.1 (hG.1 i hi).1 h
theorem mx_cp_l {post : Int32 → Prop} {g : Nat → Nat} {n t k : Nat} {ag ab ac ap : Nat → Int32} (hn : n ≤ 26) (hG : ma_G g n) (hg : ma_arr ag g n) (ht : t ≤ n) (hk : k < 8) (hp : post (nI (ma_cp (fun a => ma_d g a = k + 1) t))) : ∀ dd i, i + dd = t → wX_countPieces_5 post (nI t) (nI k) (nI n) ag ab ac ap (dd + 1) (nI (ma_cp (fun a => ma_d g a = k + 1) i)) (nI i) := by
  intro dd
  induction dd with
  | zero =>
    intro i hi
    have hi' : i = t := by omega
    subst hi'
    exact br_t (nI_le (Nat.le_refl i) (by omega)) hp
  | succ dd ih =>
    intro i hi
    have hin : i < n := by omega
    have hdi := ma_d_pos hG hin
    have h1 := ih (i + 1) (by omega)
    refine br_f (nI_ge (by omega) (by omega)) ⟨vp_in_nI (by omega) (by decide), mx_dimg hn hG hg hin ?_⟩
    by_cases w : ma_d g i = k + 1
    · rw [ma_cp_t (P := fun a => ma_d g a = k + 1) w] at h1
      exact br_t (congrArg nI (by omega)) (nm_r (nI_1 _) (nm_r (nI_1 i) h1))
    · rw [ma_cp_f (P := fun a => ma_d g a = k + 1) w] at h1
      refine br_f (fun q => w ?_) (nm_r (nI_1 i) h1)
      have := (nI_eq (by omega) (by omega)).mp q
      omega
theorem mx_cp {post : Int32 → Prop} {g : Nat → Nat} {n t k : Nat} {ag ab ac ap : Nat → Int32} (hn : n ≤ 26) (hG : ma_G g n) (hg : ma_arr ag g n) (ht : t ≤ n) (hk : k < 8) (hp : post (nI (ma_cp (fun a => ma_d g a = k + 1) t))) : wpX_countPieces post (nI n, ag, ab, ac, ap) (nI t) (nI k) := by
  unfold wpX_countPieces
  exact ⟨t + 1, mx_cp_l hn hG hg ht hk hp t 0 (by omega)⟩
theorem mx_cl_l {post : Int32 → Prop} {g e : Nat → Nat} {n f t k : Nat} {ag ab ac ap : Nat → Int32} (hn : n ≤ 26) (hG : ma_G g n) (hX : ma_XA g e n ag ab ac ap) (hft : f ≤ t) (ht : t ≤ n) (hk : k < 8) (hp : post (nI (ma_la e (ma_d g) (k + 1) f t))) : ∀ dd i, i + dd = f → wX_countLasting_6 post (nI f) (nI t) (nI k) (nI n) ag ab ac ap (dd + 1) (nI (ma_la e (ma_d g) (k + 1) i t)) (nI i) := by
  obtain ⟨hJ, hg, hb, hc, hP⟩ := hX
  intro dd
  induction dd with
  | zero =>
    intro i hi
    have hi' : i = f := by omega
    subst hi'
    exact br_t (nI_le (Nat.le_refl i) (by omega)) hp
  | succ dd ih =>
    intro i hi
    have hin : i < n := by omega
    have hdi := ma_d_pos hG hin
    have h1 := ih (i + 1) (by omega)
    have hf : ¬ (e i = 0 ∧ ma_d g i = k + 1 ∧ ∀ m, m < t → ¬ ma_T (e m) i) → ma_la e (ma_d g) (k + 1) (i + 1) t = ma_la e (ma_d g) (k + 1) i t := fun w => ma_cp_f (P := fun a => e a = 0 ∧ ma_d g a = k + 1 ∧ ∀ m, m < t → ¬ ma_T (e m) a) w
    have htt : (e i = 0 ∧ ma_d g i = k + 1 ∧ ∀ m, m < t → ¬ ma_T (e m) i) → ma_la e (ma_d g) (k + 1) (i + 1) t = ma_la e (ma_d g) (k + 1) i t + 1 := fun w => ma_cp_t (P := fun a => e a = 0 ∧ ma_d g a = k + 1 ∧ ∀ m, m < t → ¬ ma_T (e m) a) w
    have hv : vp_in (nI i) 26 := vp_in_nI (by omega) (by decide)
    have ea : ap (nI i).toNatClampNeg = ap i := by rw [nI_clamp (by omega)]
    have lst : e i = 0 → (∀ m, m < t → ¬ ma_T (e m) i) → wX_countLasting_34 post (wX_countLasting_6 post (nI f) (nI t) (nI k) (nI n) ag ab ac ap (dd + 1)) (nI f) (nI t) (nI k) (nI (ma_la e (ma_d g) (k + 1) i t)) (nI i) (nI n) ag ab ac ap := fun q1 q2 => by
      unfold wX_countLasting_34 wX_countLasting_39
      refine br_f (by decide) ⟨hv, mx_dimg hn hG hg hin ?_⟩
      by_cases w : ma_d g i = k + 1
      · rw [htt ⟨q1, w, q2⟩] at h1
        exact br_t (congrArg nI (by omega)) (nm_r (nI_1 _) (nm_r (nI_1 i) h1))
      · rw [hf (fun z => w z.2.1)] at h1
        refine br_f (fun q => w ?_) (nm_r (nI_1 i) h1)
        have := (nI_eq (by omega) (by omega)).mp q
        omega
    have nls : ¬ (e i = 0 ∧ ma_d g i = k + 1 ∧ ∀ m, m < t → ¬ ma_T (e m) i) → wX_countLasting_39 post (wX_countLasting_6 post (nI f) (nI t) (nI k) (nI n) ag ab ac ap (dd + 1)) (nI f) (nI t) (nI k) (nI (ma_la e (ma_d g) (k + 1) i t)) (nI i) 0 (nI n) ag ab ac ap := fun w => by
      unfold wX_countLasting_39
      rw [hf w] at h1
      exact br_t rfl (nm_r (nI_1 i) h1)
    refine br_f (nI_ge (by omega) (by omega)) ⟨hv, ?_⟩
    rw [ea]
    rcases hP i hin with ⟨a, h1, h2, h3⟩ | ⟨j, h1, h2, h3, h4, h5⟩ | ⟨h1, h2, h3⟩
    · rw [h3]
      exact br_f (ma_nm1 (by omega)) ⟨hv, br_t (nI_lt (by omega) (by omega)) (nls (fun z => ma_T_ne h2 z.1))⟩
    · rw [h5]
      refine br_f (ma_nm1 (by omega)) ⟨hv, ?_⟩
      by_cases w : j < t
      · exact br_t (nI_lt w (by omega)) (nls (fun z => z.2.2 j w h4))
      · refine br_f (nI_nlt (by omega) (by omega)) (lst h3 (fun m hm hT => ?_))
        have := hJ.2.1 m j i (by omega) h2 hT h4
        omega
    · rw [h3]
      exact br_t rfl (lst h1 (fun m hm => h2 m (by omega)))
theorem mx_cl {post : Int32 → Prop} {g e : Nat → Nat} {n f t k : Nat} {ag ab ac ap : Nat → Int32} (hn : n ≤ 26) (hG : ma_G g n) (hX : ma_XA g e n ag ab ac ap) (hft : f ≤ t) (ht : t ≤ n) (hk : k < 8) (hp : post (nI (ma_la e (ma_d g) (k + 1) f t))) : wpX_countLasting post (nI n, ag, ab, ac, ap) (nI f) (nI t) (nI k) := by
  unfold wpX_countLasting
  exact ⟨f + 1, mx_cl_l hn hG hX hft ht hk hp f 0 (by omega)⟩
theorem ma_long {g e : Nat → Nat} {n k : Nat} {ag ab ac ap ay : Nat → Int32} (hn : n ≤ 26) (hG : ma_G g n) (hX : ma_XA g e n ag ab ac ap) (hy : ma_arr ay g n) (hk : k < 7) : ∀ dd i m, i + dd = n → m ≤ 26 → ∃ r : Nat, (∀ post : Int32 → Prop, post (nI r) → wX_longest_13 post (nI k) (nI n) ag ab ac ap (dd + 1) (nI m) (nI i)) ∧ (∀ (post : Int32 → SY → Prop) cy, (∀ cy', post (nI r) (nI n, ay, cy')) → wY_longest_14 post (nI k) (dd + 1) (nI m) (nI i) (nI n) ay cy) := by
  obtain ⟨hJ, hg, hb, hc, hP⟩ := hX
  intro dd
  induction dd with
  | zero =>
    intro i m hi hm
    have hi' : i = n := by omega
    subst hi'
    exact ⟨m, fun post h => br_t (nI_le (Nat.le_refl i) (by omega)) h, fun post cy h => br_t (nI_le (Nat.le_refl i) (by omega)) (h cy)⟩
  | succ dd ih =>
    intro i m hi hm
    have hin : i < n := by omega
    have hdi := ma_d_pos hG hin
    have hv : vp_in (nI i) 26 := vp_in_nI (by omega) (by decide)
    have ea : ap (nI i).toNatClampNeg = ap i := by rw [nI_clamp (by omega)]
    have hc1 : ¬ nI n ≤ nI i := nI_ge hin (by omega)
    have hle0 : ∀ x : Int32, x < 0 → x ≤ nI m := fun x hx => Int32.le_of_lt (Int32.lt_of_lt_of_le hx (nI_pos' (by omega)))
    have hm2 : (-2 : Int32) - nI i ≤ nI m := hle0 _ (by
      rw [Int32.lt_iff_toInt_lt, Int32.toInt_sub, nI_toInt (by omega), show (0 : Int32).toInt = 0 from by decide, show (-2 : Int32).toInt = -2 from by decide, Int.bmod_eq_of_le (by omega) (by omega)]
      omega)
    have skipY : ∀ (post : Int32 → SY → Prop) cy r, wY_longest_14 post (nI k) (dd + 1) (nI m) (nI (i + 1)) (nI n) ay cy → (r = -2) → wY_longest_49 post (wY_longest_14 post (nI k) (dd + 1)) (nI k) (nI m) (nI i) r (nI n) ay cy := fun post cy r h hr => by
      subst hr
      unfold wY_longest_49
      exact br_t hm2 (nm_r (nI_1 i) h)
    obtain ⟨r0, hX0, hY0⟩ := ih (i + 1) m (by omega) hm
    by_cases w : ma_d g i = k + 1
    · have ed : nI (ma_d g i - 1) = nI k := congrArg nI (by omega)
      rcases hP i hin with ⟨a, h1, h2, h3⟩ | ⟨j, h1, h2, h3, h4, h5⟩ | ⟨h1, h2, h3⟩
      · refine ⟨r0, fun post h => br_f hc1 ⟨hv, nm_r (e' := nI a - nI i) (by rw [ea, h3]) (br_t (hle0 _ (pk_sneg (by omega) h1)) (nm_r (nI_1 i) (hX0 post h)))⟩, fun post cy h => br_f hc1 (my_dim hn hG hy rfl hin (br_t ed (my_opening hn hG hy hJ hin rfl (fun q => absurd q (ma_T_ne h2)) (fun q cy1 => br_t rfl ?_))))⟩
        exact skipY post cy1 _ (hY0 post cy1 h) rfl
      · have es : nI j - nI i = nI (j - i) := pk_sub (by omega)
        by_cases z : j - i ≤ m
        · refine ⟨r0, fun post h => br_f hc1 ⟨hv, nm_r (e' := nI (j - i)) (by rw [ea, h5, es]) (br_t (nI_le z (by omega)) (nm_r (nI_1 i) (hX0 post h)))⟩, fun post cy h => br_f hc1 (my_dim hn hG hy rfl hin (br_t ed (my_opening hn hG hy hJ hin rfl (fun q cy1 => br_f (by decide) (my_mate hn hG hy hJ hin rfl (fun a _ hT => absurd q (ma_T_ne hT)) (fun _ j' _ hj2 hT cy2 => ?_) (fun _ hno => absurd h4 (hno j h2)))) (fun q => absurd h3 q))))⟩
          have ej : j' = j := hJ.2.1 j' j i hj2 h2 hT h4
          subst ej
          unfold wY_longest_49
          exact br_t (by rw [es]; exact nI_le z (by omega)) (nm_r (nI_1 i) (hY0 post cy2 h))
        · obtain ⟨r1, hX1, hY1⟩ := ih (i + 1) (j - i) (by omega) (by omega)
          refine ⟨r1, fun post h => br_f hc1 ⟨hv, nm_r (e' := nI (j - i)) (by rw [ea, h5, es]) (br_f (nI_ge (by omega) (by omega)) ⟨hv, mx_dimg hn hG hg hin (br_t ed (nm_r (nI_1 i) (hX1 post h)))⟩)⟩, fun post cy h => br_f hc1 (my_dim hn hG hy rfl hin (br_t ed (my_opening hn hG hy hJ hin rfl (fun q cy1 => br_f (by decide) (my_mate hn hG hy hJ hin rfl (fun a _ hT => absurd q (ma_T_ne hT)) (fun _ j' _ hj2 hT cy2 => ?_) (fun _ hno => absurd h4 (hno j h2)))) (fun q => absurd h3 q))))⟩
          have ej : j' = j := hJ.2.1 j' j i hj2 h2 hT h4
          subst ej
          unfold wY_longest_49
          exact br_f (by rw [es]; exact nI_ge (by omega) (by omega)) (nm_r es (nm_r (nI_1 i) (hY1 post cy2 h)))
      · refine ⟨r0, fun post h => br_f hc1 ⟨hv, nm_r (e' := -1 - nI i) (by rw [ea, h3]) (br_t (hle0 _ ?_) (nm_r (nI_1 i) (hX0 post h)))⟩, fun post cy h => br_f hc1 (my_dim hn hG hy rfl hin (br_t ed (my_opening hn hG hy hJ hin rfl (fun q cy1 => br_f (by decide) (my_mate hn hG hy hJ hin rfl (fun a _ hT => absurd q (ma_T_ne hT)) (fun _ j' _ hj2 hT => absurd hT (h2 j' hj2)) (fun _ _ cy2 => skipY post cy2 _ (hY0 post cy2 h) rfl))) (fun q => absurd h1 q))))⟩
        rw [Int32.lt_iff_toInt_lt, Int32.toInt_sub, nI_toInt (by omega), show (0 : Int32).toInt = 0 from by decide, show (-1 : Int32).toInt = -1 from by decide, Int.bmod_eq_of_le (by omega) (by omega)]
        omega
    · have ed : ¬ nI (ma_d g i - 1) = nI k := fun q => w (by
        have := (nI_eq (by omega) (by omega)).mp q
        omega)
      refine ⟨r0, fun post h => br_f hc1 ⟨hv, nm_e (br_c (fun _ => nm_r (nI_1 i) (hX0 post h)) (fun _ => ⟨hv, mx_dimg hn hG hg hin (br_f ed (nm_r (nI_1 i) (hX0 post h)))⟩))⟩, fun post cy h => br_f hc1 (my_dim hn hG hy rfl hin (br_f ed ?_))⟩
      unfold wY_longest_47
      exact skipY post cy _ (hY0 post cy h) rfl
