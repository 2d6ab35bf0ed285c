theorem ma_ring4 {A B C D L : Int32} (h : A + D = L + B + C) : A - B - (C - D) = L := by grind
theorem my_last {post : Int32 → SY → Prop} {g e : Nat → Nat} {n i j k : Nat} {xi xj xk : Int32} {ay cy : Nat → Int32} (hn : n ≤ 26) (hG : ma_G g n) (hg : ma_arr ay g n) (hJ : ma_J (ma_bd g) (ma_d g) e n) (hij : i ≤ j) (hj : j ≤ n) (hk : k < 7) (hi' : xi = nI i) (hj' : xj = nI j) (hk' : xk = nI k) (hp : ∀ cy', post (nI (ma_la e (ma_d g) (k + 1) i j)) (nI n, ay, cy')) : wpY_last post (nI n, ay, cy) xi xj xk := by
  subst hi' hj' hk'
  unfold wpY_last
  refine my_tally hn hG hg (by omega) (by omega) rfl rfl (my_rank (t := i) (k := k) (s := 0) hn hG hg (by omega) (by omega) (by omega) rfl rfl rfl (fun c1 cy1 r1 hR1 _ => ?_))
  refine nm_e (my_rank (t := j) (k := k + 1) (s := 0) hn hG hg (by omega) (by omega) (by omega) rfl (nI_1 k) rfl (fun c2 cy2 r2 hR2 _ => ?_))
  refine my_rank (t := j) (k := k + 1) (s := i) hn hG hg (by omega) (by omega) (by omega) rfl (nI_1 k) rfl (fun c3 cy3 r3 hR3 _ => ?_)
  refine nm_e ?_
  have h1 : r1 = ma_rf e (ma_d g) (k + 1) i 0 := hR1.2.2.1.trans (ma_F_rf hJ _ _ (by omega))
  have h2 : r2 = ma_rf e (ma_d g) (k + 1 + 1) j 0 := hR2.2.2.1.trans (ma_F_rf hJ _ _ (by omega))
  have h3 : r3 = ma_rf e (ma_d g) (k + 1 + 1) j i := hR3.2.2.1.trans (ma_F_rf hJ _ _ (by omega))
  have h4 := ma_last (ma_G_Fr hG) hJ (k + 1) hij hj
  rw [← h1, ← h2, ← h3] at h4
  have h5 := congrArg nI h4
  rw [← nI_add, ← nI_add, ← nI_add] at h5
  rw [ma_ring4 h5]
  exact hp cy3
theorem ma_la_le (e d : Nat → Nat) (K i j : Nat) : ma_la e d K i j ≤ i := ma_cp_le _ _
theorem my_opening {post : Int32 → SY → Prop} {g e : Nat → Nat} {n i : Nat} {xi : Int32} {ay cy : Nat → Int32} (hn : n ≤ 26) (hG : ma_G g n) (hg : ma_arr ay g n) (hJ : ma_J (ma_bd g) (ma_d g) e n) (hi : i < n) (hi' : xi = nI i) (h1 : e i = 0 → ∀ cy', post 1 (nI n, ay, cy')) (h0 : e i ≠ 0 → ∀ cy', post 0 (nI n, ay, cy')) : wpY_opening post (nI n, ay, cy) xi := by
  subst hi'
  have hd := ma_d_pos hG hi
  have hK : ma_d g i - 1 + 1 = ma_d g i := by omega
  unfold wpY_opening
  refine my_dim hn hG hg rfl hi (my_last (i := i + 1) (j := i + 1) (k := ma_d g i - 1) hn hG hg hJ (Nat.le_refl _) (by omega) (by omega) (nI_1 i) (nI_1 i) rfl (fun cy1 => my_last (i := i) (j := i) (k := ma_d g i - 1) hn hG hg hJ (Nat.le_refl _) (by omega) (by omega) rfl rfl rfl (fun cy2 => ?_)))
  rw [hK]
  have hl := ma_la_le e (ma_d g) (ma_d g i) i i
  by_cases w : e i = 0
  · rw [ma_la_op hJ hi w]
    exact br_f (nI_ge (by omega) (by omega)) (h1 w cy2)
  · rw [ma_la_cl (ma_G_Fr hG) hJ hi w]
    exact br_t (nI_le (Nat.le_refl _) (by omega)) (h0 w cy2)
theorem ma_ring1 (A B : Int32) : A + 1 - B - A + B = 1 := by grind
theorem ma_ring2 (A B : Int32) : A + 1 - (B + 1) - A + B = 0 := by grind
theorem ma_ring3 (A B : Int32) : A - B - A + B = 0 := by grind
theorem my_partners {post : Int32 → SY → Prop} {g e : Nat → Nat} {n i j : Nat} {xi xj : Int32} {ay cy : Nat → Int32} (hn : n ≤ 26) (hG : ma_G g n) (hg : ma_arr ay g n) (hJ : ma_J (ma_bd g) (ma_d g) e n) (hij : i < j) (hj : j < n) (hi' : xi = nI i) (hj' : xj = nI j) (h1 : ma_T (e j) i → ∀ cy', post 1 (nI n, ay, cy')) (h0 : ¬ ma_T (e j) i → ∀ cy', post 0 (nI n, ay, cy')) : wpY_partners post (nI n, ay, cy) xi xj := by
  subst hi' hj'
  have hdi := ma_d_pos hG (show i < n by omega)
  have hdj := ma_d_pos hG hj
  have hK : ma_d g i - 1 + 1 = ma_d g i := by omega
  unfold wpY_partners
  refine my_dim hn hG hg rfl (show i < n by omega) (my_dim hn hG hg rfl hj ?_)
  by_cases w : ma_d g i + 1 = ma_d g j
  · refine br_t (by rw [nI_1]; exact congrArg nI (by omega)) ?_
    refine my_last (i := i + 1) (j := j) (k := ma_d g i - 1) hn hG hg hJ (by omega) (by omega) (by omega) (nI_1 i) rfl rfl (fun cy1 => ?_)
    refine my_last (i := i + 1) (j := j + 1) (k := ma_d g i - 1) hn hG hg hJ (by omega) (by omega) (by omega) (nI_1 i) (nI_1 j) rfl (fun cy2 => ?_)
    refine my_last (i := i) (j := j) (k := ma_d g i - 1) hn hG hg hJ (by omega) (by omega) (by omega) rfl rfl rfl (fun cy3 => ?_)
    refine my_last (i := i) (j := j + 1) (k := ma_d g i - 1) hn hG hg hJ (by omega) (by omega) (by omega) rfl (nI_1 j) rfl (fun cy4 => ?_)
    rw [hK]
    by_cases q : ma_T (e j) i
    · obtain ⟨q1, q2⟩ := ma_la_pt (d := ma_d g) hJ hj q
      rw [q1, q2, ← nI_1]
      exact br_t (ma_ring1 _ _) (h1 q cy4)
    · rcases ma_la_np (d := ma_d g) q with ⟨q1, q2⟩ | ⟨q1, q2⟩
      · rw [q1, q2, ← nI_1, ← nI_1]
        exact br_f (by rw [ma_ring2]; decide) (h0 q cy4)
      · rw [q1, q2]
        exact br_f (by rw [ma_ring3]; decide) (h0 q cy4)
  · refine br_f (fun q => w ?_) (h0 (fun hT => w (ma_J_hom (ma_G_Fr hG) hJ hj i hT.1)) cy)
    rw [nI_1] at q
    have := (nI_eq (by omega) (by omega)).mp q
    omega
theorem my_mate1_l {post : Int32 → SY → Prop} {g e : Nat → Nat} {n i : Nat} {ay : Nat → Int32} (hn : n ≤ 26) (hG : ma_G g n) (hg : ma_arr ay g n) (hJ : ma_J (ma_bd g) (ma_d g) e n) (hi : i < n) (h1 : ∀ j, i < j → j < n → ma_T (e j) i → ∀ cy', post (nI j) (nI n, ay, cy')) (h0 : (∀ j, j < n → ¬ ma_T (e j) i) → ∀ cy', post (-2) (nI n, ay, cy')) : ∀ dd j cy, j + dd = n → (∀ m, m < j → ¬ ma_T (e m) i) → wY_mate_8 post (nI i) 1 (dd + 1) (nI j) (nI n) ay cy := by
  intro dd
  induction dd with
  | zero =>
    intro j cy hj H
    have hj' : j = n := by omega
    subst hj'
    exact br_t (nI_le (Nat.le_refl j) (by omega)) (h0 H cy)
  | succ dd ih =>
    intro j cy hj H
    have nxt : ∀ cy', ¬ ma_T (e j) i → wY_mate_44 post (wY_mate_8 post (nI i) 1 (dd + 1)) (nI i) 1 (nI j) (nI n) ay cy' := fun cy' w => by
      unfold wY_mate_44
      refine br_f (by decide) (nm_r (nI_1 j) (ih (j + 1) cy' (by omega) (fun m hm => ?_)))
      by_cases q : m = j
      · rw [q]; exact w
      · exact H m (by omega)
    refine br_f (nI_ge (by omega) (by omega)) (br_f (by decide) ?_)
    by_cases w : j ≤ i
    · refine br_t (nI_le w (by omega)) (nxt cy (fun hT => ?_))
      have := ma_J_top hJ (i := j) (by omega) hT
      omega
    · refine br_f (nI_ge (by omega) (by omega)) (my_opening hn hG hg hJ (i := j) (by omega) rfl (fun q cy1 => ?_) (fun q cy1 => ?_))
      · exact br_f (by decide) (nxt cy1 (fun hT => ma_T_ne hT q))
      · exact br_t rfl (my_partners hn hG hg hJ (i := i) (j := j) (by omega) (by omega) rfl rfl (fun hT cy2 => br_f (by decide) (h1 j (by omega) (by omega) hT cy2)) (fun hT cy2 => br_t rfl (nxt cy2 hT)))
theorem my_mate0_l {post : Int32 → SY → Prop} {g e : Nat → Nat} {n i : Nat} {ay : Nat → Int32} (hn : n ≤ 26) (hG : ma_G g n) (hg : ma_arr ay g n) (hJ : ma_J (ma_bd g) (ma_d g) e n) (hi : i < n) (he : e i ≠ 0) (h1 : ∀ a, a < i → ma_T (e i) a → ∀ cy', post (nI a) (nI n, ay, cy')) : ∀ dd j cy, j + dd = n → (∀ m, m < j → ¬ ma_T (e i) m) → wY_mate_8 post (nI i) 0 (dd + 1) (nI j) (nI n) ay cy := by
  intro dd
  induction dd with
  | zero =>
    intro j cy hj H
    have hj' : j = n := by omega
    subst hj'
    obtain ⟨a, ha⟩ := ma_T_ex he
    have := ma_J_top hJ hi ha
    exact absurd ha (H a (by omega))
  | succ dd ih =>
    intro j cy hj H
    have nxt : ∀ cy', ¬ ma_T (e i) j → wY_mate_8 post (nI i) 0 (dd + 1) (nI (j + 1)) (nI n) ay cy' := fun cy' w =>
      ih (j + 1) cy' (by omega) (fun m hm => by
        by_cases q : m = j
        · rw [q]; exact w
        · exact H m (by omega))
    refine br_f (nI_ge (by omega) (by omega)) (br_t rfl (br_t rfl ?_))
    by_cases w : i ≤ j
    · refine br_t (nI_le w (by omega)) (nm_r (nI_1 j) (nxt cy (fun hT => ?_)))
      have := ma_J_top hJ hi hT
      omega
    · refine br_f (nI_ge (by omega) (by omega)) (my_opening hn hG hg hJ (i := j) (by omega) rfl (fun q cy1 => ?_) (fun q cy1 => ?_))
      · exact br_f (by decide) (my_partners hn hG hg hJ (i := j) (j := i) (by omega) hi rfl rfl (fun hT cy2 => br_f (by decide) (h1 j (by omega) hT cy2)) (fun hT cy2 => br_t rfl (nm_r (nI_1 j) (nxt cy2 hT))))
      · exact br_t rfl (nm_r (nI_1 j) (nxt cy1 (fun hT => q (hJ.2.2 i j hi hT))))
theorem my_mate {post : Int32 → SY → Prop} {g e : Nat → Nat} {n i : Nat} {xi : Int32} {ay cy : Nat → Int32} (hn : n ≤ 26) (hG : ma_G g n) (hg : ma_arr ay g n) (hJ : ma_J (ma_bd g) (ma_d g) e n) (hi : i < n) (hi' : xi = nI i) (h1 : ∀ a, a < i → ma_T (e i) a → ∀ cy', post (nI a) (nI n, ay, cy')) (h2 : e i = 0 → ∀ j, i < j → j < n → ma_T (e j) i → ∀ cy', post (nI j) (nI n, ay, cy')) (h3 : e i = 0 → (∀ j, j < n → ¬ ma_T (e j) i) → ∀ cy', post (-2) (nI n, ay, cy')) : wpY_mate post (nI n, ay, cy) xi := by
  subst hi'
  unfold wpY_mate
  refine my_opening hn hG hg hJ hi rfl (fun q cy1 => ⟨n + 1, ?_⟩) (fun q cy1 => ⟨n + 1, ?_⟩)
  · exact my_mate1_l hn hG hg hJ hi (h2 q) (h3 q) n 0 cy1 (by omega) (fun m hm => absurd hm (Nat.not_lt_zero m))
  · exact my_mate0_l hn hG hg hJ hi q h1 n 0 cy1 (by omega) (fun m hm => absurd hm (Nat.not_lt_zero m))
theorem my_forever_l {post : Int32 → SY → Prop} {g e : Nat → Nat} {n k : Nat} {ay : Nat → Int32} (hn : n ≤ 26) (hG : ma_G g n) (hg : ma_arr ay g n) (hJ : ma_J (ma_bd g) (ma_d g) e n) (hk : k < 7) (hp : ∀ cy', post (nI (ma_la e (ma_d g) (k + 1) n n)) (nI n, ay, cy')) : ∀ dd i cy, i + dd = n → wY_forever_14 post (nI k) (dd + 1) (nI (ma_la e (ma_d g) (k + 1) i n)) (nI i) (nI n) ay cy := by
  intro dd
  induction dd with
  | zero =>
    intro i cy hi
    have hi' : i = n := by omega
    subst hi'
    exact br_t (nI_le (Nat.le_refl i) (by omega)) (hp cy)
  | succ dd ih =>
    intro i cy hi
    have hin : i < n := by omega
    have hdi := ma_d_pos hG hin
    have h1 := fun cy' => ih (i + 1) cy' (by omega)
    have hf : ¬ (e i = 0 ∧ ma_d g i = k + 1 ∧ ∀ m, m < n → ¬ ma_T (e m) i) → ma_la e (ma_d g) (k + 1) (i + 1) n = ma_la e (ma_d g) (k + 1) i n := fun w => ma_cp_f (P := fun a => e a = 0 ∧ ma_d g a = k + 1 ∧ ∀ m, m < n → ¬ ma_T (e m) a) w
    have ht : (e i = 0 ∧ ma_d g i = k + 1 ∧ ∀ m, m < n → ¬ ma_T (e m) i) → ma_la e (ma_d g) (k + 1) (i + 1) n = ma_la e (ma_d g) (k + 1) i n + 1 := fun w => ma_cp_t (P := fun a => e a = 0 ∧ ma_d g a = k + 1 ∧ ∀ m, m < n → ¬ ma_T (e m) a) w
    refine br_f (nI_ge (by omega) (by omega)) (my_dim hn hG hg rfl hin ?_)
    by_cases w : ma_d g i = k + 1
    · refine br_t (congrArg nI (by omega)) (my_opening hn hG hg hJ hin rfl (fun q cy1 => br_f (by decide) ?_) (fun q cy1 => br_t rfl (nm_r (nI_1 i) ?_)))
      · refine my_mate hn hG hg hJ hin rfl (fun a _ hT => absurd q (ma_T_ne hT)) (fun _ j hj1 hj2 hT cy2 => br_t (nI_pos' (by omega)) (nm_r (nI_1 i) ?_)) (fun _ hno cy2 => br_f (by decide) (nm_r (nI_1 _) (nm_r (nI_1 i) ?_)))
        · have := h1 cy2
          rw [hf (fun z => z.2.2 j hj2 hT)] at this
          exact this
        · have := h1 cy2
          rw [ht ⟨q, w, hno⟩] at this
          exact this
      · have := h1 cy1
        rw [hf (fun z => q z.1)] at this
        exact this
    · refine br_f (fun q => w ?_) (nm_r (nI_1 i) ?_)
      · have := (nI_eq (by omega) (by omega)).mp q
        omega
      · have := h1 cy
        rw [hf (fun z => w z.2.1)] at this
        exact this
