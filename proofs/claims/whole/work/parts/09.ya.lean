theorem my_pts {post : Int32 → Prop} {s : Nat} {fc : Int32} {ay cy : Nat → Int32} (hs : s < 64) (h : post (nI (ma_pop s))) : ∀ d p, p + d = 6 → wY_points_4 post (nI s) fc ay cy (d + 1) (nI (ma_pq s p)) (nI p) := by
  intro d
  induction d with
  | zero =>
    intro p hp
    have hp' : p = 6 := by omega
    subst hp'
    rw [ma_pq6]
    exact br_t (by decide) h
  | succ d ih =>
    intro p hp
    exact br_f (nI_ge (b := 6) (by omega) (by decide)) (nm_r (ma_pqs hs (by omega)) (nm_r (nI_1 p) (ih (p + 1) (by omega))))
theorem my_points {post : Int32 → Prop} {s : Nat} {x fc : Int32} {ay cy : Nat → Int32} (hx : x = nI s) (hs : s < 64) (h : post (nI (ma_pop s))) : wpY_points post (fc, ay, cy) x := by
  subst hx
  unfold wpY_points
  exact ⟨7, my_pts hs h 6 0 rfl⟩
theorem my_badPiece_t {post : Int32 → Prop} {s : Nat} {fc : Int32} {ay cy : Nat → Int32} (h : ma_ok s) (hp : post 0) : wpY_badPiece post (fc, ay, cy) (nI s) := by
  obtain ⟨h1, h2, h3⟩ := h
  unfold wpY_badPiece
  exact br_f (nI_nlt (b := 1) h1 (by omega)) (br_f (nI_nlt (a := 63) (b := s) (by omega) (by decide)) (my_points rfl h2 (br_t (nI_le (b := 4) h3 (by decide)) hp)))
theorem my_badPiece_f {post : Int32 → Prop} {v fc : Int32} {ay cy : Nat → Int32} (h : ∀ s, ma_ok s → v ≠ nI s) (hp : post 1) : wpY_badPiece post (fc, ay, cy) v := by
  unfold wpY_badPiece
  refine br_c (fun _ => hp) (fun h1 => br_c (fun _ => hp) (fun h2 => ?_))
  obtain ⟨s, hs, h1', rfl⟩ := ma_v63 h1 h2
  refine my_points rfl hs (br_c (fun h4 => absurd rfl (h s ⟨h1', hs, ?_⟩)) (fun _ => hp))
  have := ma_pop_le s
  exact (nI_leI (b := 4) (by omega) (by decide)).mp h4
theorem my_find_l {post : Int32 → Prop} {g : Nat → Nat} {n s : Nat} {ay cy : Nat → Int32} (hn : n ≤ 26) (hg : ma_arr ay g n) (hgl : ∀ i, i < n → g i < 64) (hs : s < 64) (h1 : ∀ i, i < n → g i = s → post (nI i)) (h0 : (∀ i, i < n → g i ≠ s) → post (-1)) : ∀ d i, i + d = n → (∀ j, j < i → g j ≠ s) → wY_find_2 post (nI s) (nI n) ay cy (d + 1) (nI i) := by
  intro d
  induction d with
  | zero =>
    intro i hi hj
    have hi' : i = n := by omega
    subst hi'
    exact br_t (nI_le (Nat.le_refl i) (by omega)) (h0 hj)
  | succ d ih =>
    intro i hi hj
    refine br_f (nI_ge (by omega) (by omega)) (br_f (nI_ge (b := 26) (by omega) (by decide)) ⟨vp_in_nI (by omega) (by decide), ?_⟩)
    by_cases e : g i = s
    · exact br_t (by rw [ma_arr_c hg (by omega) hn, e]) (h1 i (by omega) e)
    · refine br_f (fun w => e ?_) (nm_r (nI_1 i) (ih (i + 1) (by omega) (fun j hj' => ?_)))
      · rw [ma_arr_c hg (by omega) hn] at w
        exact (nI_eq (Nat.lt_trans (hgl i (by omega)) (by decide)) (Nat.lt_trans hs (by decide))).mp w
      · by_cases q : j = i
        · rw [q]; exact e
        · exact hj j (by omega)
theorem my_find {post : Int32 → Prop} {g : Nat → Nat} {n s : Nat} {x : Int32} {ay cy : Nat → Int32} (hn : n ≤ 26) (hg : ma_arr ay g n) (hgl : ∀ i, i < n → g i < 64) (hx : x = nI s) (hs : s < 64) (h1 : ∀ i, i < n → g i = s → post (nI i)) (h0 : (∀ i, i < n → g i ≠ s) → post (-1)) : wpY_find post (nI n, ay, cy) x := by
  subst hx
  unfold wpY_find
  exact ⟨n + 1, my_find_l hn hg hgl hs h1 h0 n 0 (by omega) (fun j hj => absurd hj (Nat.not_lt_zero j))⟩
theorem ma_pop0 : ma_pop 0 = 0 := by decide
theorem my_st_l {post : Int32 → Prop} {g : Nat → Nat} {n s : Nat} {ay cy : Nat → Int32} (hn : n ≤ 26) (hG : ma_G g n) (hg : ma_arr ay g n) (hs : s < 64) (hs1 : ma_pop s ≠ 1) (h1 : (∀ r, ma_sd r s = true → ∃ j, j < n ∧ g j = r) → post 1) (h0 : (∃ r, ma_sd r s = true ∧ ∀ j, j < n → g j ≠ r) → post 0) : ∀ d p, p + d = 6 → (∀ q, q < p → s.testBit q = true → ∃ j, j < n ∧ g j = s ^^^ 2 ^ q) → wY_sidesThere_13 post (nI s) (nI n) ay cy (d + 1) (nI p) := by
  intro d
  induction d with
  | zero =>
    intro p hp H
    have hp' : p = 6 := by omega
    subst hp'
    refine br_t (by decide) (h1 (fun r hr => ?_))
    obtain ⟨h0, q, hq, hb, e⟩ := ma_sd_iff.mp hr
    obtain ⟨j, hj, e'⟩ := H q hq hb
    exact ⟨j, hj, e'.trans e.symm⟩
  | succ d ih =>
    intro p hp H
    refine br_f (nI_ge (b := 6) (by omega) (by decide)) ?_
    cases hb : s.testBit p
    · exact br_f (by rw [ma_hb_f (by omega) (by omega) hb]; decide) (nm_r (nI_1 p) (ih (p + 1) (by omega) (fun q hq hq1 => by
        by_cases w : q = p
        · rw [w, hb] at hq1; exact Bool.noConfusion hq1
        · exact H q (by omega) hq1)))
    · have hpp := ma_pp s hs p (by omega) hb
      have hz : s ^^^ 2 ^ p ≠ 0 := by
        intro w
        rw [w, ma_pop0] at hpp
        omega
      refine br_t (ma_hb_t (by omega) (by omega) hb) (my_find hn hg (fun i hi => (hG.1 i hi).2.1) ((ma_side s hs p (by omega)).trans (by rw [if_pos hb])) (by omega) (fun m hm e => ?_) (fun hno => ?_))
      · exact br_t (nI_pos' (by omega)) (nm_r (nI_1 p) (ih (p + 1) (by omega) (fun q hq hq1 => by
          by_cases w : q = p
          · rw [w]; exact ⟨m, hm, e⟩
          · exact H q (by omega) hq1)))
      · exact br_f (by decide) (h0 ⟨_, ma_sd_iff.mpr ⟨hz, p, by omega, hb, rfl⟩, hno⟩)
theorem ma_pop_z : ∀ s, s < 64 → ma_pop s = 0 → s = 0 := by decide +kernel
theorem ma_sd_one {r s : Nat} (hs : s < 64) (h1 : ma_pop s = 1) : ma_sd r s = false := by
  cases h : ma_sd r s
  · rfl
  · have h2 := ma_sd_pop hs h
    have h3 := ma_pop_z r (by omega) (by omega)
    exact absurd h3 (ma_sd_iff.mp h).1
theorem my_st {post : Int32 → Prop} {g : Nat → Nat} {n s : Nat} {ay cy : Nat → Int32} (hn : n ≤ 26) (hG : ma_G g n) (hg : ma_arr ay g n) (hs : s < 64) (h1 : (∀ r, ma_sd r s = true → ∃ j, j < n ∧ g j = r) → post 1) (h0 : (∃ r, ma_sd r s = true ∧ ∀ j, j < n → g j ≠ r) → post 0) : wpY_sidesThere post (nI n, ay, cy) (nI s) := by
  unfold wpY_sidesThere
  refine my_points rfl hs ?_
  by_cases w : ma_pop s = 1
  · refine br_t (by rw [w]; rfl) (h1 (fun r hr => ?_))
    rw [ma_sd_one hs w] at hr
    exact Bool.noConfusion hr
  · have := ma_pop_le s
    refine br_f (fun q => w ((nI_eq (b := 1) (by omega) (by decide)).mp q)) ⟨7, my_st_l hn hG hg hs w h1 h0 6 0 rfl (fun q hq => absurd hq (Nat.not_lt_zero q))⟩
theorem my_put {post : Int32 → SY → Prop} {n : Nat} {x : Int32} {ay cy : Nat → Int32} (hn : n < 26) (hp : post (nI n) (nI (n + 1), upd ay n x, cy)) : wpY_put post (nI n, ay, cy) x := by
  unfold wpY_put
  exact br_t (nI_le (b := 25) (by omega) (by decide)) ⟨vp_in_nI hn (by decide), nm_r (e' := upd ay n x) (by rw [nI_clamp (by omega)]) (nm_r (nI_1 n) hp)⟩
theorem my_put_f {post : Int32 → SY → Prop} {n : Nat} {x : Int32} {ay cy : Nat → Int32} (hn : n = 26) (hp : post (-4) (nI n, ay, cy)) : wpY_put post (nI n, ay, cy) x := by
  subst hn
  unfold wpY_put
  exact br_f (by decide) hp
theorem my_dim {post : Int32 → Prop} {g : Nat → Nat} {n i : Nat} {x fc : Int32} {ay cy : Nat → Int32} (hn : n ≤ 26) (hG : ma_G g n) (hg : ma_arr ay g n) (hx : x = nI i) (hi : i < n) (h : post (nI (ma_d g i - 1))) : wpY_dimension post (fc, ay, cy) x := by
  subst hx
  obtain ⟨h1, h2, h3⟩ := hG.1 i hi
  unfold wpY_dimension
  refine ⟨vp_in_nI (by omega) (by decide), my_points (ma_arr_c hg hi hn) h2 ?_⟩
  rw [show nI (ma_pop (g i)) - 1 = nI (ma_pop (g i) - 1) from pk_sub (b := 1) (ma_pop_pos _ h2 h1)]
  exact h
theorem ma_sdq : ∀ r, r < 64 → ∀ s, s < 64 → ((r ≠ 0 ∧ ma_pop r + 1 = ma_pop s ∧ r &&& s = r) ↔ ma_sd r s = true) := by decide +kernel
theorem ma_d_pos {g : Nat → Nat} {n i : Nat} (hG : ma_G g n) (hi : i < n) : 1 ≤ ma_d g i ∧ ma_d g i ≤ 4 := by
  obtain ⟨h1, h2, h3⟩ := hG.1 i hi
  exact ⟨ma_pop_pos _ h2 h1, h3⟩
theorem ma_bd_all {g : Nat → Nat} {n i : Nat} (hG : ma_G g n) (hi : i < n) : ma_of (fun j => ma_sd (g j) (g i)) n = ma_bd g i := by
  apply Nat.eq_of_testBit_eq
  intro j
  rw [ma_bd_bit, ma_of_bit]
  cases h : ma_sd (g j) (g i)
  · rw [Bool.and_false, Bool.and_false]
  · by_cases hj : j < n
    · have := ma_G_sd hG hi hj h
      simp [hj, this]
    · have h2 : ¬ j < i := by omega
      simp [hj, h2]
theorem ma_of_s {P : Nat → Bool} {n : Nat} (h : P n = true) : ma_of P (n + 1) = ma_of P n ||| 2 ^ n := if_pos h
theorem ma_of_sf {P : Nat → Bool} {n : Nat} (h : P n = false) : ma_of P (n + 1) = ma_of P n := if_neg (by rw [h]; exact Bool.noConfusion)
theorem my_sides_l {post : Int32 → Prop} {g : Nat → Nat} {n i : Nat} {ay cy : Nat → Int32} (hn : n ≤ 26) (hG : ma_G g n) (hg : ma_arr ay g n) (hi : i < n) (h2 : 2 ≤ ma_d g i) (h : post (nI (ma_bd g i))) : ∀ d j, j + d = n → wY_sides_14 post (nI i) (nI n) ay cy (d + 1) (nI (ma_of (fun j => ma_sd (g j) (g i)) j)) (nI j) := by
  intro d
  induction d with
  | zero =>
    intro j hj
    have hj' : j = n := by omega
    subst hj'
    rw [ma_bd_all hG hi]
    exact br_t (nI_le (Nat.le_refl j) (by omega)) h
  | succ d ih =>
    intro j hj
    have hjn : j < n := by omega
    have hdj := ma_d_pos hG hjn
    have hdi := ma_d_pos hG hi
    obtain ⟨g1, g2, g3⟩ := hG.1 j hjn
    obtain ⟨k1, k2, k3⟩ := hG.1 i hi
    have hq := ma_sdq (g j) g2 (g i) k2
    refine br_f (nI_ge (by omega) (by omega)) (br_f (nI_ge (b := 26) (by omega) (by decide)) (my_dim hn hG hg rfl hjn (my_dim hn hG hg rfl hi ?_)))
    have hs1 : nI (ma_d g i - 1) - 1 = nI (ma_d g i - 2) := pk_sub (b := 1) (by omega)
    have hvj : vp_in (nI j) 26 := vp_in_nI (by omega) (by decide)
    have hvi : vp_in (nI i) 26 := vp_in_nI (by omega) (by decide)
    have nxt : ma_sd (g j) (g i) = false → wY_sides_14 post (nI i) (nI n) ay cy (d + 1) (nI (ma_of (fun j => ma_sd (g j) (g i)) j)) (nI (j + 1)) := fun w => by
      have := ih (j + 1) (by omega)
      rw [ma_of_sf (P := fun j => ma_sd (g j) (g i)) w] at this
      exact this
    by_cases hd : ma_d g j + 1 = ma_d g i
    · refine br_t (by rw [hs1]; exact congrArg nI (by omega)) ⟨hvj, hvi, hvj, ?_⟩
      rw [ma_arr_c hg hjn hn, ma_arr_c hg hi hn, nx_and]
      by_cases ha : g j &&& g i = g j
      · have hsd := hq.mp ⟨by omega, hd, ha⟩
        refine br_t (by rw [ha]) (nm_r (e' := nI (ma_of (fun j => ma_sd (g j) (g i)) (j + 1))) ?_ (nm_r (nI_1 j) (ih (j + 1) (by omega))))
        rw [ma_sh1 j (by omega), ma_nor, ma_of_s (P := fun j => ma_sd (g j) (g i)) hsd]
      · refine br_f (fun w => ha ?_) (nm_r (nI_1 j) (nxt ?_))
        · refine (nI_eq ?_ (by omega)).mp w
          have := Nat.and_le_left (n := g j) (m := g i)
          omega
        · cases hsd : ma_sd (g j) (g i)
          · rfl
          · exact absurd (hq.mpr hsd).2.2 ha
    · refine br_f (fun w => hd ?_) (nm_r (nI_1 j) (nxt ?_))
      · rw [hs1] at w
        have := (nI_eq (by omega) (by omega)).mp w
        omega
      · cases hsd : ma_sd (g j) (g i)
        · rfl
        · exact absurd (hq.mpr hsd).2.1 hd
theorem my_sides {post : Int32 → Prop} {g : Nat → Nat} {n i : Nat} {x : Int32} {ay cy : Nat → Int32} (hn : n ≤ 26) (hG : ma_G g n) (hg : ma_arr ay g n) (hx : x = nI i) (hi : i < n) (h : post (nI (ma_bd g i))) : wpY_sides post (nI n, ay, cy) x := by
  subst hx
  have hdi := ma_d_pos hG hi
  unfold wpY_sides
  refine my_dim hn hG hg rfl hi ?_
  by_cases w : ma_d g i = 1
  · have h0 : ma_bd g i = 0 := by
      apply Nat.eq_of_testBit_eq
      intro j
      rw [ma_bd_bit, ma_sd_one (hG.1 i hi).2.1 w, Nat.zero_testBit, Bool.and_false]
    rw [h0] at h
    exact br_t (by rw [w]; rfl) h
  · exact br_f (nI_ne0 (by omega) (by omega)) ⟨n + 1, my_sides_l hn hG hg hi (by omega) h n 0 (by omega)⟩
