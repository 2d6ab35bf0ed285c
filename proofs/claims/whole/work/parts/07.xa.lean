def ma_arr (a : Nat → Int32) (g : Nat → Nat) (n : Nat) : Prop := ∀ i, i < n → a i = nI (g i)
theorem ma_arr_c {a : Nat → Int32} {g : Nat → Nat} {n i : Nat} (h : ma_arr a g n) (hi : i < n) (hn : n ≤ 26) : a (nI i).toNatClampNeg = nI (g i) := by
  rw [nI_clamp (by omega)]
  exact h i hi
theorem ma_arr_put {a : Nat → Int32} {g : Nat → Nat} {n s : Nat} (h : ma_arr a g n) : ma_arr (upd a n (nI s)) (ma_put g n s) (n + 1) := by
  intro i hi
  by_cases q : i = n
  · rw [q, pk_us, ma_put_s]
  · rw [pk_un q, ma_put_n q]
    exact h i (by omega)
theorem ma_arr_up {a : Nat → Int32} {g : Nat → Nat} {n : Nat} {x : Int32} (h : ma_arr a g n) : ma_arr (upd a n x) g n := by
  intro i hi
  rw [pk_un (by omega)]
  exact h i hi
def ma_ok (s : Nat) : Prop := 1 ≤ s ∧ s < 64 ∧ ma_pop s ≤ 4
def ma_pq (s : Nat) : Nat → Nat
  | 0 => 0
  | p + 1 => ma_pq s p + s / 2 ^ p % 2
theorem ma_pq6 (s : Nat) : ma_pq s 6 = ma_pop s := by
  simp [ma_pq, ma_pop]
theorem ma_pop_le (s : Nat) : ma_pop s ≤ 6 := by
  unfold ma_pop
  omega
theorem ma_pop_pos : ∀ s, s < 64 → 1 ≤ s → 1 ≤ ma_pop s := by decide +kernel
theorem ma_pqs {s p : Nat} (hs : s < 64) (hp : p < 6) : nI (ma_pq s p) + ((nI s >>> (nI p &&& 31)) &&& 1) = nI (ma_pq s (p + 1)) := by
  rw [ma_shr1 (by omega) (by omega), nI_add]
  rfl
theorem mx_pts {post : Int32 → Prop} {s : Nat} (hs : s < 64) (h : post (nI (ma_pop s))) : ∀ d p, p + d = 6 → wX_pointsIn_4 post (nI s) (d + 1) (nI (ma_pq s p)) (nI p) := by
  intro d
  induction d with
  | zero =>
    intro p hp
    have hp' : p = 6 := by omega
    subst hp'
    rw [ma_pq6]
    exact br_t (by decide) h
  | succ d ih =>
    intro p hp
    exact br_f (nI_ge (b := 6) (by omega) (by decide)) (nm_r (ma_pqs hs (by omega)) (nm_r (nI_1 p) (ih (p + 1) (by omega))))
theorem mx_points {post : Int32 → Prop} {s : Nat} (hs : s < 64) (h : post (nI (ma_pop s))) : wpX_pointsIn post (nI s) := by
  unfold wpX_pointsIn
  exact ⟨7, mx_pts hs h 6 0 rfl⟩
theorem mx_dim {post : Int32 → Prop} {s : Nat} {x : Int32} (hx : x = nI s) (hs : s < 64) (h1 : 1 ≤ s) (h : post (nI (ma_pop s - 1))) : wpX_dimensionOf post x := by
  subst hx
  unfold wpX_dimensionOf
  refine mx_points hs ?_
  rw [show nI (ma_pop s) - 1 = nI (ma_pop s - 1) from pk_sub (b := 1) (ma_pop_pos s hs h1)]
  exact h
theorem ma_v63 {v : Int32} (h1 : ¬ v < 1) (h2 : ¬ 63 < v) : ∃ s, s < 64 ∧ 1 ≤ s ∧ v = nI s := by
  obtain ⟨s, hs, rfl⟩ := nI_of2 (M := 63) (n := 63) (by decide) (fun h => h1 (Int32.lt_trans h (by decide))) (Int32.not_lt.mp h2)
  refine ⟨s, by omega, ?_, rfl⟩
  apply Classical.byContradiction
  intro w
  have w' : s = 0 := by omega
  subst w'
  exact h1 (by decide)
theorem mx_isPiece_t {post : Int32 → Prop} {s : Nat} (h : ma_ok s) (hp : post 1) : wpX_isPiece post (nI s) := by
  obtain ⟨h1, h2, h3⟩ := h
  unfold wpX_isPiece
  exact br_f (nI_nlt (b := 1) h1 (by omega)) (br_f (nI_nlt (a := 63) (b := s) (by omega) (by decide)) (mx_points h2 (br_f (nI_nlt (a := 4) h3 (by decide)) hp)))
theorem mx_isPiece_f {post : Int32 → Prop} {v : Int32} (h : ∀ s, ma_ok s → v ≠ nI s) (hp : post 0) : wpX_isPiece post v := by
  unfold wpX_isPiece
  refine br_c (fun _ => hp) (fun h1 => br_c (fun _ => hp) (fun h2 => ?_))
  obtain ⟨s, hs, h1', rfl⟩ := ma_v63 h1 h2
  refine mx_points hs (br_c (fun _ => hp) (fun h4 => absurd rfl (h s ⟨h1', hs, ?_⟩)))
  apply Classical.byContradiction
  intro w
  have := ma_pop_le s
  exact h4 (nI_lt (a := 4) (by omega) (by omega))
theorem mx_num_l {post : Int32 → Prop} {g : Nat → Nat} {n s : Nat} {ag ab ac ap : Nat → Int32} (hn : n ≤ 26) (hg : ma_arr ag g n) (hgl : ∀ i, i < n → g i < 64) (hs : s < 64) (h1 : ∀ i, i < n → g i = s → post (nI i)) (h0 : (∀ i, i < n → g i ≠ s) → post (-1)) : ∀ d i, i + d = n → (∀ j, j < i → g j ≠ s) → wX_numberOf_2 post (nI s) (nI n) ag ab ac ap (d + 1) (nI i) := by
  intro d
  induction d with
  | zero =>
    intro i hi hj
    have hi' : i = n := by omega
    subst hi'
    exact br_t (nI_le (Nat.le_refl i) (by omega)) (h0 hj)
  | succ d ih =>
    intro i hi hj
    refine br_f (nI_ge (by omega) (by omega)) ⟨vp_in_nI (by omega) (by decide), ?_⟩
    by_cases e : g i = s
    · exact br_t (by rw [ma_arr_c hg (by omega) hn, e]) (h1 i (by omega) e)
    · refine br_f (fun w => e ?_) (nm_r (nI_1 i) (ih (i + 1) (by omega) (fun j hj' => ?_)))
      · rw [ma_arr_c hg (by omega) hn] at w
        exact (nI_eq (Nat.lt_trans (hgl i (by omega)) (by decide)) (Nat.lt_trans hs (by decide))).mp w
      · by_cases q : j = i
        · rw [q]; exact e
        · exact hj j (by omega)
theorem mx_num {post : Int32 → Prop} {g : Nat → Nat} {n s : Nat} {ag ab ac ap : Nat → Int32} (hn : n ≤ 26) (hg : ma_arr ag g n) (hgl : ∀ i, i < n → g i < 64) (hs : s < 64) (h1 : ∀ i, i < n → g i = s → post (nI i)) (h0 : (∀ i, i < n → g i ≠ s) → post (-1)) : wpX_numberOf post (nI n, ag, ab, ac, ap) (nI s) := by
  unfold wpX_numberOf
  exact ⟨n + 1, mx_num_l hn hg hgl hs h1 h0 n 0 (by omega) (fun j hj => absurd hj (Nat.not_lt_zero j))⟩
theorem ma_nm1 {m : Nat} (h : m < 2 ^ 31) : ¬ nI m = -1 := fun e => by
  have h1 := nI_pos h
  rw [e] at h1
  exact h1 (by decide)
/-- the sides of s by its points below p -/
noncomputable def ma_sp (g : Nat → Nat) (s p : Nat) : Nat → Bool := fun j => ma_dc (g j ≠ 0 ∧ ∃ q, q < p ∧ s.testBit q = true ∧ g j = s ^^^ 2 ^ q)
theorem ma_sp_0 (g : Nat → Nat) (s n : Nat) : ma_of (ma_sp g s 0) n = 0 := by
  apply Nat.eq_of_testBit_eq
  intro j
  rw [ma_of_bit, Nat.zero_testBit]
  rw [show ma_sp g s 0 j = false from ma_dc_f (fun ⟨_, q, hq, _⟩ => Nat.not_lt_zero q hq), Bool.and_false]
theorem ma_sp_skip {g : Nat → Nat} {s p n : Nat} (h : ¬ (s.testBit p = true ∧ s ^^^ 2 ^ p ≠ 0)) : ma_of (ma_sp g s (p + 1)) n = ma_of (ma_sp g s p) n := by
  refine ma_of_congr (fun j _ => ?_)
  unfold ma_sp
  congr 1
  refine propext ⟨fun ⟨h0, q, hq, hb, e⟩ => ⟨h0, q, ?_, hb, e⟩, fun ⟨h0, q, hq, hb, e⟩ => ⟨h0, q, by omega, hb, e⟩⟩
  by_cases w : q = p
  · subst w
    exact absurd ⟨hb, e ▸ h0⟩ h
  · omega
theorem ma_sp_put {g : Nat → Nat} {s p n m : Nat} (hd : ∀ i j, i < n → j < n → g i = g j → i = j) (hb : s.testBit p = true) (hz : s ^^^ 2 ^ p ≠ 0) (hm : m < n) (e : g m = s ^^^ 2 ^ p) : ma_of (ma_sp g s (p + 1)) n = ma_of (ma_sp g s p) n ||| 2 ^ m := by
  apply Nat.eq_of_testBit_eq
  intro j
  rw [Nat.testBit_or, ma_of_bit, ma_of_bit, Nat.testBit_two_pow]
  by_cases hj : j < n
  · by_cases w : m = j
    · subst w
      have h1 : ma_sp g s (p + 1) m = true := ma_dc_t ⟨by rw [e]; exact hz, p, Nat.lt_succ_self p, hb, e⟩
      rw [h1]
      simp [hm]
    · have h1 : ma_sp g s (p + 1) j = ma_sp g s p j := by
        unfold ma_sp
        congr 1
        refine propext ⟨fun ⟨h0, q, hq, hb, e'⟩ => ⟨h0, q, ?_, hb, e'⟩, fun ⟨h0, q, hq, hb, e'⟩ => ⟨h0, q, by omega, hb, e'⟩⟩
        by_cases z : q = p
        · subst z
          exact absurd (hd m j hm hj (e.trans e'.symm)) w
        · omega
      rw [h1]
      simp [w]
  · have h2 : m ≠ j := by omega
    simp [hj, h2]
theorem ma_sp_6 (g : Nat → Nat) (s n : Nat) : ma_of (ma_sp g s 6) n = ma_of (fun j => ma_sd (g j) s) n := by
  refine ma_of_congr (fun j _ => ?_)
  cases h : ma_sd (g j) s
  · refine ma_dc_f (fun w => ?_)
    rw [ma_sd_iff.mpr w] at h
    exact Bool.noConfusion h
  · exact ma_dc_t (ma_sd_iff.mp h)
theorem ma_side : ∀ s, s < 64 → ∀ p, p < 6 → nI s &&& (((1 : Int32) <<< (nI p &&& 31)) ^^^ (-1)) = nI (if s.testBit p = true then s ^^^ 2 ^ p else s) := by decide +kernel
theorem mx_sides_l {post : Int32 → Prop} {g : Nat → Nat} {n s : Nat} {ag ab ac ap : Nat → Int32} (hn : n ≤ 26) (hG : ma_G g n) (hg : ma_arr ag g n) (hs : s < 64) (h1 : (∀ r, ma_sd r s = true → ∃ j, j < n ∧ g j = r) → post (nI (ma_of (fun j => ma_sd (g j) s) n))) (h0 : (∃ r, ma_sd r s = true ∧ ∀ j, j < n → g j ≠ r) → post (-1)) : ∀ d p, p + d = 6 → (∀ q, q < p → s.testBit q = true → s ^^^ 2 ^ q ≠ 0 → ∃ j, j < n ∧ g j = s ^^^ 2 ^ q) → wX_sidesOf_4 post (nI s) (nI n) ag ab ac ap (d + 1) (nI (ma_of (ma_sp g s p) n)) (nI p) := by
  intro d
  induction d with
  | zero =>
    intro p hp H
    have hp' : p = 6 := by omega
    subst hp'
    rw [ma_sp_6]
    refine br_t (by decide) (h1 (fun r hr => ?_))
    obtain ⟨h0, q, hq, hb, e⟩ := ma_sd_iff.mp hr
    obtain ⟨j, hj, e'⟩ := H q hq hb (e ▸ h0)
    exact ⟨j, hj, e'.trans e.symm⟩
  | succ d ih =>
    intro p hp H
    refine br_f (nI_ge (b := 6) (by omega) (by decide)) ?_
    by_cases hb : s.testBit p = true
    · refine nm_r ((ma_side s hs p (by omega)).trans (by rw [if_pos hb])) ?_
      have hlt := (ma_pp s hs p (by omega) hb).2
      refine br_f (fun w => ?_) ?_
      · have := (nI_eq (by omega) (by omega)).mp w
        omega
      · by_cases hz : s ^^^ 2 ^ p = 0
        · refine br_t (by rw [hz]; rfl) (nm_r (nI_1 p) ?_)
          have h2 := ih (p + 1) (by omega) (fun q hq hq1 hq2 => by
            by_cases w : q = p
            · rw [w] at hq2; exact absurd hz hq2
            · exact H q (by omega) hq1 hq2)
          rw [ma_sp_skip (fun w => w.2 hz)] at h2
          exact h2
        · refine br_f (nI_ne0 (by omega) (by omega)) ?_
          refine mx_num hn hg (fun i hi => (hG.1 i hi).2.1) (by omega) (fun m hm e => ?_) (fun hno => ?_)
          · refine br_f (ma_nm1 (by omega)) (nm_r ?_ (nm_r (nI_1 p) (ih (p + 1) (by omega) (fun q hq hq1 hq2 => ?_))))
            · rw [ma_sh1 m (by omega), ma_nor, ma_sp_put hG.2.1 hb hz hm e]
            · by_cases w : q = p
              · rw [w]; exact ⟨m, hm, e⟩
              · exact H q (by omega) hq1 hq2
          · exact br_t rfl (h0 ⟨_, ma_sd_iff.mpr ⟨hz, p, by omega, hb, rfl⟩, hno⟩)
    · refine nm_r ((ma_side s hs p (by omega)).trans (by rw [if_neg hb])) (br_t rfl (nm_r (nI_1 p) ?_))
      have h2 := ih (p + 1) (by omega) (fun q hq hq1 hq2 => by
        by_cases w : q = p
        · rw [w] at hq1; exact absurd hq1 hb
        · exact H q (by omega) hq1 hq2)
      rw [ma_sp_skip (fun w => hb w.1)] at h2
      exact h2
theorem mx_sides {post : Int32 → Prop} {g : Nat → Nat} {n s : Nat} {ag ab ac ap : Nat → Int32} (hn : n ≤ 26) (hG : ma_G g n) (hg : ma_arr ag g n) (hs : s < 64) (h1 : (∀ r, ma_sd r s = true → ∃ j, j < n ∧ g j = r) → post (nI (ma_of (fun j => ma_sd (g j) s) n))) (h0 : (∃ r, ma_sd r s = true ∧ ∀ j, j < n → g j ≠ r) → post (-1)) : wpX_sidesOf post (nI n, ag, ab, ac, ap) (nI s) := by
  unfold wpX_sidesOf
  have h2 := mx_sides_l (ab := ab) (ac := ac) (ap := ap) hn hG hg hs h1 h0 6 0 rfl (fun q hq => absurd hq (Nat.not_lt_zero q))
  rw [ma_sp_0] at h2
  exact ⟨7, h2⟩
