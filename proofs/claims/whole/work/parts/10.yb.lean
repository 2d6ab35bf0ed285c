theorem ma_low_eq {c q : Nat} (h : ma_L c q) : c = 2 ^ (q + 1) * (c / 2 ^ (q + 1)) + 2 ^ q := by
  have h1 : c % 2 ^ (q + 1) = 2 ^ q := by
    apply Nat.eq_of_testBit_eq
    intro j
    rw [Nat.testBit_mod_two_pow, Nat.testBit_two_pow]
    rcases Nat.lt_trichotomy j q with w | w | w
    · rw [h.2 j w, Bool.and_false, decide_eq_false (by omega)]
    · subst w
      rw [h.1, Bool.and_true, decide_eq_true (by omega), decide_eq_true rfl]
    · rw [decide_eq_false (by omega : ¬ j < q + 1), Bool.false_and, decide_eq_false (by omega)]
  have h2 := Nat.div_add_mod c (2 ^ (q + 1))
  rw [h1] at h2
  exact h2.symm
theorem ma_lowN {c q : Nat} (h : ma_L c q) (hc : c < 2 ^ 31) : c &&& (2 ^ 32 - c) = 2 ^ q := by
  have hq : q < 31 := ma_bl hc h.1
  have e := ma_low_eq h
  generalize c / 2 ^ (q + 1) = m at e
  have hpos : 0 < 2 ^ q := Nat.two_pow_pos q
  have hlt : 2 ^ q < 2 ^ (q + 1) := Nat.pow_lt_pow_right (by decide) (Nat.lt_succ_self q)
  have e1 : c - 1 = 2 ^ (q + 1) * m + (2 ^ q - 1) := by omega
  have e2 : 2 ^ 32 - c = 2 ^ 32 - ((c - 1) + 1) := by omega
  apply Nat.eq_of_testBit_eq
  intro j
  rw [Nat.testBit_and, e2, Nat.testBit_two_pow_sub_succ (by omega : c - 1 < 2 ^ 32), e1, Nat.testBit_two_pow]
  rw [Nat.testBit_two_pow_mul_add m (by omega : 2 ^ q - 1 < 2 ^ (q + 1)) j]
  have hcj : c.testBit j = if j < q + 1 then (2 ^ q).testBit j else m.testBit (j - (q + 1)) := by
    rw [e]
    exact Nat.testBit_two_pow_mul_add m hlt j
  rw [hcj]
  by_cases w : j < q + 1
  · rw [if_pos w, if_pos w, Nat.testBit_two_pow, Nat.testBit_two_pow_sub_one]
    by_cases z : q = j
    · subst z
      simp
      omega
    · simp [z]
  · rw [if_neg w, if_neg w]
    have z : q ≠ j := by omega
    cases m.testBit (j - (q + 1)) <;> simp [z]
theorem ma_lowb {c q : Nat} (h : ma_L c q) (hc : c < 2 ^ 31) : nI c &&& (-(nI c)) = nI (2 ^ q) := by
  have hq : q < 31 := ma_bl hc h.1
  have hc0 : 0 < c := by
    apply Nat.pos_of_ne_zero
    intro w
    have := h.1
    rw [w, Nat.zero_testBit] at this
    exact Bool.noConfusion this
  have hp : 2 ^ q < 2 ^ 31 := Nat.pow_lt_pow_right (by decide) hq
  apply Int32.toBitVec_inj.mp
  apply BitVec.eq_of_toNat_eq
  rw [Int32.toBitVec_and, BitVec.toNat_and, Int32.toBitVec_neg, BitVec.toNat_neg, pk_tn (by omega), pk_tn (by omega), Nat.mod_eq_of_lt (by omega : 2 ^ 32 - c < 2 ^ 32)]
  exact ma_lowN h hc
theorem ma_and_t {y q : Nat} (h : y.testBit q = true) : y &&& 2 ^ q = 2 ^ q := by
  apply Nat.eq_of_testBit_eq
  intro j
  rw [Nat.testBit_and, Nat.testBit_two_pow]
  by_cases z : q = j
  · subst z; rw [h]; rfl
  · rw [decide_eq_false z, Bool.and_false]
theorem ma_and_f {y q : Nat} (h : y.testBit q = false) : y &&& 2 ^ q = 0 := by
  apply Nat.eq_of_testBit_eq
  intro j
  rw [Nat.testBit_and, Nat.testBit_two_pow, Nat.zero_testBit]
  by_cases z : q = j
  · subst z; rw [h]; rfl
  · rw [decide_eq_false z, Bool.and_false]
theorem my_rk_l {post : Int32 → SY → Prop} {J6 : Int32 → Int32 → (Nat → Int32) → (Nat → Int32) → Prop} {x1 x2 x3 x5 fc : Int32} {ay cy : Nat → Int32} {f c : Nat → Nat} {t rows y : Nat} (hR : ma_R f t c rows) (hr : rows < 26) (hcy : ma_arr cy c rows) (h0 : ma_Rc c rows y 0 → J6 (nI rows) (x5 + 1) ay cy) (h1 : ∀ x, ma_Rc c rows y x → x ≠ 0 → x < 2 ^ 26 → J6 (nI (rows + 1)) (x5 + 1) ay (upd cy rows (nI x))) : ∀ dd r x, r + dd = rows → x < 2 ^ 26 → ma_Sp c rows (x ^^^ y) → (∀ i q, i < r → ma_L (c i) q → x.testBit q = false) → wY_rank_44 post J6 x1 x2 x3 (nI rows) x5 fc ay cy (dd + 1) (nI x) (nI r) := by
  intro dd
  induction dd with
  | zero =>
    intro r x hrr hx hS hz
    have hr' : r = rows := by omega
    subst hr'
    refine br_t (nI_le (Nat.le_refl r) (by omega)) ?_
    by_cases w : x = 0
    · subst w
      exact br_t rfl (nm_e (h0 ⟨hS, hz⟩))
    · exact br_f (nI_ne0 (by omega) (by omega)) ⟨vp_in_nI hr (by decide), nm_r (e' := upd cy r (nI x)) (by rw [nI_clamp (by omega)]) (nm_r (nI_1 r) (nm_e (h1 x ⟨hS, hz⟩ w hx)))⟩
  | succ dd ih =>
    intro r x hrr hx hS hz
    have hrn : r < rows := by omega
    have hv : vp_in (nI r) 26 := vp_in_nI (by omega) (by decide)
    obtain ⟨q, hq1, hq2⟩ := hR.1 r hrn
    have hcl := hR.2.2.2 r hrn
    have hlow : cy (nI r).toNatClampNeg &&& (-(cy (nI r).toNatClampNeg)) = nI (2 ^ q) := by
      rw [ma_arr_c hcy hrn (by omega), ma_lowb hq1 (by omega)]
    have hq31 : q < 26 := ma_bl hcl hq1.1
    have hp2 : 2 ^ q < 2 ^ 26 := Nat.pow_lt_pow_right (by decide) hq31
    refine br_f (nI_ge hrn (by omega)) ⟨hv, hv, nm_r hlow ?_⟩
    rw [nx_and]
    cases hb : x.testBit q
    · rw [ma_and_f hb]
      refine br_t rfl (nm_r (nI_1 r) (ih (r + 1) x (by omega) hx hS (fun i p hi hp => ?_)))
      by_cases w : i = r
      · subst w
        rw [ma_L_eq hp hq1]
        exact hb
      · exact hz i p (by omega) hp
    · rw [ma_and_t hb]
      refine br_f (nI_ne0 (Nat.two_pow_pos q) (by omega)) ⟨hv, nm_r (e' := nI (x ^^^ c r)) (by rw [ma_arr_c hcy hrn (by omega), nx_xor]) (nm_r (nI_1 r) (ih (r + 1) (x ^^^ c r) (by omega) (Nat.xor_lt_two_pow hx hcl) ?_ (fun i p hi hp => ?_)))⟩
      · rw [ma_x1]
        exact ma_Sp_x hS (ma_Sp_g hrn)
      · rw [Nat.testBit_xor]
        by_cases w : i = r
        · subst w
          rw [ma_L_eq hp hq1, hb, hq1.1]
          rfl
        · rw [hz i p (by omega) hp]
          obtain ⟨p', hp1, hp2⟩ := hR.1 i (by omega)
          rw [ma_L_eq hp1 hp] at hp2
          rw [hp2 r (by omega) hrn]
          rfl
theorem ma_sh {B s : Nat} (hB : B < 2 ^ 26) (hs : s ≤ 26) : (nI B >>> (nI s &&& 31)) <<< (nI s &&& 31) = nI (ma_hi s B) := by
  have h1 := ma_hi_le s B
  rw [pk_shrN (by omega) _ s (s_l s (by omega))]
  exact pk_shlN _ s (s_l s (by omega)) (Nat.lt_of_le_of_lt h1 (by omega))
theorem my_rank_l {post : Int32 → SY → Prop} {g : Nat → Nat} {n t k s : Nat} {ay : Nat → Int32} (hn : n ≤ 26) (hG : ma_G g n) (hg : ma_arr ay g n) (ht : t ≤ n) (hs : s ≤ 26) (hk : k < 8) (hp : ∀ c cy rows, ma_R (ma_F (ma_bd g) (ma_d g) (k + 1) s) t c rows → ma_arr cy c rows → post (nI rows) (nI n, ay, cy)) : ∀ dd i c cy rows, i + dd = t → ma_R (ma_F (ma_bd g) (ma_d g) (k + 1) s) i c rows → ma_arr cy c rows → wY_rank_6 post (nI t) (nI k) (nI s) (nI n) (dd + 1) (nI rows) (nI i) ay cy := by
  intro dd
  induction dd with
  | zero =>
    intro i c cy rows hi hR hcy
    have hi' : i = t := by omega
    subst hi'
    exact br_t (nI_le (Nat.le_refl i) (by omega)) (hp c cy rows hR hcy)
  | succ dd ih =>
    intro i c cy rows hi hR hcy
    have hin : i < n := by omega
    have hdi := ma_d_pos hG hin
    have hrows : rows ≤ i := by
      rw [hR.2.2.1]
      exact ma_cp_le _ _
    refine br_f (nI_ge (by omega) (by omega)) (br_f (nI_ge (b := 26) (by omega) (by decide)) (my_dim hn hG hg rfl hin ?_))
    by_cases w : ma_d g i = k + 1
    · refine br_t (congrArg nI (by omega)) (my_sides hn hG hg rfl hin ?_)
      have hB : ma_bd g i < 2 ^ 26 := Nat.lt_of_lt_of_le (ma_of_lt _ _) (ma_pl (by omega))
      have hFi : ma_F (ma_bd g) (ma_d g) (k + 1) s i = ma_hi s (ma_bd g i) := ma_F_t w
      have hhi := ma_hi_le s (ma_bd g i)
      refine nm_r (ma_sh hB hs) ⟨rows + 1, my_rk_l (y := ma_hi s (ma_bd g i)) hR (by omega) hcy (fun hx => ?_) (fun x hx h0 hl => ?_) rows 0 _ (by omega) (by omega) ?_ (fun i q hi => absurd hi (Nat.not_lt_zero i))⟩
      · rw [nI_1]
        exact ih (i + 1) c cy rows (by omega) (ma_R_s0 hR (by rw [hFi]; exact (ma_Rc_0 hR hx).mp rfl)) hcy
      · rw [nI_1]
        exact ih (i + 1) (ma_put c rows x) _ (rows + 1) (by omega) (ma_R_s1 hR (by rw [hFi]; exact hx) h0 hl) (ma_arr_put hcy)
      · rw [Nat.xor_self]
        exact ma_Sp_0 _ _
    · refine br_f (fun q => w ?_) (nm_r (nI_1 i) (ih (i + 1) c cy rows (by omega) (ma_R_s0 hR ?_) hcy))
      · have := (nI_eq (by omega) (by omega)).mp q
        omega
      · rw [ma_F_f w]
        exact ma_Sp_0 _ _
theorem my_rank {post : Int32 → SY → Prop} {g : Nat → Nat} {n t k s : Nat} {xt xk xs : Int32} {ay cy : Nat → Int32} (hn : n ≤ 26) (hG : ma_G g n) (hg : ma_arr ay g n) (ht : t ≤ n) (hs : s ≤ 26) (hk : k < 8) (ht' : xt = nI t) (hk' : xk = nI k) (hs' : xs = nI s) (hp : ∀ c cy rows, ma_R (ma_F (ma_bd g) (ma_d g) (k + 1) s) t c rows → ma_arr cy c rows → post (nI rows) (nI n, ay, cy)) : wpY_rank post (nI n, ay, cy) xt xk xs := by
  subst ht' hk' hs'
  unfold wpY_rank
  exact ⟨t + 1, my_rank_l hn hG hg ht hs hk hp t 0 (fun _ => 0) cy 0 (by omega) (ma_R_0 _ _) (fun i hi => absurd hi (Nat.not_lt_zero i))⟩
theorem my_tally_l {post : Int32 → Prop} {g : Nat → Nat} {n t k : Nat} {fc : Int32} {ay cy : Nat → Int32} (hn : n ≤ 26) (hG : ma_G g n) (hg : ma_arr ay g n) (ht : t ≤ n) (hk : k < 8) (hp : post (nI (ma_cp (fun a => ma_d g a = k + 1) t))) : ∀ dd i, i + dd = t → wY_tally_5 post (nI t) (nI k) fc ay cy (dd + 1) (nI (ma_cp (fun a => ma_d g a = k + 1) i)) (nI i) := by
  intro dd
  induction dd with
  | zero =>
    intro i hi
    have hi' : i = t := by omega
    subst hi'
    exact br_t (nI_le (Nat.le_refl i) (by omega)) hp
  | succ dd ih =>
    intro i hi
    have hin : i < n := by omega
    have hdi := ma_d_pos hG hin
    have h1 := ih (i + 1) (by omega)
    refine br_f (nI_ge (by omega) (by omega)) (br_f (nI_ge (b := 26) (by omega) (by decide)) (my_dim hn hG hg rfl hin ?_))
    by_cases w : ma_d g i = k + 1
    · rw [ma_cp_t (P := fun a => ma_d g a = k + 1) w] at h1
      exact br_t (congrArg nI (by omega)) (nm_r (nI_1 _) (nm_r (nI_1 i) h1))
    · rw [ma_cp_f (P := fun a => ma_d g a = k + 1) w] at h1
      refine br_f (fun q => w ?_) (nm_r (nI_1 i) h1)
      have := (nI_eq (by omega) (by omega)).mp q
      omega
theorem my_tally {post : Int32 → Prop} {g : Nat → Nat} {n t k : Nat} {xt xk fc : Int32} {ay cy : Nat → Int32} (hn : n ≤ 26) (hG : ma_G g n) (hg : ma_arr ay g n) (ht : t ≤ n) (hk : k < 8) (ht' : xt = nI t) (hk' : xk = nI k) (hp : post (nI (ma_cp (fun a => ma_d g a = k + 1) t))) : wpY_tally post (fc, ay, cy) xt xk := by
  subst ht' hk'
  unfold wpY_tally
  exact ⟨t + 1, my_tally_l hn hG hg ht hk hp t 0 (by omega)⟩
