noncomputable def ma_eu (g : Nat → Nat) (t : Nat) : Int32 := nI (ma_cp (fun a => ma_d g a = 0 + 1) t) - nI (ma_cp (fun a => ma_d g a = 1 + 1) t) + nI (ma_cp (fun a => ma_d g a = 2 + 1) t) - nI (ma_cp (fun a => ma_d g a = 3 + 1) t)
theorem ma_eu_1 {g : Nat → Nat} {i : Nat} (h : ma_d g i = 1) : ma_eu g i + 1 = ma_eu g (i + 1) := by
  unfold ma_eu
  rw [ma_cp_t (P := fun a => ma_d g a = 0 + 1) (by omega), ma_cp_f (P := fun a => ma_d g a = 1 + 1) (by omega), ma_cp_f (P := fun a => ma_d g a = 2 + 1) (by omega), ma_cp_f (P := fun a => ma_d g a = 3 + 1) (by omega), ← nI_1]
  grind
theorem ma_eu_2 {g : Nat → Nat} {i : Nat} (h : ma_d g i = 2) : ma_eu g i + (-1) = ma_eu g (i + 1) := by
  unfold ma_eu
  rw [ma_cp_f (P := fun a => ma_d g a = 0 + 1) (by omega), ma_cp_t (P := fun a => ma_d g a = 1 + 1) (by omega), ma_cp_f (P := fun a => ma_d g a = 2 + 1) (by omega), ma_cp_f (P := fun a => ma_d g a = 3 + 1) (by omega), ← nI_1]
  grind
theorem ma_eu_3 {g : Nat → Nat} {i : Nat} (h : ma_d g i = 3) : ma_eu g i + 1 = ma_eu g (i + 1) := by
  unfold ma_eu
  rw [ma_cp_f (P := fun a => ma_d g a = 0 + 1) (by omega), ma_cp_f (P := fun a => ma_d g a = 1 + 1) (by omega), ma_cp_t (P := fun a => ma_d g a = 2 + 1) (by omega), ma_cp_f (P := fun a => ma_d g a = 3 + 1) (by omega), ← nI_1]
  grind
theorem ma_eu_4 {g : Nat → Nat} {i : Nat} (h : ma_d g i = 4) : ma_eu g i + (-1) = ma_eu g (i + 1) := by
  unfold ma_eu
  rw [ma_cp_f (P := fun a => ma_d g a = 0 + 1) (by omega), ma_cp_f (P := fun a => ma_d g a = 1 + 1) (by omega), ma_cp_f (P := fun a => ma_d g a = 2 + 1) (by omega), ma_cp_t (P := fun a => ma_d g a = 3 + 1) (by omega), ← nI_1]
  grind
theorem mx_eu_l {post : Int32 → Prop} {g : Nat → Nat} {n t : Nat} {ag ab ac ap : Nat → Int32} (hn : n ≤ 26) (hG : ma_G g n) (hg : ma_arr ag g n) (ht : t ≤ n) (hp : post (ma_eu g t)) : ∀ dd i, i + dd = t → wX_euler_16 post (nI t) (nI n) ag ab ac ap (dd + 1) (ma_eu g i) (nI i) := by
  intro dd
  induction dd with
  | zero =>
    intro i hi
    have hi' : i = t := by omega
    subst hi'
    exact br_t (nI_le (Nat.le_refl i) (by omega)) hp
  | succ dd ih =>
    intro i hi
    have hin : i < n := by omega
    have hdi := ma_d_pos hG hin
    have h1 := ih (i + 1) (by omega)
    refine br_f (nI_ge (by omega) (by omega)) ⟨vp_in_nI (by omega) (by decide), mx_dimg hn hG hg hin ⟨by decide, ?_⟩⟩
    have hc : ma_d g i = 1 ∨ ma_d g i = 2 ∨ ma_d g i = 3 ∨ ma_d g i = 4 := by omega
    rcases hc with w | w | w | w
    · exact br_t (by rw [w]; decide) (nm_r (ma_eu_1 w) (nm_r (nI_1 i) h1))
    · exact br_f (by rw [w]; decide) (nm_r (ma_eu_2 w) (nm_r (nI_1 i) h1))
    · exact br_t (by rw [w]; decide) (nm_r (ma_eu_3 w) (nm_r (nI_1 i) h1))
    · exact br_f (by rw [w]; decide) (nm_r (ma_eu_4 w) (nm_r (nI_1 i) h1))
/-- what the dimension of the chain c by its pieces below i is held as -/
def ma_st (c : Nat) (d : Nat → Nat) (i : Nat) (x : Int32) : Prop := (x = -1 ∧ ∀ m, m < i → c.testBit m = false) ∨ (∃ K, 1 ≤ K ∧ K ≤ 4 ∧ x = nI (K - 1) ∧ (∃ m, m < i ∧ c.testBit m = true) ∧ ∀ m, m < i → c.testBit m = true → d m = K)
theorem ma_st_0 (c : Nat) (d : Nat → Nat) : ma_st c d 0 (-1) := Or.inl ⟨rfl, fun m hm => absurd hm (Nat.not_lt_zero m)⟩
theorem ma_st_f {c : Nat} {d : Nat → Nat} {i : Nat} {x : Int32} (h : ma_st c d i x) (hb : c.testBit i = false) : ma_st c d (i + 1) x := by
  rcases h with ⟨h1, h2⟩ | ⟨K, h1, h2, h3, ⟨m, hm, hm2⟩, h5⟩
  · refine Or.inl ⟨h1, fun m hm => ?_⟩
    by_cases w : m = i
    · rw [w]; exact hb
    · exact h2 m (by omega)
  · refine Or.inr ⟨K, h1, h2, h3, ⟨m, by omega, hm2⟩, fun m hm hm2 => ?_⟩
    by_cases w : m = i
    · rw [w, hb] at hm2; exact Bool.noConfusion hm2
    · exact h5 m (by omega) hm2
theorem ma_st_t {c : Nat} {d : Nat → Nat} {i : Nat} {x : Int32} (h : ma_st c d i x) (hb : c.testBit i = true) (hd : 1 ≤ d i ∧ d i ≤ 4) (hx : x = -1 ∨ x = nI (d i - 1)) : ma_st c d (i + 1) (nI (d i - 1)) := by
  refine Or.inr ⟨d i, hd.1, hd.2, rfl, ⟨i, by omega, hb⟩, fun m hm hm2 => ?_⟩
  by_cases w : m = i
  · rw [w]
  · rcases h with ⟨h1, h2⟩ | ⟨K, h1, h2, h3, _, h5⟩
    · rw [h2 m (by omega)] at hm2; exact Bool.noConfusion hm2
    · rw [h5 m (by omega) hm2]
      rcases hx with q | q
      · exact absurd (h3.symm.trans q) (ma_nm1 (by omega))
      · have := (nI_eq (by omega) (by omega)).mp (h3.symm.trans q)
        omega
theorem ma_st_no {c : Nat} {d : Nat → Nat} {i n : Nat} {x : Int32} (h : ma_st c d i x) (hi : i < n) (hb : c.testBit i = true) (h1 : x ≠ -1) (h2 : x ≠ nI (d i - 1)) : ∀ y, ¬ ma_st c d n y := by
  intro y hy
  rcases h with ⟨q1, q2⟩ | ⟨K, q1, q2, q3, ⟨m, hm, hm2⟩, q5⟩
  · exact h1 q1
  · rcases hy with ⟨p1, p2⟩ | ⟨L, p1, p2, p3, _, p5⟩
    · rw [p2 i hi] at hb; exact Bool.noConfusion hb
    · have e1 := p5 i hi hb
      have e2 := p5 m (by omega) hm2
      have e3 := q5 m hm hm2
      apply h2
      rw [q3, e1, ← e2, e3]
theorem ma_st_lt {c : Nat} {d : Nat → Nat} {i : Nat} {x : Int32} (h : ma_st c d i x) : x ≠ -2 := by
  rcases h with ⟨h1, _⟩ | ⟨K, h1, h2, h3, _, _⟩
  · rw [h1]; decide
  · intro e
    have h4 := nI_pos (n := K - 1) (by omega)
    rw [← h3, e] at h4
    exact h4 (by decide)
theorem mx_od_l {post : Int32 → Prop} {g : Nat → Nat} {n c : Nat} {ag ab ac ap : Nat → Int32} (hn : n ≤ 26) (hG : ma_G g n) (hg : ma_arr ag g n) (hc : c < 2 ^ 31) (h1 : ∀ x, ma_st c (ma_d g) n x → post 1) (h0 : (∀ x, ¬ ma_st c (ma_d g) n x) → post 0) : ∀ dd i x, i + dd = n → ma_st c (ma_d g) i x → wX_isOfOneDimension_4 post (nI c) (nI n) ag ab ac ap (dd + 1) x (nI i) := by
  intro dd
  induction dd with
  | zero =>
    intro i x hi hs
    have hi' : i = n := by omega
    subst hi'
    exact br_t (nI_le (Nat.le_refl i) (by omega)) (h1 x hs)
  | succ dd ih =>
    intro i x hi hs
    have hin : i < n := by omega
    have hdi := ma_d_pos hG hin
    refine br_f (nI_ge (by omega) (by omega)) ?_
    cases hb : c.testBit i
    · exact mx_has_f hc (by omega) hb (br_t rfl (nm_r (nI_1 i) (ih (i + 1) x (by omega) (ma_st_f hs hb))))
    · refine mx_has_t hc (by omega) hb (br_f (by decide) ⟨vp_in_nI (by omega) (by decide), mx_dimg hn hG hg hin ?_⟩)
      by_cases w : x = -1
      · exact br_t w (nm_r (nI_1 i) (ih (i + 1) _ (by omega) (ma_st_t hs hb hdi (Or.inl w))))
      · by_cases z : x = nI (ma_d g i - 1)
        · exact br_f w (br_t z (nm_r (nI_1 i) (ih (i + 1) _ (by omega) (ma_st_t hs hb hdi (Or.inr z)))))
        · exact br_f w (br_f z (h0 (ma_st_no hs hin hb w z)))
theorem mx_od {post : Int32 → Prop} {g : Nat → Nat} {n c : Nat} {ag ab ac ap : Nat → Int32} (hn : n ≤ 26) (hG : ma_G g n) (hg : ma_arr ag g n) (hc : c < 2 ^ 31) (h1 : ∀ x, ma_st c (ma_d g) n x → post 1) (h0 : (∀ x, ¬ ma_st c (ma_d g) n x) → post 0) : wpX_isOfOneDimension post (nI n, ag, ab, ac, ap) (nI c) := by
  unfold wpX_isOfOneDimension
  exact ⟨n + 1, mx_od_l hn hG hg hc h1 h0 n 0 (-1) (by omega) (ma_st_0 _ _)⟩
theorem my_cd_l {post : Int32 → Prop} {g : Nat → Nat} {n c : Nat} {ay cy : Nat → Int32} (hn : n ≤ 26) (hG : ma_G g n) (hg : ma_arr ay g n) (hc : c < 2 ^ 31) (h1 : ∀ x, ma_st c (ma_d g) n x → post x) (h0 : (∀ x, ¬ ma_st c (ma_d g) n x) → post (-2)) : ∀ dd i x, i + dd = n → ma_st c (ma_d g) i x → wY_chainDimension_4 post (nI c) (nI n) ay cy (dd + 1) x (nI i) := by
  intro dd
  induction dd with
  | zero =>
    intro i x hi hs
    have hi' : i = n := by omega
    subst hi'
    exact br_t (nI_le (Nat.le_refl i) (by omega)) (h1 x hs)
  | succ dd ih =>
    intro i x hi hs
    have hin : i < n := by omega
    have hdi := ma_d_pos hG hin
    refine br_f (nI_ge (by omega) (by omega)) (br_f (nI_ge (b := 26) (by omega) (by decide)) ?_)
    cases hb : c.testBit i
    · exact br_f (by rw [ma_hb_f hc (by omega) hb]; decide) (nm_r (nI_1 i) (ih (i + 1) x (by omega) (ma_st_f hs hb)))
    · refine br_t (ma_hb_t hc (by omega) hb) ?_
      have go : (x = -1 ∨ x = nI (ma_d g i - 1)) → wY_chainDimension_43 post (wY_chainDimension_4 post (nI c) (nI n) ay cy (dd + 1)) (nI c) (nI i) (nI n) ay cy := fun w => by
        unfold wY_chainDimension_43
        exact my_dim hn hG hg rfl hin (nm_r (nI_1 i) (ih (i + 1) _ (by omega) (ma_st_t hs hb hdi w)))
      by_cases w : x = -1
      · exact br_t (by rw [w]; decide) (go (Or.inl w))
      · have hx : ¬ x < 0 := by
          rcases hs with ⟨q, _⟩ | ⟨K, q1, q2, q3, _, _⟩
          · exact absurd q w
          · rw [q3]; exact nI_pos (by omega)
        refine br_f hx (my_dim hn hG hg rfl hin ?_)
        by_cases z : x = nI (ma_d g i - 1)
        · exact br_t z.symm (go (Or.inr z))
        · exact br_f (fun q => z q.symm) (h0 (ma_st_no hs hin hb w z))
theorem my_cd {post : Int32 → Prop} {g : Nat → Nat} {n c : Nat} {ay cy : Nat → Int32} (hn : n ≤ 26) (hG : ma_G g n) (hg : ma_arr ay g n) (hc : c < 2 ^ 31) (h1 : ∀ x, ma_st c (ma_d g) n x → post x) (h0 : (∀ x, ¬ ma_st c (ma_d g) n x) → post (-2)) : wpY_chainDimension post (nI n, ay, cy) (nI c) := by
  unfold wpY_chainDimension
  exact ⟨n + 1, my_cd_l hn hG hg hc h1 h0 n 0 (-1) (by omega) (ma_st_0 _ _)⟩
theorem mx_bo_l {post : Int32 → Prop} {b : Nat → Nat} {n c : Nat} {ag ab ac ap : Nat → Int32} (hn : n ≤ 26) (hb : ma_arr ab b n) (hc : c < 2 ^ 31) (hp : post (nI (ma_lin b n c))) : ∀ dd i, i + dd = n → wX_borderOf_4 post (nI c) (nI n) ag ab ac ap (dd + 1) (nI (ma_lin b i c)) (nI i) := by
  intro dd
  induction dd with
  | zero =>
    intro i hi
    have hi' : i = n := by omega
    subst hi'
    exact br_t (nI_le (Nat.le_refl i) (by omega)) hp
  | succ dd ih =>
    intro i hi
    have hin : i < n := by omega
    have h1 := ih (i + 1) (by omega)
    refine br_f (nI_ge (by omega) (by omega)) ?_
    cases w : c.testBit i
    · rw [ma_lin_f w] at h1
      exact mx_has_f hc (by omega) w (br_t rfl (nm_r (nI_1 i) h1))
    · rw [ma_lin_t w] at h1
      exact mx_has_t hc (by omega) w (br_f (by decide) ⟨vp_in_nI (by omega) (by decide), nm_r (by rw [ma_arr_c hb hin hn, nx_xor]) (nm_r (nI_1 i) h1)⟩)
theorem mx_bo {post : Int32 → Prop} {b : Nat → Nat} {n c : Nat} {ag ab ac ap : Nat → Int32} (hn : n ≤ 26) (hb : ma_arr ab b n) (hc : c < 2 ^ 31) (hp : post (nI (ma_lin b n c))) : wpX_borderOf post (nI n, ag, ab, ac, ap) (nI c) := by
  unfold wpX_borderOf
  exact ⟨n + 1, mx_bo_l hn hb hc hp n 0 (by omega)⟩
theorem my_ed_l {post : Int32 → Prop} {g : Nat → Nat} {n c : Nat} {ay cy : Nat → Int32} (hn : n ≤ 26) (hG : ma_G g n) (hg : ma_arr ay g n) (hc : c < 2 ^ 31) (hp : post (nI (ma_lin (ma_bd g) n c))) : ∀ dd i, i + dd = n → wY_edge_4 post (nI c) (nI n) ay cy (dd + 1) (nI (ma_lin (ma_bd g) i c)) (nI i) := by
  intro dd
  induction dd with
  | zero =>
    intro i hi
    have hi' : i = n := by omega
    subst hi'
    exact br_t (nI_le (Nat.le_refl i) (by omega)) hp
  | succ dd ih =>
    intro i hi
    have hin : i < n := by omega
    have h1 := ih (i + 1) (by omega)
    refine br_f (nI_ge (by omega) (by omega)) ?_
    cases w : c.testBit i
    · rw [ma_lin_f w] at h1
      exact br_f (by rw [ma_hb_f hc (by omega) w]; decide) (nm_r (nI_1 i) h1)
    · rw [ma_lin_t w] at h1
      exact br_t (ma_hb_t hc (by omega) w) (my_sides hn hG hg rfl hin (nm_r (nx_xor _ _) (nm_r (nI_1 i) h1)))
theorem my_ed {post : Int32 → Prop} {g : Nat → Nat} {n c : Nat} {ay cy : Nat → Int32} (hn : n ≤ 26) (hG : ma_G g n) (hg : ma_arr ay g n) (hc : c < 2 ^ 31) (hp : post (nI (ma_lin (ma_bd g) n c))) : wpY_edge post (nI n, ay, cy) (nI c) := by
  unfold wpY_edge
  exact ⟨n + 1, my_ed_l hn hG hg hc hp n 0 (by omega)⟩
theorem my_bn_l {post : Int32 → SY → Prop} {f c : Nat → Nat} {t rows y k : Nat} {fc : Int32} {ay cy : Nat → Int32} (hR : ma_R f t c rows) (hr : rows ≤ 26) (hcy : ma_arr cy c rows) (hk : k < 2 ^ 31) (h1 : ma_Sp f t y → post 1 (fc, ay, cy)) (h0 : ¬ ma_Sp f t y → post 0 (fc, ay, cy)) : ∀ dd r x, r + dd = rows → x < 2 ^ 26 → ma_Sp c rows (x ^^^ y) → (∀ i q, i < r → ma_L (c i) q → x.testBit q = false) → wY_bounds_60 post (nI k) (nI rows) fc ay cy (dd + 1) (nI x) (nI r) := by
  intro dd
  induction dd with
  | zero =>
    intro r x hrr hx hS hz
    have hr' : r = rows := by omega
    subst hr'
    refine br_t (nI_le (Nat.le_refl r) (by omega)) ?_
    have hq := ma_Rc_0 hR (y := y) (x := x) ⟨hS, hz⟩
    unfold wY_bounds_121
    by_cases w : x = 0
    · exact br_t (by rw [w]; rfl) (h1 (hq.mp w))
    · exact br_f (nI_ne0 (by omega) (by omega)) (h0 (fun z => w (hq.mpr z)))
  | succ dd ih =>
    intro r x hrr hx hS hz
    have hrn : r < rows := by omega
    have hv : vp_in (nI r) 26 := vp_in_nI (by omega) (by decide)
    obtain ⟨q, hq1, hq2⟩ := hR.1 r hrn
    have hcl := hR.2.2.2 r hrn
    have hlow : cy (nI r).toNatClampNeg &&& (-(cy (nI r).toNatClampNeg)) = nI (2 ^ q) := by
      rw [ma_arr_c hcy hrn (by omega), ma_lowb hq1 (by omega)]
    have hq31 : q < 26 := ma_bl hcl hq1.1
    have hp2 : 2 ^ q < 2 ^ 26 := Nat.pow_lt_pow_right (by decide) hq31
    refine br_f (nI_ge hrn (by omega)) (br_f (nI_pos hk) (br_f (nI_ge (b := 26) (by omega) (by decide)) ⟨hv, hv, nm_r hlow ?_⟩))
    rw [nx_and]
    cases hb : x.testBit q
    · rw [ma_and_f hb]
      refine br_t rfl (nm_r (nI_1 r) (ih (r + 1) x (by omega) hx hS (fun i p hi hp => ?_)))
      by_cases w : i = r
      · subst w
        rw [ma_L_eq hp hq1]
        exact hb
      · exact hz i p (by omega) hp
    · rw [ma_and_t hb]
      refine br_f (nI_ne0 (Nat.two_pow_pos q) (by omega)) ⟨hv, nm_r (e' := nI (x ^^^ c r)) (by rw [ma_arr_c hcy hrn (by omega), nx_xor]) (nm_r (nI_1 r) (ih (r + 1) (x ^^^ c r) (by omega) (Nat.xor_lt_two_pow hx hcl) ?_ (fun i p hi hp => ?_)))⟩
      · rw [ma_x1]
        exact ma_Sp_x hS (ma_Sp_g hrn)
      · rw [Nat.testBit_xor]
        by_cases w : i = r
        · subst w
          rw [ma_L_eq hp hq1, hb, hq1.1]
          rfl
        · rw [hz i p (by omega) hp]
          obtain ⟨p', hp1, hp2⟩ := hR.1 i (by omega)
          rw [ma_L_eq hp1 hp] at hp2
          rw [hp2 r (by omega) hrn]
          rfl
