/-- q is the first bit of x -/
def ma_L (x q : Nat) : Prop := x.testBit q = true ∧ ∀ p, p < q → x.testBit p = false
theorem ma_L_ex {x : Nat} (h : x ≠ 0) : ∃ q, ma_L x q := by
  obtain ⟨q, h1, h2⟩ := pk_least (fun q => x.testBit q = true) (Nat.exists_testBit_of_ne_zero h)
  refine ⟨q, h1, fun p hp => ?_⟩
  cases hb : x.testBit p
  · rfl
  · exact absurd hb (h2 p hp)
theorem ma_L_eq {x p q : Nat} (h : ma_L x p) (h' : ma_L x q) : p = q := by
  rcases Nat.lt_trichotomy p q with w | w | w
  · have := h'.2 p w
    rw [h.1] at this
    exact Bool.noConfusion this
  · exact w
  · have := h.2 q w
    rw [h'.1] at this
    exact Bool.noConfusion this
/-- the columns: the first bit of each is in no later one -/
def ma_C (c : Nat → Nat) (r : Nat) : Prop := ∀ i, i < r → ∃ q, ma_L (c i) q ∧ ∀ j, i < j → j < r → (c j).testBit q = false
theorem ma_C_le {c : Nat → Nat} {r s : Nat} (h : ma_C c r) (hs : s ≤ r) : ma_C c s := fun i hi => by
  obtain ⟨q, h1, h2⟩ := h i (by omega)
  exact ⟨q, h1, fun j hj hj' => h2 j hj (by omega)⟩
theorem ma_C_ind {c : Nat → Nat} {r : Nat} : ma_C c r → ∀ x, ma_Sp c r x → (∀ i q, i < r → ma_L (c i) q → x.testBit q = false) → x = 0 := by
  induction r with
  | zero =>
    intro _ x hx _
    obtain ⟨w, _, rfl⟩ := hx
    rfl
  | succ r ih =>
    intro hC x hx hz
    obtain ⟨w, _, rfl⟩ := hx
    have IH := ih (ma_C_le hC (Nat.le_succ r))
    cases hw : w.testBit r
    · rw [ma_lin_f hw] at hz ⊢
      exact IH _ (ma_Sp_of c r w) (fun i q hi => hz i q (by omega))
    · rw [ma_lin_t hw] at hz ⊢
      have h1 : ma_lin c r w = 0 := IH _ (ma_Sp_of c r w) (fun i q hi hq => by
        have h2 := hz i q (by omega) hq
        obtain ⟨q', h3, h4⟩ := hC i (by omega)
        rw [ma_L_eq h3 hq] at h4
        rw [Nat.testBit_xor, h4 r hi (by omega), Bool.xor_false] at h2
        exact h2)
      rw [h1, Nat.zero_xor] at hz ⊢
      obtain ⟨q, h3, _⟩ := hC r (by omega)
      have := hz r q (by omega) h3
      rw [h3.1] at this
      exact Bool.noConfusion this
/-- x is y without the columns -/
def ma_Rc (c : Nat → Nat) (r y x : Nat) : Prop := ma_Sp c r (x ^^^ y) ∧ ∀ i q, i < r → ma_L (c i) q → x.testBit q = false
/-- the columns after t of f -/
def ma_R (f : Nat → Nat) (t : Nat) (c : Nat → Nat) (r : Nat) : Prop := ma_C c r ∧ (∀ x, ma_Sp c r x ↔ ma_Sp f t x) ∧ r = ma_cp (fun m => ¬ ma_Sp f m (f m)) t ∧ ∀ i, i < r → c i < 2 ^ 26
theorem ma_Rc_0 {f c : Nat → Nat} {t r y x : Nat} (hR : ma_R f t c r) (hx : ma_Rc c r y x) : x = 0 ↔ ma_Sp f t y := by
  constructor
  · intro q
    have h1 := hx.1
    rw [q, Nat.zero_xor] at h1
    exact (hR.2.1 y).mp h1
  · intro q
    have h1 := ma_Sp_x hx.1 ((hR.2.1 y).mpr q)
    rw [ma_x2] at h1
    exact ma_C_ind hR.1 x h1 hx.2
theorem ma_Rc_lt {f c : Nat → Nat} {t r y x : Nat} (hR : ma_R f t c r) (hx : ma_Rc c r y x) (hy : y < 2 ^ 26) : x < 2 ^ 26 := by
  have h1 := Nat.xor_lt_two_pow (ma_Sp_lt hR.2.2.2 hx.1) hy
  rw [ma_x2] at h1
  exact h1
theorem ma_R_0 (f c : Nat → Nat) : ma_R f 0 c 0 := by
  refine ⟨fun i hi => absurd hi (Nat.not_lt_zero i), fun x => ?_, rfl, fun i hi => absurd hi (Nat.not_lt_zero i)⟩
  constructor
  · intro ⟨w, hw, e⟩; exact ⟨w, hw, e⟩
  · intro ⟨w, hw, e⟩; exact ⟨w, hw, e⟩
theorem ma_R_s0 {f c : Nat → Nat} {t r : Nat} (hR : ma_R f t c r) (h : ma_Sp f t (f t)) : ma_R f (t + 1) c r := by
  refine ⟨hR.1, fun x => ?_, ?_, hR.2.2.2⟩
  · rw [hR.2.1 x]
    refine ⟨ma_Sp_up (Nat.le_succ t), ma_Sp_sub (fun i hi => ?_)⟩
    by_cases q : i = t
    · rw [q]; exact h
    · exact ma_Sp_g (by omega)
  · rw [ma_cp_f (P := fun m => ¬ ma_Sp f m (f m)) (fun w => w h)]
    exact hR.2.2.1
theorem ma_R_s1 {f c : Nat → Nat} {t r x : Nat} (hR : ma_R f t c r) (hx : ma_Rc c r (f t) x) (h0 : x ≠ 0) (hl : x < 2 ^ 26) : ma_R f (t + 1) (ma_put c r x) (r + 1) := by
  have hn : ¬ ma_Sp f t (f t) := fun w => h0 ((ma_Rc_0 hR hx).mpr w)
  have hsub : ∀ y, ma_Sp c r y → ma_Sp (ma_put c r x) (r + 1) y := fun y hy =>
    ma_Sp_sub (fun i hi => by
      have := ma_Sp_g (f := ma_put c r x) (n := r + 1) (i := i) (by omega)
      rw [ma_put_n (by omega)] at this
      exact this) hy
  have hxin : ma_Sp (ma_put c r x) (r + 1) x := by
    have := ma_Sp_g (f := ma_put c r x) (n := r + 1) (i := r) (by omega)
    rw [ma_put_s] at this
    exact this
  refine ⟨fun i hi => ?_, fun y => ?_, ?_, fun i hi => ?_⟩
  · by_cases q : i = r
    · subst q
      obtain ⟨w, hw⟩ := ma_L_ex h0
      exact ⟨w, by rw [ma_put_s]; exact hw, fun j h1 h2 => by omega⟩
    · obtain ⟨w, hw, h2⟩ := hR.1 i (by omega)
      refine ⟨w, by rw [ma_put_n q]; exact hw, fun j h3 h4 => ?_⟩
      by_cases q' : j = r
      · subst q'
        rw [ma_put_s]
        exact hx.2 i w (by omega) hw
      · rw [ma_put_n q']
        exact h2 j h3 (by omega)
  · constructor
    · intro hy
      refine ma_Sp_sub (fun i hi => ?_) hy
      by_cases q : i = r
      · rw [q, ma_put_s]
        have h1 := ma_Sp_x (ma_Sp_up (Nat.le_succ t) ((hR.2.1 _).mp hx.1)) (ma_Sp_g (f := f) (Nat.lt_succ_self t))
        rw [ma_x2] at h1
        exact h1
      · rw [ma_put_n q]
        exact ma_Sp_up (Nat.le_succ t) ((hR.2.1 _).mp (ma_Sp_g (by omega)))
    · intro hy
      refine ma_Sp_sub (fun i hi => ?_) hy
      by_cases q : i = t
      · rw [q]
        have h1 := ma_Sp_x (hsub _ hx.1) hxin
        rw [Nat.xor_comm x (f t), ma_x2] at h1
        exact h1
      · exact hsub _ ((hR.2.1 _).mpr (ma_Sp_g (by omega)))
  · rw [ma_cp_t (P := fun m => ¬ ma_Sp f m (f m)) hn, hR.2.2.1]
  · by_cases q : i = r
    · rw [q, ma_put_s]; exact hl
    · rw [ma_put_n q]; exact hR.2.2.2 i (by omega)
/-- x without its bits below s -/
def ma_hi (s x : Nat) : Nat := x / 2 ^ s * 2 ^ s
theorem ma_hi_bit (s x p : Nat) : (ma_hi s x).testBit p = (decide (s ≤ p) && x.testBit p) := by
  unfold ma_hi
  rw [Nat.testBit_mul_two_pow]
  by_cases h : s ≤ p
  · rw [Nat.testBit_div_two_pow, Nat.sub_add_cancel h]
  · simp [h]
theorem ma_hi_xor (s x y : Nat) : ma_hi s (x ^^^ y) = ma_hi s x ^^^ ma_hi s y := by
  apply Nat.eq_of_testBit_eq
  intro p
  rw [ma_hi_bit, Nat.testBit_xor, Nat.testBit_xor, ma_hi_bit, ma_hi_bit]
  cases decide (s ≤ p) <;> cases x.testBit p <;> cases y.testBit p <;> rfl
theorem ma_hi_0 (s : Nat) : ma_hi s 0 = 0 := by
  unfold ma_hi
  rw [Nat.zero_div, Nat.zero_mul]
theorem ma_hi_le (s x : Nat) : ma_hi s x ≤ x := Nat.div_mul_le_self x _
theorem ma_hi_z (x : Nat) : ma_hi 0 x = x := by
  unfold ma_hi
  rw [Nat.pow_zero, Nat.div_one, Nat.mul_one]
theorem ma_hi_T {s x a : Nat} : ma_T (ma_hi s x) a ↔ s ≤ a ∧ ma_T x a := by
  constructor
  · intro h
    have h1 := h.1
    rw [ma_hi_bit, Bool.and_eq_true, decide_eq_true_eq] at h1
    refine ⟨h1.1, h1.2, Nat.lt_pow_two_of_testBit _ (fun p hp => ?_)⟩
    have h2 := ma_bf h.2 hp
    rw [ma_hi_bit, decide_eq_true (by omega : s ≤ p), Bool.true_and] at h2
    exact h2
  · intro ⟨h1, h2⟩
    refine ⟨?_, Nat.lt_of_le_of_lt (ma_hi_le s x) h2.2⟩
    rw [ma_hi_bit, h2.1, decide_eq_true h1]
    rfl
theorem ma_hi_lin (s : Nat) (f : Nat → Nat) (n c : Nat) : ma_hi s (ma_lin f n c) = ma_lin (fun i => ma_hi s (f i)) n c := by
  induction n with
  | zero => exact ma_hi_0 s
  | succ n ih =>
    cases hc : c.testBit n
    · rw [ma_lin_f hc, ma_lin_f hc, ih]
    · rw [ma_lin_t hc, ma_lin_t hc, ma_hi_xor, ih]
theorem ma_hi_Sp {s : Nat} {f : Nat → Nat} {n x : Nat} (h : ma_Sp f n x) : ma_Sp (fun i => ma_hi s (f i)) n (ma_hi s x) := by
  obtain ⟨c, hc, rfl⟩ := h
  exact ⟨c, hc, ma_hi_lin s f n c⟩
/-- the borders of dimension K without the bits below s -/
def ma_F (b d : Nat → Nat) (K s : Nat) : Nat → Nat := fun i => ma_hi s (ma_fk b d K i)
theorem ma_F_t {b d : Nat → Nat} {K s i : Nat} (h : d i = K) : ma_F b d K s i = ma_hi s (b i) := by
  unfold ma_F
  rw [ma_fk_t h]
theorem ma_F_f {b d : Nat → Nat} {K s i : Nat} (h : ¬ d i = K) : ma_F b d K s i = 0 := by
  unfold ma_F
  rw [ma_fk_f h, ma_hi_0]
theorem ma_F_tri {b d e : Nat → Nat} {n : Nat} (h : ma_J b d e n) (K s : Nat) : ∀ i, i < n → ma_Sp (ma_F b d K s) i (ma_F e d K s i ^^^ ma_F b d K s i) := by
  intro i hi
  have h1 := ma_hi_Sp (s := s) (ma_J_tri h K i hi)
  rw [ma_hi_xor] at h1
  exact h1
theorem ma_F_in {b d e : Nat → Nat} {n : Nat} (h : ma_J b d e n) (K s : Nat) {m : Nat} (hm : m < n) : ¬ ma_Sp (ma_F b d K s) m (ma_F b d K s m) ↔ d m = K ∧ ∃ a, s ≤ a ∧ ma_T (e m) a := by
  have htri : ∀ i, i < m → ma_Sp (ma_F b d K s) i (ma_F e d K s i ^^^ ma_F b d K s i) := fun i hi => ma_F_tri h K s i (by omega)
  have hd : ∀ i j a, i < m + 1 → j < m + 1 → ma_T (ma_F e d K s i) a → ma_T (ma_F e d K s j) a → i = j := fun i j a hi hj h1 h2 =>
    h.2.1 i j a (by omega) (by omega) (ma_fk_T.mp (ma_hi_T.mp h1).2).2 (ma_fk_T.mp (ma_hi_T.mp h2).2).2
  have h0 : ma_Sp (ma_F b d K s) m (ma_F b d K s m) ↔ ma_F e d K s m = 0 := by
    constructor
    · intro q
      have h1 := ma_Sp_x (ma_F_tri h K s m hm) q
      rw [ma_x2] at h1
      have h2 := ma_Sp_tri2 htri _ h1
      apply Classical.byContradiction
      intro w
      obtain ⟨a, ha⟩ := ma_T_ex w
      obtain ⟨i, hi, hT⟩ := ma_ech (fun i j a hi hj => hd i j a (by omega) (by omega)) _ a h2 ha
      have := hd i m a (by omega) (by omega) hT ha
      omega
    · intro q
      have h1 := ma_F_tri h K s m hm
      rw [q, Nat.zero_xor] at h1
      exact h1
  rw [h0]
  constructor
  · intro q
    obtain ⟨a, ha⟩ := ma_T_ex q
    have h1 := ma_hi_T.mp ha
    have h2 := ma_fk_T.mp h1.2
    exact ⟨h2.1, a, h1.1, h2.2⟩
  · intro ⟨q, a, ha, hT⟩ w
    have h1 : ma_T (ma_F e d K s m) a := ma_hi_T.mpr ⟨ha, ma_fk_T.mpr ⟨q, hT⟩⟩
    rw [w] at h1
    exact ma_T_0 h1
theorem ma_F_rf {b d e : Nat → Nat} {n : Nat} (h : ma_J b d e n) (K s : Nat) {t : Nat} (ht : t ≤ n) : ma_cp (fun m => ¬ ma_Sp (ma_F b d K s) m (ma_F b d K s m)) t = ma_rf e d K t s :=
  ma_cp_congr (fun m hm => ma_F_in h K s (by omega))
