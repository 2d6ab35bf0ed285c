/-- how many i below n have P -/
def ma_cn (P : Nat → Bool) : Nat → Nat
  | 0 => 0
  | n + 1 => ma_cn P n + (if P n = true then 1 else 0)
theorem ma_cn_s (P : Nat → Bool) (n : Nat) : ma_cn P (n + 1) = ma_cn P n + (if P n = true then 1 else 0) := rfl
theorem ma_cn_congr {P Q : Nat → Bool} {n : Nat} (h : ∀ i, i < n → P i = Q i) : ma_cn P n = ma_cn Q n := by
  induction n with
  | zero => rfl
  | succ n ih =>
    rw [ma_cn_s, ma_cn_s, ih (fun i hi => h i (by omega)), h n (by omega)]
theorem ma_cn_le (P : Nat → Bool) (n : Nat) : ma_cn P n ≤ n := by
  induction n with
  | zero => exact Nat.le_refl _
  | succ n ih =>
    rw [ma_cn_s]
    split <;> omega
theorem ma_cn_rm {Q : Nat → Bool} {m a : Nat} (ha : a < m) (hQ : Q a = true) : ma_cn Q m = ma_cn (fun i => Q i && !decide (i = a)) m + 1 := by
  induction m with
  | zero => omega
  | succ m ih =>
    rw [ma_cn_s, ma_cn_s]
    by_cases e : a = m
    · subst e
      have h1 : ma_cn (fun i => Q i && !decide (i = a)) a = ma_cn Q a := ma_cn_congr (fun i hi => by
        have h0 : decide (i = a) = false := decide_eq_false (by omega)
        simp [h0])
      rw [h1]
      simp [hQ]
    · have h1 := ih (by omega)
      have h2 : (Q m && !decide (m = a)) = Q m := by
        have h0 : decide (m = a) = false := decide_eq_false (by omega)
        simp [h0]
      rw [h1, h2]
      omega
theorem ma_cn_inj (P : Nat → Bool) (R : Nat → Nat → Prop) (n : Nat) : ∀ (m : Nat) (Q : Nat → Bool),
    (∀ i, i < n → P i = true → ∃ a, a < m ∧ Q a = true ∧ R i a) →
    (∀ i j a, i < n → j < n → P i = true → P j = true → R i a → R j a → i = j) → ma_cn P n ≤ ma_cn Q m := by
  induction n with
  | zero => intro m Q _ _; exact Nat.zero_le _
  | succ n ih =>
    intro m Q h hR
    rw [ma_cn_s]
    by_cases hp : P n = true
    · obtain ⟨a, ha, hq, hr⟩ := h n (by omega) hp
      rw [ma_cn_rm ha hq, if_pos hp]
      refine Nat.add_le_add_right (ih m _ ?_ ?_) 1
      · intro i hi hpi
        obtain ⟨b, hb, hqb, hrb⟩ := h i (by omega) hpi
        refine ⟨b, hb, ?_, hrb⟩
        have hne : b ≠ a := by
          intro e
          rw [e] at hrb
          have := hR i n a (by omega) (by omega) hpi hp hrb hr
          omega
        simp [hqb, hne]
      · intro i j a hi hj; exact hR i j a (by omega) (by omega)
    · rw [if_neg hp]
      exact ih m Q (fun i hi => h i (by omega)) (fun i j a hi hj => hR i j a (by omega) (by omega))
/-- counts split -/
theorem ma_cn_split (P Q : Nat → Bool) (n : Nat) : ma_cn P n = ma_cn (fun i => P i && Q i) n + ma_cn (fun i => P i && !Q i) n := by
  induction n with
  | zero => rfl
  | succ n ih =>
    rw [ma_cn_s, ma_cn_s, ma_cn_s, ih]
    cases P n <;> cases Q n <;> simp <;> omega
theorem ma_cn_0 {P : Nat → Bool} {n : Nat} (h : ∀ i, i < n → P i = false) : ma_cn P n = 0 := by
  induction n with
  | zero => rfl
  | succ n ih =>
    rw [ma_cn_s, ih (fun i hi => h i (by omega)), h n (by omega)]
    rfl
theorem ma_cn_up {P : Nat → Bool} {n : Nat} (m : Nat) (h : ∀ i, n ≤ i → i < n + m → P i = false) : ma_cn P (n + m) = ma_cn P n := by
  induction m with
  | zero => rfl
  | succ m ih =>
    rw [← Nat.add_assoc, ma_cn_s, ih (fun i h1 h2 => h i h1 (by omega)), h (n + m) (by omega) (by omega)]
    rfl
/-- i is the last bit of x -/
def ma_T (x i : Nat) : Prop := x.testBit i = true ∧ x < 2 ^ (i + 1)
theorem ma_T_ex {x : Nat} (h : x ≠ 0) : ∃ i, ma_T x i := ⟨x.log2, Nat.testBit_log2 h, Nat.lt_log2_self⟩
theorem ma_pw {a b : Nat} (h : 2 ^ a < 2 ^ b) : a < b := (Nat.pow_lt_pow_iff_right (by decide : 1 < 2)).mp h
theorem ma_pl {a b : Nat} (h : a ≤ b) : 2 ^ a ≤ 2 ^ b := Nat.pow_le_pow_right (by decide) h
theorem ma_bl {x i n : Nat} (hx : x < 2 ^ n) (h : x.testBit i = true) : i < n :=
  ma_pw (Nat.lt_of_le_of_lt (Nat.ge_two_pow_of_testBit h) hx)
theorem ma_bf {x i n : Nat} (hx : x < 2 ^ n) (h : n ≤ i) : x.testBit i = false :=
  Nat.testBit_lt_two_pow (Nat.lt_of_lt_of_le hx (ma_pl h))
theorem ma_T_bit {x i j : Nat} (h : ma_T x i) (hj : x.testBit j = true) : j ≤ i := by
  have := ma_bl h.2 hj
  omega
theorem ma_T_eq {x i j : Nat} (h : ma_T x i) (h' : ma_T x j) : i = j := by
  have := ma_T_bit h h'.1
  have := ma_T_bit h' h.1
  omega
theorem ma_T_0 {i : Nat} : ¬ ma_T 0 i := fun h => by
  have := h.1
  rw [Nat.zero_testBit] at this
  exact Bool.noConfusion this
theorem ma_T_ne {x i : Nat} (h : ma_T x i) : x ≠ 0 := fun e => ma_T_0 (e ▸ h)
theorem ma_T_lt {x i n : Nat} (h : ma_T x i) (hx : x < 2 ^ n) : i < n := ma_bl hx h.1
theorem ma_T_xor {x y i j : Nat} (hx : ma_T x i) (hy : ma_T y j) (h : j < i) : ma_T (x ^^^ y) i := by
  have hy' : y < 2 ^ i := Nat.lt_of_lt_of_le hy.2 (ma_pl h)
  refine ⟨?_, Nat.xor_lt_two_pow hx.2 (Nat.lt_of_lt_of_le hy' (ma_pl (Nat.le_succ i)))⟩
  rw [Nat.testBit_xor, hx.1, Nat.testBit_lt_two_pow hy']
  rfl
theorem ma_x1 (a b c : Nat) : (a ^^^ b) ^^^ c = (a ^^^ c) ^^^ b := by
  rw [Nat.xor_assoc, Nat.xor_comm b c, ← Nat.xor_assoc]
theorem ma_x2 (a b : Nat) : (a ^^^ b) ^^^ b = a := by
  rw [Nat.xor_assoc, Nat.xor_self, Nat.xor_zero]
theorem ma_x3 (a b c : Nat) : (a ^^^ c) ^^^ (b ^^^ c) = a ^^^ b := by
  rw [Nat.xor_comm b c, ← Nat.xor_assoc, ma_x2]
theorem ma_x0 {a b : Nat} (h : a ^^^ b = 0) : a = b := by
  have := ma_x2 a b
  rw [h, Nat.zero_xor] at this
  exact this.symm
/-- the sum of f i over the bits i < n of c -/
def ma_lin (f : Nat → Nat) : Nat → Nat → Nat
  | 0, _ => 0
  | n + 1, c => if c.testBit n = true then ma_lin f n c ^^^ f n else ma_lin f n c
theorem ma_lin_t {f : Nat → Nat} {n c : Nat} (h : c.testBit n = true) : ma_lin f (n + 1) c = ma_lin f n c ^^^ f n := by
  show (if c.testBit n = true then _ else _) = _
  rw [if_pos h]
theorem ma_lin_f {f : Nat → Nat} {n c : Nat} (h : c.testBit n = false) : ma_lin f (n + 1) c = ma_lin f n c := by
  show (if c.testBit n = true then _ else _) = _
  rw [if_neg (by rw [h]; exact Bool.noConfusion)]
theorem ma_lin_xor (f : Nat → Nat) (n c d : Nat) : ma_lin f n (c ^^^ d) = ma_lin f n c ^^^ ma_lin f n d := by
  induction n with
  | zero => exact (Nat.zero_xor 0).symm
  | succ n ih =>
    cases hc : c.testBit n <;> cases hd : d.testBit n
    · rw [ma_lin_f hc, ma_lin_f hd, ma_lin_f (by rw [Nat.testBit_xor, hc, hd]; rfl), ih]
    · rw [ma_lin_f hc, ma_lin_t hd, ma_lin_t (by rw [Nat.testBit_xor, hc, hd]; rfl), ih, Nat.xor_assoc]
    · rw [ma_lin_t hc, ma_lin_f hd, ma_lin_t (by rw [Nat.testBit_xor, hc, hd]; rfl), ih, ma_x1]
    · rw [ma_lin_t hc, ma_lin_t hd, ma_lin_f (by rw [Nat.testBit_xor, hc, hd]; rfl), ih, ma_x3]
theorem ma_lin_0 (f : Nat → Nat) (n : Nat) : ma_lin f n 0 = 0 := by
  induction n with
  | zero => rfl
  | succ n ih => rw [ma_lin_f (Nat.zero_testBit n), ih]
theorem ma_lin_congr {f g : Nat → Nat} {n c d : Nat} (h : ∀ i, i < n → c.testBit i = d.testBit i) (hf : ∀ i, i < n → c.testBit i = true → f i = g i) : ma_lin f n c = ma_lin g n d := by
  induction n with
  | zero => rfl
  | succ n ih =>
    have e := ih (fun i hi => h i (by omega)) (fun i hi => hf i (by omega))
    have hn := h n (by omega)
    cases hc : c.testBit n
    · rw [ma_lin_f hc, ma_lin_f (hn ▸ hc), e]
    · rw [ma_lin_t hc, ma_lin_t (hn ▸ hc), e, hf n (by omega) hc]
theorem ma_lin_lt {f : Nat → Nat} {n c m : Nat} (h : ∀ i, i < n → f i < 2 ^ m) : ma_lin f n c < 2 ^ m := by
  induction n with
  | zero => exact Nat.two_pow_pos m
  | succ n ih =>
    have e := ih (fun i hi => h i (by omega))
    cases hc : c.testBit n
    · rw [ma_lin_f hc]; exact e
    · rw [ma_lin_t hc]; exact Nat.xor_lt_two_pow e (h n (by omega))
theorem ma_lin_up {f : Nat → Nat} {n c : Nat} (hc : c < 2 ^ n) (m : Nat) : ma_lin f (n + m) c = ma_lin f n c := by
  induction m with
  | zero => rfl
  | succ m ih =>
    rw [← Nat.add_assoc, ma_lin_f (ma_bf hc (by omega)), ih]
theorem ma_lin_one {f : Nat → Nat} {n i : Nat} (hi : i < n) : ma_lin f n (2 ^ i) = f i := by
  induction n with
  | zero => omega
  | succ n ih =>
    by_cases e : i = n
    · subst e
      rw [ma_lin_t Nat.testBit_two_pow_self]
      have h0 : ma_lin f i (2 ^ i) = ma_lin f i 0 := ma_lin_congr (fun j hj => by rw [Nat.testBit_two_pow_of_ne (by omega), Nat.zero_testBit]) (fun _ _ _ => rfl)
      rw [h0, ma_lin_0, Nat.zero_xor]
    · rw [ma_lin_f (Nat.testBit_two_pow_of_ne e), ih (by omega)]
theorem ma_lin_bit (f : Nat → Nat) (n c m : Nat) : (ma_lin f n c).testBit m = decide (ma_cn (fun j => c.testBit j && (f j).testBit m) n % 2 = 1) := by
  induction n with
  | zero => exact Nat.zero_testBit m
  | succ n ih =>
    rw [ma_cn_s]
    cases hc : c.testBit n
    · rw [ma_lin_f hc, ih]; simp [hc]
    · rw [ma_lin_t hc, Nat.testBit_xor, ih]
      cases hf : (f n).testBit m
      · simp [hc, hf]
      · simp only [hc, hf, Bool.and_self, if_true]
        generalize ma_cn _ n = q
        by_cases h : q % 2 = 1
        · have : ¬ (q + 1) % 2 = 1 := by omega
          simp [h, this]
        · have : (q + 1) % 2 = 1 := by omega
          simp [h, this]
/-- what the first n of f span -/
def ma_Sp (f : Nat → Nat) (n x : Nat) : Prop := ∃ c, c < 2 ^ n ∧ x = ma_lin f n c
theorem ma_Sp_of (f : Nat → Nat) (n c : Nat) : ma_Sp f n (ma_lin f n c) := by
  refine ⟨c % 2 ^ n, Nat.mod_lt _ (Nat.two_pow_pos n), ma_lin_congr (fun i hi => ?_) (fun _ _ _ => rfl)⟩
  rw [Nat.testBit_mod_two_pow, decide_eq_true hi]
  rfl
theorem ma_Sp_0 (f : Nat → Nat) (n : Nat) : ma_Sp f n 0 := ⟨0, Nat.two_pow_pos n, (ma_lin_0 f n).symm⟩
theorem ma_Sp_x {f : Nat → Nat} {n x y : Nat} (hx : ma_Sp f n x) (hy : ma_Sp f n y) : ma_Sp f n (x ^^^ y) := by
  obtain ⟨c, hc, rfl⟩ := hx
  obtain ⟨d, hd, rfl⟩ := hy
  exact ⟨c ^^^ d, Nat.xor_lt_two_pow hc hd, (ma_lin_xor f n c d).symm⟩
theorem ma_Sp_g {f : Nat → Nat} {n i : Nat} (hi : i < n) : ma_Sp f n (f i) := by
  have := ma_Sp_of f n (2 ^ i)
  rw [ma_lin_one hi] at this
  exact this
theorem ma_Sp_up {f : Nat → Nat} {n m x : Nat} (h : n ≤ m) (hx : ma_Sp f n x) : ma_Sp f m x := by
  obtain ⟨c, hc, rfl⟩ := hx
  have e : m = n + (m - n) := by omega
  refine ⟨c, Nat.lt_of_lt_of_le hc (ma_pl h), ?_⟩
  rw [e, ma_lin_up hc]
theorem ma_Sp_sub {f g : Nat → Nat} {n m x : Nat} (h : ∀ i, i < n → ma_Sp g m (f i)) (hx : ma_Sp f n x) : ma_Sp g m x := by
  obtain ⟨c, hc, rfl⟩ := hx
  clear hc
  induction n with
  | zero => exact ma_Sp_0 g m
  | succ n ih =>
    have e := ih (fun i hi => h i (by omega))
    cases hc : c.testBit n
    · rw [ma_lin_f hc]; exact e
    · rw [ma_lin_t hc]; exact ma_Sp_x e (h n (by omega))
theorem ma_Sp_congr {f g : Nat → Nat} {n x : Nat} (h : ∀ i, i < n → f i = g i) (hx : ma_Sp f n x) : ma_Sp g n x :=
  ma_Sp_sub (fun i hi => (h i hi).symm ▸ ma_Sp_g hi) hx
theorem ma_Sp_lt {f : Nat → Nat} {n x m : Nat} (h : ∀ i, i < n → f i < 2 ^ m) (hx : ma_Sp f n x) : x < 2 ^ m := by
  obtain ⟨c, hc, rfl⟩ := hx
  exact ma_lin_lt h
/-- members with different last bits: what they span has no other last bits -/
theorem ma_ech {e : Nat → Nat} {n : Nat} (hd : ∀ i j a, i < n → j < n → ma_T (e i) a → ma_T (e j) a → i = j) : ∀ x a, ma_Sp e n x → ma_T x a → ∃ i, i < n ∧ ma_T (e i) a := by
  induction n with
  | zero =>
    intro x a hx hT
    obtain ⟨c, hc, rfl⟩ := hx
    exact absurd hT ma_T_0
  | succ n ih =>
    intro x a hx hT
    have IH := ih (fun i j a hi hj => hd i j a (by omega) (by omega))
    obtain ⟨c, _, rfl⟩ := hx
    cases hc : c.testBit n
    · rw [ma_lin_f hc] at hT
      obtain ⟨i, hi, h⟩ := IH _ a (ma_Sp_of e n c) hT
      exact ⟨i, by omega, h⟩
    · rw [ma_lin_t hc] at hT
      by_cases h0 : e n = 0
      · rw [h0, Nat.xor_zero] at hT
        obtain ⟨i, hi, h⟩ := IH _ a (ma_Sp_of e n c) hT
        exact ⟨i, by omega, h⟩
      · obtain ⟨b, hb⟩ := ma_T_ex h0
        by_cases hy : ma_lin e n c = 0
        · rw [hy, Nat.zero_xor] at hT
          exact ⟨n, by omega, hT⟩
        · obtain ⟨w, hw⟩ := ma_T_ex hy
          obtain ⟨i, hi, h⟩ := IH _ w (ma_Sp_of e n c) hw
          have hne : w ≠ b := by
            intro q
            have := hd i n b (by omega) (by omega) (q ▸ h) hb
            omega
          by_cases hlt : b < w
          · have := ma_T_eq hT (ma_T_xor hw hb hlt)
            exact ⟨i, by omega, this ▸ h⟩
          · have hx := ma_T_xor hb hw (by omega)
            rw [Nat.xor_comm] at hx
            have := ma_T_eq hT hx
            exact ⟨n, by omega, this ▸ hb⟩
