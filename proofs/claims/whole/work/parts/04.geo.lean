/-- r is s without its point p -/
def ma_s1 (r s p : Nat) : Bool := s.testBit p && Nat.beq r (s ^^^ 2 ^ p)
/-- r is a side of s -/
def ma_sd (r s : Nat) : Bool := !(Nat.beq r 0) && (ma_s1 r s 0 || (ma_s1 r s 1 || (ma_s1 r s 2 || (ma_s1 r s 3 || (ma_s1 r s 4 || ma_s1 r s 5)))))
theorem ma_s1_iff {r s p : Nat} : ma_s1 r s p = true ↔ s.testBit p = true ∧ r = s ^^^ 2 ^ p := by
  unfold ma_s1
  rw [Bool.and_eq_true]
  exact ⟨fun h => ⟨h.1, Nat.eq_of_beq_eq_true h.2⟩, fun h => ⟨h.1, by rw [h.2]; exact Nat.beq_refl _⟩⟩
theorem ma_sd_iff {r s : Nat} : ma_sd r s = true ↔ r ≠ 0 ∧ ∃ p, p < 6 ∧ s.testBit p = true ∧ r = s ^^^ 2 ^ p := by
  constructor
  · intro h
    simp only [ma_sd, Bool.and_eq_true, Bool.or_eq_true, Bool.not_eq_true'] at h
    obtain ⟨h0, h1⟩ := h
    refine ⟨Nat.ne_of_beq_eq_false h0, ?_⟩
    rcases h1 with h | h | h | h | h | h
    · exact ⟨0, by decide, ma_s1_iff.mp h⟩
    · exact ⟨1, by decide, ma_s1_iff.mp h⟩
    · exact ⟨2, by decide, ma_s1_iff.mp h⟩
    · exact ⟨3, by decide, ma_s1_iff.mp h⟩
    · exact ⟨4, by decide, ma_s1_iff.mp h⟩
    · exact ⟨5, by decide, ma_s1_iff.mp h⟩
  · intro ⟨h0, p, hp, h1⟩
    have hs := ma_s1_iff.mpr h1
    have h0' : Nat.beq r 0 = false := by
      cases r with
      | zero => exact absurd rfl h0
      | succ r => rfl
    have hp' : p = 0 ∨ p = 1 ∨ p = 2 ∨ p = 3 ∨ p = 4 ∨ p = 5 := by omega
    simp only [ma_sd, Bool.and_eq_true, Bool.or_eq_true, Bool.not_eq_true']
    refine ⟨h0', ?_⟩
    rcases hp' with e | e | e | e | e | e
    · exact Or.inl (e ▸ hs)
    · exact Or.inr (Or.inl (e ▸ hs))
    · exact Or.inr (Or.inr (Or.inl (e ▸ hs)))
    · exact Or.inr (Or.inr (Or.inr (Or.inl (e ▸ hs))))
    · exact Or.inr (Or.inr (Or.inr (Or.inr (Or.inl (e ▸ hs)))))
    · exact Or.inr (Or.inr (Or.inr (Or.inr (Or.inr (e ▸ hs)))))
/-- how many points -/
def ma_pop (s : Nat) : Nat := s % 2 + s / 2 % 2 + s / 4 % 2 + s / 8 % 2 + s / 16 % 2 + s / 32 % 2
theorem ma_pp : ∀ s, s < 64 → ∀ p, p < 6 → s.testBit p = true → ma_pop (s ^^^ 2 ^ p) + 1 = ma_pop s ∧ s ^^^ 2 ^ p < s := by decide +kernel
theorem ma_ev : ∀ s, s < 64 → ∀ r, r < 64 → ma_cn (fun p => s.testBit p && ma_sd r (s ^^^ 2 ^ p)) 6 % 2 = 0 := by decide +kernel
theorem ma_sd_pop {r s : Nat} (hs : s < 64) (h : ma_sd r s = true) : ma_pop r + 1 = ma_pop s ∧ r < s := by
  obtain ⟨_, p, hp, hb, rfl⟩ := ma_sd_iff.mp h
  exact ma_pp s hs p hp hb
theorem ma_sd_0 (r : Nat) : ma_sd r 0 = false := by
  cases h : ma_sd r 0
  · rfl
  · obtain ⟨_, p, _, hb, _⟩ := ma_sd_iff.mp h
    rw [Nat.zero_testBit] at hb
    exact Bool.noConfusion hb
theorem ma_xinj {s p q : Nat} (h : s ^^^ 2 ^ p = s ^^^ 2 ^ q) : p = q := by
  have h1 : (s ^^^ 2 ^ p) ^^^ s = (s ^^^ 2 ^ q) ^^^ s := by rw [h]
  rw [Nat.xor_comm s (2 ^ p), Nat.xor_comm s (2 ^ q), ma_x2, ma_x2] at h1
  have h2 := Nat.testBit_two_pow_self (n := p)
  rw [h1, Nat.testBit_two_pow] at h2
  have := of_decide_eq_true h2
  omega
/-- the number with the bits P below n -/
def ma_of (P : Nat → Bool) : Nat → Nat
  | 0 => 0
  | n + 1 => if P n = true then ma_of P n ||| 2 ^ n else ma_of P n
theorem ma_of_bit (P : Nat → Bool) (n j : Nat) : (ma_of P n).testBit j = (decide (j < n) && P j) := by
  induction n with
  | zero => exact Nat.zero_testBit j
  | succ n ih =>
    by_cases hp : P n = true
    · rw [show ma_of P (n + 1) = ma_of P n ||| 2 ^ n from if_pos hp, Nat.testBit_or, ih, Nat.testBit_two_pow]
      by_cases h1 : n = j
      · subst h1; simp [hp]
      · by_cases h2 : j < n
        · simp [h1, h2, Nat.lt_succ_of_lt h2]
        · have h3 : ¬ j < n + 1 := by omega
          simp [h1, h2, h3]
    · rw [show ma_of P (n + 1) = ma_of P n from if_neg hp, ih]
      by_cases h1 : n = j
      · subst h1; simp [hp]
      · by_cases h2 : j < n
        · simp [h2, Nat.lt_succ_of_lt h2]
        · have h3 : ¬ j < n + 1 := by omega
          simp [h2, h3]
theorem ma_of_lt (P : Nat → Bool) (n : Nat) : ma_of P n < 2 ^ n :=
  Nat.lt_pow_two_of_testBit _ (fun i hi => by
    rw [ma_of_bit, decide_eq_false (Nat.not_lt.mpr hi)]
    rfl)
theorem ma_of_congr {P Q : Nat → Bool} {n : Nat} (h : ∀ i, i < n → P i = Q i) : ma_of P n = ma_of Q n := by
  apply Nat.eq_of_testBit_eq
  intro i
  rw [ma_of_bit, ma_of_bit]
  by_cases hi : i < n
  · rw [h i hi]
  · rw [decide_eq_false hi]; rfl
/-- the growth: n pieces, all different, sides first -/
def ma_G (g : Nat → Nat) (n : Nat) : Prop :=
  (∀ i, i < n → 1 ≤ g i ∧ g i < 64 ∧ ma_pop (g i) ≤ 4) ∧
  (∀ i j, i < n → j < n → g i = g j → i = j) ∧
  (∀ i, i < n → ∀ r, ma_sd r (g i) = true → ∃ j, j < i ∧ g j = r)
/-- the border of piece i -/
def ma_bd (g : Nat → Nat) (i : Nat) : Nat := ma_of (fun j => ma_sd (g j) (g i)) i
def ma_d (g : Nat → Nat) (i : Nat) : Nat := ma_pop (g i)
theorem ma_bd_bit (g : Nat → Nat) (i j : Nat) : (ma_bd g i).testBit j = (decide (j < i) && ma_sd (g j) (g i)) := ma_of_bit _ _ _
theorem ma_bd_iff {g : Nat → Nat} {i j : Nat} : (ma_bd g i).testBit j = true ↔ j < i ∧ ma_sd (g j) (g i) = true := by
  rw [ma_bd_bit, Bool.and_eq_true, decide_eq_true_eq]
theorem ma_G_sd {g : Nat → Nat} {n i j : Nat} (h : ma_G g n) (hi : i < n) (hj : j < n) (hs : ma_sd (g j) (g i) = true) : j < i := by
  obtain ⟨m, hm, e⟩ := h.2.2 i hi _ hs
  have := h.2.1 m j (by omega) hj e
  omega
theorem ma_G_Fr {g : Nat → Nat} {n : Nat} (h : ma_G g n) : ma_Fr (ma_bd g) (ma_d g) n := by
  intro i hi
  refine ⟨ma_of_lt _ _, fun j hj => ?_, ?_⟩
  · obtain ⟨_, h2⟩ := ma_bd_iff.mp hj
    exact (ma_sd_pop (h.1 i hi).2.1 h2).1
  · apply Nat.eq_of_testBit_eq
    intro m
    rw [Nat.zero_testBit, ma_lin_bit]
    apply decide_eq_false
    by_cases hm : m < i
    · have h1 := ma_ev (g i) (h.1 i hi).2.1 (g m) (h.1 m (by omega)).2.1
      have h2 : ma_cn (fun j => (ma_bd g i).testBit j && (ma_bd g j).testBit m) i = ma_cn (fun p => (g i).testBit p && ma_sd (g m) (g i ^^^ 2 ^ p)) 6 := by
        apply Nat.le_antisymm
        · refine ma_cn_inj _ (fun j p => g j = g i ^^^ 2 ^ p) i 6 _ (fun j hj hP => ?_) (fun j j' p hj hj' _ _ e e' => h.2.1 j j' (by omega) (by omega) (e.trans e'.symm))
          rw [Bool.and_eq_true] at hP
          obtain ⟨_, p, hp, hb, he⟩ := ma_sd_iff.mp (ma_bd_iff.mp hP.1).2
          refine ⟨p, hp, ?_, he⟩
          rw [Bool.and_eq_true, ← he]
          exact ⟨hb, (ma_bd_iff.mp hP.2).2⟩
        · refine ma_cn_inj _ (fun p j => g j = g i ^^^ 2 ^ p) 6 i _ (fun p hp hP => ?_) (fun p q j _ _ _ _ e e' => ma_xinj (e.symm.trans e'))
          rw [Bool.and_eq_true] at hP
          have h0 : g i ^^^ 2 ^ p ≠ 0 := by
            intro e
            rw [e, ma_sd_0] at hP
            exact Bool.noConfusion hP.2
          have hs : ma_sd (g i ^^^ 2 ^ p) (g i) = true := ma_sd_iff.mpr ⟨h0, p, hp, hP.1, rfl⟩
          obtain ⟨j, hj, e⟩ := h.2.2 i hi _ hs
          refine ⟨j, hj, ?_, e⟩
          rw [← e] at hs hP
          rw [Bool.and_eq_true]
          exact ⟨ma_bd_iff.mpr ⟨hj, hs⟩, ma_bd_iff.mpr ⟨ma_G_sd h (by omega) (by omega) hP.2, hP.2⟩⟩
      rw [h2]
      omega
    · rw [ma_cn_0 (fun j hj => ?_)]
      · decide
      · cases hb : (ma_bd g j).testBit m
        · exact Bool.and_false _
        · have := (ma_bd_iff.mp hb).1
          omega
theorem ma_G_app {g : Nat → Nat} {n s : Nat} (h : ma_G g n) (h1 : 1 ≤ s) (h2 : s < 64) (h3 : ma_pop s ≤ 4) (hn : ∀ i, i < n → g i ≠ s) (hs : ∀ r, ma_sd r s = true → ∃ j, j < n ∧ g j = r) : ma_G (ma_put g n s) (n + 1) := by
  refine ⟨fun i hi => ?_, fun i j hi hj e => ?_, fun i hi r hr => ?_⟩
  · by_cases q : i = n
    · subst q; rw [ma_put_s]; exact ⟨h1, h2, h3⟩
    · rw [ma_put_n q]; exact h.1 i (by omega)
  · by_cases q : i = n
    · by_cases q' : j = n
      · omega
      · rw [q, ma_put_s, ma_put_n q'] at e
        exact absurd e.symm (hn j (by omega))
    · by_cases q' : j = n
      · rw [q', ma_put_s, ma_put_n q] at e
        exact absurd e (hn i (by omega))
      · rw [ma_put_n q, ma_put_n q'] at e
        exact h.2.1 i j (by omega) (by omega) e
  · by_cases q : i = n
    · subst q
      rw [ma_put_s] at hr
      obtain ⟨j, hj, e⟩ := hs r hr
      exact ⟨j, hj, by rw [ma_put_n (by omega)]; exact e⟩
    · rw [ma_put_n q] at hr
      obtain ⟨j, hj, e⟩ := h.2.2 i (by omega) r hr
      exact ⟨j, hj, by rw [ma_put_n (by omega)]; exact e⟩
theorem ma_G_le {g : Nat → Nat} {n m : Nat} (h : ma_G g n) (hm : m ≤ n) : ma_G g m :=
  ⟨fun i hi => h.1 i (by omega), fun i j hi hj => h.2.1 i j (by omega) (by omega), fun i hi => h.2.2 i (by omega)⟩
theorem ma_bd_put {g : Nat → Nat} {n s i : Nat} (h : i < n) : ma_bd (ma_put g n s) i = ma_bd g i :=
  ma_of_congr (fun j hj => by
    show ma_sd (ma_put g n s j) (ma_put g n s i) = ma_sd (g j) (g i)
    rw [ma_put_n (by omega), ma_put_n (by omega)])
theorem ma_bd_new {g : Nat → Nat} {n s : Nat} : ma_bd (ma_put g n s) n = ma_of (fun j => ma_sd (g j) s) n :=
  ma_of_congr (fun j hj => by
    show ma_sd (ma_put g n s j) (ma_put g n s n) = ma_sd (g j) s
    rw [ma_put_n (by omega), ma_put_s])
