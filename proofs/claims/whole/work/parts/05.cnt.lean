noncomputable def ma_dc (p : Prop) : Bool := @decide p (Classical.propDecidable p)
theorem ma_dc_iff {p : Prop} : ma_dc p = true ↔ p := @decide_eq_true_iff p (Classical.propDecidable p)
theorem ma_dc_f {p : Prop} (h : ¬ p) : ma_dc p = false := @decide_eq_false p (Classical.propDecidable p) h
theorem ma_dc_t {p : Prop} (h : p) : ma_dc p = true := ma_dc_iff.mpr h
/-- how many i below n have P -/
noncomputable def ma_cp (P : Nat → Prop) (n : Nat) : Nat := ma_cn (fun i => ma_dc (P i)) n
theorem ma_cp_0 (P : Nat → Prop) : ma_cp P 0 = 0 := rfl
theorem ma_cp_t {P : Nat → Prop} {n : Nat} (h : P n) : ma_cp P (n + 1) = ma_cp P n + 1 := by
  unfold ma_cp
  rw [ma_cn_s, if_pos (ma_dc_t h)]
theorem ma_cp_f {P : Nat → Prop} {n : Nat} (h : ¬ P n) : ma_cp P (n + 1) = ma_cp P n := by
  unfold ma_cp
  rw [ma_cn_s, ma_dc_f h]
  rfl
theorem ma_cp_congr {P Q : Nat → Prop} {n : Nat} (h : ∀ i, i < n → (P i ↔ Q i)) : ma_cp P n = ma_cp Q n :=
  ma_cn_congr (fun i hi => by rw [propext (h i hi)])
theorem ma_cp_le (P : Nat → Prop) (n : Nat) : ma_cp P n ≤ n := ma_cn_le _ n
theorem ma_cp_inj {P Q : Nat → Prop} {n m : Nat} (R : Nat → Nat → Prop) (h : ∀ i, i < n → P i → ∃ a, a < m ∧ Q a ∧ R i a) (hR : ∀ i j a, i < n → j < n → P i → P j → R i a → R j a → i = j) : ma_cp P n ≤ ma_cp Q m := by
  refine ma_cn_inj _ R n m _ (fun i hi hp => ?_) (fun i j a hi hj h1 h2 => hR i j a hi hj (ma_dc_iff.mp h1) (ma_dc_iff.mp h2))
  obtain ⟨a, ha, hq, hr⟩ := h i hi (ma_dc_iff.mp hp)
  exact ⟨a, ha, ma_dc_t hq, hr⟩
theorem ma_cp_split (P Q : Nat → Prop) (n : Nat) : ma_cp P n = ma_cp (fun i => P i ∧ Q i) n + ma_cp (fun i => P i ∧ ¬ Q i) n := by
  induction n with
  | zero => rfl
  | succ n ih =>
    by_cases hp : P n
    · by_cases hq : Q n
      · rw [ma_cp_t hp, ma_cp_t (P := fun i => P i ∧ Q i) ⟨hp, hq⟩, ma_cp_f (P := fun i => P i ∧ ¬ Q i) (fun h => h.2 hq), ih]
        omega
      · rw [ma_cp_t hp, ma_cp_f (P := fun i => P i ∧ Q i) (fun h => hq h.2), ma_cp_t (P := fun i => P i ∧ ¬ Q i) ⟨hp, hq⟩, ih]
        omega
    · rw [ma_cp_f hp, ma_cp_f (P := fun i => P i ∧ Q i) (fun h => hp h.1), ma_cp_f (P := fun i => P i ∧ ¬ Q i) (fun h => hp h.1), ih]
theorem ma_cp_none {P : Nat → Prop} {n : Nat} (h : ∀ i, i < n → ¬ P i) : ma_cp P n = 0 :=
  ma_cn_0 (fun i hi => ma_dc_f (h i hi))
theorem ma_cp_up {P : Nat → Prop} {n m : Nat} (hm : n ≤ m) (h : ∀ i, n ≤ i → i < m → ¬ P i) : ma_cp P m = ma_cp P n := by
  obtain ⟨k, rfl⟩ : ∃ k, m = n + k := ⟨m - n, by omega⟩
  exact ma_cn_up k (fun i h1 h2 => ma_dc_f (h i h1 h2))
/-- a closed cycle lies one dimension below its piece -/
theorem ma_J_hom {b d e : Nat → Nat} {n i : Nat} (hF : ma_Fr b d n) (h : ma_J b d e n) (hi : i < n) : ∀ a, (e i).testBit a = true → d a + 1 = d i := by
  have h1 : ∀ a, (e i ^^^ b i).testBit a = true → d a + 1 = d i := ma_Sp_bit (Q := fun a => d a + 1 = d i) (fun j hj a ha => by
    by_cases q : d j = d i
    · rw [ma_fk_t q] at ha
      rw [← q]
      exact (hF j (by omega)).2.1 a ha
    · rw [ma_fk_f q, Nat.zero_testBit] at ha
      exact Bool.noConfusion ha) (h.1 i hi).2.2
  intro a ha
  cases hb : (b i).testBit a
  · exact h1 a (by rw [Nat.testBit_xor, ha, hb]; rfl)
  · exact (hF i hi).2.1 a hb
/-- the closers of dimension K below t are as many as the last bits of the borders of dimension K at t -/
theorem ma_rk {b d e : Nat → Nat} {n : Nat} (h : ma_J b d e n) (K : Nat) {t : Nat} (ht : t ≤ n) : ma_cp (fun i => d i = K ∧ e i ≠ 0) t = ma_cp (fun a => ∃ x, ma_Sp (ma_fk b d K) t x ∧ ma_T x a) t := by
  apply Nat.le_antisymm
  · refine ma_cp_inj (fun i a => ma_T (e i) a) (fun i hi hp => ?_) (fun i j a hi hj _ _ h1 h2 => h.2.1 i j a (by omega) (by omega) h1 h2)
    obtain ⟨a, ha⟩ := ma_T_ex hp.2
    have := ma_J_top h (by omega) ha
    exact ⟨a, by omega, (ma_tops h K ht).mpr ⟨i, hi, hp.1, ha⟩, ha⟩
  · refine ma_cp_inj (fun a i => ma_T (e i) a) (fun a ha hp => ?_) (fun a a' i _ _ _ _ h1 h2 => ma_T_eq h1 h2)
    obtain ⟨i, hi, hk, hT⟩ := (ma_tops h K ht).mp hp
    exact ⟨i, hi, ⟨hk, ma_T_ne hT⟩, hT⟩
/-- the lasting holes: openers below i of dimension K that nothing below j closes -/
theorem ma_last {b d e : Nat → Nat} {n : Nat} (hF : ma_Fr b d n) (h : ma_J b d e n) (K : Nat) {i j : Nat} (hij : i ≤ j) (hj : j ≤ n) :
    ma_cp (fun a => d a = K) i = ma_cp (fun a => e a = 0 ∧ d a = K ∧ ∀ m, m < j → ¬ ma_T (e m) a) i + ma_cp (fun a => ∃ x, ma_Sp (ma_fk b d K) i x ∧ ma_T x a) i + ma_cp (fun a => ∃ x, ma_Sp (ma_fk b d (K + 1)) j x ∧ ma_T x a) i := by
  rw [← ma_rk h K (Nat.le_trans hij hj), ma_cp_split (fun a => d a = K) (fun a => e a ≠ 0) i, ma_cp_split (fun a => d a = K ∧ ¬ e a ≠ 0) (fun a => ∀ m, m < j → ¬ ma_T (e m) a) i]
  have h1 : ma_cp (fun a => (d a = K ∧ ¬ e a ≠ 0) ∧ ∀ m, m < j → ¬ ma_T (e m) a) i = ma_cp (fun a => e a = 0 ∧ d a = K ∧ ∀ m, m < j → ¬ ma_T (e m) a) i :=
    ma_cp_congr (fun a _ => ⟨fun q => ⟨Classical.not_not.mp q.1.2, q.1.1, q.2⟩, fun q => ⟨⟨q.2.1, fun w => w q.1⟩, q.2.2⟩⟩)
  have h2 : ma_cp (fun a => (d a = K ∧ ¬ e a ≠ 0) ∧ ¬ ∀ m, m < j → ¬ ma_T (e m) a) i = ma_cp (fun a => ∃ x, ma_Sp (ma_fk b d (K + 1)) j x ∧ ma_T x a) i := by
    refine ma_cp_congr (fun a _ => ?_)
    rw [ma_tops h (K + 1) hj]
    constructor
    · intro ⟨⟨q1, _⟩, q2⟩
      apply Classical.byContradiction
      intro q3
      apply q2
      intro m hm hT
      have := ma_J_hom hF h (i := m) (by omega) a hT.1
      exact q3 ⟨m, hm, by omega, hT⟩
    · intro ⟨m, hm, hd, hT⟩
      have := ma_J_hom hF h (i := m) (by omega) a hT.1
      exact ⟨⟨by omega, fun w => w (h.2.2 m a (by omega) hT)⟩, fun w => w m hm hT⟩
  rw [h1, h2]
  omega
