noncomputable def ma_dc (p : Prop) : Bool := @decide p (Classical.propDecidable p)
theorem ma_dc_iff {p : Prop} : ma_dc p = true ↔ p := @decide_eq_true_iff p (Classical.propDecidable p)
theorem ma_dc_f {p : Prop} (h : ¬ p) : ma_dc p = false := @decide_eq_false p (Classical.propDecidable p) h
theorem ma_dc_t {p : Prop} (h : p) : ma_dc p = true := ma_dc_iff.mpr h
/-- how many i below n have P -/
noncomputable def ma_cp (P : Nat → Prop) (n : Nat) : Nat := ma_cn (fun i => ma_dc (P i)) n
theorem ma_cp_0 (P : Nat → Prop) : ma_cp P 0 = 0 := rfl
theorem ma_cp_t {P : Nat → Prop} {n : Nat} (h : P n) : ma_cp P (n + 1) = ma_cp P n + 1 := by
  unfold ma_cp
  rw [ma_cn_s, if_pos (ma_dc_t h)]
theorem ma_cp_f {P : Nat → Prop} {n : Nat} (h : ¬ P n) : ma_cp P (n + 1) = ma_cp P n := by
  unfold ma_cp
  rw [ma_cn_s, ma_dc_f h]
  rfl
theorem ma_cp_congr {P Q : Nat → Prop} {n : Nat} (h : ∀ i, i < n → (P i ↔ Q i)) : ma_cp P n = ma_cp Q n :=
  ma_cn_congr (fun i hi => by rw [propext (h i hi)])
theorem ma_cp_le (P : Nat → Prop) (n : Nat) : ma_cp P n ≤ n := ma_cn_le _ n
theorem ma_cp_inj {P Q : Nat → Prop} {n m : Nat} (R : Nat → Nat → Prop) (h : ∀ i, i < n → P i → ∃ a, a < m ∧ Q a ∧ R i a) (hR : ∀ i j a, i < n → j < n → P i → P j → R i a → R j a → i = j) : ma_cp P n ≤ ma_cp Q m := by
  refine ma_cn_inj _ R n m _ (fun i hi hp => ?_) (fun i j a hi hj h1 h2 => hR i j a hi hj (ma_dc_iff.mp h1) (ma_dc_iff.mp h2))
  obtain ⟨a, ha, hq, hr⟩ := h i hi (ma_dc_iff.mp hp)
  exact ⟨a, ha, ma_dc_t hq, hr⟩
theorem ma_cp_split (P Q : Nat → Prop) (n : Nat) : ma_cp P n = ma_cp (fun i => P i ∧ Q i) n + ma_cp (fun i => P i ∧ ¬ Q i) n := by
  induction n with
  | zero => rfl
  | succ n ih =>
    by_cases hp : P n
    · by_cases hq : Q n
      · rw [ma_cp_t hp, ma_cp_t (P := fun i => P i ∧ Q i) ⟨hp, hq⟩, ma_cp_f (P := fun i => P i ∧ ¬ Q i) (fun h => h.2 hq), ih]
        omega
      · rw [ma_cp_t hp, ma_cp_f (P := fun i => P i ∧ Q i) (fun h => hq h.2), ma_cp_t (P := fun i => P i ∧ ¬ Q i) ⟨hp, hq⟩, ih]
        omega
    · rw [ma_cp_f hp, ma_cp_f (P := fun i => P i ∧ Q i) (fun h => hp h.1), ma_cp_f (P := fun i => P i ∧ ¬ Q i) (fun h => hp h.1), ih]
theorem ma_cp_none {P : Nat → Prop} {n : Nat} (h : ∀ i, i < n → ¬ P i) : ma_cp P n = 0 :=
  ma_cn_0 (fun i hi => ma_dc_f (h i hi))
theorem ma_cp_up {P : Nat → Prop} {n m : Nat} (hm : n ≤ m) (h : ∀ i, n ≤ i → i < m → ¬ P i) : ma_cp P m = ma_cp P n := by
  obtain ⟨k, rfl⟩ : ∃ k, m = n + k := ⟨m - n, by omega⟩
  exact ma_cn_up k (fun i h1 h2 => ma_dc_f (h i h1 h2))
/-- a closed cycle lies one dimension below its piece -/
theorem ma_J_hom {b d e : Nat → Nat} {n i : Nat} (hF : ma_Fr b d n) (h : ma_J b d e n) (hi : i < n) : ∀ a, (e i).testBit a = true → d a + 1 = d i := by
  have h1 : ∀ a, (e i ^^^ b i).testBit a = true → d a + 1 = d i := ma_Sp_bit (Q := fun a => d a + 1 = d i) (fun j hj a ha => by
    by_cases q : d j = d i
    · rw [ma_fk_t q] at ha
      rw [← q]
      exact (hF j (by omega)).2.1 a ha
    · rw [ma_fk_f q, Nat.zero_testBit] at ha
      exact Bool.noConfusion ha) (h.1 i hi).2.2
  intro a ha
  cases hb : (b i).testBit a
  · exact h1 a (by rw [Nat.testBit_xor, ha, hb]; rfl)
  · exact (hF i hi).2.1 a hb
/-- closers of dimension K below t whose cycle ends at f or above -/
noncomputable def ma_rf (e d : Nat → Nat) (K t f : Nat) : Nat := ma_cp (fun m => d m = K ∧ ∃ a, f ≤ a ∧ ma_T (e m) a) t
/-- openers below i of dimension K that nothing below j closes -/
noncomputable def ma_la (e d : Nat → Nat) (K i j : Nat) : Nat := ma_cp (fun a => e a = 0 ∧ d a = K ∧ ∀ m, m < j → ¬ ma_T (e m) a) i
theorem ma_last {b d e : Nat → Nat} {n : Nat} (hF : ma_Fr b d n) (h : ma_J b d e n) (K : Nat) {i j : Nat} (hij : i ≤ j) (hj : j ≤ n) :
    ma_cp (fun a => d a = K) i + ma_rf e d (K + 1) j i = ma_la e d K i j + ma_rf e d K i 0 + ma_rf e d (K + 1) j 0 := by
  have h0 : ma_rf e d K i 0 = ma_cp (fun a => d a = K ∧ e a ≠ 0) i :=
    ma_cp_congr (fun a _ => ⟨fun ⟨q, w, _, hT⟩ => ⟨q, ma_T_ne hT⟩, fun ⟨q, w⟩ => ⟨q, (ma_T_ex w).elim fun x hx => ⟨x, Nat.zero_le x, hx⟩⟩⟩)
  have h1 : ma_cp (fun a => (d a = K ∧ ¬ e a ≠ 0) ∧ ∀ m, m < j → ¬ ma_T (e m) a) i = ma_la e d K i j :=
    ma_cp_congr (fun a _ => ⟨fun q => ⟨Classical.not_not.mp q.1.2, q.1.1, q.2⟩, fun q => ⟨⟨q.2.1, fun w => w q.1⟩, q.2.2⟩⟩)
  have h2 : ma_rf e d (K + 1) j 0 = ma_rf e d (K + 1) j i + ma_cp (fun m => d m = K + 1 ∧ ∃ a, a < i ∧ ma_T (e m) a) j := by
    unfold ma_rf
    rw [ma_cp_split (fun m => d m = K + 1 ∧ ∃ a, 0 ≤ a ∧ ma_T (e m) a) (fun m => ∃ a, i ≤ a ∧ ma_T (e m) a) j]
    have q1 : ma_cp (fun m => (d m = K + 1 ∧ ∃ a, 0 ≤ a ∧ ma_T (e m) a) ∧ ∃ a, i ≤ a ∧ ma_T (e m) a) j = ma_cp (fun m => d m = K + 1 ∧ ∃ a, i ≤ a ∧ ma_T (e m) a) j :=
      ma_cp_congr (fun m _ => ⟨fun q => ⟨q.1.1, q.2⟩, fun ⟨q, a, w, hT⟩ => ⟨⟨q, a, Nat.zero_le a, hT⟩, a, w, hT⟩⟩)
    have q2 : ma_cp (fun m => (d m = K + 1 ∧ ∃ a, 0 ≤ a ∧ ma_T (e m) a) ∧ ¬ ∃ a, i ≤ a ∧ ma_T (e m) a) j = ma_cp (fun m => d m = K + 1 ∧ ∃ a, a < i ∧ ma_T (e m) a) j := by
      refine ma_cp_congr (fun m _ => ⟨fun ⟨⟨q, a, _, hT⟩, w⟩ => ⟨q, a, ?_, hT⟩, fun ⟨q, a, w, hT⟩ => ⟨⟨q, a, Nat.zero_le a, hT⟩, fun ⟨x, hx, hT'⟩ => ?_⟩⟩)
      · apply Classical.byContradiction
        intro z
        exact w ⟨a, by omega, hT⟩
      · have := ma_T_eq hT hT'
        omega
    rw [q1, q2]
  have h3 : ma_cp (fun a => (d a = K ∧ ¬ e a ≠ 0) ∧ ¬ ∀ m, m < j → ¬ ma_T (e m) a) i = ma_cp (fun m => d m = K + 1 ∧ ∃ a, a < i ∧ ma_T (e m) a) j := by
    apply Nat.le_antisymm
    · refine ma_cp_inj (fun a m => ma_T (e m) a) (fun a ha ⟨⟨q1, _⟩, q2⟩ => ?_) (fun a a' m _ _ _ _ w1 w2 => ma_T_eq w1 w2)
      apply Classical.byContradiction
      intro q3
      apply q2
      intro m hm hT
      have := ma_J_hom hF h (i := m) (by omega) a hT.1
      exact q3 ⟨m, hm, ⟨by omega, a, ha, hT⟩, hT⟩
    · refine ma_cp_inj (fun m a => ma_T (e m) a) (fun m hm ⟨q, a, ha, hT⟩ => ?_) (fun m m' a hm hm' _ _ w1 w2 => h.2.1 m m' a (by omega) (by omega) w1 w2)
      have := ma_J_hom hF h (i := m) (by omega) a hT.1
      exact ⟨a, ha, ⟨⟨by omega, fun w => w (h.2.2 m a (by omega) hT)⟩, fun w => w m hm hT⟩, hT⟩
  rw [h2, h0, ma_cp_split (fun a => d a = K) (fun a => e a ≠ 0) i, ma_cp_split (fun a => d a = K ∧ ¬ e a ≠ 0) (fun a => ∀ m, m < j → ¬ ma_T (e m) a) i, h1, h3]
  omega
theorem ma_la_op {b d e : Nat → Nat} {n i : Nat} (h : ma_J b d e n) (hi : i < n) (h0 : e i = 0) : ma_la e d (d i) (i + 1) (i + 1) = ma_la e d (d i) i i + 1 := by
  unfold ma_la
  rw [ma_cp_t (P := fun a => e a = 0 ∧ d a = d i ∧ ∀ m, m < i + 1 → ¬ ma_T (e m) a) ⟨h0, rfl, fun m hm hT => by
    have := ma_J_top h (i := m) (by omega) hT
    omega⟩]
  congr 1
  refine ma_cp_congr (fun a _ => ⟨fun ⟨q1, q2, q3⟩ => ⟨q1, q2, fun m hm => q3 m (by omega)⟩, fun ⟨q1, q2, q3⟩ => ⟨q1, q2, fun m hm hT => ?_⟩⟩)
  by_cases w : m = i
  · rw [w, h0] at hT; exact ma_T_0 hT
  · exact q3 m (by omega) hT
theorem ma_la_cl {b d e : Nat → Nat} {n i : Nat} (hF : ma_Fr b d n) (h : ma_J b d e n) (hi : i < n) (h0 : e i ≠ 0) : ma_la e d (d i) (i + 1) (i + 1) = ma_la e d (d i) i i := by
  unfold ma_la
  rw [ma_cp_f (P := fun a => e a = 0 ∧ d a = d i ∧ ∀ m, m < i + 1 → ¬ ma_T (e m) a) (fun q => h0 q.1)]
  refine ma_cp_congr (fun a _ => ⟨fun ⟨q1, q2, q3⟩ => ⟨q1, q2, fun m hm => q3 m (by omega)⟩, fun ⟨q1, q2, q3⟩ => ⟨q1, q2, fun m hm hT => ?_⟩⟩)
  by_cases w : m = i
  · rw [w] at hT
    have := ma_J_hom hF h hi a hT.1
    omega
  · exact q3 m (by omega) hT
theorem ma_la_pt {b d e : Nat → Nat} {n i j : Nat} (h : ma_J b d e n) (hj : j < n) (hT : ma_T (e j) i) : ma_la e d (d i) (i + 1) j = ma_la e d (d i) i j + 1 ∧ ma_la e d (d i) (i + 1) (j + 1) = ma_la e d (d i) i (j + 1) := by
  unfold ma_la
  constructor
  · exact ma_cp_t (P := fun a => e a = 0 ∧ d a = d i ∧ ∀ m, m < j → ¬ ma_T (e m) a) ⟨h.2.2 j i hj hT, rfl, fun m hm hT' => by
      have := h.2.1 m j i (by omega) hj hT' hT
      omega⟩
  · exact ma_cp_f (P := fun a => e a = 0 ∧ d a = d i ∧ ∀ m, m < j + 1 → ¬ ma_T (e m) a) (fun q => q.2.2 j (by omega) hT)
theorem ma_la_np {d e : Nat → Nat} {i j : Nat} (hT : ¬ ma_T (e j) i) : (ma_la e d (d i) (i + 1) j = ma_la e d (d i) i j + 1 ∧ ma_la e d (d i) (i + 1) (j + 1) = ma_la e d (d i) i (j + 1) + 1) ∨ (ma_la e d (d i) (i + 1) j = ma_la e d (d i) i j ∧ ma_la e d (d i) (i + 1) (j + 1) = ma_la e d (d i) i (j + 1)) := by
  unfold ma_la
  by_cases q : e i = 0 ∧ d i = d i ∧ ∀ m, m < j → ¬ ma_T (e m) i
  · refine Or.inl ⟨ma_cp_t (P := fun a => e a = 0 ∧ d a = d i ∧ ∀ m, m < j → ¬ ma_T (e m) a) q, ma_cp_t (P := fun a => e a = 0 ∧ d a = d i ∧ ∀ m, m < j + 1 → ¬ ma_T (e m) a) ⟨q.1, rfl, fun m hm hT' => ?_⟩⟩
    by_cases w : m = j
    · exact hT (w ▸ hT')
    · exact q.2.2 m (by omega) hT'
  · exact Or.inr ⟨ma_cp_f (P := fun a => e a = 0 ∧ d a = d i ∧ ∀ m, m < j → ¬ ma_T (e m) a) q, ma_cp_f (P := fun a => e a = 0 ∧ d a = d i ∧ ∀ m, m < j + 1 → ¬ ma_T (e m) a) (fun w => q ⟨w.1, rfl, fun m hm => w.2.2 m (by omega)⟩)⟩
