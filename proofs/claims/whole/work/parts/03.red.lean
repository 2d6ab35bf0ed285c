theorem ma_lin_bf {f : Nat → Nat} {n c j : Nat} (h : ∀ i, i < n → (f i).testBit j = false) : (ma_lin f n c).testBit j = false := by
  induction n with
  | zero => exact Nat.zero_testBit j
  | succ n ih =>
    have e := ih (fun i hi => h i (by omega))
    cases hc : c.testBit n
    · rw [ma_lin_f hc]; exact e
    · rw [ma_lin_t hc, Nat.testBit_xor, e, h n (by omega)]; rfl
theorem ma_Sp_bit {f : Nat → Nat} {n x : Nat} {Q : Nat → Prop} (h : ∀ i, i < n → ∀ j, (f i).testBit j = true → Q j) (hx : ma_Sp f n x) : ∀ j, x.testBit j = true → Q j := by
  intro j hj
  obtain ⟨c, _, rfl⟩ := hx
  apply Classical.byContradiction
  intro hq
  have := ma_lin_bf (f := f) (n := n) (c := c) (j := j) (fun i hi => by
    cases hb : (f i).testBit j
    · rfl
    · exact absurd (h i hi j hb) hq)
  rw [this] at hj
  exact Bool.noConfusion hj
theorem ma_Sp_lin0 {f b : Nat → Nat} {n m x : Nat} (h : ∀ i, i < n → ma_lin b m (f i) = 0) (hx : ma_Sp f n x) : ma_lin b m x = 0 := by
  obtain ⟨c, hc, rfl⟩ := hx
  clear hc
  induction n with
  | zero => exact ma_lin_0 b m
  | succ n ih =>
    have e := ih (fun i hi => h i (by omega))
    cases hc : c.testBit n
    · rw [ma_lin_f hc]; exact e
    · rw [ma_lin_t hc, ma_lin_xor, e, h n (by omega)]; rfl
/-- triangular change of generators -/
theorem ma_Sp_tri1 {e f : Nat → Nat} {t x : Nat} (h : ∀ i, i < t → ma_Sp f i (e i ^^^ f i)) (hx : ma_Sp e t x) : ma_Sp f t x := by
  refine ma_Sp_sub (fun i hi => ?_) hx
  have h1 := ma_Sp_x (ma_Sp_up (Nat.le_of_lt hi) (h i hi)) (ma_Sp_g hi)
  rw [ma_x2] at h1
  exact h1
theorem ma_Sp_tri2 {e f : Nat → Nat} {t : Nat} : (∀ i, i < t → ma_Sp f i (e i ^^^ f i)) → ∀ x, ma_Sp f t x → ma_Sp e t x := by
  induction t with
  | zero =>
    intro _ x hx
    obtain ⟨c, _, rfl⟩ := hx
    exact ma_Sp_0 e 0
  | succ t ih =>
    intro h x hx
    have IH := ih (fun i hi => h i (by omega))
    refine ma_Sp_sub (fun i hi => ?_) hx
    by_cases q : i < t
    · exact ma_Sp_up (Nat.le_succ t) (IH _ (ma_Sp_g q))
    · have q' : i = t := by omega
      subst q'
      have h1 := ma_Sp_x (ma_Sp_up (Nat.le_succ i) (IH _ (h i (by omega)))) (ma_Sp_g (f := e) (Nat.lt_succ_self i))
      rw [Nat.xor_comm (e i) (f i), ma_x2] at h1
      exact h1
/-- the borders b and the dimensions d of the first n pieces -/
def ma_Fr (b d : Nat → Nat) (n : Nat) : Prop := ∀ i, i < n → b i < 2 ^ i ∧ (∀ j, (b i).testBit j = true → d j + 1 = d i) ∧ ma_lin b i (b i) = 0
/-- f at dimension k alone -/
def ma_fk (f d : Nat → Nat) (k : Nat) : Nat → Nat := fun i => if d i = k then f i else 0
theorem ma_fk_t {f d : Nat → Nat} {k i : Nat} (h : d i = k) : ma_fk f d k i = f i := if_pos h
theorem ma_fk_f {f d : Nat → Nat} {k i : Nat} (h : ¬ d i = k) : ma_fk f d k i = 0 := if_neg h
theorem ma_Sp_fk {f d : Nat → Nat} {k n x : Nat} (hx : ma_Sp (ma_fk f d k) n x) : ma_Sp f n x := by
  refine ma_Sp_sub (fun i hi => ?_) hx
  by_cases h : d i = k
  · rw [ma_fk_t h]; exact ma_Sp_g hi
  · rw [ma_fk_f h]; exact ma_Sp_0 f n
/-- the closed cycles e belong to the borders b -/
def ma_J (b d e : Nat → Nat) (n : Nat) : Prop :=
  (∀ i, i < n → e i < 2 ^ i ∧ ma_lin b i (e i) = 0 ∧ ma_Sp (ma_fk b d (d i)) i (e i ^^^ b i)) ∧
  (∀ i j a, i < n → j < n → ma_T (e i) a → ma_T (e j) a → i = j) ∧
  (∀ j a, j < n → ma_T (e j) a → e a = 0)
theorem ma_J_0 (b d e : Nat → Nat) : ma_J b d e 0 :=
  ⟨fun i hi => absurd hi (Nat.not_lt_zero i), fun i _ _ hi => absurd hi (Nat.not_lt_zero i), fun i _ hi => absurd hi (Nat.not_lt_zero i)⟩
theorem ma_J_le {b d e : Nat → Nat} {n m : Nat} (h : ma_J b d e n) (hm : m ≤ n) : ma_J b d e m :=
  ⟨fun i hi => h.1 i (by omega), fun i j a hi hj => h.2.1 i j a (by omega) (by omega), fun j a hj => h.2.2 j a (by omega)⟩
theorem ma_J_top {b d e : Nat → Nat} {n i a : Nat} (h : ma_J b d e n) (hi : i < n) (hT : ma_T (e i) a) : a < i := ma_T_lt hT (h.1 i hi).1
theorem ma_J_congr {b d e b' d' e' : Nat → Nat} {n : Nat} (hb : ∀ i, i < n → b i = b' i) (hd : ∀ i, i < n → d i = d' i) (he : ∀ i, i < n → e i = e' i) (h : ma_J b d e n) : ma_J b' d' e' n := by
  refine ⟨fun i hi => ?_, fun i j a hi hj => ?_, fun j a hj hT => ?_⟩
  · obtain ⟨h1, h2, h3⟩ := h.1 i hi
    rw [← he i hi, ← hb i hi, ← hd i hi]
    refine ⟨h1, ?_, ma_Sp_congr (fun j hj => ?_) h3⟩
    · rw [← h2]
      exact ma_lin_congr (fun _ _ => rfl) (fun j hj _ => (hb j (by omega)).symm)
    · show (if d j = d i then b j else 0) = (if d' j = d i then b' j else 0)
      rw [hd j (by omega), hb j (by omega)]
  · rw [← he i hi, ← he j hj]
    exact h.2.1 i j a hi hj
  · rw [← he j hj] at hT
    have := ma_J_top h hj hT
    rw [← he a (by omega)]
    exact h.2.2 j a hj hT
theorem ma_J_tri {b d e : Nat → Nat} {n : Nat} (h : ma_J b d e n) (k : Nat) : ∀ i, i < n → ma_Sp (ma_fk b d k) i (ma_fk e d k i ^^^ ma_fk b d k i) := by
  intro i hi
  by_cases q : d i = k
  · rw [ma_fk_t q, ma_fk_t q]
    have := (h.1 i hi).2.2
    rw [q] at this
    exact this
  · rw [ma_fk_f q, ma_fk_f q]
    exact ma_Sp_0 _ _
theorem ma_J_Sp {b d e : Nat → Nat} {n : Nat} (h : ma_J b d e n) (k : Nat) {t x : Nat} (ht : t ≤ n) : ma_Sp (ma_fk e d k) t x ↔ ma_Sp (ma_fk b d k) t x :=
  ⟨fun hx => ma_Sp_tri1 (fun i hi => ma_J_tri h k i (by omega)) hx, fun hx => ma_Sp_tri2 (fun i hi => ma_J_tri h k i (by omega)) x hx⟩
theorem ma_J_SpA {b d e : Nat → Nat} {n : Nat} (h : ma_J b d e n) {t x : Nat} (ht : t ≤ n) : ma_Sp e t x ↔ ma_Sp b t x :=
  ⟨fun hx => ma_Sp_tri1 (fun i hi => ma_Sp_fk (h.1 i (by omega)).2.2) hx, fun hx => ma_Sp_tri2 (fun i hi => ma_Sp_fk (h.1 i (by omega)).2.2) x hx⟩
theorem ma_fk_T {e d : Nat → Nat} {k i a : Nat} : ma_T (ma_fk e d k i) a ↔ d i = k ∧ ma_T (e i) a := by
  by_cases q : d i = k
  · rw [ma_fk_t q]; exact ⟨fun h => ⟨q, h⟩, fun h => h.2⟩
  · rw [ma_fk_f q]; exact ⟨fun h => absurd h ma_T_0, fun h => absurd h.1 q⟩
theorem ma_J_dfk {b d e : Nat → Nat} {n : Nat} (h : ma_J b d e n) (k : Nat) : ∀ i j a, i < n → j < n → ma_T (ma_fk e d k i) a → ma_T (ma_fk e d k j) a → i = j :=
  fun i j a hi hj h1 h2 => h.2.1 i j a hi hj (ma_fk_T.mp h1).2 (ma_fk_T.mp h2).2
/-- the last pieces of the borders of dimension k at t -/
theorem ma_tops {b d e : Nat → Nat} {n : Nat} (h : ma_J b d e n) (k : Nat) {t a : Nat} (ht : t ≤ n) : (∃ x, ma_Sp (ma_fk b d k) t x ∧ ma_T x a) ↔ ∃ i, i < t ∧ d i = k ∧ ma_T (e i) a := by
  constructor
  · intro ⟨x, hx, hT⟩
    obtain ⟨i, hi, hT'⟩ := ma_ech (fun i j a hi hj => ma_J_dfk h k i j a (by omega) (by omega)) x a ((ma_J_Sp h k ht).mpr hx) hT
    exact ⟨i, hi, ma_fk_T.mp hT'⟩
  · intro ⟨i, hi, hk, hT⟩
    refine ⟨e i, (ma_J_Sp h k ht).mp ?_, hT⟩
    have := ma_Sp_g (f := ma_fk e d k) hi
    rw [ma_fk_t hk] at this
    exact this
/-- r is c without the borders of dimension k -/
def ma_Red (e d : Nat → Nat) (n k c r : Nat) : Prop := ma_Sp (ma_fk e d k) n (r ^^^ c) ∧ ∀ i a, i < n → ma_T (e i) a → r.testBit a = false
theorem ma_Red_0 {b d e : Nat → Nat} {n k c r : Nat} (h : ma_J b d e n) (hr : ma_Red e d n k c r) : r = 0 ↔ ma_Sp (ma_fk b d k) n c := by
  constructor
  · intro q
    have h1 := hr.1
    rw [q, Nat.zero_xor] at h1
    exact (ma_J_Sp h k (Nat.le_refl n)).mp h1
  · intro hc
    have h1 := ma_Sp_x hr.1 ((ma_J_Sp h k (Nat.le_refl n)).mpr hc)
    rw [ma_x2] at h1
    apply Classical.byContradiction
    intro q
    obtain ⟨a, ha⟩ := ma_T_ex q
    obtain ⟨i, hi, hT⟩ := ma_ech (ma_J_dfk h k) r a h1 ha
    have := hr.2 i a hi (ma_fk_T.mp hT).2
    rw [ha.1] at this
    exact Bool.noConfusion this
def ma_put (e : Nat → Nat) (n r : Nat) : Nat → Nat := fun i => if i = n then r else e i
theorem ma_put_s {e : Nat → Nat} {n r : Nat} : ma_put e n r n = r := if_pos rfl
theorem ma_put_n {e : Nat → Nat} {n r i : Nat} (h : i ≠ n) : ma_put e n r i = e i := if_neg h
theorem ma_Red_lt {b d e : Nat → Nat} {n k c r m : Nat} (h : ma_J b d e n) (hm : n ≤ m) (hr : ma_Red e d n k c r) (hc : c < 2 ^ m) : r < 2 ^ m := by
  have h1 : r ^^^ c < 2 ^ m := ma_Sp_lt (fun i hi => by
    by_cases q : d i = k
    · rw [ma_fk_t q]; exact Nat.lt_of_lt_of_le (h.1 i hi).1 (ma_pl (by omega))
    · rw [ma_fk_f q]; exact Nat.two_pow_pos m) hr.1
  have h2 := Nat.xor_lt_two_pow h1 hc
  rw [ma_x2] at h2
  exact h2
theorem ma_J_app {b d e : Nat → Nat} {n r : Nat} (h : ma_J b d e n) (hF : ma_Fr b d (n + 1)) (hr : ma_Red e d n (d n) (b n) r) : ma_J b d (ma_put e n r) (n + 1) := by
  have hb := hF n (Nat.lt_succ_self n)
  have hlt : r < 2 ^ n := ma_Red_lt h (Nat.le_refl n) hr hb.1
  have hcy : ma_lin b n r = 0 := by
    have h1 : ma_lin b n (r ^^^ b n) = 0 := ma_Sp_lin0 (fun i hi => by
      by_cases q : d i = d n
      · rw [ma_fk_t q]
        obtain ⟨p1, p2, _⟩ := h.1 i hi
        have e1 : n = i + (n - i) := by omega
        rw [e1, ma_lin_up p1, p2]
      · rw [ma_fk_f q]; exact ma_lin_0 b n) hr.1
    rw [ma_lin_xor, hb.2.2, Nat.xor_zero] at h1
    exact h1
  have hO : ∀ a, ma_T r a → e a = 0 := by
    intro a ha
    have han : a < n := ma_T_lt ha hlt
    have h1 : ma_lin b (a + 1) r = 0 := by
      have e1 : n = a + 1 + (n - (a + 1)) := by omega
      have := ma_lin_up (f := b) ha.2 (n - (a + 1))
      rw [← e1, hcy] at this
      exact this.symm
    rw [ma_lin_t ha.1] at h1
    have h2 : ma_Sp b a (b a) := by
      rw [← ma_x0 h1]
      exact ma_Sp_of b a r
    have h3 := ma_Sp_x (ma_Sp_fk (h.1 a han).2.2) h2
    rw [ma_x2] at h3
    have h4 := (ma_J_SpA h (Nat.le_of_lt han)).mpr h3
    apply Classical.byContradiction
    intro q
    obtain ⟨w, hw⟩ := ma_T_ex q
    obtain ⟨i, hi, hT⟩ := ma_ech (fun i j a hi hj => h.2.1 i j a (by omega) (by omega)) (e a) w h4 hw
    have := h.2.1 i a w (by omega) han hT hw
    omega
  refine ⟨fun i hi => ?_, fun i j a hi hj h1 h2 => ?_, fun j a hj hT => ?_⟩
  · by_cases q : i = n
    · subst q
      rw [ma_put_s]
      exact ⟨hlt, hcy, (ma_J_Sp h _ (Nat.le_refl i)).mp hr.1⟩
    · rw [ma_put_n q]
      exact h.1 i (by omega)
  · by_cases q : i = n
    · by_cases q' : j = n
      · omega
      · subst q
        rw [ma_put_s] at h1
        rw [ma_put_n q'] at h2
        have := hr.2 j a (by omega) h2
        rw [h1.1] at this
        exact Bool.noConfusion this
    · by_cases q' : j = n
      · subst q'
        rw [ma_put_s] at h2
        rw [ma_put_n q] at h1
        have := hr.2 i a (by omega) h1
        rw [h2.1] at this
        exact Bool.noConfusion this
      · rw [ma_put_n q] at h1
        rw [ma_put_n q'] at h2
        exact h.2.1 i j a (by omega) (by omega) h1 h2
  · by_cases q : j = n
    · subst q
      rw [ma_put_s] at hT
      have := ma_T_lt hT hlt
      rw [ma_put_n (by omega)]
      exact hO a hT
    · rw [ma_put_n q] at hT
      have := ma_J_top h (by omega) hT
      rw [ma_put_n (by omega)]
      exact h.2.2 j a (by omega) hT
/-- what the array of partners holds -/
def ma_P (e : Nat → Nat) (n i : Nat) (x : Int32) : Prop :=
  (∃ a, a < i ∧ ma_T (e i) a ∧ x = nI a) ∨ (∃ j, i < j ∧ j < n ∧ e i = 0 ∧ ma_T (e j) i ∧ x = nI j) ∨ (e i = 0 ∧ (∀ j, j < n → ¬ ma_T (e j) i) ∧ x = -1)
theorem ma_P_app0 {b d e : Nat → Nat} {n : Nat} {p : Nat → Int32} (h : ma_J b d e n) (hP : ∀ i, i < n → ma_P e n i (p i)) : ∀ i, i < n + 1 → ma_P (ma_put e n 0) (n + 1) i (upd p n (-1) i) := by
  intro i hi
  by_cases q : i = n
  · subst q
    rw [show upd p i (-1) i = -1 from if_pos rfl]
    refine Or.inr (Or.inr ⟨ma_put_s, fun j hj hT => ?_, rfl⟩)
    by_cases q' : j = i
    · rw [q', ma_put_s] at hT; exact ma_T_0 hT
    · rw [ma_put_n q'] at hT
      have := ma_J_top h (by omega) hT
      omega
  · rw [show upd p n (-1) i = p i from if_neg q]
    rcases hP i (by omega) with ⟨a, h1, h2, h3⟩ | ⟨j, h1, h2, h3, h4, h5⟩ | ⟨h1, h2, h3⟩
    · exact Or.inl ⟨a, h1, by rw [ma_put_n q]; exact h2, h3⟩
    · exact Or.inr (Or.inl ⟨j, h1, by omega, by rw [ma_put_n q]; exact h3, by rw [ma_put_n (by omega)]; exact h4, h5⟩)
    · refine Or.inr (Or.inr ⟨by rw [ma_put_n q]; exact h1, fun j hj hT => ?_, h3⟩)
      by_cases q' : j = n
      · rw [q', ma_put_s] at hT; exact ma_T_0 hT
      · rw [ma_put_n q'] at hT; exact h2 j (by omega) hT
theorem ma_P_app1 {b d e : Nat → Nat} {n r a : Nat} {p : Nat → Int32} (hJ : ma_J b d (ma_put e n r) (n + 1)) (hT : ma_T r a) (hP : ∀ i, i < n → ma_P e n i (p i)) : ∀ i, i < n + 1 → ma_P (ma_put e n r) (n + 1) i (upd (upd p n (nI a)) a (nI n) i) := by
  intro i hi
  have hTn : ma_T (ma_put e n r n) a := by rw [ma_put_s]; exact hT
  have han : a < n := ma_J_top hJ (Nat.lt_succ_self n) hTn
  by_cases qa : i = a
  · subst qa
    rw [show upd (upd p n (nI i)) i (nI n) i = nI n from if_pos rfl]
    exact Or.inr (Or.inl ⟨n, han, by omega, hJ.2.2 n i (by omega) hTn, hTn, rfl⟩)
  · rw [show upd (upd p n (nI a)) a (nI n) i = upd p n (nI a) i from if_neg qa]
    by_cases q : i = n
    · subst q
      rw [show upd p i (nI a) i = nI a from if_pos rfl]
      exact Or.inl ⟨a, han, hTn, rfl⟩
    · rw [show upd p n (nI a) i = p i from if_neg q]
      rcases hP i (by omega) with ⟨w, h1, h2, h3⟩ | ⟨j, h1, h2, h3, h4, h5⟩ | ⟨h1, h2, h3⟩
      · exact Or.inl ⟨w, h1, by rw [ma_put_n q]; exact h2, h3⟩
      · exact Or.inr (Or.inl ⟨j, h1, by omega, by rw [ma_put_n q]; exact h3, by rw [ma_put_n (by omega)]; exact h4, h5⟩)
      · refine Or.inr (Or.inr ⟨by rw [ma_put_n q]; exact h1, fun j hj hT' => ?_, h3⟩)
        by_cases q' : j = n
        · rw [q', ma_put_s] at hT'; exact qa (ma_T_eq hT' hT)
        · rw [ma_put_n q'] at hT'; exact h2 j (by omega) hT'
theorem ma_P_undo1 {b d e : Nat → Nat} {n a : Nat} {p : Nat → Int32} (h : ma_J b d e (n + 1)) (hT : ma_T (e n) a) (hP : ∀ i, i < n + 1 → ma_P e (n + 1) i (p i)) : ∀ i, i < n → ma_P e n i (upd p a (-1) i) := by
  intro i hi
  by_cases q : i = a
  · subst q
    rw [show upd p i (-1) i = -1 from if_pos rfl]
    refine Or.inr (Or.inr ⟨h.2.2 n i (by omega) hT, fun j hj hT' => ?_, rfl⟩)
    have := h.2.1 j n i (by omega) (by omega) hT' hT
    omega
  · rw [show upd p a (-1) i = p i from if_neg q]
    rcases hP i (by omega) with ⟨w, h1, h2, h3⟩ | ⟨j, h1, h2, h3, h4, h5⟩ | ⟨h1, h2, h3⟩
    · exact Or.inl ⟨w, h1, h2, h3⟩
    · refine Or.inr (Or.inl ⟨j, h1, ?_, h3, h4, h5⟩)
      by_cases q' : j = n
      · rw [q'] at h4; exact absurd (ma_T_eq h4 hT) q
      · omega
    · exact Or.inr (Or.inr ⟨h1, fun j hj => h2 j (by omega), h3⟩)
theorem ma_P_undo0 {e : Nat → Nat} {n : Nat} {p : Nat → Int32} (h0 : e n = 0) (hP : ∀ i, i < n + 1 → ma_P e (n + 1) i (p i)) : ∀ i, i < n → ma_P e n i (p i) := by
  intro i hi
  rcases hP i (by omega) with ⟨w, h1, h2, h3⟩ | ⟨j, h1, h2, h3, h4, h5⟩ | ⟨h1, h2, h3⟩
  · exact Or.inl ⟨w, h1, h2, h3⟩
  · refine Or.inr (Or.inl ⟨j, h1, ?_, h3, h4, h5⟩)
    by_cases q' : j = n
    · rw [q', h0] at h4; exact absurd h4 ma_T_0
    · omega
  · exact Or.inr (Or.inr ⟨h1, fun j hj => h2 j (by omega), h3⟩)
