section
theorem pk_us {f : Nat → Int32} {k : Nat} {x : Int32} : upd f k x k = x := if_pos rfl
theorem pk_un {f : Nat → Int32} {k j : Nat} {x : Int32} (h : j ≠ k) : upd f k x j = f j := if_neg h
theorem pk_sub {a b : Nat} (h : b ≤ a) : nI a - nI b = nI (a - b) := by
  obtain ⟨c, rfl⟩ : ∃ c, a = c + b := ⟨a - b, by omega⟩
  rw [← nI_add, Int32.add_sub_cancel, Nat.add_sub_cancel]
theorem pk_m1 (n : Nat) : nI (n + 1) + (-1) = nI n := by
  rw [← nI_1, Int32.add_assoc, show (1 : Int32) + (-1) = 0 from rfl, Int32.add_zero]
theorem pk_mul (a b : Nat) : nI a * nI b = nI (a * b) := (Int32.ofNat_mul a b).symm
theorem pk_div {a d : Nat} (ha : a < 2 ^ 31) (h0 : 0 < d) (hd : d < 2 ^ 31) : nI a / nI d = nI (a / d) := by
  apply Int32.toInt_inj.mp
  rw [lg_idiv_nonneg (by rw [nI_toInt ha]; omega) (by rw [nI_toInt hd]; omega), nI_toInt ha, nI_toInt hd, nI_toInt (Nat.lt_of_le_of_lt (Nat.div_le_self a d) ha)]
  first | rfl | exact (Int.natCast_ediv _ _).symm
theorem pk_rem {a d : Nat} (ha : a < 2 ^ 31) (h0 : 0 < d) (hd : d < 2 ^ 31) : nI a - nI a / nI d * nI d = nI (a % d) := by
  rw [pk_div ha h0 hd, pk_mul, pk_sub (Nat.div_mul_le_self a d)]
  exact congrArg nI (by have := Nat.div_add_mod' a d; omega)
theorem pk_sub_toInt {a b : Nat} (ha : a < 2 ^ 30) (hb : b < 2 ^ 30) : (nI a - nI b).toInt = (a : Int) - b := by
  rw [Int32.toInt_sub, nI_toInt (by omega), nI_toInt (by omega)]
  exact Int.bmod_eq_of_le (by omega) (by omega)
theorem pk_sneg {a b : Nat} (hb : b < 2 ^ 30) (h : a < b) : nI a - nI b < 0 := by
  rw [Int32.lt_iff_toInt_lt, pk_sub_toInt (by omega) hb, show (0 : Int32).toInt = 0 from by decide]
  omega
theorem pk_ix (x : Int32) {n : Nat} (hn : n < 2 ^ 31) : x < 0 ∨ nI n ≤ x ∨ ∃ j : Nat, j < n ∧ x = nI j := by
  by_cases h : x < 0
  · exact Or.inl h
  · obtain ⟨j, hj, rfl⟩ := nI_of h
    by_cases h2 : j < n
    · exact Or.inr (Or.inr ⟨j, h2, rfl⟩)
    · exact Or.inr (Or.inl (nI_le (by omega) hj))
theorem pk_le {x y : Int32} {A B : Prop} (a b : Nat) (f : a ≤ b → A) (g : b < a → B) (hx : x = nI a := by rfl) (hy : y = nI b := by rfl) (ha : a < 2 ^ 31 := by omega) (hb : b < 2 ^ 31 := by omega) : (x ≤ y → A) ∧ (¬ x ≤ y → B) := by
  subst hx hy
  rw [nI_leI ha hb]
  exact ⟨f, fun z => g (by omega)⟩
theorem pk_lt {x y : Int32} {A B : Prop} (a b : Nat) (f : a < b → A) (g : b ≤ a → B) (hx : x = nI a := by rfl) (hy : y = nI b := by rfl) (ha : a < 2 ^ 31 := by omega) (hb : b < 2 ^ 31 := by omega) : (x < y → A) ∧ (¬ x < y → B) := by
  subst hx hy
  rw [nI_ltI ha hb]
  exact ⟨f, fun z => g (by omega)⟩
theorem pk_eq {x y : Int32} {A B : Prop} (a b : Nat) (f : a = b → A) (g : a ≠ b → B) (hx : x = nI a := by rfl) (hy : y = nI b := by rfl) (ha : a < 2 ^ 31 := by omega) (hb : b < 2 ^ 31 := by omega) : (x = y → A) ∧ (¬ x = y → B) := by
  subst hx hy
  rw [nI_eq ha hb]
  exact ⟨f, g⟩
theorem pk_in {x : Int32} (n N : Nat) (h : n < N) (hx : x = nI n := by rfl) (hN : N < 2 ^ 31 := by omega) : vp_in x N := by
  subst hx
  exact vp_in_nI h hN
theorem pk_cl {x : Int32} (n : Nat) (hx : x = nI n := by rfl) (h : n < 2 ^ 31 := by omega) : x.toNatClampNeg = n := by
  subst hx
  exact nI_clamp h
theorem pk_tn {n : Nat} (h : n < 2 ^ 32) : (nI n).toBitVec.toNat = n := Nat.mod_eq_of_lt h
theorem pk_and (x : Int32) {m : Int32} (k : Nat) (hm : m.toBitVec.toNat = 2 ^ k - 1) : x &&& m = nI (x.toBitVec.toNat % 2 ^ k) := by
  apply Int32.toBitVec_inj.mp
  apply BitVec.eq_of_toNat_eq
  rw [Int32.toBitVec_and, BitVec.toNat_and, hm, Nat.and_two_pow_sub_one_eq_mod]
  show _ = (BitVec.ofNat 32 _).toNat
  rw [BitVec.toNat_ofNat]
  exact (Nat.mod_eq_of_lt (Nat.lt_of_le_of_lt (Nat.mod_le _ _) x.toBitVec.isLt)).symm
theorem pk_andN {n : Nat} (h : n < 2 ^ 32) {m : Int32} (k : Nat) (hm : m.toBitVec.toNat = 2 ^ k - 1) : nI n &&& m = nI (n % 2 ^ k) := by
  rw [pk_and _ k hm, pk_tn h]
theorem pk_andE (x : Int32) {m : Int32} (k : Nat) (hm : m.toBitVec.toNat = 2 ^ k - 1) : ∃ j : Nat, j < 2 ^ k ∧ x &&& m = nI j := ⟨_, Nat.mod_lt _ (Nat.two_pow_pos k), pk_and x k hm⟩
theorem pk_andIn (x : Int32) {m : Int32} (k : Nat) (hm : m.toBitVec.toNat = 2 ^ k - 1) (hk : k ≤ 30) : vp_in (x &&& m) (2 ^ k) := by
  obtain ⟨j, hj, e⟩ := pk_andE x k hm
  rw [e]
  exact vp_in_nI hj (Nat.lt_of_le_of_lt (Nat.pow_le_pow_right (by decide) hk) (by decide))
theorem pk_shl (a s : Int32) (k : Nat) (hs : (s.toBitVec.smod 32).toNat = k) : (a <<< s).toBitVec.toNat = a.toBitVec.toNat * 2 ^ k % 2 ^ 32 := by
  show (a.toBitVec <<< (s.toBitVec.smod 32).toNat).toNat = _
  rw [hs, BitVec.toNat_shiftLeft, Nat.shiftLeft_eq]
theorem pk_shlN {n : Nat} (s : Int32) (k : Nat) (hs : (s.toBitVec.smod 32).toNat = k) (h : n * 2 ^ k < 2 ^ 32) : nI n <<< s = nI (n * 2 ^ k) := by
  apply Int32.toBitVec_inj.mp
  apply BitVec.eq_of_toNat_eq
  have hn : n < 2 ^ 32 := Nat.lt_of_le_of_lt (Nat.le_mul_of_pos_right n (Nat.two_pow_pos k)) h
  rw [pk_shl _ _ k hs, pk_tn hn, pk_tn h, Nat.mod_eq_of_lt h]
theorem pk_shr (a s : Int32) (k : Nat) (hs : (s.toBitVec.smod 32).toNat = k) : (a >>> s).toInt = a.toInt >>> k := by
  show (a.toBitVec.sshiftRight (s.toBitVec.smod 32).toNat).toInt = _
  rw [hs, BitVec.toInt_sshiftRight]
  rfl
theorem pk_shrN {n : Nat} (h : n < 2 ^ 31) (s : Int32) (k : Nat) (hs : (s.toBitVec.smod 32).toNat = k) : nI n >>> s = nI (n / 2 ^ k) := by
  apply Int32.toInt_inj.mp
  have h2 : n / 2 ^ k ≤ n := Nat.div_le_self _ _
  rw [pk_shr _ _ k hs, nI_toInt h, nI_toInt (by omega), Int.shiftRight_eq_div_pow]
  rfl
theorem pk_loop {σ : Type} (W : Nat → Nat → σ → Prop) (I : Nat → σ → Prop) (e i0 : Nat) (s : σ) (hi : i0 ≤ e) (h0 : I i0 s) (hx : ∀ n s, I e s → W (n + 1) e s)
    (hs : ∀ n i s, i < e → I i s → (∀ s', I (i + 1) s' → W n (i + 1) s') → W (n + 1) i s) : ∃ n, W n i0 s :=
  ⟨e + 1, loop_i W I e hx hs (e + 1) i0 s hi (by omega) h0⟩
theorem pk_loopD {σ : Type} (W : Nat → Nat → σ → Prop) (I : Nat → σ → Prop) (hx : ∀ n s, I 0 s → W (n + 1) 0 s)
    (hs : ∀ n i s, I (i + 1) s → (∀ s', I i s' → W n i s') → W (n + 1) (i + 1) s) : ∀ (e : Nat) (s : σ), I e s → W (e + 1) e s := by
  intro e
  induction e with
  | zero => exact fun s h => hx 0 s h
  | succ e ih => exact fun s h => hs (e + 1) e s h (fun s' h' => ih s' h')
theorem lp1 {A1 : Type} (W : Nat → A1 → Prop) (I : A1 → Prop) (μ : A1 → Nat) (hs : ∀ (n : Nat) (a1 : A1), I a1 → (∀ (b1 : A1), I b1 → μ b1 < μ a1 → W n b1) → W (n + 1) a1) (a1 : A1) (h : I a1) : ∃ n, W n a1 :=
  loop_m (σ := A1) (fun n s => W n s) (fun s => I s) (fun s => μ s) (fun n s hI hk => hs n s hI (fun b1 h9 hm => hk b1 h9 hm)) a1 h
theorem lp2 {A1 A2 : Type} (W : Nat → A1 → A2 → Prop) (I : A1 → A2 → Prop) (μ : A1 → A2 → Nat) (hs : ∀ (n : Nat) (a1 : A1) (a2 : A2), I a1 a2 → (∀ (b1 : A1) (b2 : A2), I b1 b2 → μ b1 b2 < μ a1 a2 → W n b1 b2) → W (n + 1) a1 a2) (a1 : A1) (a2 : A2) (h : I a1 a2) : ∃ n, W n a1 a2 :=
  loop_m (σ := A1 × A2) (fun n s => W n s.1 s.2) (fun s => I s.1 s.2) (fun s => μ s.1 s.2) (fun n s hI hk => hs n s.1 s.2 hI (fun b1 b2 h9 hm => hk (b1, b2) h9 hm)) (a1, a2) h
theorem lp3 {A1 A2 A3 : Type} (W : Nat → A1 → A2 → A3 → Prop) (I : A1 → A2 → A3 → Prop) (μ : A1 → A2 → A3 → Nat) (hs : ∀ (n : Nat) (a1 : A1) (a2 : A2) (a3 : A3), I a1 a2 a3 → (∀ (b1 : A1) (b2 : A2) (b3 : A3), I b1 b2 b3 → μ b1 b2 b3 < μ a1 a2 a3 → W n b1 b2 b3) → W (n + 1) a1 a2 a3) (a1 : A1) (a2 : A2) (a3 : A3) (h : I a1 a2 a3) : ∃ n, W n a1 a2 a3 :=
  loop_m (σ := A1 × A2 × A3) (fun n s => W n s.1 s.2.1 s.2.2) (fun s => I s.1 s.2.1 s.2.2) (fun s => μ s.1 s.2.1 s.2.2) (fun n s hI hk => hs n s.1 s.2.1 s.2.2 hI (fun b1 b2 b3 h9 hm => hk (b1, b2, b3) h9 hm)) (a1, a2, a3) h
theorem lp4 {A1 A2 A3 A4 : Type} (W : Nat → A1 → A2 → A3 → A4 → Prop) (I : A1 → A2 → A3 → A4 → Prop) (μ : A1 → A2 → A3 → A4 → Nat) (hs : ∀ (n : Nat) (a1 : A1) (a2 : A2) (a3 : A3) (a4 : A4), I a1 a2 a3 a4 → (∀ (b1 : A1) (b2 : A2) (b3 : A3) (b4 : A4), I b1 b2 b3 b4 → μ b1 b2 b3 b4 < μ a1 a2 a3 a4 → W n b1 b2 b3 b4) → W (n + 1) a1 a2 a3 a4) (a1 : A1) (a2 : A2) (a3 : A3) (a4 : A4) (h : I a1 a2 a3 a4) : ∃ n, W n a1 a2 a3 a4 :=
  loop_m (σ := A1 × A2 × A3 × A4) (fun n s => W n s.1 s.2.1 s.2.2.1 s.2.2.2) (fun s => I s.1 s.2.1 s.2.2.1 s.2.2.2) (fun s => μ s.1 s.2.1 s.2.2.1 s.2.2.2) (fun n s hI hk => hs n s.1 s.2.1 s.2.2.1 s.2.2.2 hI (fun b1 b2 b3 b4 h9 hm => hk (b1, b2, b3, b4) h9 hm)) (a1, a2, a3, a4) h
theorem pk_least (P : Nat → Prop) (h : ∃ k, P k) : ∃ k, P k ∧ ∀ j, j < k → ¬ P j := by
  obtain ⟨k, hk⟩ := h
  induction k using Nat.strongRecOn with
  | ind k ih =>
    by_cases e : ∃ j, j < k ∧ P j
    · obtain ⟨j, hj, pj⟩ := e
      exact ih j hj pj
    · exact ⟨k, hk, fun j hj pj => e ⟨j, hj, pj⟩⟩
theorem s_l : ∀ n, n < 32 → ((nI n &&& 31).toBitVec.smod 32).toNat = n := by decide +kernel
theorem nx_and (a b : Nat) : nI a &&& nI b = nI (a &&& b) := by
  apply Int32.toBitVec_inj.1
  show BitVec.ofNat 32 a &&& BitVec.ofNat 32 b = BitVec.ofNat 32 (a &&& b)
  apply BitVec.eq_of_getLsbD_eq
  intro i hi
  simp [hi]
theorem nx_xor (a b : Nat) : nI a ^^^ nI b = nI (a ^^^ b) := by
  apply Int32.toBitVec_inj.1
  show BitVec.ofNat 32 a ^^^ BitVec.ofNat 32 b = BitVec.ofNat 32 (a ^^^ b)
  apply BitVec.eq_of_getLsbD_eq
  intro i hi
  simp [hi]
theorem ma_nor (a b : Nat) : nI a ||| nI b = nI (a ||| b) := by
  apply Int32.toBitVec_inj.1
  show BitVec.ofNat 32 a ||| BitVec.ofNat 32 b = BitVec.ofNat 32 (a ||| b)
  apply BitVec.eq_of_getLsbD_eq
  intro i hi
  simp [hi]
theorem ma_sh1 : ∀ i, i < 31 → (1 : Int32) <<< (nI i &&& 31) = nI (2 ^ i) := by decide +kernel
theorem ma_shr1 {c i : Nat} (hc : c < 2 ^ 31) (hi : i < 32) : (nI c >>> (nI i &&& 31)) &&& 1 = nI (c / 2 ^ i % 2) := by
  rw [pk_shrN hc _ i (s_l i hi)]
  exact pk_andN (n := c / 2 ^ i) (Nat.lt_of_le_of_lt (Nat.div_le_self _ _) (by omega)) (m := 1) 1 (by decide)
theorem ma_hb_t {c i : Nat} (hc : c < 2 ^ 31) (hi : i < 32) (h : c.testBit i = true) : (nI c >>> (nI i &&& 31)) &&& 1 = 1 := by
  rw [Nat.testBit_eq_decide_div_mod_eq] at h
  rw [ma_shr1 hc hi, of_decide_eq_true h]
  rfl
theorem ma_hb_f {c i : Nat} (hc : c < 2 ^ 31) (hi : i < 32) (h : c.testBit i = false) : (nI c >>> (nI i &&& 31)) &&& 1 = 0 := by
  rw [Nat.testBit_eq_decide_div_mod_eq] at h
  have h1 := of_decide_eq_false h
  have h2 : c / 2 ^ i % 2 = 0 := by omega
  rw [ma_shr1 hc hi, h2]
  rfl
end
section
/-- how many i below n have P -/
def ma_cn (P : Nat → Bool) : Nat → Nat
  | 0 => 0
  | n + 1 => ma_cn P n + (if P n = true then 1 else 0)
theorem ma_cn_s (P : Nat → Bool) (n : Nat) : ma_cn P (n + 1) = ma_cn P n + (if P n = true then 1 else 0) := rfl
theorem ma_cn_congr {P Q : Nat → Bool} {n : Nat} (h : ∀ i, i < n → P i = Q i) : ma_cn P n = ma_cn Q n := by
  induction n with
  | zero => rfl
  | succ n ih =>
    rw [ma_cn_s, ma_cn_s, ih (fun i hi => h i (by omega)), h n (by omega)]
theorem ma_cn_le (P : Nat → Bool) (n : Nat) : ma_cn P n ≤ n := by
  induction n with
  | zero => exact Nat.le_refl _
  | succ n ih =>
    rw [ma_cn_s]
    split <;> omega
theorem ma_cn_rm {Q : Nat → Bool} {m a : Nat} (ha : a < m) (hQ : Q a = true) : ma_cn Q m = ma_cn (fun i => Q i && !decide (i = a)) m + 1 := by
  induction m with
  | zero => omega
  | succ m ih =>
    rw [ma_cn_s, ma_cn_s]
    by_cases e : a = m
    · subst e
      have h1 : ma_cn (fun i => Q i && !decide (i = a)) a = ma_cn Q a := ma_cn_congr (fun i hi => by
        have h0 : decide (i = a) = false := decide_eq_false (by omega)
        simp [h0])
      rw [h1]
      simp [hQ]
    · have h1 := ih (by omega)
      have h2 : (Q m && !decide (m = a)) = Q m := by
        have h0 : decide (m = a) = false := decide_eq_false (by omega)
        simp [h0]
      rw [h1, h2]
      omega
theorem ma_cn_inj (P : Nat → Bool) (R : Nat → Nat → Prop) (n : Nat) : ∀ (m : Nat) (Q : Nat → Bool),
    (∀ i, i < n → P i = true → ∃ a, a < m ∧ Q a = true ∧ R i a) →
    (∀ i j a, i < n → j < n → P i = true → P j = true → R i a → R j a → i = j) → ma_cn P n ≤ ma_cn Q m := by
  induction n with
  | zero => intro m Q _ _; exact Nat.zero_le _
  | succ n ih =>
    intro m Q h hR
    rw [ma_cn_s]
    by_cases hp : P n = true
    · obtain ⟨a, ha, hq, hr⟩ := h n (by omega) hp
      rw [ma_cn_rm ha hq, if_pos hp]
      refine Nat.add_le_add_right (ih m _ ?_ ?_) 1
      · intro i hi hpi
        obtain ⟨b, hb, hqb, hrb⟩ := h i (by omega) hpi
        refine ⟨b, hb, ?_, hrb⟩
        have hne : b ≠ a := by
          intro e
          rw [e] at hrb
          have := hR i n a (by omega) (by omega) hpi hp hrb hr
          omega
        simp [hqb, hne]
      · intro i j a hi hj; exact hR i j a (by omega) (by omega)
    · rw [if_neg hp]
      exact ih m Q (fun i hi => h i (by omega)) (fun i j a hi hj => hR i j a (by omega) (by omega))
/-- counts split -/
theorem ma_cn_split (P Q : Nat → Bool) (n : Nat) : ma_cn P n = ma_cn (fun i => P i && Q i) n + ma_cn (fun i => P i && !Q i) n := by
  induction n with
  | zero => rfl
  | succ n ih =>
    rw [ma_cn_s, ma_cn_s, ma_cn_s, ih]
    cases P n <;> cases Q n <;> simp <;> omega
theorem ma_cn_0 {P : Nat → Bool} {n : Nat} (h : ∀ i, i < n → P i = false) : ma_cn P n = 0 := by
  induction n with
  | zero => rfl
  | succ n ih =>
    rw [ma_cn_s, ih (fun i hi => h i (by omega)), h n (by omega)]
    rfl
theorem ma_cn_up {P : Nat → Bool} {n : Nat} (m : Nat) (h : ∀ i, n ≤ i → i < n + m → P i = false) : ma_cn P (n + m) = ma_cn P n := by
  induction m with
  | zero => rfl
  | succ m ih =>
    rw [← Nat.add_assoc, ma_cn_s, ih (fun i h1 h2 => h i h1 (by omega)), h (n + m) (by omega) (by omega)]
    rfl
/-- i is the last bit of x -/
def ma_T (x i : Nat) : Prop := x.testBit i = true ∧ x < 2 ^ (i + 1)
theorem ma_T_ex {x : Nat} (h : x ≠ 0) : ∃ i, ma_T x i := ⟨x.log2, Nat.testBit_log2 h, Nat.lt_log2_self⟩
theorem ma_pw {a b : Nat} (h : 2 ^ a < 2 ^ b) : a < b := (Nat.pow_lt_pow_iff_right (by decide : 1 < 2)).mp h
theorem ma_pl {a b : Nat} (h : a ≤ b) : 2 ^ a ≤ 2 ^ b := Nat.pow_le_pow_right (by decide) h
theorem ma_bl {x i n : Nat} (hx : x < 2 ^ n) (h : x.testBit i = true) : i < n :=
  ma_pw (Nat.lt_of_le_of_lt (Nat.ge_two_pow_of_testBit h) hx)
theorem ma_bf {x i n : Nat} (hx : x < 2 ^ n) (h : n ≤ i) : x.testBit i = false :=
  Nat.testBit_lt_two_pow (Nat.lt_of_lt_of_le hx (ma_pl h))
theorem ma_T_bit {x i j : Nat} (h : ma_T x i) (hj : x.testBit j = true) : j ≤ i := by
  have := ma_bl h.2 hj
  omega
theorem ma_T_eq {x i j : Nat} (h : ma_T x i) (h' : ma_T x j) : i = j := by
  have := ma_T_bit h h'.1
  have := ma_T_bit h' h.1
  omega
theorem ma_T_0 {i : Nat} : ¬ ma_T 0 i := fun h => by
  have := h.1
  rw [Nat.zero_testBit] at this
  exact Bool.noConfusion this
theorem ma_T_ne {x i : Nat} (h : ma_T x i) : x ≠ 0 := fun e => ma_T_0 (e ▸ h)
theorem ma_T_lt {x i n : Nat} (h : ma_T x i) (hx : x < 2 ^ n) : i < n := ma_bl hx h.1
theorem ma_T_xor {x y i j : Nat} (hx : ma_T x i) (hy : ma_T y j) (h : j < i) : ma_T (x ^^^ y) i := by
  have hy' : y < 2 ^ i := Nat.lt_of_lt_of_le hy.2 (ma_pl h)
  refine ⟨?_, Nat.xor_lt_two_pow hx.2 (Nat.lt_of_lt_of_le hy' (ma_pl (Nat.le_succ i)))⟩
  rw [Nat.testBit_xor, hx.1, Nat.testBit_lt_two_pow hy']
  rfl
theorem ma_x1 (a b c : Nat) : (a ^^^ b) ^^^ c = (a ^^^ c) ^^^ b := by
  rw [Nat.xor_assoc, Nat.xor_comm b c, ← Nat.xor_assoc]
theorem ma_x2 (a b : Nat) : (a ^^^ b) ^^^ b = a := by
  rw [Nat.xor_assoc, Nat.xor_self, Nat.xor_zero]
theorem ma_x3 (a b c : Nat) : (a ^^^ c) ^^^ (b ^^^ c) = a ^^^ b := by
  rw [Nat.xor_comm b c, ← Nat.xor_assoc, ma_x2]
theorem ma_x0 {a b : Nat} (h : a ^^^ b = 0) : a = b := by
  have := ma_x2 a b
  rw [h, Nat.zero_xor] at this
  exact this.symm
/-- the sum of f i over the bits i < n of c -/
def ma_lin (f : Nat → Nat) : Nat → Nat → Nat
  | 0, _ => 0
  | n + 1, c => if c.testBit n = true then ma_lin f n c ^^^ f n else ma_lin f n c
theorem ma_lin_t {f : Nat → Nat} {n c : Nat} (h : c.testBit n = true) : ma_lin f (n + 1) c = ma_lin f n c ^^^ f n := by
  show (if c.testBit n = true then _ else _) = _
  rw [if_pos h]
theorem ma_lin_f {f : Nat → Nat} {n c : Nat} (h : c.testBit n = false) : ma_lin f (n + 1) c = ma_lin f n c := by
  show (if c.testBit n = true then _ else _) = _
  rw [if_neg (by rw [h]; exact Bool.noConfusion)]
theorem ma_lin_xor (f : Nat → Nat) (n c d : Nat) : ma_lin f n (c ^^^ d) = ma_lin f n c ^^^ ma_lin f n d := by
  induction n with
  | zero => exact (Nat.zero_xor 0).symm
  | succ n ih =>
    cases hc : c.testBit n <;> cases hd : d.testBit n
    · rw [ma_lin_f hc, ma_lin_f hd, ma_lin_f (by rw [Nat.testBit_xor, hc, hd]; rfl), ih]
    · rw [ma_lin_f hc, ma_lin_t hd, ma_lin_t (by rw [Nat.testBit_xor, hc, hd]; rfl), ih, Nat.xor_assoc]
    · rw [ma_lin_t hc, ma_lin_f hd, ma_lin_t (by rw [Nat.testBit_xor, hc, hd]; rfl), ih, ma_x1]
    · rw [ma_lin_t hc, ma_lin_t hd, ma_lin_f (by rw [Nat.testBit_xor, hc, hd]; rfl), ih, ma_x3]
theorem ma_lin_0 (f : Nat → Nat) (n : Nat) : ma_lin f n 0 = 0 := by
  induction n with
  | zero => rfl
  | succ n ih => rw [ma_lin_f (Nat.zero_testBit n), ih]
theorem ma_lin_congr {f g : Nat → Nat} {n c d : Nat} (h : ∀ i, i < n → c.testBit i = d.testBit i) (hf : ∀ i, i < n → c.testBit i = true → f i = g i) : ma_lin f n c = ma_lin g n d := by
  induction n with
  | zero => rfl
  | succ n ih =>
    have e := ih (fun i hi => h i (by omega)) (fun i hi => hf i (by omega))
    have hn := h n (by omega)
    cases hc : c.testBit n
    · rw [ma_lin_f hc, ma_lin_f (hn ▸ hc), e]
    · rw [ma_lin_t hc, ma_lin_t (hn ▸ hc), e, hf n (by omega) hc]
theorem ma_lin_lt {f : Nat → Nat} {n c m : Nat} (h : ∀ i, i < n → f i < 2 ^ m) : ma_lin f n c < 2 ^ m := by
  induction n with
  | zero => exact Nat.two_pow_pos m
  | succ n ih =>
    have e := ih (fun i hi => h i (by omega))
    cases hc : c.testBit n
    · rw [ma_lin_f hc]; exact e
    · rw [ma_lin_t hc]; exact Nat.xor_lt_two_pow e (h n (by omega))
theorem ma_lin_up {f : Nat → Nat} {n c : Nat} (hc : c < 2 ^ n) (m : Nat) : ma_lin f (n + m) c = ma_lin f n c := by
  induction m with
  | zero => rfl
  | succ m ih =>
    rw [← Nat.add_assoc, ma_lin_f (ma_bf hc (by omega)), ih]
theorem ma_lin_one {f : Nat → Nat} {n i : Nat} (hi : i < n) : ma_lin f n (2 ^ i) = f i := by
  induction n with
  | zero => omega
  | succ n ih =>
    by_cases e : i = n
    · subst e
      rw [ma_lin_t Nat.testBit_two_pow_self]
      have h0 : ma_lin f i (2 ^ i) = ma_lin f i 0 := ma_lin_congr (fun j hj => by rw [Nat.testBit_two_pow_of_ne (by omega), Nat.zero_testBit]) (fun _ _ _ => rfl)
      rw [h0, ma_lin_0, Nat.zero_xor]
    · rw [ma_lin_f (Nat.testBit_two_pow_of_ne e), ih (by omega)]
theorem ma_lin_bit (f : Nat → Nat) (n c m : Nat) : (ma_lin f n c).testBit m = decide (ma_cn (fun j => c.testBit j && (f j).testBit m) n % 2 = 1) := by
  induction n with
  | zero => exact Nat.zero_testBit m
  | succ n ih =>
    rw [ma_cn_s]
    cases hc : c.testBit n
    · rw [ma_lin_f hc, ih]; simp [hc]
    · rw [ma_lin_t hc, Nat.testBit_xor, ih]
      cases hf : (f n).testBit m
      · simp [hc, hf]
      · simp only [hc, hf, Bool.and_self, if_true]
        generalize ma_cn _ n = q
        by_cases h : q % 2 = 1
        · have : ¬ (q + 1) % 2 = 1 := by omega
          simp [h, this]
        · have : (q + 1) % 2 = 1 := by omega
          simp [h, this]
/-- what the first n of f span -/
def ma_Sp (f : Nat → Nat) (n x : Nat) : Prop := ∃ c, c < 2 ^ n ∧ x = ma_lin f n c
theorem ma_Sp_of (f : Nat → Nat) (n c : Nat) : ma_Sp f n (ma_lin f n c) := by
  refine ⟨c % 2 ^ n, Nat.mod_lt _ (Nat.two_pow_pos n), ma_lin_congr (fun i hi => ?_) (fun _ _ _ => rfl)⟩
  rw [Nat.testBit_mod_two_pow, decide_eq_true hi]
  rfl
theorem ma_Sp_0 (f : Nat → Nat) (n : Nat) : ma_Sp f n 0 := ⟨0, Nat.two_pow_pos n, (ma_lin_0 f n).symm⟩
theorem ma_Sp_x {f : Nat → Nat} {n x y : Nat} (hx : ma_Sp f n x) (hy : ma_Sp f n y) : ma_Sp f n (x ^^^ y) := by
  obtain ⟨c, hc, rfl⟩ := hx
  obtain ⟨d, hd, rfl⟩ := hy
  exact ⟨c ^^^ d, Nat.xor_lt_two_pow hc hd, (ma_lin_xor f n c d).symm⟩
theorem ma_Sp_g {f : Nat → Nat} {n i : Nat} (hi : i < n) : ma_Sp f n (f i) := by
  have := ma_Sp_of f n (2 ^ i)
  rw [ma_lin_one hi] at this
  exact this
theorem ma_Sp_up {f : Nat → Nat} {n m x : Nat} (h : n ≤ m) (hx : ma_Sp f n x) : ma_Sp f m x := by
  obtain ⟨c, hc, rfl⟩ := hx
  have e : m = n + (m - n) := by omega
  refine ⟨c, Nat.lt_of_lt_of_le hc (ma_pl h), ?_⟩
  rw [e, ma_lin_up hc]
theorem ma_Sp_sub {f g : Nat → Nat} {n m x : Nat} (h : ∀ i, i < n → ma_Sp g m (f i)) (hx : ma_Sp f n x) : ma_Sp g m x := by
  obtain ⟨c, hc, rfl⟩ := hx
  clear hc
  induction n with
  | zero => exact ma_Sp_0 g m
  | succ n ih =>
    have e := ih (fun i hi => h i (by omega))
    cases hc : c.testBit n
    · rw [ma_lin_f hc]; exact e
    · rw [ma_lin_t hc]; exact ma_Sp_x e (h n (by omega))
theorem ma_Sp_congr {f g : Nat → Nat} {n x : Nat} (h : ∀ i, i < n → f i = g i) (hx : ma_Sp f n x) : ma_Sp g n x :=
  ma_Sp_sub (fun i hi => (h i hi).symm ▸ ma_Sp_g hi) hx
theorem ma_Sp_lt {f : Nat → Nat} {n x m : Nat} (h : ∀ i, i < n → f i < 2 ^ m) (hx : ma_Sp f n x) : x < 2 ^ m := by
  obtain ⟨c, hc, rfl⟩ := hx
  exact ma_lin_lt h
/-- members with different last bits: what they span has no other last bits -/
theorem ma_ech {e : Nat → Nat} {n : Nat} (hd : ∀ i j a, i < n → j < n → ma_T (e i) a → ma_T (e j) a → i = j) : ∀ x a, ma_Sp e n x → ma_T x a → ∃ i, i < n ∧ ma_T (e i) a := by
  induction n with
  | zero =>
    intro x a hx hT
    obtain ⟨c, hc, rfl⟩ := hx
    exact absurd hT ma_T_0
  | succ n ih =>
    intro x a hx hT
    have IH := ih (fun i j a hi hj => hd i j a (by omega) (by omega))
    obtain ⟨c, _, rfl⟩ := hx
    cases hc : c.testBit n
    · rw [ma_lin_f hc] at hT
      obtain ⟨i, hi, h⟩ := IH _ a (ma_Sp_of e n c) hT
      exact ⟨i, by omega, h⟩
    · rw [ma_lin_t hc] at hT
      by_cases h0 : e n = 0
      · rw [h0, Nat.xor_zero] at hT
        obtain ⟨i, hi, h⟩ := IH _ a (ma_Sp_of e n c) hT
        exact ⟨i, by omega, h⟩
      · obtain ⟨b, hb⟩ := ma_T_ex h0
        by_cases hy : ma_lin e n c = 0
        · rw [hy, Nat.zero_xor] at hT
          exact ⟨n, by omega, hT⟩
        · obtain ⟨w, hw⟩ := ma_T_ex hy
          obtain ⟨i, hi, h⟩ := IH _ w (ma_Sp_of e n c) hw
          have hne : w ≠ b := by
            intro q
            have := hd i n b (by omega) (by omega) (q ▸ h) hb
            omega
          by_cases hlt : b < w
          · have := ma_T_eq hT (ma_T_xor hw hb hlt)
            exact ⟨i, by omega, this ▸ h⟩
          · have hx := ma_T_xor hb hw (by omega)
            rw [Nat.xor_comm] at hx
            have := ma_T_eq hT hx
            exact ⟨n, by omega, this ▸ hb⟩
end
section
theorem ma_lin_bf {f : Nat → Nat} {n c j : Nat} (h : ∀ i, i < n → (f i).testBit j = false) : (ma_lin f n c).testBit j = false := by
  induction n with
  | zero => exact Nat.zero_testBit j
  | succ n ih =>
    have e := ih (fun i hi => h i (by omega))
    cases hc : c.testBit n
    · rw [ma_lin_f hc]; exact e
    · rw [ma_lin_t hc, Nat.testBit_xor, e, h n (by omega)]; rfl
theorem ma_Sp_bit {f : Nat → Nat} {n x : Nat} {Q : Nat → Prop} (h : ∀ i, i < n → ∀ j, (f i).testBit j = true → Q j) (hx : ma_Sp f n x) : ∀ j, x.testBit j = true → Q j := by
  intro j hj
  obtain ⟨c, _, rfl⟩ := hx
  apply Classical.byContradiction
  intro hq
  have := ma_lin_bf (f := f) (n := n) (c := c) (j := j) (fun i hi => by
    cases hb : (f i).testBit j
    · rfl
    · exact absurd (h i hi j hb) hq)
  rw [this] at hj
  exact Bool.noConfusion hj
theorem ma_Sp_lin0 {f b : Nat → Nat} {n m x : Nat} (h : ∀ i, i < n → ma_lin b m (f i) = 0) (hx : ma_Sp f n x) : ma_lin b m x = 0 := by
  obtain ⟨c, hc, rfl⟩ := hx
  clear hc
  induction n with
  | zero => exact ma_lin_0 b m
  | succ n ih =>
    have e := ih (fun i hi => h i (by omega))
    cases hc : c.testBit n
    · rw [ma_lin_f hc]; exact e
    · rw [ma_lin_t hc, ma_lin_xor, e, h n (by omega)]; rfl
/-- triangular change of generators -/
theorem ma_Sp_tri1 {e f : Nat → Nat} {t x : Nat} (h : ∀ i, i < t → ma_Sp f i (e i ^^^ f i)) (hx : ma_Sp e t x) : ma_Sp f t x := by
  refine ma_Sp_sub (fun i hi => ?_) hx
  have h1 := ma_Sp_x (ma_Sp_up (Nat.le_of_lt hi) (h i hi)) (ma_Sp_g hi)
  rw [ma_x2] at h1
  exact h1
theorem ma_Sp_tri2 {e f : Nat → Nat} {t : Nat} : (∀ i, i < t → ma_Sp f i (e i ^^^ f i)) → ∀ x, ma_Sp f t x → ma_Sp e t x := by
  induction t with
  | zero =>
    intro _ x hx
    obtain ⟨c, _, rfl⟩ := hx
    exact ma_Sp_0 e 0
  | succ t ih =>
    intro h x hx
    have IH := ih (fun i hi => h i (by omega))
    refine ma_Sp_sub (fun i hi => ?_) hx
    by_cases q : i < t
    · exact ma_Sp_up (Nat.le_succ t) (IH _ (ma_Sp_g q))
    · have q' : i = t := by omega
      subst q'
      have h1 := ma_Sp_x (ma_Sp_up (Nat.le_succ i) (IH _ (h i (by omega)))) (ma_Sp_g (f := e) (Nat.lt_succ_self i))
      rw [Nat.xor_comm (e i) (f i), ma_x2] at h1
      exact h1
/-- the borders b and the dimensions d of the first n pieces -/
def ma_Fr (b d : Nat → Nat) (n : Nat) : Prop := ∀ i, i < n → b i < 2 ^ i ∧ (∀ j, (b i).testBit j = true → d j + 1 = d i) ∧ ma_lin b i (b i) = 0
/-- f at dimension k alone -/
def ma_fk (f d : Nat → Nat) (k : Nat) : Nat → Nat := fun i => if d i = k then f i else 0
theorem ma_fk_t {f d : Nat → Nat} {k i : Nat} (h : d i = k) : ma_fk f d k i = f i := if_pos h
theorem ma_fk_f {f d : Nat → Nat} {k i : Nat} (h : ¬ d i = k) : ma_fk f d k i = 0 := if_neg h
theorem ma_Sp_fk {f d : Nat → Nat} {k n x : Nat} (hx : ma_Sp (ma_fk f d k) n x) : ma_Sp f n x := by
  refine ma_Sp_sub (fun i hi => ?_) hx
  by_cases h : d i = k
  · rw [ma_fk_t h]; exact ma_Sp_g hi
  · rw [ma_fk_f h]; exact ma_Sp_0 f n
/-- the closed cycles e belong to the borders b -/
def ma_J (b d e : Nat → Nat) (n : Nat) : Prop :=
  (∀ i, i < n → e i < 2 ^ i ∧ ma_lin b i (e i) = 0 ∧ ma_Sp (ma_fk b d (d i)) i (e i ^^^ b i)) ∧
  (∀ i j a, i < n → j < n → ma_T (e i) a → ma_T (e j) a → i = j) ∧
  (∀ j a, j < n → ma_T (e j) a → e a = 0)
theorem ma_J_0 (b d e : Nat → Nat) : ma_J b d e 0 :=
  ⟨fun i hi => absurd hi (Nat.not_lt_zero i), fun i _ _ hi => absurd hi (Nat.not_lt_zero i), fun i _ hi => absurd hi (Nat.not_lt_zero i)⟩
theorem ma_J_le {b d e : Nat → Nat} {n m : Nat} (h : ma_J b d e n) (hm : m ≤ n) : ma_J b d e m :=
  ⟨fun i hi => h.1 i (by omega), fun i j a hi hj => h.2.1 i j a (by omega) (by omega), fun j a hj => h.2.2 j a (by omega)⟩
theorem ma_J_top {b d e : Nat → Nat} {n i a : Nat} (h : ma_J b d e n) (hi : i < n) (hT : ma_T (e i) a) : a < i := ma_T_lt hT (h.1 i hi).1
theorem ma_J_congr {b d e b' d' e' : Nat → Nat} {n : Nat} (hb : ∀ i, i < n → b i = b' i) (hd : ∀ i, i < n → d i = d' i) (he : ∀ i, i < n → e i = e' i) (h : ma_J b d e n) : ma_J b' d' e' n := by
  refine ⟨fun i hi => ?_, fun i j a hi hj => ?_, fun j a hj hT => ?_⟩
  · obtain ⟨h1, h2, h3⟩ := h.1 i hi
    rw [← he i hi, ← hb i hi, ← hd i hi]
    refine ⟨h1, ?_, ma_Sp_congr (fun j hj => ?_) h3⟩
    · rw [← h2]
      exact ma_lin_congr (fun _ _ => rfl) (fun j hj _ => (hb j (by omega)).symm)
    · show (if d j = d i then b j else 0) = (if d' j = d i then b' j else 0)
      rw [hd j (by omega), hb j (by omega)]
  · rw [← he i hi, ← he j hj]
    exact h.2.1 i j a hi hj
  · rw [← he j hj] at hT
    have := ma_J_top h hj hT
    rw [← he a (by omega)]
    exact h.2.2 j a hj hT
theorem ma_J_tri {b d e : Nat → Nat} {n : Nat} (h : ma_J b d e n) (k : Nat) : ∀ i, i < n → ma_Sp (ma_fk b d k) i (ma_fk e d k i ^^^ ma_fk b d k i) := by
  intro i hi
  by_cases q : d i = k
  · rw [ma_fk_t q, ma_fk_t q]
    have := (h.1 i hi).2.2
    rw [q] at this
    exact this
  · rw [ma_fk_f q, ma_fk_f q]
    exact ma_Sp_0 _ _
theorem ma_J_Sp {b d e : Nat → Nat} {n : Nat} (h : ma_J b d e n) (k : Nat) {t x : Nat} (ht : t ≤ n) : ma_Sp (ma_fk e d k) t x ↔ ma_Sp (ma_fk b d k) t x :=
  ⟨fun hx => ma_Sp_tri1 (fun i hi => ma_J_tri h k i (by omega)) hx, fun hx => ma_Sp_tri2 (fun i hi => ma_J_tri h k i (by omega)) x hx⟩
theorem ma_J_SpA {b d e : Nat → Nat} {n : Nat} (h : ma_J b d e n) {t x : Nat} (ht : t ≤ n) : ma_Sp e t x ↔ ma_Sp b t x :=
  ⟨fun hx => ma_Sp_tri1 (fun i hi => ma_Sp_fk (h.1 i (by omega)).2.2) hx, fun hx => ma_Sp_tri2 (fun i hi => ma_Sp_fk (h.1 i (by omega)).2.2) x hx⟩
theorem ma_fk_T {e d : Nat → Nat} {k i a : Nat} : ma_T (ma_fk e d k i) a ↔ d i = k ∧ ma_T (e i) a := by
  by_cases q : d i = k
  · rw [ma_fk_t q]; exact ⟨fun h => ⟨q, h⟩, fun h => h.2⟩
  · rw [ma_fk_f q]; exact ⟨fun h => absurd h ma_T_0, fun h => absurd h.1 q⟩
theorem ma_J_dfk {b d e : Nat → Nat} {n : Nat} (h : ma_J b d e n) (k : Nat) : ∀ i j a, i < n → j < n → ma_T (ma_fk e d k i) a → ma_T (ma_fk e d k j) a → i = j :=
  fun i j a hi hj h1 h2 => h.2.1 i j a hi hj (ma_fk_T.mp h1).2 (ma_fk_T.mp h2).2
/-- the last pieces of the borders of dimension k at t -/
theorem ma_tops {b d e : Nat → Nat} {n : Nat} (h : ma_J b d e n) (k : Nat) {t a : Nat} (ht : t ≤ n) : (∃ x, ma_Sp (ma_fk b d k) t x ∧ ma_T x a) ↔ ∃ i, i < t ∧ d i = k ∧ ma_T (e i) a := by
  constructor
  · intro ⟨x, hx, hT⟩
    obtain ⟨i, hi, hT'⟩ := ma_ech (fun i j a hi hj => ma_J_dfk h k i j a (by omega) (by omega)) x a ((ma_J_Sp h k ht).mpr hx) hT
    exact ⟨i, hi, ma_fk_T.mp hT'⟩
  · intro ⟨i, hi, hk, hT⟩
    refine ⟨e i, (ma_J_Sp h k ht).mp ?_, hT⟩
    have := ma_Sp_g (f := ma_fk e d k) hi
    rw [ma_fk_t hk] at this
    exact this
/-- r is c without the borders of dimension k -/
def ma_Red (e d : Nat → Nat) (n k c r : Nat) : Prop := ma_Sp (ma_fk e d k) n (r ^^^ c) ∧ ∀ i a, i < n → ma_T (e i) a → r.testBit a = false
theorem ma_Red_0 {b d e : Nat → Nat} {n k c r : Nat} (h : ma_J b d e n) (hr : ma_Red e d n k c r) : r = 0 ↔ ma_Sp (ma_fk b d k) n c := by
  constructor
  · intro q
    have h1 := hr.1
    rw [q, Nat.zero_xor] at h1
    exact (ma_J_Sp h k (Nat.le_refl n)).mp h1
  · intro hc
    have h1 := ma_Sp_x hr.1 ((ma_J_Sp h k (Nat.le_refl n)).mpr hc)
    rw [ma_x2] at h1
    apply Classical.byContradiction
    intro q
    obtain ⟨a, ha⟩ := ma_T_ex q
    obtain ⟨i, hi, hT⟩ := ma_ech (ma_J_dfk h k) r a h1 ha
    have := hr.2 i a hi (ma_fk_T.mp hT).2
    rw [ha.1] at this
    exact Bool.noConfusion this
def ma_put (e : Nat → Nat) (n r : Nat) : Nat → Nat := fun i => if i = n then r else e i
theorem ma_put_s {e : Nat → Nat} {n r : Nat} : ma_put e n r n = r := if_pos rfl
theorem ma_put_n {e : Nat → Nat} {n r i : Nat} (h : i ≠ n) : ma_put e n r i = e i := if_neg h
theorem ma_Red_lt {b d e : Nat → Nat} {n k c r m : Nat} (h : ma_J b d e n) (hm : n ≤ m) (hr : ma_Red e d n k c r) (hc : c < 2 ^ m) : r < 2 ^ m := by
  have h1 : r ^^^ c < 2 ^ m := ma_Sp_lt (fun i hi => by
    by_cases q : d i = k
    · rw [ma_fk_t q]; exact Nat.lt_of_lt_of_le (h.1 i hi).1 (ma_pl (by omega))
    · rw [ma_fk_f q]; exact Nat.two_pow_pos m) hr.1
  have h2 := Nat.xor_lt_two_pow h1 hc
  rw [ma_x2] at h2
  exact h2
theorem ma_J_app {b d e : Nat → Nat} {n r : Nat} (h : ma_J b d e n) (hF : ma_Fr b d (n + 1)) (hr : ma_Red e d n (d n) (b n) r) : ma_J b d (ma_put e n r) (n + 1) := by
  have hb := hF n (Nat.lt_succ_self n)
  have hlt : r < 2 ^ n := ma_Red_lt h (Nat.le_refl n) hr hb.1
  have hcy : ma_lin b n r = 0 := by
    have h1 : ma_lin b n (r ^^^ b n) = 0 := ma_Sp_lin0 (fun i hi => by
      by_cases q : d i = d n
      · rw [ma_fk_t q]
        obtain ⟨p1, p2, _⟩ := h.1 i hi
        have e1 : n = i + (n - i) := by omega
        rw [e1, ma_lin_up p1, p2]
      · rw [ma_fk_f q]; exact ma_lin_0 b n) hr.1
    rw [ma_lin_xor, hb.2.2, Nat.xor_zero] at h1
    exact h1
  have hO : ∀ a, ma_T r a → e a = 0 := by
    intro a ha
    have han : a < n := ma_T_lt ha hlt
    have h1 : ma_lin b (a + 1) r = 0 := by
      have e1 : n = a + 1 + (n - (a + 1)) := by omega
      have := ma_lin_up (f := b) ha.2 (n - (a + 1))
      rw [← e1, hcy] at this
      exact this.symm
    rw [ma_lin_t ha.1] at h1
    have h2 : ma_Sp b a (b a) := by
      rw [← ma_x0 h1]
      exact ma_Sp_of b a r
    have h3 := ma_Sp_x (ma_Sp_fk (h.1 a han).2.2) h2
    rw [ma_x2] at h3
    have h4 := (ma_J_SpA h (Nat.le_of_lt han)).mpr h3
    apply Classical.byContradiction
    intro q
    obtain ⟨w, hw⟩ := ma_T_ex q
    obtain ⟨i, hi, hT⟩ := ma_ech (fun i j a hi hj => h.2.1 i j a (by omega) (by omega)) (e a) w h4 hw
    have := h.2.1 i a w (by omega) han hT hw
    omega
  refine ⟨fun i hi => ?_, fun i j a hi hj h1 h2 => ?_, fun j a hj hT => ?_⟩
  · by_cases q : i = n
    · subst q
      rw [ma_put_s]
      exact ⟨hlt, hcy, (ma_J_Sp h _ (Nat.le_refl i)).mp hr.1⟩
    · rw [ma_put_n q]
      exact h.1 i (by omega)
  · by_cases q : i = n
    · by_cases q' : j = n
      · omega
      · subst q
        rw [ma_put_s] at h1
        rw [ma_put_n q'] at h2
        have := hr.2 j a (by omega) h2
        rw [h1.1] at this
        exact Bool.noConfusion this
    · by_cases q' : j = n
      · subst q'
        rw [ma_put_s] at h2
        rw [ma_put_n q] at h1
        have := hr.2 i a (by omega) h1
        rw [h2.1] at this
        exact Bool.noConfusion this
      · rw [ma_put_n q] at h1
        rw [ma_put_n q'] at h2
        exact h.2.1 i j a (by omega) (by omega) h1 h2
  · by_cases q : j = n
    · subst q
      rw [ma_put_s] at hT
      have := ma_T_lt hT hlt
      rw [ma_put_n (by omega)]
      exact hO a hT
    · rw [ma_put_n q] at hT
      have := ma_J_top h (by omega) hT
      rw [ma_put_n (by omega)]
      exact h.2.2 j a (by omega) hT
/-- what the array of partners holds -/
def ma_P (e : Nat → Nat) (n i : Nat) (x : Int32) : Prop :=
  (∃ a, a < i ∧ ma_T (e i) a ∧ x = nI a) ∨ (∃ j, i < j ∧ j < n ∧ e i = 0 ∧ ma_T (e j) i ∧ x = nI j) ∨ (e i = 0 ∧ (∀ j, j < n → ¬ ma_T (e j) i) ∧ x = -1)
theorem ma_P_app0 {b d e : Nat → Nat} {n : Nat} {p : Nat → Int32} (h : ma_J b d e n) (hP : ∀ i, i < n → ma_P e n i (p i)) : ∀ i, i < n + 1 → ma_P (ma_put e n 0) (n + 1) i (upd p n (-1) i) := by
  intro i hi
  by_cases q : i = n
  · subst q
    rw [show upd p i (-1) i = -1 from if_pos rfl]
    refine Or.inr (Or.inr ⟨ma_put_s, fun j hj hT => ?_, rfl⟩)
    by_cases q' : j = i
    · rw [q', ma_put_s] at hT; exact ma_T_0 hT
    · rw [ma_put_n q'] at hT
      have := ma_J_top h (by omega) hT
      omega
  · rw [show upd p n (-1) i = p i from if_neg q]
    rcases hP i (by omega) with ⟨a, h1, h2, h3⟩ | ⟨j, h1, h2, h3, h4, h5⟩ | ⟨h1, h2, h3⟩
    · exact Or.inl ⟨a, h1, by rw [ma_put_n q]; exact h2, h3⟩
    · exact Or.inr (Or.inl ⟨j, h1, by omega, by rw [ma_put_n q]; exact h3, by rw [ma_put_n (by omega)]; exact h4, h5⟩)
    · refine Or.inr (Or.inr ⟨by rw [ma_put_n q]; exact h1, fun j hj hT => ?_, h3⟩)
      by_cases q' : j = n
      · rw [q', ma_put_s] at hT; exact ma_T_0 hT
      · rw [ma_put_n q'] at hT; exact h2 j (by omega) hT
theorem ma_P_app1 {b d e : Nat → Nat} {n r a : Nat} {p : Nat → Int32} (hJ : ma_J b d (ma_put e n r) (n + 1)) (hT : ma_T r a) (hP : ∀ i, i < n → ma_P e n i (p i)) : ∀ i, i < n + 1 → ma_P (ma_put e n r) (n + 1) i (upd (upd p n (nI a)) a (nI n) i) := by
  intro i hi
  have hTn : ma_T (ma_put e n r n) a := by rw [ma_put_s]; exact hT
  have han : a < n := ma_J_top hJ (Nat.lt_succ_self n) hTn
  by_cases qa : i = a
  · subst qa
    rw [show upd (upd p n (nI i)) i (nI n) i = nI n from if_pos rfl]
    exact Or.inr (Or.inl ⟨n, han, by omega, hJ.2.2 n i (by omega) hTn, hTn, rfl⟩)
  · rw [show upd (upd p n (nI a)) a (nI n) i = upd p n (nI a) i from if_neg qa]
    by_cases q : i = n
    · subst q
      rw [show upd p i (nI a) i = nI a from if_pos rfl]
      exact Or.inl ⟨a, han, hTn, rfl⟩
    · rw [show upd p n (nI a) i = p i from if_neg q]
      rcases hP i (by omega) with ⟨w, h1, h2, h3⟩ | ⟨j, h1, h2, h3, h4, h5⟩ | ⟨h1, h2, h3⟩
      · exact Or.inl ⟨w, h1, by rw [ma_put_n q]; exact h2, h3⟩
      · exact Or.inr (Or.inl ⟨j, h1, by omega, by rw [ma_put_n q]; exact h3, by rw [ma_put_n (by omega)]; exact h4, h5⟩)
      · refine Or.inr (Or.inr ⟨by rw [ma_put_n q]; exact h1, fun j hj hT' => ?_, h3⟩)
        by_cases q' : j = n
        · rw [q', ma_put_s] at hT'; exact qa (ma_T_eq hT' hT)
        · rw [ma_put_n q'] at hT'; exact h2 j (by omega) hT'
theorem ma_P_undo1 {b d e : Nat → Nat} {n a : Nat} {p : Nat → Int32} (h : ma_J b d e (n + 1)) (hT : ma_T (e n) a) (hP : ∀ i, i < n + 1 → ma_P e (n + 1) i (p i)) : ∀ i, i < n → ma_P e n i (upd p a (-1) i) := by
  intro i hi
  by_cases q : i = a
  · subst q
    rw [show upd p i (-1) i = -1 from if_pos rfl]
    refine Or.inr (Or.inr ⟨h.2.2 n i (by omega) hT, fun j hj hT' => ?_, rfl⟩)
    have := h.2.1 j n i (by omega) (by omega) hT' hT
    omega
  · rw [show upd p a (-1) i = p i from if_neg q]
    rcases hP i (by omega) with ⟨w, h1, h2, h3⟩ | ⟨j, h1, h2, h3, h4, h5⟩ | ⟨h1, h2, h3⟩
    · exact Or.inl ⟨w, h1, h2, h3⟩
    · refine Or.inr (Or.inl ⟨j, h1, ?_, h3, h4, h5⟩)
      by_cases q' : j = n
      · rw [q'] at h4; exact absurd (ma_T_eq h4 hT) q
      · omega
    · exact Or.inr (Or.inr ⟨h1, fun j hj => h2 j (by omega), h3⟩)
theorem ma_P_undo0 {e : Nat → Nat} {n : Nat} {p : Nat → Int32} (h0 : e n = 0) (hP : ∀ i, i < n + 1 → ma_P e (n + 1) i (p i)) : ∀ i, i < n → ma_P e n i (p i) := by
  intro i hi
  rcases hP i (by omega) with ⟨w, h1, h2, h3⟩ | ⟨j, h1, h2, h3, h4, h5⟩ | ⟨h1, h2, h3⟩
  · exact Or.inl ⟨w, h1, h2, h3⟩
  · refine Or.inr (Or.inl ⟨j, h1, ?_, h3, h4, h5⟩)
    by_cases q' : j = n
    · rw [q', h0] at h4; exact absurd h4 ma_T_0
    · omega
  · exact Or.inr (Or.inr ⟨h1, fun j hj => h2 j (by omega), h3⟩)
end
section
/-- r is s without its point p -/
def ma_s1 (r s p : Nat) : Bool := s.testBit p && Nat.beq r (s ^^^ 2 ^ p)
/-- r is a side of s -/
def ma_sd (r s : Nat) : Bool := !(Nat.beq r 0) && (ma_s1 r s 0 || (ma_s1 r s 1 || (ma_s1 r s 2 || (ma_s1 r s 3 || (ma_s1 r s 4 || ma_s1 r s 5)))))
theorem ma_s1_iff {r s p : Nat} : ma_s1 r s p = true ↔ s.testBit p = true ∧ r = s ^^^ 2 ^ p := by
  unfold ma_s1
  rw [Bool.and_eq_true]
  exact ⟨fun h => ⟨h.1, Nat.eq_of_beq_eq_true h.2⟩, fun h => ⟨h.1, by rw [h.2]; exact Nat.beq_refl _⟩⟩
theorem ma_sd_iff {r s : Nat} : ma_sd r s = true ↔ r ≠ 0 ∧ ∃ p, p < 6 ∧ s.testBit p = true ∧ r = s ^^^ 2 ^ p := by
  constructor
  · intro h
    simp only [ma_sd, Bool.and_eq_true, Bool.or_eq_true, Bool.not_eq_true'] at h
    obtain ⟨h0, h1⟩ := h
    refine ⟨Nat.ne_of_beq_eq_false h0, ?_⟩
    rcases h1 with h | h | h | h | h | h
    · exact ⟨0, by decide, ma_s1_iff.mp h⟩
    · exact ⟨1, by decide, ma_s1_iff.mp h⟩
    · exact ⟨2, by decide, ma_s1_iff.mp h⟩
    · exact ⟨3, by decide, ma_s1_iff.mp h⟩
    · exact ⟨4, by decide, ma_s1_iff.mp h⟩
    · exact ⟨5, by decide, ma_s1_iff.mp h⟩
  · intro ⟨h0, p, hp, h1⟩
    have hs := ma_s1_iff.mpr h1
    have h0' : Nat.beq r 0 = false := by
      cases r with
      | zero => exact absurd rfl h0
      | succ r => rfl
    have hp' : p = 0 ∨ p = 1 ∨ p = 2 ∨ p = 3 ∨ p = 4 ∨ p = 5 := by omega
    simp only [ma_sd, Bool.and_eq_true, Bool.or_eq_true, Bool.not_eq_true']
    refine ⟨h0', ?_⟩
    rcases hp' with e | e | e | e | e | e
    · exact Or.inl (e ▸ hs)
    · exact Or.inr (Or.inl (e ▸ hs))
    · exact Or.inr (Or.inr (Or.inl (e ▸ hs)))
    · exact Or.inr (Or.inr (Or.inr (Or.inl (e ▸ hs))))
    · exact Or.inr (Or.inr (Or.inr (Or.inr (Or.inl (e ▸ hs)))))
    · exact Or.inr (Or.inr (Or.inr (Or.inr (Or.inr (e ▸ hs)))))
/-- how many points -/
def ma_pop (s : Nat) : Nat := s % 2 + s / 2 % 2 + s / 4 % 2 + s / 8 % 2 + s / 16 % 2 + s / 32 % 2
theorem ma_pp : ∀ s, s < 64 → ∀ p, p < 6 → s.testBit p = true → ma_pop (s ^^^ 2 ^ p) + 1 = ma_pop s ∧ s ^^^ 2 ^ p < s := by decide +kernel
theorem ma_ev : ∀ s, s < 64 → ∀ r, r < 64 → ma_cn (fun p => s.testBit p && ma_sd r (s ^^^ 2 ^ p)) 6 % 2 = 0 := by decide +kernel
theorem ma_sd_pop {r s : Nat} (hs : s < 64) (h : ma_sd r s = true) : ma_pop r + 1 = ma_pop s ∧ r < s := by
  obtain ⟨_, p, hp, hb, rfl⟩ := ma_sd_iff.mp h
  exact ma_pp s hs p hp hb
theorem ma_sd_0 (r : Nat) : ma_sd r 0 = false := by
  cases h : ma_sd r 0
  · rfl
  · obtain ⟨_, p, _, hb, _⟩ := ma_sd_iff.mp h
    rw [Nat.zero_testBit] at hb
    exact Bool.noConfusion hb
theorem ma_xinj {s p q : Nat} (h : s ^^^ 2 ^ p = s ^^^ 2 ^ q) : p = q := by
  have h1 : (s ^^^ 2 ^ p) ^^^ s = (s ^^^ 2 ^ q) ^^^ s := by rw [h]
  rw [Nat.xor_comm s (2 ^ p), Nat.xor_comm s (2 ^ q), ma_x2, ma_x2] at h1
  have h2 := Nat.testBit_two_pow_self (n := p)
  rw [h1, Nat.testBit_two_pow] at h2
  have := of_decide_eq_true h2
  omega
/-- the number with the bits P below n -/
def ma_of (P : Nat → Bool) : Nat → Nat
  | 0 => 0
  | n + 1 => if P n = true then ma_of P n ||| 2 ^ n else ma_of P n
theorem ma_of_bit (P : Nat → Bool) (n j : Nat) : (ma_of P n).testBit j = (decide (j < n) && P j) := by
  induction n with
  | zero => exact Nat.zero_testBit j
  | succ n ih =>
    by_cases hp : P n = true
    · rw [show ma_of P (n + 1) = ma_of P n ||| 2 ^ n from if_pos hp, Nat.testBit_or, ih, Nat.testBit_two_pow]
      by_cases h1 : n = j
      · subst h1; simp [hp]
      · by_cases h2 : j < n
        · simp [h1, h2, Nat.lt_succ_of_lt h2]
        · have h3 : ¬ j < n + 1 := by omega
          simp [h1, h2, h3]
    · rw [show ma_of P (n + 1) = ma_of P n from if_neg hp, ih]
      by_cases h1 : n = j
      · subst h1; simp [hp]
      · by_cases h2 : j < n
        · simp [h2, Nat.lt_succ_of_lt h2]
        · have h3 : ¬ j < n + 1 := by omega
          simp [h2, h3]
theorem ma_of_lt (P : Nat → Bool) (n : Nat) : ma_of P n < 2 ^ n :=
  Nat.lt_pow_two_of_testBit _ (fun i hi => by
    rw [ma_of_bit, decide_eq_false (Nat.not_lt.mpr hi)]
    rfl)
theorem ma_of_congr {P Q : Nat → Bool} {n : Nat} (h : ∀ i, i < n → P i = Q i) : ma_of P n = ma_of Q n := by
  apply Nat.eq_of_testBit_eq
  intro i
  rw [ma_of_bit, ma_of_bit]
  by_cases hi : i < n
  · rw [h i hi]
  · rw [decide_eq_false hi]; rfl
/-- the growth: n pieces, all different, sides first -/
def ma_G (g : Nat → Nat) (n : Nat) : Prop :=
  (∀ i, i < n → 1 ≤ g i ∧ g i < 64 ∧ ma_pop (g i) ≤ 4) ∧
  (∀ i j, i < n → j < n → g i = g j → i = j) ∧
  (∀ i, i < n → ∀ r, ma_sd r (g i) = true → ∃ j, j < i ∧ g j = r)
/-- the border of piece i -/
def ma_bd (g : Nat → Nat) (i : Nat) : Nat := ma_of (fun j => ma_sd (g j) (g i)) i
def ma_d (g : Nat → Nat) (i : Nat) : Nat := ma_pop (g i)
theorem ma_bd_bit (g : Nat → Nat) (i j : Nat) : (ma_bd g i).testBit j = (decide (j < i) && ma_sd (g j) (g i)) := ma_of_bit _ _ _
theorem ma_bd_iff {g : Nat → Nat} {i j : Nat} : (ma_bd g i).testBit j = true ↔ j < i ∧ ma_sd (g j) (g i) = true := by
  rw [ma_bd_bit, Bool.and_eq_true, decide_eq_true_eq]
theorem ma_G_sd {g : Nat → Nat} {n i j : Nat} (h : ma_G g n) (hi : i < n) (hj : j < n) (hs : ma_sd (g j) (g i) = true) : j < i := by
  obtain ⟨m, hm, e⟩ := h.2.2 i hi _ hs
  have := h.2.1 m j (by omega) hj e
  omega
theorem ma_G_Fr {g : Nat → Nat} {n : Nat} (h : ma_G g n) : ma_Fr (ma_bd g) (ma_d g) n := by
  intro i hi
  refine ⟨ma_of_lt _ _, fun j hj => ?_, ?_⟩
  · obtain ⟨_, h2⟩ := ma_bd_iff.mp hj
    exact (ma_sd_pop (h.1 i hi).2.1 h2).1
  · apply Nat.eq_of_testBit_eq
    intro m
    rw [Nat.zero_testBit, ma_lin_bit]
    apply decide_eq_false
    by_cases hm : m < i
    · have h1 := ma_ev (g i) (h.1 i hi).2.1 (g m) (h.1 m (by omega)).2.1
      have h2 : ma_cn (fun j => (ma_bd g i).testBit j && (ma_bd g j).testBit m) i = ma_cn (fun p => (g i).testBit p && ma_sd (g m) (g i ^^^ 2 ^ p)) 6 := by
        apply Nat.le_antisymm
        · refine ma_cn_inj _ (fun j p => g j = g i ^^^ 2 ^ p) i 6 _ (fun j hj hP => ?_) (fun j j' p hj hj' _ _ e e' => h.2.1 j j' (by omega) (by omega) (e.trans e'.symm))
          rw [Bool.and_eq_true] at hP
          obtain ⟨_, p, hp, hb, he⟩ := ma_sd_iff.mp (ma_bd_iff.mp hP.1).2
          refine ⟨p, hp, ?_, he⟩
          rw [Bool.and_eq_true, ← he]
          exact ⟨hb, (ma_bd_iff.mp hP.2).2⟩
        · refine ma_cn_inj _ (fun p j => g j = g i ^^^ 2 ^ p) 6 i _ (fun p hp hP => ?_) (fun p q j _ _ _ _ e e' => ma_xinj (e.symm.trans e'))
          rw [Bool.and_eq_true] at hP
          have h0 : g i ^^^ 2 ^ p ≠ 0 := by
            intro e
            rw [e, ma_sd_0] at hP
            exact Bool.noConfusion hP.2
          have hs : ma_sd (g i ^^^ 2 ^ p) (g i) = true := ma_sd_iff.mpr ⟨h0, p, hp, hP.1, rfl⟩
          obtain ⟨j, hj, e⟩ := h.2.2 i hi _ hs
          refine ⟨j, hj, ?_, e⟩
          rw [← e] at hs hP
          rw [Bool.and_eq_true]
          exact ⟨ma_bd_iff.mpr ⟨hj, hs⟩, ma_bd_iff.mpr ⟨ma_G_sd h (by omega) (by omega) hP.2, hP.2⟩⟩
      rw [h2]
      omega
    · rw [ma_cn_0 (fun j hj => ?_)]
      · decide
      · cases hb : (ma_bd g j).testBit m
        · exact Bool.and_false _
        · have := (ma_bd_iff.mp hb).1
          omega
theorem ma_G_app {g : Nat → Nat} {n s : Nat} (h : ma_G g n) (h1 : 1 ≤ s) (h2 : s < 64) (h3 : ma_pop s ≤ 4) (hn : ∀ i, i < n → g i ≠ s) (hs : ∀ r, ma_sd r s = true → ∃ j, j < n ∧ g j = r) : ma_G (ma_put g n s) (n + 1) := by
  refine ⟨fun i hi => ?_, fun i j hi hj e => ?_, fun i hi r hr => ?_⟩
  · by_cases q : i = n
    · subst q; rw [ma_put_s]; exact ⟨h1, h2, h3⟩
    · rw [ma_put_n q]; exact h.1 i (by omega)
  · by_cases q : i = n
    · by_cases q' : j = n
      · omega
      · rw [q, ma_put_s, ma_put_n q'] at e
        exact absurd e.symm (hn j (by omega))
    · by_cases q' : j = n
      · rw [q', ma_put_s, ma_put_n q] at e
        exact absurd e (hn i (by omega))
      · rw [ma_put_n q, ma_put_n q'] at e
        exact h.2.1 i j (by omega) (by omega) e
  · by_cases q : i = n
    · subst q
      rw [ma_put_s] at hr
      obtain ⟨j, hj, e⟩ := hs r hr
      exact ⟨j, hj, by rw [ma_put_n (by omega)]; exact e⟩
    · rw [ma_put_n q] at hr
      obtain ⟨j, hj, e⟩ := h.2.2 i (by omega) r hr
      exact ⟨j, hj, by rw [ma_put_n (by omega)]; exact e⟩
theorem ma_G_le {g : Nat → Nat} {n m : Nat} (h : ma_G g n) (hm : m ≤ n) : ma_G g m :=
  ⟨fun i hi => h.1 i (by omega), fun i j hi hj => h.2.1 i j (by omega) (by omega), fun i hi => h.2.2 i (by omega)⟩
theorem ma_bd_put {g : Nat → Nat} {n s i : Nat} (h : i < n) : ma_bd (ma_put g n s) i = ma_bd g i :=
  ma_of_congr (fun j hj => by
    show ma_sd (ma_put g n s j) (ma_put g n s i) = ma_sd (g j) (g i)
    rw [ma_put_n (by omega), ma_put_n (by omega)])
theorem ma_bd_new {g : Nat → Nat} {n s : Nat} : ma_bd (ma_put g n s) n = ma_of (fun j => ma_sd (g j) s) n :=
  ma_of_congr (fun j hj => by
    show ma_sd (ma_put g n s j) (ma_put g n s n) = ma_sd (g j) s
    rw [ma_put_n (by omega), ma_put_s])
end
section
noncomputable def ma_dc (p : Prop) : Bool := @decide p (Classical.propDecidable p)
theorem ma_dc_iff {p : Prop} : ma_dc p = true ↔ p := @decide_eq_true_iff p (Classical.propDecidable p)
theorem ma_dc_f {p : Prop} (h : ¬ p) : ma_dc p = false := @decide_eq_false p (Classical.propDecidable p) h
theorem ma_dc_t {p : Prop} (h : p) : ma_dc p = true := ma_dc_iff.mpr h
/-- how many i below n have P -/
noncomputable def ma_cp (P : Nat → Prop) (n : Nat) : Nat := ma_cn (fun i => ma_dc (P i)) n
theorem ma_cp_0 (P : Nat → Prop) : ma_cp P 0 = 0 := rfl
theorem ma_cp_t {P : Nat → Prop} {n : Nat} (h : P n) : ma_cp P (n + 1) = ma_cp P n + 1 := by
  unfold ma_cp
  rw [ma_cn_s, if_pos (ma_dc_t h)]
theorem ma_cp_f {P : Nat → Prop} {n : Nat} (h : ¬ P n) : ma_cp P (n + 1) = ma_cp P n := by
  unfold ma_cp
  rw [ma_cn_s, ma_dc_f h]
  rfl
theorem ma_cp_congr {P Q : Nat → Prop} {n : Nat} (h : ∀ i, i < n → (P i ↔ Q i)) : ma_cp P n = ma_cp Q n :=
  ma_cn_congr (fun i hi => by rw [propext (h i hi)])
theorem ma_cp_le (P : Nat → Prop) (n : Nat) : ma_cp P n ≤ n := ma_cn_le _ n
theorem ma_cp_inj {P Q : Nat → Prop} {n m : Nat} (R : Nat → Nat → Prop) (h : ∀ i, i < n → P i → ∃ a, a < m ∧ Q a ∧ R i a) (hR : ∀ i j a, i < n → j < n → P i → P j → R i a → R j a → i = j) : ma_cp P n ≤ ma_cp Q m := by
  refine ma_cn_inj _ R n m _ (fun i hi hp => ?_) (fun i j a hi hj h1 h2 => hR i j a hi hj (ma_dc_iff.mp h1) (ma_dc_iff.mp h2))
  obtain ⟨a, ha, hq, hr⟩ := h i hi (ma_dc_iff.mp hp)
  exact ⟨a, ha, ma_dc_t hq, hr⟩
theorem ma_cp_split (P Q : Nat → Prop) (n : Nat) : ma_cp P n = ma_cp (fun i => P i ∧ Q i) n + ma_cp (fun i => P i ∧ ¬ Q i) n := by
  induction n with
  | zero => rfl
  | succ n ih =>
    by_cases hp : P n
    · by_cases hq : Q n
      · rw [ma_cp_t hp, ma_cp_t (P := fun i => P i ∧ Q i) ⟨hp, hq⟩, ma_cp_f (P := fun i => P i ∧ ¬ Q i) (fun h => h.2 hq), ih]
        omega
      · rw [ma_cp_t hp, ma_cp_f (P := fun i => P i ∧ Q i) (fun h => hq h.2), ma_cp_t (P := fun i => P i ∧ ¬ Q i) ⟨hp, hq⟩, ih]
        omega
    · rw [ma_cp_f hp, ma_cp_f (P := fun i => P i ∧ Q i) (fun h => hp h.1), ma_cp_f (P := fun i => P i ∧ ¬ Q i) (fun h => hp h.1), ih]
theorem ma_cp_none {P : Nat → Prop} {n : Nat} (h : ∀ i, i < n → ¬ P i) : ma_cp P n = 0 :=
  ma_cn_0 (fun i hi => ma_dc_f (h i hi))
theorem ma_cp_up {P : Nat → Prop} {n m : Nat} (hm : n ≤ m) (h : ∀ i, n ≤ i → i < m → ¬ P i) : ma_cp P m = ma_cp P n := by
  obtain ⟨k, rfl⟩ : ∃ k, m = n + k := ⟨m - n, by omega⟩
  exact ma_cn_up k (fun i h1 h2 => ma_dc_f (h i h1 h2))
/-- a closed cycle lies one dimension below its piece -/
theorem ma_J_hom {b d e : Nat → Nat} {n i : Nat} (hF : ma_Fr b d n) (h : ma_J b d e n) (hi : i < n) : ∀ a, (e i).testBit a = true → d a + 1 = d i := by
  have h1 : ∀ a, (e i ^^^ b i).testBit a = true → d a + 1 = d i := ma_Sp_bit (Q := fun a => d a + 1 = d i) (fun j hj a ha => by
    by_cases q : d j = d i
    · rw [ma_fk_t q] at ha
      rw [← q]
      exact (hF j (by omega)).2.1 a ha
    · rw [ma_fk_f q, Nat.zero_testBit] at ha
      exact Bool.noConfusion ha) (h.1 i hi).2.2
  intro a ha
  cases hb : (b i).testBit a
  · exact h1 a (by rw [Nat.testBit_xor, ha, hb]; rfl)
  · exact (hF i hi).2.1 a hb
/-- closers of dimension K below t whose cycle ends at f or above -/
noncomputable def ma_rf (e d : Nat → Nat) (K t f : Nat) : Nat := ma_cp (fun m => d m = K ∧ ∃ a, f ≤ a ∧ ma_T (e m) a) t
/-- openers below i of dimension K that nothing below j closes -/
noncomputable def ma_la (e d : Nat → Nat) (K i j : Nat) : Nat := ma_cp (fun a => e a = 0 ∧ d a = K ∧ ∀ m, m < j → ¬ ma_T (e m) a) i
theorem ma_last {b d e : Nat → Nat} {n : Nat} (hF : ma_Fr b d n) (h : ma_J b d e n) (K : Nat) {i j : Nat} (hij : i ≤ j) (hj : j ≤ n) :
    ma_cp (fun a => d a = K) i + ma_rf e d (K + 1) j i = ma_la e d K i j + ma_rf e d K i 0 + ma_rf e d (K + 1) j 0 := by
  have h0 : ma_rf e d K i 0 = ma_cp (fun a => d a = K ∧ e a ≠ 0) i :=
    ma_cp_congr (fun a _ => ⟨fun ⟨q, w, _, hT⟩ => ⟨q, ma_T_ne hT⟩, fun ⟨q, w⟩ => ⟨q, (ma_T_ex w).elim fun x hx => ⟨x, Nat.zero_le x, hx⟩⟩⟩)
  have h1 : ma_cp (fun a => (d a = K ∧ ¬ e a ≠ 0) ∧ ∀ m, m < j → ¬ ma_T (e m) a) i = ma_la e d K i j :=
    ma_cp_congr (fun a _ => ⟨fun q => ⟨Classical.not_not.mp q.1.2, q.1.1, q.2⟩, fun q => ⟨⟨q.2.1, fun w => w q.1⟩, q.2.2⟩⟩)
  have h2 : ma_rf e d (K + 1) j 0 = ma_rf e d (K + 1) j i + ma_cp (fun m => d m = K + 1 ∧ ∃ a, a < i ∧ ma_T (e m) a) j := by
    unfold ma_rf
    rw [ma_cp_split (fun m => d m = K + 1 ∧ ∃ a, 0 ≤ a ∧ ma_T (e m) a) (fun m => ∃ a, i ≤ a ∧ ma_T (e m) a) j]
    have q1 : ma_cp (fun m => (d m = K + 1 ∧ ∃ a, 0 ≤ a ∧ ma_T (e m) a) ∧ ∃ a, i ≤ a ∧ ma_T (e m) a) j = ma_cp (fun m => d m = K + 1 ∧ ∃ a, i ≤ a ∧ ma_T (e m) a) j :=
      ma_cp_congr (fun m _ => ⟨fun q => ⟨q.1.1, q.2⟩, fun ⟨q, a, w, hT⟩ => ⟨⟨q, a, Nat.zero_le a, hT⟩, a, w, hT⟩⟩)
    have q2 : ma_cp (fun m => (d m = K + 1 ∧ ∃ a, 0 ≤ a ∧ ma_T (e m) a) ∧ ¬ ∃ a, i ≤ a ∧ ma_T (e m) a) j = ma_cp (fun m => d m = K + 1 ∧ ∃ a, a < i ∧ ma_T (e m) a) j := by
      refine ma_cp_congr (fun m _ => ⟨fun ⟨⟨q, a, _, hT⟩, w⟩ => ⟨q, a, ?_, hT⟩, fun ⟨q, a, w, hT⟩ => ⟨⟨q, a, Nat.zero_le a, hT⟩, fun ⟨x, hx, hT'⟩ => ?_⟩⟩)
      · apply Classical.byContradiction
        intro z
        exact w ⟨a, by omega, hT⟩
      · have := ma_T_eq hT hT'
        omega
    rw [q1, q2]
  have h3 : ma_cp (fun a => (d a = K ∧ ¬ e a ≠ 0) ∧ ¬ ∀ m, m < j → ¬ ma_T (e m) a) i = ma_cp (fun m => d m = K + 1 ∧ ∃ a, a < i ∧ ma_T (e m) a) j := by
    apply Nat.le_antisymm
    · refine ma_cp_inj (fun a m => ma_T (e m) a) (fun a ha ⟨⟨q1, _⟩, q2⟩ => ?_) (fun a a' m _ _ _ _ w1 w2 => ma_T_eq w1 w2)
      apply Classical.byContradiction
      intro q3
      apply q2
      intro m hm hT
      have := ma_J_hom hF h (i := m) (by omega) a hT.1
      exact q3 ⟨m, hm, ⟨by omega, a, ha, hT⟩, hT⟩
    · refine ma_cp_inj (fun m a => ma_T (e m) a) (fun m hm ⟨q, a, ha, hT⟩ => ?_) (fun m m' a hm hm' _ _ w1 w2 => h.2.1 m m' a (by omega) (by omega) w1 w2)
      have := ma_J_hom hF h (i := m) (by omega) a hT.1
      exact ⟨a, ha, ⟨⟨by omega, fun w => w (h.2.2 m a (by omega) hT)⟩, fun w => w m hm hT⟩, hT⟩
  rw [h2, h0, ma_cp_split (fun a => d a = K) (fun a => e a ≠ 0) i, ma_cp_split (fun a => d a = K ∧ ¬ e a ≠ 0) (fun a => ∀ m, m < j → ¬ ma_T (e m) a) i, h1, h3]
  omega
theorem ma_la_op {b d e : Nat → Nat} {n i : Nat} (h : ma_J b d e n) (hi : i < n) (h0 : e i = 0) : ma_la e d (d i) (i + 1) (i + 1) = ma_la e d (d i) i i + 1 := by
  unfold ma_la
  rw [ma_cp_t (P := fun a => e a = 0 ∧ d a = d i ∧ ∀ m, m < i + 1 → ¬ ma_T (e m) a) ⟨h0, rfl, fun m hm hT => by
    have := ma_J_top h (i := m) (by omega) hT
    omega⟩]
  congr 1
  refine ma_cp_congr (fun a _ => ⟨fun ⟨q1, q2, q3⟩ => ⟨q1, q2, fun m hm => q3 m (by omega)⟩, fun ⟨q1, q2, q3⟩ => ⟨q1, q2, fun m hm hT => ?_⟩⟩)
  by_cases w : m = i
  · rw [w, h0] at hT; exact ma_T_0 hT
  · exact q3 m (by omega) hT
theorem ma_la_cl {b d e : Nat → Nat} {n i : Nat} (hF : ma_Fr b d n) (h : ma_J b d e n) (hi : i < n) (h0 : e i ≠ 0) : ma_la e d (d i) (i + 1) (i + 1) = ma_la e d (d i) i i := by
  unfold ma_la
  rw [ma_cp_f (P := fun a => e a = 0 ∧ d a = d i ∧ ∀ m, m < i + 1 → ¬ ma_T (e m) a) (fun q => h0 q.1)]
  refine ma_cp_congr (fun a _ => ⟨fun ⟨q1, q2, q3⟩ => ⟨q1, q2, fun m hm => q3 m (by omega)⟩, fun ⟨q1, q2, q3⟩ => ⟨q1, q2, fun m hm hT => ?_⟩⟩)
  by_cases w : m = i
  · rw [w] at hT
    have := ma_J_hom hF h hi a hT.1
    omega
  · exact q3 m (by omega) hT
theorem ma_la_pt {b d e : Nat → Nat} {n i j : Nat} (h : ma_J b d e n) (hj : j < n) (hT : ma_T (e j) i) : ma_la e d (d i) (i + 1) j = ma_la e d (d i) i j + 1 ∧ ma_la e d (d i) (i + 1) (j + 1) = ma_la e d (d i) i (j + 1) := by
  unfold ma_la
  constructor
  · exact ma_cp_t (P := fun a => e a = 0 ∧ d a = d i ∧ ∀ m, m < j → ¬ ma_T (e m) a) ⟨h.2.2 j i hj hT, rfl, fun m hm hT' => by
      have := h.2.1 m j i (by omega) hj hT' hT
      omega⟩
  · exact ma_cp_f (P := fun a => e a = 0 ∧ d a = d i ∧ ∀ m, m < j + 1 → ¬ ma_T (e m) a) (fun q => q.2.2 j (by omega) hT)
theorem ma_la_np {d e : Nat → Nat} {i j : Nat} (hT : ¬ ma_T (e j) i) : (ma_la e d (d i) (i + 1) j = ma_la e d (d i) i j + 1 ∧ ma_la e d (d i) (i + 1) (j + 1) = ma_la e d (d i) i (j + 1) + 1) ∨ (ma_la e d (d i) (i + 1) j = ma_la e d (d i) i j ∧ ma_la e d (d i) (i + 1) (j + 1) = ma_la e d (d i) i (j + 1)) := by
  unfold ma_la
  by_cases q : e i = 0 ∧ d i = d i ∧ ∀ m, m < j → ¬ ma_T (e m) i
  · refine Or.inl ⟨ma_cp_t (P := fun a => e a = 0 ∧ d a = d i ∧ ∀ m, m < j → ¬ ma_T (e m) a) q, ma_cp_t (P := fun a => e a = 0 ∧ d a = d i ∧ ∀ m, m < j + 1 → ¬ ma_T (e m) a) ⟨q.1, rfl, fun m hm hT' => ?_⟩⟩
    by_cases w : m = j
    · exact hT (w ▸ hT')
    · exact q.2.2 m (by omega) hT'
  · exact Or.inr ⟨ma_cp_f (P := fun a => e a = 0 ∧ d a = d i ∧ ∀ m, m < j → ¬ ma_T (e m) a) q, ma_cp_f (P := fun a => e a = 0 ∧ d a = d i ∧ ∀ m, m < j + 1 → ¬ ma_T (e m) a) (fun w => q ⟨w.1, rfl, fun m hm => w.2.2 m (by omega)⟩)⟩
end
section
/-- q is the first bit of x -/
def ma_L (x q : Nat) : Prop := x.testBit q = true ∧ ∀ p, p < q → x.testBit p = false
theorem ma_L_ex {x : Nat} (h : x ≠ 0) : ∃ q, ma_L x q := by
  obtain ⟨q, h1, h2⟩ := pk_least (fun q => x.testBit q = true) (Nat.exists_testBit_of_ne_zero h)
  refine ⟨q, h1, fun p hp => ?_⟩
  cases hb : x.testBit p
  · rfl
  · exact absurd hb (h2 p hp)
theorem ma_L_eq {x p q : Nat} (h : ma_L x p) (h' : ma_L x q) : p = q := by
  rcases Nat.lt_trichotomy p q with w | w | w
  · have := h'.2 p w
    rw [h.1] at this
    exact Bool.noConfusion this
  · exact w
  · have := h.2 q w
    rw [h'.1] at this
    exact Bool.noConfusion this
/-- the columns: the first bit of each is in no later one -/
def ma_C (c : Nat → Nat) (r : Nat) : Prop := ∀ i, i < r → ∃ q, ma_L (c i) q ∧ ∀ j, i < j → j < r → (c j).testBit q = false
theorem ma_C_le {c : Nat → Nat} {r s : Nat} (h : ma_C c r) (hs : s ≤ r) : ma_C c s := fun i hi => by
  obtain ⟨q, h1, h2⟩ := h i (by omega)
  exact ⟨q, h1, fun j hj hj' => h2 j hj (by omega)⟩
theorem ma_C_ind {c : Nat → Nat} {r : Nat} : ma_C c r → ∀ x, ma_Sp c r x → (∀ i q, i < r → ma_L (c i) q → x.testBit q = false) → x = 0 := by
  induction r with
  | zero =>
    intro _ x hx _
    obtain ⟨w, _, rfl⟩ := hx
    rfl
  | succ r ih =>
    intro hC x hx hz
    obtain ⟨w, _, rfl⟩ := hx
    have IH := ih (ma_C_le hC (Nat.le_succ r))
    cases hw : w.testBit r
    · rw [ma_lin_f hw] at hz ⊢
      exact IH _ (ma_Sp_of c r w) (fun i q hi => hz i q (by omega))
    · rw [ma_lin_t hw] at hz ⊢
      have h1 : ma_lin c r w = 0 := IH _ (ma_Sp_of c r w) (fun i q hi hq => by
        have h2 := hz i q (by omega) hq
        obtain ⟨q', h3, h4⟩ := hC i (by omega)
        rw [ma_L_eq h3 hq] at h4
        rw [Nat.testBit_xor, h4 r hi (by omega), Bool.xor_false] at h2
        exact h2)
      rw [h1, Nat.zero_xor] at hz ⊢
      obtain ⟨q, h3, _⟩ := hC r (by omega)
      have := hz r q (by omega) h3
      rw [h3.1] at this
      exact Bool.noConfusion this
/-- x is y without the columns -/
def ma_Rc (c : Nat → Nat) (r y x : Nat) : Prop := ma_Sp c r (x ^^^ y) ∧ ∀ i q, i < r → ma_L (c i) q → x.testBit q = false
/-- the columns after t of f -/
def ma_R (f : Nat → Nat) (t : Nat) (c : Nat → Nat) (r : Nat) : Prop := ma_C c r ∧ (∀ x, ma_Sp c r x ↔ ma_Sp f t x) ∧ r = ma_cp (fun m => ¬ ma_Sp f m (f m)) t ∧ ∀ i, i < r → c i < 2 ^ 26
theorem ma_Rc_0 {f c : Nat → Nat} {t r y x : Nat} (hR : ma_R f t c r) (hx : ma_Rc c r y x) : x = 0 ↔ ma_Sp f t y := by
  constructor
  · intro q
    have h1 := hx.1
    rw [q, Nat.zero_xor] at h1
    exact (hR.2.1 y).mp h1
  · intro q
    have h1 := ma_Sp_x hx.1 ((hR.2.1 y).mpr q)
    rw [ma_x2] at h1
    exact ma_C_ind hR.1 x h1 hx.2
theorem ma_Rc_lt {f c : Nat → Nat} {t r y x : Nat} (hR : ma_R f t c r) (hx : ma_Rc c r y x) (hy : y < 2 ^ 26) : x < 2 ^ 26 := by
  have h1 := Nat.xor_lt_two_pow (ma_Sp_lt hR.2.2.2 hx.1) hy
  rw [ma_x2] at h1
  exact h1
theorem ma_R_0 (f c : Nat → Nat) : ma_R f 0 c 0 := by
  refine ⟨fun i hi => absurd hi (Nat.not_lt_zero i), fun x => ?_, rfl, fun i hi => absurd hi (Nat.not_lt_zero i)⟩
  constructor
  · intro ⟨w, hw, e⟩; exact ⟨w, hw, e⟩
  · intro ⟨w, hw, e⟩; exact ⟨w, hw, e⟩
theorem ma_R_s0 {f c : Nat → Nat} {t r : Nat} (hR : ma_R f t c r) (h : ma_Sp f t (f t)) : ma_R f (t + 1) c r := by
  refine ⟨hR.1, fun x => ?_, ?_, hR.2.2.2⟩
  · rw [hR.2.1 x]
    refine ⟨ma_Sp_up (Nat.le_succ t), ma_Sp_sub (fun i hi => ?_)⟩
    by_cases q : i = t
    · rw [q]; exact h
    · exact ma_Sp_g (by omega)
  · rw [ma_cp_f (P := fun m => ¬ ma_Sp f m (f m)) (fun w => w h)]
    exact hR.2.2.1
theorem ma_R_s1 {f c : Nat → Nat} {t r x : Nat} (hR : ma_R f t c r) (hx : ma_Rc c r (f t) x) (h0 : x ≠ 0) (hl : x < 2 ^ 26) : ma_R f (t + 1) (ma_put c r x) (r + 1) := by
  have hn : ¬ ma_Sp f t (f t) := fun w => h0 ((ma_Rc_0 hR hx).mpr w)
  have hsub : ∀ y, ma_Sp c r y → ma_Sp (ma_put c r x) (r + 1) y := fun y hy =>
    ma_Sp_sub (fun i hi => by
      have := ma_Sp_g (f := ma_put c r x) (n := r + 1) (i := i) (by omega)
      rw [ma_put_n (by omega)] at this
      exact this) hy
  have hxin : ma_Sp (ma_put c r x) (r + 1) x := by
    have := ma_Sp_g (f := ma_put c r x) (n := r + 1) (i := r) (by omega)
    rw [ma_put_s] at this
    exact this
  refine ⟨fun i hi => ?_, fun y => ?_, ?_, fun i hi => ?_⟩
  · by_cases q : i = r
    · subst q
      obtain ⟨w, hw⟩ := ma_L_ex h0
      exact ⟨w, by rw [ma_put_s]; exact hw, fun j h1 h2 => by omega⟩
    · obtain ⟨w, hw, h2⟩ := hR.1 i (by omega)
      refine ⟨w, by rw [ma_put_n q]; exact hw, fun j h3 h4 => ?_⟩
      by_cases q' : j = r
      · subst q'
        rw [ma_put_s]
        exact hx.2 i w (by omega) hw
      · rw [ma_put_n q']
        exact h2 j h3 (by omega)
  · constructor
    · intro hy
      refine ma_Sp_sub (fun i hi => ?_) hy
      by_cases q : i = r
      · rw [q, ma_put_s]
        have h1 := ma_Sp_x (ma_Sp_up (Nat.le_succ t) ((hR.2.1 _).mp hx.1)) (ma_Sp_g (f := f) (Nat.lt_succ_self t))
        rw [ma_x2] at h1
        exact h1
      · rw [ma_put_n q]
        exact ma_Sp_up (Nat.le_succ t) ((hR.2.1 _).mp (ma_Sp_g (by omega)))
    · intro hy
      refine ma_Sp_sub (fun i hi => ?_) hy
      by_cases q : i = t
      · rw [q]
        have h1 := ma_Sp_x (hsub _ hx.1) hxin
        rw [Nat.xor_comm x (f t), ma_x2] at h1
        exact h1
      · exact hsub _ ((hR.2.1 _).mpr (ma_Sp_g (by omega)))
  · rw [ma_cp_t (P := fun m => ¬ ma_Sp f m (f m)) hn, hR.2.2.1]
  · by_cases q : i = r
    · rw [q, ma_put_s]; exact hl
    · rw [ma_put_n q]; exact hR.2.2.2 i (by omega)
/-- x without its bits below s -/
def ma_hi (s x : Nat) : Nat := x / 2 ^ s * 2 ^ s
theorem ma_hi_bit (s x p : Nat) : (ma_hi s x).testBit p = (decide (s ≤ p) && x.testBit p) := by
  unfold ma_hi
  rw [Nat.testBit_mul_two_pow]
  by_cases h : s ≤ p
  · rw [Nat.testBit_div_two_pow, Nat.sub_add_cancel h]
  · simp [h]
theorem ma_hi_xor (s x y : Nat) : ma_hi s (x ^^^ y) = ma_hi s x ^^^ ma_hi s y := by
  apply Nat.eq_of_testBit_eq
  intro p
  rw [ma_hi_bit, Nat.testBit_xor, Nat.testBit_xor, ma_hi_bit, ma_hi_bit]
  cases decide (s ≤ p) <;> cases x.testBit p <;> cases y.testBit p <;> rfl
theorem ma_hi_0 (s : Nat) : ma_hi s 0 = 0 := by
  unfold ma_hi
  rw [Nat.zero_div, Nat.zero_mul]
theorem ma_hi_le (s x : Nat) : ma_hi s x ≤ x := Nat.div_mul_le_self x _
theorem ma_hi_z (x : Nat) : ma_hi 0 x = x := by
  unfold ma_hi
  rw [Nat.pow_zero, Nat.div_one, Nat.mul_one]
theorem ma_hi_T {s x a : Nat} : ma_T (ma_hi s x) a ↔ s ≤ a ∧ ma_T x a := by
  constructor
  · intro h
    have h1 := h.1
    rw [ma_hi_bit, Bool.and_eq_true, decide_eq_true_eq] at h1
    refine ⟨h1.1, h1.2, Nat.lt_pow_two_of_testBit _ (fun p hp => ?_)⟩
    have h2 := ma_bf h.2 hp
    rw [ma_hi_bit, decide_eq_true (by omega : s ≤ p), Bool.true_and] at h2
    exact h2
  · intro ⟨h1, h2⟩
    refine ⟨?_, Nat.lt_of_le_of_lt (ma_hi_le s x) h2.2⟩
    rw [ma_hi_bit, h2.1, decide_eq_true h1]
    rfl
theorem ma_hi_lin (s : Nat) (f : Nat → Nat) (n c : Nat) : ma_hi s (ma_lin f n c) = ma_lin (fun i => ma_hi s (f i)) n c := by
  induction n with
  | zero => exact ma_hi_0 s
  | succ n ih =>
    cases hc : c.testBit n
    · rw [ma_lin_f hc, ma_lin_f hc, ih]
    · rw [ma_lin_t hc, ma_lin_t hc, ma_hi_xor, ih]
theorem ma_hi_Sp {s : Nat} {f : Nat → Nat} {n x : Nat} (h : ma_Sp f n x) : ma_Sp (fun i => ma_hi s (f i)) n (ma_hi s x) := by
  obtain ⟨c, hc, rfl⟩ := h
  exact ⟨c, hc, ma_hi_lin s f n c⟩
/-- the borders of dimension K without the bits below s -/
def ma_F (b d : Nat → Nat) (K s : Nat) : Nat → Nat := fun i => ma_hi s (ma_fk b d K i)
theorem ma_F_t {b d : Nat → Nat} {K s i : Nat} (h : d i = K) : ma_F b d K s i = ma_hi s (b i) := by
  unfold ma_F
  rw [ma_fk_t h]
theorem ma_F_f {b d : Nat → Nat} {K s i : Nat} (h : ¬ d i = K) : ma_F b d K s i = 0 := by
  unfold ma_F
  rw [ma_fk_f h, ma_hi_0]
theorem ma_F_tri {b d e : Nat → Nat} {n : Nat} (h : ma_J b d e n) (K s : Nat) : ∀ i, i < n → ma_Sp (ma_F b d K s) i (ma_F e d K s i ^^^ ma_F b d K s i) := by
  intro i hi
  have h1 := ma_hi_Sp (s := s) (ma_J_tri h K i hi)
  rw [ma_hi_xor] at h1
  exact h1
theorem ma_F_in {b d e : Nat → Nat} {n : Nat} (h : ma_J b d e n) (K s : Nat) {m : Nat} (hm : m < n) : ¬ ma_Sp (ma_F b d K s) m (ma_F b d K s m) ↔ d m = K ∧ ∃ a, s ≤ a ∧ ma_T (e m) a := by
  have htri : ∀ i, i < m → ma_Sp (ma_F b d K s) i (ma_F e d K s i ^^^ ma_F b d K s i) := fun i hi => ma_F_tri h K s i (by omega)
  have hd : ∀ i j a, i < m + 1 → j < m + 1 → ma_T (ma_F e d K s i) a → ma_T (ma_F e d K s j) a → i = j := fun i j a hi hj h1 h2 =>
    h.2.1 i j a (by omega) (by omega) (ma_fk_T.mp (ma_hi_T.mp h1).2).2 (ma_fk_T.mp (ma_hi_T.mp h2).2).2
  have h0 : ma_Sp (ma_F b d K s) m (ma_F b d K s m) ↔ ma_F e d K s m = 0 := by
    constructor
    · intro q
      have h1 := ma_Sp_x (ma_F_tri h K s m hm) q
      rw [ma_x2] at h1
      have h2 := ma_Sp_tri2 htri _ h1
      apply Classical.byContradiction
      intro w
      obtain ⟨a, ha⟩ := ma_T_ex w
      obtain ⟨i, hi, hT⟩ := ma_ech (fun i j a hi hj => hd i j a (by omega) (by omega)) _ a h2 ha
      have := hd i m a (by omega) (by omega) hT ha
      omega
    · intro q
      have h1 := ma_F_tri h K s m hm
      rw [q, Nat.zero_xor] at h1
      exact h1
  rw [h0]
  constructor
  · intro q
    obtain ⟨a, ha⟩ := ma_T_ex q
    have h1 := ma_hi_T.mp ha
    have h2 := ma_fk_T.mp h1.2
    exact ⟨h2.1, a, h1.1, h2.2⟩
  · intro ⟨q, a, ha, hT⟩ w
    have h1 : ma_T (ma_F e d K s m) a := ma_hi_T.mpr ⟨ha, ma_fk_T.mpr ⟨q, hT⟩⟩
    rw [w] at h1
    exact ma_T_0 h1
theorem ma_F_rf {b d e : Nat → Nat} {n : Nat} (h : ma_J b d e n) (K s : Nat) {t : Nat} (ht : t ≤ n) : ma_cp (fun m => ¬ ma_Sp (ma_F b d K s) m (ma_F b d K s m)) t = ma_rf e d K t s :=
  ma_cp_congr (fun m hm => ma_F_in h K s (by omega))
end
section
def ma_arr (a : Nat → Int32) (g : Nat → Nat) (n : Nat) : Prop := ∀ i, i < n → a i = nI (g i)
theorem ma_arr_c {a : Nat → Int32} {g : Nat → Nat} {n i : Nat} (h : ma_arr a g n) (hi : i < n) (hn : n ≤ 26) : a (nI i).toNatClampNeg = nI (g i) := by
  rw [nI_clamp (by omega)]
  exact h i hi
theorem ma_arr_put {a : Nat → Int32} {g : Nat → Nat} {n s : Nat} (h : ma_arr a g n) : ma_arr (upd a n (nI s)) (ma_put g n s) (n + 1) := by
  intro i hi
  by_cases q : i = n
  · rw [q, pk_us, ma_put_s]
  · rw [pk_un q, ma_put_n q]
    exact h i (by omega)
theorem ma_arr_up {a : Nat → Int32} {g : Nat → Nat} {n : Nat} {x : Int32} (h : ma_arr a g n) : ma_arr (upd a n x) g n := by
  intro i hi
  rw [pk_un (by omega)]
  exact h i hi
def ma_ok (s : Nat) : Prop := 1 ≤ s ∧ s < 64 ∧ ma_pop s ≤ 4
def ma_pq (s : Nat) : Nat → Nat
  | 0 => 0
  | p + 1 => ma_pq s p + s / 2 ^ p % 2
theorem ma_pq6 (s : Nat) : ma_pq s 6 = ma_pop s := by
  simp [ma_pq, ma_pop]
theorem ma_pop_le (s : Nat) : ma_pop s ≤ 6 := by
  unfold ma_pop
  omega
theorem ma_pop_pos : ∀ s, s < 64 → 1 ≤ s → 1 ≤ ma_pop s := by decide +kernel
theorem ma_pqs {s p : Nat} (hs : s < 64) (hp : p < 6) : nI (ma_pq s p) + ((nI s >>> (nI p &&& 31)) &&& 1) = nI (ma_pq s (p + 1)) := by
  rw [ma_shr1 (by omega) (by omega), nI_add]
  rfl
theorem mx_pts {post : Int32 → Prop} {s : Nat} (hs : s < 64) (h : post (nI (ma_pop s))) : ∀ d p, p + d = 6 → wX_pointsIn_4 post (nI s) (d + 1) (nI (ma_pq s p)) (nI p) := by
  intro d
  induction d with
  | zero =>
    intro p hp
    have hp' : p = 6 := by omega
    subst hp'
    rw [ma_pq6]
    exact br_t (by decide) h
  | succ d ih =>
    intro p hp
    exact br_f (nI_ge (b := 6) (by omega) (by decide)) (nm_r (ma_pqs hs (by omega)) (nm_r (nI_1 p) (ih (p + 1) (by omega))))
theorem mx_points {post : Int32 → Prop} {s : Nat} (hs : s < 64) (h : post (nI (ma_pop s))) : wpX_pointsIn post (nI s) := by
  unfold wpX_pointsIn
  exact ⟨7, mx_pts hs h 6 0 rfl⟩
theorem mx_dim {post : Int32 → Prop} {s : Nat} {x : Int32} (hx : x = nI s) (hs : s < 64) (h1 : 1 ≤ s) (h : post (nI (ma_pop s - 1))) : wpX_dimensionOf post x := by
  subst hx
  unfold wpX_dimensionOf
  refine mx_points hs ?_
  rw [show nI (ma_pop s) - 1 = nI (ma_pop s - 1) from pk_sub (b := 1) (ma_pop_pos s hs h1)]
  exact h
theorem ma_v63 {v : Int32} (h1 : ¬ v < 1) (h2 : ¬ 63 < v) : ∃ s, s < 64 ∧ 1 ≤ s ∧ v = nI s := by
  obtain ⟨s, hs, rfl⟩ := nI_of2 (M := 63) (n := 63) (by decide) (fun h => h1 (Int32.lt_trans h (by decide))) (Int32.not_lt.mp h2)
  refine ⟨s, by omega, ?_, rfl⟩
  apply Classical.byContradiction
  intro w
  have w' : s = 0 := by omega
  subst w'
  exact h1 (by decide)
theorem mx_isPiece_t {post : Int32 → Prop} {s : Nat} (h : ma_ok s) (hp : post 1) : wpX_isPiece post (nI s) := by
  obtain ⟨h1, h2, h3⟩ := h
  unfold wpX_isPiece
  exact br_f (nI_nlt (b := 1) h1 (by omega)) (br_f (nI_nlt (a := 63) (b := s) (by omega) (by decide)) (mx_points h2 (br_f (nI_nlt (a := 4) h3 (by decide)) hp)))
theorem mx_isPiece_f {post : Int32 → Prop} {v : Int32} (h : ∀ s, ma_ok s → v ≠ nI s) (hp : post 0) : wpX_isPiece post v := by
  unfold wpX_isPiece
  refine br_c (fun _ => hp) (fun h1 => br_c (fun _ => hp) (fun h2 => ?_))
  obtain ⟨s, hs, h1', rfl⟩ := ma_v63 h1 h2
  refine mx_points hs (br_c (fun _ => hp) (fun h4 => absurd rfl (h s ⟨h1', hs, ?_⟩)))
  apply Classical.byContradiction
  intro w
  have := ma_pop_le s
  exact h4 (nI_lt (a := 4) (by omega) (by omega))
theorem mx_num_l {post : Int32 → Prop} {g : Nat → Nat} {n s : Nat} {ag ab ac ap : Nat → Int32} (hn : n ≤ 26) (hg : ma_arr ag g n) (hgl : ∀ i, i < n → g i < 64) (hs : s < 64) (h1 : ∀ i, i < n → g i = s → post (nI i)) (h0 : (∀ i, i < n → g i ≠ s) → post (-1)) : ∀ d i, i + d = n → (∀ j, j < i → g j ≠ s) → wX_numberOf_2 post (nI s) (nI n) ag ab ac ap (d + 1) (nI i) := by
  intro d
  induction d with
  | zero =>
    intro i hi hj
    have hi' : i = n := by omega
    subst hi'
    exact br_t (nI_le (Nat.le_refl i) (by omega)) (h0 hj)
  | succ d ih =>
    intro i hi hj
    refine br_f (nI_ge (by omega) (by omega)) ⟨vp_in_nI (by omega) (by decide), ?_⟩
    by_cases e : g i = s
    · exact br_t (by rw [ma_arr_c hg (by omega) hn, e]) (h1 i (by omega) e)
    · refine br_f (fun w => e ?_) (nm_r (nI_1 i) (ih (i + 1) (by omega) (fun j hj' => ?_)))
      · rw [ma_arr_c hg (by omega) hn] at w
        exact (nI_eq (Nat.lt_trans (hgl i (by omega)) (by decide)) (Nat.lt_trans hs (by decide))).mp w
      · by_cases q : j = i
        · rw [q]; exact e
        · exact hj j (by omega)
theorem mx_num {post : Int32 → Prop} {g : Nat → Nat} {n s : Nat} {ag ab ac ap : Nat → Int32} (hn : n ≤ 26) (hg : ma_arr ag g n) (hgl : ∀ i, i < n → g i < 64) (hs : s < 64) (h1 : ∀ i, i < n → g i = s → post (nI i)) (h0 : (∀ i, i < n → g i ≠ s) → post (-1)) : wpX_numberOf post (nI n, ag, ab, ac, ap) (nI s) := by
  unfold wpX_numberOf
  exact ⟨n + 1, mx_num_l hn hg hgl hs h1 h0 n 0 (by omega) (fun j hj => absurd hj (Nat.not_lt_zero j))⟩
theorem ma_nm1 {m : Nat} (h : m < 2 ^ 31) : ¬ nI m = -1 := fun e => by
  have h1 := nI_pos h
  rw [e] at h1
  exact h1 (by decide)
/-- the sides of s by its points below p -/
noncomputable def ma_sp (g : Nat → Nat) (s p : Nat) : Nat → Bool := fun j => ma_dc (g j ≠ 0 ∧ ∃ q, q < p ∧ s.testBit q = true ∧ g j = s ^^^ 2 ^ q)
theorem ma_sp_0 (g : Nat → Nat) (s n : Nat) : ma_of (ma_sp g s 0) n = 0 := by
  apply Nat.eq_of_testBit_eq
  intro j
  rw [ma_of_bit, Nat.zero_testBit]
  rw [show ma_sp g s 0 j = false from ma_dc_f (fun ⟨_, q, hq, _⟩ => Nat.not_lt_zero q hq), Bool.and_false]
theorem ma_sp_skip {g : Nat → Nat} {s p n : Nat} (h : ¬ (s.testBit p = true ∧ s ^^^ 2 ^ p ≠ 0)) : ma_of (ma_sp g s (p + 1)) n = ma_of (ma_sp g s p) n := by
  refine ma_of_congr (fun j _ => ?_)
  unfold ma_sp
  congr 1
  refine propext ⟨fun ⟨h0, q, hq, hb, e⟩ => ⟨h0, q, ?_, hb, e⟩, fun ⟨h0, q, hq, hb, e⟩ => ⟨h0, q, by omega, hb, e⟩⟩
  by_cases w : q = p
  · subst w
    exact absurd ⟨hb, e ▸ h0⟩ h
  · omega
theorem ma_sp_put {g : Nat → Nat} {s p n m : Nat} (hd : ∀ i j, i < n → j < n → g i = g j → i = j) (hb : s.testBit p = true) (hz : s ^^^ 2 ^ p ≠ 0) (hm : m < n) (e : g m = s ^^^ 2 ^ p) : ma_of (ma_sp g s (p + 1)) n = ma_of (ma_sp g s p) n ||| 2 ^ m := by
  apply Nat.eq_of_testBit_eq
  intro j
  rw [Nat.testBit_or, ma_of_bit, ma_of_bit, Nat.testBit_two_pow]
  by_cases hj : j < n
  · by_cases w : m = j
    · subst w
      have h1 : ma_sp g s (p + 1) m = true := ma_dc_t ⟨by rw [e]; exact hz, p, Nat.lt_succ_self p, hb, e⟩
      rw [h1]
      simp [hm]
    · have h1 : ma_sp g s (p + 1) j = ma_sp g s p j := by
        unfold ma_sp
        congr 1
        refine propext ⟨fun ⟨h0, q, hq, hb, e'⟩ => ⟨h0, q, ?_, hb, e'⟩, fun ⟨h0, q, hq, hb, e'⟩ => ⟨h0, q, by omega, hb, e'⟩⟩
        by_cases z : q = p
        · subst z
          exact absurd (hd m j hm hj (e.trans e'.symm)) w
        · omega
      rw [h1]
      simp [w]
  · have h2 : m ≠ j := by omega
    simp [hj, h2]
theorem ma_sp_6 (g : Nat → Nat) (s n : Nat) : ma_of (ma_sp g s 6) n = ma_of (fun j => ma_sd (g j) s) n := by
  refine ma_of_congr (fun j _ => ?_)
  cases h : ma_sd (g j) s
  · refine ma_dc_f (fun w => ?_)
    rw [ma_sd_iff.mpr w] at h
    exact Bool.noConfusion h
  · exact ma_dc_t (ma_sd_iff.mp h)
theorem ma_side : ∀ s, s < 64 → ∀ p, p < 6 → nI s &&& (((1 : Int32) <<< (nI p &&& 31)) ^^^ (-1)) = nI (if s.testBit p = true then s ^^^ 2 ^ p else s) := by decide +kernel
theorem mx_sides_l {post : Int32 → Prop} {g : Nat → Nat} {n s : Nat} {ag ab ac ap : Nat → Int32} (hn : n ≤ 26) (hG : ma_G g n) (hg : ma_arr ag g n) (hs : s < 64) (h1 : (∀ r, ma_sd r s = true → ∃ j, j < n ∧ g j = r) → post (nI (ma_of (fun j => ma_sd (g j) s) n))) (h0 : (∃ r, ma_sd r s = true ∧ ∀ j, j < n → g j ≠ r) → post (-1)) : ∀ d p, p + d = 6 → (∀ q, q < p → s.testBit q = true → s ^^^ 2 ^ q ≠ 0 → ∃ j, j < n ∧ g j = s ^^^ 2 ^ q) → wX_sidesOf_4 post (nI s) (nI n) ag ab ac ap (d + 1) (nI (ma_of (ma_sp g s p) n)) (nI p) := by
  intro d
  induction d with
  | zero =>
    intro p hp H
    have hp' : p = 6 := by omega
    subst hp'
    rw [ma_sp_6]
    refine br_t (by decide) (h1 (fun r hr => ?_))
    obtain ⟨h0, q, hq, hb, e⟩ := ma_sd_iff.mp hr
    obtain ⟨j, hj, e'⟩ := H q hq hb (e ▸ h0)
    exact ⟨j, hj, e'.trans e.symm⟩
  | succ d ih =>
    intro p hp H
    refine br_f (nI_ge (b := 6) (by omega) (by decide)) ?_
    by_cases hb : s.testBit p = true
    · refine nm_r ((ma_side s hs p (by omega)).trans (by rw [if_pos hb])) ?_
      have hlt := (ma_pp s hs p (by omega) hb).2
      refine br_f (fun w => ?_) ?_
      · have := (nI_eq (by omega) (by omega)).mp w
        omega
      · by_cases hz : s ^^^ 2 ^ p = 0
        · refine br_t (by rw [hz]; rfl) (nm_r (nI_1 p) ?_)
          have h2 := ih (p + 1) (by omega) (fun q hq hq1 hq2 => by
            by_cases w : q = p
            · rw [w] at hq2; exact absurd hz hq2
            · exact H q (by omega) hq1 hq2)
          rw [ma_sp_skip (fun w => w.2 hz)] at h2
          exact h2
        · refine br_f (nI_ne0 (by omega) (by omega)) ?_
          refine mx_num hn hg (fun i hi => (hG.1 i hi).2.1) (by omega) (fun m hm e => ?_) (fun hno => ?_)
          · refine br_f (ma_nm1 (by omega)) (nm_r ?_ (nm_r (nI_1 p) (ih (p + 1) (by omega) (fun q hq hq1 hq2 => ?_))))
            · rw [ma_sh1 m (by omega), ma_nor, ma_sp_put hG.2.1 hb hz hm e]
            · by_cases w : q = p
              · rw [w]; exact ⟨m, hm, e⟩
              · exact H q (by omega) hq1 hq2
          · exact br_t rfl (h0 ⟨_, ma_sd_iff.mpr ⟨hz, p, by omega, hb, rfl⟩, hno⟩)
    · refine nm_r ((ma_side s hs p (by omega)).trans (by rw [if_neg hb])) (br_t rfl (nm_r (nI_1 p) ?_))
      have h2 := ih (p + 1) (by omega) (fun q hq hq1 hq2 => by
        by_cases w : q = p
        · rw [w] at hq1; exact absurd hq1 hb
        · exact H q (by omega) hq1 hq2)
      rw [ma_sp_skip (fun w => hb w.1)] at h2
      exact h2
theorem mx_sides {post : Int32 → Prop} {g : Nat → Nat} {n s : Nat} {ag ab ac ap : Nat → Int32} (hn : n ≤ 26) (hG : ma_G g n) (hg : ma_arr ag g n) (hs : s < 64) (h1 : (∀ r, ma_sd r s = true → ∃ j, j < n ∧ g j = r) → post (nI (ma_of (fun j => ma_sd (g j) s) n))) (h0 : (∃ r, ma_sd r s = true ∧ ∀ j, j < n → g j ≠ r) → post (-1)) : wpX_sidesOf post (nI n, ag, ab, ac, ap) (nI s) := by
  unfold wpX_sidesOf
  have h2 := mx_sides_l (ab := ab) (ac := ac) (ap := ap) hn hG hg hs h1 h0 6 0 rfl (fun q hq => absurd hq (Nat.not_lt_zero q))
  rw [ma_sp_0] at h2
  exact ⟨7, h2⟩
end
section
theorem mx_has_t {post : Int32 → Prop} {c i : Nat} (hc : c < 2 ^ 31) (hi : i < 32) (h : c.testBit i = true) (hp : post 1) : wpX_has post (nI c) (nI i) := by
  unfold wpX_has
  exact br_t (ma_hb_t hc hi h) hp
theorem mx_has_f {post : Int32 → Prop} {c i : Nat} (hc : c < 2 ^ 31) (hi : i < 32) (h : c.testBit i = false) (hp : post 0) : wpX_has post (nI c) (nI i) := by
  unfold wpX_has
  exact br_f (by rw [ma_hb_f hc hi h]; decide) hp
theorem mx_isNum_t {post : Int32 → Prop} {n i : Nat} {x : Int32} {ag ab ac ap : Nat → Int32} (hn : n ≤ 26) (hi : i < n) (hx : x = nI i) (hp : post 1) : wpX_isNumber post (nI n, ag, ab, ac, ap) x := by
  subst hx
  unfold wpX_isNumber
  exact br_f (nI_pos (by omega)) (br_f (nI_ge hi (by omega)) hp)
theorem mx_isNum_f {post : Int32 → Prop} {n : Nat} {x : Int32} {ag ab ac ap : Nat → Int32} (hn : n ≤ 26) (hx : ∀ i, i < n → x ≠ nI i) (hp : post 0) : wpX_isNumber post (nI n, ag, ab, ac, ap) x := by
  unfold wpX_isNumber
  refine br_c (fun _ => hp) (fun h => br_c (fun _ => hp) (fun h2 => ?_))
  obtain ⟨j, hj, rfl⟩ := nI_of h
  refine absurd rfl (hx j ?_)
  apply Classical.byContradiction
  intro w
  exact h2 (nI_le (by omega) hj)
theorem mx_isNum_m {post : Int32 → Prop} {n : Nat} {x : Int32} {ag ab ac ap : Nat → Int32} (hn : n ≤ 26) (hx : x = -1) (hp : post 0) : wpX_isNumber post (nI n, ag, ab, ac, ap) x :=
  mx_isNum_f hn (fun i hi e => ma_nm1 (m := i) (by omega) (e.symm.trans hx)) hp
theorem ma_pm (x : Int32) : x + (-1) = x - 1 := (Int32.sub_eq_add_neg x 1).symm
theorem mx_wb_l {post : Int32 → Prop} {b d e : Nat → Nat} {n K c : Nat} {ag ab ac ap : Nat → Int32} (hn : n ≤ 26) (hF : ma_Fr b d n) (hJ : ma_J b d e n) (hc : ma_arr ac e n) (hP : ∀ i, i < n → ma_P e n i (ap i)) (hp : ∀ r, ma_Red e d n K c r → r < 2 ^ n → post (nI r)) : ∀ i r, i ≤ n → r < 2 ^ n → ma_Sp (ma_fk e d K) n (r ^^^ c) → (∀ a, r.testBit a = true → d a + 1 = K) → (∀ m a, m < n → ma_T (e m) a → i ≤ a → r.testBit a = false) → wX_withoutBorders_9 post (nI n) ag ab ac ap (i + 1) (nI r) (nI i - 1) := by
  intro i
  induction i with
  | zero =>
    intro r _ hr hS _ hz
    exact br_t (by decide) (hp r ⟨hS, fun m a hm hT => hz m a hm hT (Nat.zero_le a)⟩ hr)
  | succ i ih =>
    intro r hi hr hS hh hz
    rw [nI_pred]
    have hr31 : r < 2 ^ 31 := Nat.lt_of_lt_of_le hr (ma_pl (by omega))
    refine br_f (nI_pos (by omega)) ⟨vp_in_nI (by omega) (by decide), ?_⟩
    refine nm_r (e' := ap i) (by rw [nI_clamp (by omega)]) ?_
    have next : (∀ m, m < n → ma_T (e m) i → r.testBit i = false) → wX_withoutBorders_9 post (nI n) ag ab ac ap (i + 1) (nI r) (nI i - 1) := fun w =>
      ih r (by omega) hr hS hh (fun m a hm hT ha => by
        by_cases q : a = i
        · subst q; exact w m hm hT
        · exact hz m a hm hT (by omega))
    cases hb : r.testBit i
    · exact mx_has_f hr31 (by omega) hb (br_t rfl (nm_r (ma_pm _) (next (fun _ _ _ => hb))))
    · refine mx_has_t hr31 (by omega) hb (br_f (by decide) ?_)
      rcases hP i (by omega) with ⟨a, h1, h2, h3⟩ | ⟨j, h1, h2, h3, h4, h5⟩ | ⟨h1, h2, h3⟩
      · refine mx_isNum_t hn (i := a) (by omega) h3 (br_f (by decide) (br_t ?_ (nm_r (ma_pm _) (next (fun m hm hT => ?_)))))
        · rw [h3]; exact nI_le (by omega) (by omega)
        · exact absurd (hJ.2.2 m i hm hT) (ma_T_ne h2)
      · refine mx_isNum_t hn (i := j) (by omega) h5 (br_f (by decide) (br_f ?_ ⟨?_, nm_r (e' := nI (r ^^^ e j)) ?_ (nm_r (ma_pm _) ?_)⟩))
        · rw [h5]; exact nI_ge (by omega) (by omega)
        · rw [h5]; exact vp_in_nI (by omega) (by decide)
        · rw [h5, ma_arr_c hc h2 hn, nx_xor]
        · have hK : d j = K := by
            have q1 := ma_J_hom hF hJ h2 i h4.1
            have q2 := hh i hb
            omega
          have hj := hJ.1 j h2
          refine ih (r ^^^ e j) (by omega) (Nat.xor_lt_two_pow hr (Nat.lt_of_lt_of_le hj.1 (ma_pl (by omega)))) ?_ (fun a ha => ?_) (fun m a hm hT ha => ?_)
          · rw [ma_x1]
            have q := ma_Sp_g (f := ma_fk e d K) h2
            rw [ma_fk_t hK] at q
            exact ma_Sp_x hS q
          · cases hra : r.testBit a
            · rw [Nat.testBit_xor, hra, Bool.false_xor] at ha
              rw [← hK]
              exact ma_J_hom hF hJ h2 a ha
            · exact hh a hra
          · rw [Nat.testBit_xor]
            by_cases q : a = i
            · subst q
              rw [hb, h4.1]
              rfl
            · rw [hz m a hm hT (by omega), ma_bf h4.2 (by omega)]
              rfl
      · exact mx_isNum_m hn h3 (br_t rfl (nm_r (ma_pm _) (next (fun m hm hT => absurd hT (h2 m hm)))))
theorem mx_wb {post : Int32 → Prop} {b d e : Nat → Nat} {n K c : Nat} {x : Int32} {ag ab ac ap : Nat → Int32} (hn : n ≤ 26) (hF : ma_Fr b d n) (hJ : ma_J b d e n) (hc : ma_arr ac e n) (hP : ∀ i, i < n → ma_P e n i (ap i)) (hx : x = nI c) (hcl : c < 2 ^ n) (hh : ∀ a, c.testBit a = true → d a + 1 = K) (hp : ∀ r, ma_Red e d n K c r → r < 2 ^ n → post (nI r)) : wpX_withoutBorders post (nI n, ag, ab, ac, ap) x := by
  subst hx
  unfold wpX_withoutBorders
  refine nm_e ⟨n + 1, mx_wb_l hn hF hJ hc hP hp n c (Nat.le_refl n) hcl ?_ hh (fun m a hm hT ha => ?_)⟩
  · rw [Nat.xor_self]; exact ma_Sp_0 _ _
  · exact ma_bf hcl ha
theorem ma_low {r i : Nat} (h : r < 2 ^ (i + 1)) (hb : r.testBit i = false) : r < 2 ^ i :=
  Nat.lt_pow_two_of_testBit _ (fun p hp => by
    by_cases q : p = i
    · rw [q]; exact hb
    · exact ma_bf h (by omega))
theorem mx_last_l {post : Int32 → Prop} {r : Nat} (h1 : ∀ a, ma_T r a → post (nI a)) (h0 : r = 0 → post (-1)) : ∀ i, i ≤ 26 → r < 2 ^ i → wX_lastOf_3 post (nI r) (i + 1) (nI i - 1) := by
  intro i
  induction i with
  | zero =>
    intro _ hr
    exact br_t (by decide) (h0 (by omega))
  | succ i ih =>
    intro hi hr
    rw [nI_pred]
    have hr31 : r < 2 ^ 31 := Nat.lt_of_lt_of_le hr (ma_pl (by omega))
    refine br_f (nI_pos (by omega)) ?_
    cases hb : r.testBit i
    · exact mx_has_f hr31 (by omega) hb (br_t rfl (nm_r (ma_pm _) (ih (by omega) (ma_low hr hb))))
    · exact mx_has_t hr31 (by omega) hb (br_f (by decide) (h1 i ⟨hb, hr⟩))
theorem mx_last {post : Int32 → Prop} {r : Nat} (hr : r < 2 ^ 26) (h1 : ∀ a, ma_T r a → post (nI a)) (h0 : r = 0 → post (-1)) : wpX_lastOf post (nI r) := by
  unfold wpX_lastOf
  exact ⟨27, mx_last_l h1 h0 26 (Nat.le_refl 26) hr⟩
/-- the component's arrays hold the growth g, its closed cycles e -/
def ma_XA (g e : Nat → Nat) (n : Nat) (ag ab ac ap : Nat → Int32) : Prop := ma_J (ma_bd g) (ma_d g) e n ∧ ma_arr ag g n ∧ ma_arr ab (ma_bd g) n ∧ ma_arr ac e n ∧ ∀ i, i < n → ma_P e n i (ap i)
theorem mx_append {post : SX → Prop} {g e : Nat → Nat} {n s : Nat} {ag ab ac ap : Nat → Int32} (hn : n < 26) (hG : ma_G g n) (hs : s < 64) (hall : ∀ r, ma_sd r s = true → ∃ j, j < n ∧ g j = r) (hG' : ma_G (ma_put g n s) (n + 1)) (hX : ma_XA g e n ag ab ac ap) (hp : ∀ e' ag' ab' ac' ap', ma_XA (ma_put g n s) e' (n + 1) ag' ab' ac' ap' → post (nI (n + 1), ag', ab', ac', ap')) : wpX_append post (nI n, ag, ab, ac, ap) (nI s) := by
  obtain ⟨hJ, hg, hb, hc, hP⟩ := hX
  have hF' := ma_G_Fr hG'
  have hJ' : ma_J (ma_bd (ma_put g n s)) (ma_d (ma_put g n s)) e n := ma_J_congr (fun i hi => (ma_bd_put hi).symm) (fun i hi => by
    unfold ma_d
    rw [ma_put_n (by omega)]) (fun _ _ => rfl) hJ
  have hFn : ma_Fr (ma_bd (ma_put g n s)) (ma_d (ma_put g n s)) n := fun i hi => hF' i (by omega)
  have hcl : ∀ x : Nat → Int32, ∀ y : Int32, upd x (nI n).toNatClampNeg y = upd x n y := fun x y => by rw [nI_clamp (by omega)]
  have hv : vp_in (nI n) 26 := vp_in_nI hn (by decide)
  unfold wpX_append
  refine ⟨hv, nm_r (hcl _ _) (mx_sides (by omega) hG (ma_arr_up hg) hs (fun _ => ⟨hv, nm_r (hcl _ _) ⟨hv, ?_⟩⟩) (fun ⟨r, h1, h2⟩ => ?_))⟩
  · refine mx_wb (c := ma_bd (ma_put g n s) n) (K := ma_d (ma_put g n s) n) (by omega) hFn hJ' hc hP (by rw [nI_clamp (by omega), pk_us, ma_bd_new]) (hF' n (by omega)).1 (hF' n (by omega)).2.1 (fun r hr hr2 => ?_)
    have hJn := ma_J_app hJ' hF' hr
    have hab : ma_arr (upd ab n (nI (ma_of (fun j => ma_sd (g j) s) n))) (ma_bd (ma_put g n s)) (n + 1) := by
      intro i hi
      by_cases q : i = n
      · rw [q, pk_us, ma_bd_new]
      · rw [pk_un q, ma_bd_put (by omega)]
        exact hb i (by omega)
    refine mx_last (Nat.lt_of_lt_of_le hr2 (ma_pl (by omega))) (fun a hT => ⟨hv, nm_r (hcl _ _) ⟨hv, nm_r (hcl _ _) ?_⟩⟩) (fun h0 => ⟨hv, nm_r (hcl _ _) ⟨hv, nm_r (hcl _ _) ?_⟩⟩)
    · have han : a < n := ma_T_lt hT hr2
      refine mx_isNum_t (by omega) han rfl (br_f (by decide) ⟨vp_in_nI (by omega) (by decide), nm_r (e' := upd (upd ap n (nI a)) a (nI n)) (by rw [nI_clamp (by omega)]) (nm_r (nI_1 n) (hp (ma_put e n r) _ _ _ _ ⟨hJn, ma_arr_put hg, hab, ma_arr_put hc, ma_P_app1 hJn hT hP⟩))⟩)
    · subst h0
      exact mx_isNum_m (by omega) rfl (br_t rfl (nm_r (nI_1 n) (hp (ma_put e n 0) _ _ _ _ ⟨hJn, ma_arr_put hg, hab, ma_arr_put hc, ma_P_app0 hJ' hP⟩)))
  · obtain ⟨j, hj, e'⟩ := hall r h1
    exact absurd e' (h2 j hj)
end
section
theorem my_pts {post : Int32 → Prop} {s : Nat} {fc : Int32} {ay cy : Nat → Int32} (hs : s < 64) (h : post (nI (ma_pop s))) : ∀ d p, p + d = 6 → wY_points_4 post (nI s) fc ay cy (d + 1) (nI (ma_pq s p)) (nI p) := by
  intro d
  induction d with
  | zero =>
    intro p hp
    have hp' : p = 6 := by omega
    subst hp'
    rw [ma_pq6]
    exact br_t (by decide) h
  | succ d ih =>
    intro p hp
    exact br_f (nI_ge (b := 6) (by omega) (by decide)) (nm_r (ma_pqs hs (by omega)) (nm_r (nI_1 p) (ih (p + 1) (by omega))))
theorem my_points {post : Int32 → Prop} {s : Nat} {x fc : Int32} {ay cy : Nat → Int32} (hx : x = nI s) (hs : s < 64) (h : post (nI (ma_pop s))) : wpY_points post (fc, ay, cy) x := by
  subst hx
  unfold wpY_points
  exact ⟨7, my_pts hs h 6 0 rfl⟩
theorem my_badPiece_t {post : Int32 → Prop} {s : Nat} {fc : Int32} {ay cy : Nat → Int32} (h : ma_ok s) (hp : post 0) : wpY_badPiece post (fc, ay, cy) (nI s) := by
  obtain ⟨h1, h2, h3⟩ := h
  unfold wpY_badPiece
  exact br_f (nI_nlt (b := 1) h1 (by omega)) (br_f (nI_nlt (a := 63) (b := s) (by omega) (by decide)) (my_points rfl h2 (br_t (nI_le (b := 4) h3 (by decide)) hp)))
theorem my_badPiece_f {post : Int32 → Prop} {v fc : Int32} {ay cy : Nat → Int32} (h : ∀ s, ma_ok s → v ≠ nI s) (hp : post 1) : wpY_badPiece post (fc, ay, cy) v := by
  unfold wpY_badPiece
  refine br_c (fun _ => hp) (fun h1 => br_c (fun _ => hp) (fun h2 => ?_))
  obtain ⟨s, hs, h1', rfl⟩ := ma_v63 h1 h2
  refine my_points rfl hs (br_c (fun h4 => absurd rfl (h s ⟨h1', hs, ?_⟩)) (fun _ => hp))
  have := ma_pop_le s
  exact (nI_leI (b := 4) (by omega) (by decide)).mp h4
theorem my_find_l {post : Int32 → Prop} {g : Nat → Nat} {n s : Nat} {ay cy : Nat → Int32} (hn : n ≤ 26) (hg : ma_arr ay g n) (hgl : ∀ i, i < n → g i < 64) (hs : s < 64) (h1 : ∀ i, i < n → g i = s → post (nI i)) (h0 : (∀ i, i < n → g i ≠ s) → post (-1)) : ∀ d i, i + d = n → (∀ j, j < i → g j ≠ s) → wY_find_2 post (nI s) (nI n) ay cy (d + 1) (nI i) := by
  intro d
  induction d with
  | zero =>
    intro i hi hj
    have hi' : i = n := by omega
    subst hi'
    exact br_t (nI_le (Nat.le_refl i) (by omega)) (h0 hj)
  | succ d ih =>
    intro i hi hj
    refine br_f (nI_ge (by omega) (by omega)) (br_f (nI_ge (b := 26) (by omega) (by decide)) ⟨vp_in_nI (by omega) (by decide), ?_⟩)
    by_cases e : g i = s
    · exact br_t (by rw [ma_arr_c hg (by omega) hn, e]) (h1 i (by omega) e)
    · refine br_f (fun w => e ?_) (nm_r (nI_1 i) (ih (i + 1) (by omega) (fun j hj' => ?_)))
      · rw [ma_arr_c hg (by omega) hn] at w
        exact (nI_eq (Nat.lt_trans (hgl i (by omega)) (by decide)) (Nat.lt_trans hs (by decide))).mp w
      · by_cases q : j = i
        · rw [q]; exact e
        · exact hj j (by omega)
theorem my_find {post : Int32 → Prop} {g : Nat → Nat} {n s : Nat} {x : Int32} {ay cy : Nat → Int32} (hn : n ≤ 26) (hg : ma_arr ay g n) (hgl : ∀ i, i < n → g i < 64) (hx : x = nI s) (hs : s < 64) (h1 : ∀ i, i < n → g i = s → post (nI i)) (h0 : (∀ i, i < n → g i ≠ s) → post (-1)) : wpY_find post (nI n, ay, cy) x := by
  subst hx
  unfold wpY_find
  exact ⟨n + 1, my_find_l hn hg hgl hs h1 h0 n 0 (by omega) (fun j hj => absurd hj (Nat.not_lt_zero j))⟩
theorem ma_pop0 : ma_pop 0 = 0 := by decide
theorem my_st_l {post : Int32 → Prop} {g : Nat → Nat} {n s : Nat} {ay cy : Nat → Int32} (hn : n ≤ 26) (hG : ma_G g n) (hg : ma_arr ay g n) (hs : s < 64) (hs1 : ma_pop s ≠ 1) (h1 : (∀ r, ma_sd r s = true → ∃ j, j < n ∧ g j = r) → post 1) (h0 : (∃ r, ma_sd r s = true ∧ ∀ j, j < n → g j ≠ r) → post 0) : ∀ d p, p + d = 6 → (∀ q, q < p → s.testBit q = true → ∃ j, j < n ∧ g j = s ^^^ 2 ^ q) → wY_sidesThere_13 post (nI s) (nI n) ay cy (d + 1) (nI p) := by
  intro d
  induction d with
  | zero =>
    intro p hp H
    have hp' : p = 6 := by omega
    subst hp'
    refine br_t (by decide) (h1 (fun r hr => ?_))
    obtain ⟨h0, q, hq, hb, e⟩ := ma_sd_iff.mp hr
    obtain ⟨j, hj, e'⟩ := H q hq hb
    exact ⟨j, hj, e'.trans e.symm⟩
  | succ d ih =>
    intro p hp H
    refine br_f (nI_ge (b := 6) (by omega) (by decide)) ?_
    cases hb : s.testBit p
    · exact br_f (by rw [ma_hb_f (by omega) (by omega) hb]; decide) (nm_r (nI_1 p) (ih (p + 1) (by omega) (fun q hq hq1 => by
        by_cases w : q = p
        · rw [w, hb] at hq1; exact Bool.noConfusion hq1
        · exact H q (by omega) hq1)))
    · have hpp := ma_pp s hs p (by omega) hb
      have hz : s ^^^ 2 ^ p ≠ 0 := by
        intro w
        rw [w, ma_pop0] at hpp
        omega
      refine br_t (ma_hb_t (by omega) (by omega) hb) (my_find hn hg (fun i hi => (hG.1 i hi).2.1) ((ma_side s hs p (by omega)).trans (by rw [if_pos hb])) (by omega) (fun m hm e => ?_) (fun hno => ?_))
      · exact br_t (nI_pos' (by omega)) (nm_r (nI_1 p) (ih (p + 1) (by omega) (fun q hq hq1 => by
          by_cases w : q = p
          · rw [w]; exact ⟨m, hm, e⟩
          · exact H q (by omega) hq1)))
      · exact br_f (by decide) (h0 ⟨_, ma_sd_iff.mpr ⟨hz, p, by omega, hb, rfl⟩, hno⟩)
theorem ma_pop_z : ∀ s, s < 64 → ma_pop s = 0 → s = 0 := by decide +kernel
theorem ma_sd_one {r s : Nat} (hs : s < 64) (h1 : ma_pop s = 1) : ma_sd r s = false := by
  cases h : ma_sd r s
  · rfl
  · have h2 := ma_sd_pop hs h
    have h3 := ma_pop_z r (by omega) (by omega)
    exact absurd h3 (ma_sd_iff.mp h).1
theorem my_st {post : Int32 → Prop} {g : Nat → Nat} {n s : Nat} {ay cy : Nat → Int32} (hn : n ≤ 26) (hG : ma_G g n) (hg : ma_arr ay g n) (hs : s < 64) (h1 : (∀ r, ma_sd r s = true → ∃ j, j < n ∧ g j = r) → post 1) (h0 : (∃ r, ma_sd r s = true ∧ ∀ j, j < n → g j ≠ r) → post 0) : wpY_sidesThere post (nI n, ay, cy) (nI s) := by
  unfold wpY_sidesThere
  refine my_points rfl hs ?_
  by_cases w : ma_pop s = 1
  · refine br_t (by rw [w]; rfl) (h1 (fun r hr => ?_))
    rw [ma_sd_one hs w] at hr
    exact Bool.noConfusion hr
  · have := ma_pop_le s
    refine br_f (fun q => w ((nI_eq (b := 1) (by omega) (by decide)).mp q)) ⟨7, my_st_l hn hG hg hs w h1 h0 6 0 rfl (fun q hq => absurd hq (Nat.not_lt_zero q))⟩
theorem my_put {post : Int32 → SY → Prop} {n : Nat} {x : Int32} {ay cy : Nat → Int32} (hn : n < 26) (hp : post (nI n) (nI (n + 1), upd ay n x, cy)) : wpY_put post (nI n, ay, cy) x := by
  unfold wpY_put
  exact br_t (nI_le (b := 25) (by omega) (by decide)) ⟨vp_in_nI hn (by decide), nm_r (e' := upd ay n x) (by rw [nI_clamp (by omega)]) (nm_r (nI_1 n) hp)⟩
theorem my_put_f {post : Int32 → SY → Prop} {n : Nat} {x : Int32} {ay cy : Nat → Int32} (hn : n = 26) (hp : post (-4) (nI n, ay, cy)) : wpY_put post (nI n, ay, cy) x := by
  subst hn
  unfold wpY_put
  exact br_f (by decide) hp
theorem my_dim {post : Int32 → Prop} {g : Nat → Nat} {n i : Nat} {x fc : Int32} {ay cy : Nat → Int32} (hn : n ≤ 26) (hG : ma_G g n) (hg : ma_arr ay g n) (hx : x = nI i) (hi : i < n) (h : post (nI (ma_d g i - 1))) : wpY_dimension post (fc, ay, cy) x := by
  subst hx
  obtain ⟨h1, h2, h3⟩ := hG.1 i hi
  unfold wpY_dimension
  refine ⟨vp_in_nI (by omega) (by decide), my_points (ma_arr_c hg hi hn) h2 ?_⟩
  rw [show nI (ma_pop (g i)) - 1 = nI (ma_pop (g i) - 1) from pk_sub (b := 1) (ma_pop_pos _ h2 h1)]
  exact h
theorem ma_sdq : ∀ r, r < 64 → ∀ s, s < 64 → ((r ≠ 0 ∧ ma_pop r + 1 = ma_pop s ∧ r &&& s = r) ↔ ma_sd r s = true) := by decide +kernel
theorem ma_d_pos {g : Nat → Nat} {n i : Nat} (hG : ma_G g n) (hi : i < n) : 1 ≤ ma_d g i ∧ ma_d g i ≤ 4 := by
  obtain ⟨h1, h2, h3⟩ := hG.1 i hi
  exact ⟨ma_pop_pos _ h2 h1, h3⟩
theorem ma_bd_all {g : Nat → Nat} {n i : Nat} (hG : ma_G g n) (hi : i < n) : ma_of (fun j => ma_sd (g j) (g i)) n = ma_bd g i := by
  apply Nat.eq_of_testBit_eq
  intro j
  rw [ma_bd_bit, ma_of_bit]
  cases h : ma_sd (g j) (g i)
  · rw [Bool.and_false, Bool.and_false]
  · by_cases hj : j < n
    · have := ma_G_sd hG hi hj h
      simp [hj, this]
    · have h2 : ¬ j < i := by omega
      simp [hj, h2]
theorem ma_of_s {P : Nat → Bool} {n : Nat} (h : P n = true) : ma_of P (n + 1) = ma_of P n ||| 2 ^ n := if_pos h
theorem ma_of_sf {P : Nat → Bool} {n : Nat} (h : P n = false) : ma_of P (n + 1) = ma_of P n := if_neg (by rw [h]; exact Bool.noConfusion)
theorem my_sides_l {post : Int32 → Prop} {g : Nat → Nat} {n i : Nat} {ay cy : Nat → Int32} (hn : n ≤ 26) (hG : ma_G g n) (hg : ma_arr ay g n) (hi : i < n) (h2 : 2 ≤ ma_d g i) (h : post (nI (ma_bd g i))) : ∀ d j, j + d = n → wY_sides_14 post (nI i) (nI n) ay cy (d + 1) (nI (ma_of (fun j => ma_sd (g j) (g i)) j)) (nI j) := by
  intro d
  induction d with
  | zero =>
    intro j hj
    have hj' : j = n := by omega
    subst hj'
    rw [ma_bd_all hG hi]
    exact br_t (nI_le (Nat.le_refl j) (by omega)) h
  | succ d ih =>
    intro j hj
    have hjn : j < n := by omega
    have hdj := ma_d_pos hG hjn
    have hdi := ma_d_pos hG hi
    obtain ⟨g1, g2, g3⟩ := hG.1 j hjn
    obtain ⟨k1, k2, k3⟩ := hG.1 i hi
    have hq := ma_sdq (g j) g2 (g i) k2
    refine br_f (nI_ge (by omega) (by omega)) (br_f (nI_ge (b := 26) (by omega) (by decide)) (my_dim hn hG hg rfl hjn (my_dim hn hG hg rfl hi ?_)))
    have hs1 : nI (ma_d g i - 1) - 1 = nI (ma_d g i - 2) := pk_sub (b := 1) (by omega)
    have hvj : vp_in (nI j) 26 := vp_in_nI (by omega) (by decide)
    have hvi : vp_in (nI i) 26 := vp_in_nI (by omega) (by decide)
    have nxt : ma_sd (g j) (g i) = false → wY_sides_14 post (nI i) (nI n) ay cy (d + 1) (nI (ma_of (fun j => ma_sd (g j) (g i)) j)) (nI (j + 1)) := fun w => by
      have := ih (j + 1) (by omega)
      rw [ma_of_sf (P := fun j => ma_sd (g j) (g i)) w] at this
      exact this
    by_cases hd : ma_d g j + 1 = ma_d g i
    · refine br_t (by rw [hs1]; exact congrArg nI (by omega)) ⟨hvj, hvi, hvj, ?_⟩
      rw [ma_arr_c hg hjn hn, ma_arr_c hg hi hn, nx_and]
      by_cases ha : g j &&& g i = g j
      · have hsd := hq.mp ⟨by omega, hd, ha⟩
        refine br_t (by rw [ha]) (nm_r (e' := nI (ma_of (fun j => ma_sd (g j) (g i)) (j + 1))) ?_ (nm_r (nI_1 j) (ih (j + 1) (by omega))))
        rw [ma_sh1 j (by omega), ma_nor, ma_of_s (P := fun j => ma_sd (g j) (g i)) hsd]
      · refine br_f (fun w => ha ?_) (nm_r (nI_1 j) (nxt ?_))
        · refine (nI_eq ?_ (by omega)).mp w
          have := Nat.and_le_left (n := g j) (m := g i)
          omega
        · cases hsd : ma_sd (g j) (g i)
          · rfl
          · exact absurd (hq.mpr hsd).2.2 ha
    · refine br_f (fun w => hd ?_) (nm_r (nI_1 j) (nxt ?_))
      · rw [hs1] at w
        have := (nI_eq (by omega) (by omega)).mp w
        omega
      · cases hsd : ma_sd (g j) (g i)
        · rfl
        · exact absurd (hq.mpr hsd).2.1 hd
theorem my_sides {post : Int32 → Prop} {g : Nat → Nat} {n i : Nat} {x : Int32} {ay cy : Nat → Int32} (hn : n ≤ 26) (hG : ma_G g n) (hg : ma_arr ay g n) (hx : x = nI i) (hi : i < n) (h : post (nI (ma_bd g i))) : wpY_sides post (nI n, ay, cy) x := by
  subst hx
  have hdi := ma_d_pos hG hi
  unfold wpY_sides
  refine my_dim hn hG hg rfl hi ?_
  by_cases w : ma_d g i = 1
  · have h0 : ma_bd g i = 0 := by
      apply Nat.eq_of_testBit_eq
      intro j
      rw [ma_bd_bit, ma_sd_one (hG.1 i hi).2.1 w, Nat.zero_testBit, Bool.and_false]
    rw [h0] at h
    exact br_t (by rw [w]; rfl) h
  · exact br_f (nI_ne0 (by omega) (by omega)) ⟨n + 1, my_sides_l hn hG hg hi (by omega) h n 0 (by omega)⟩
end
section
theorem ma_low_eq {c q : Nat} (h : ma_L c q) : c = 2 ^ (q + 1) * (c / 2 ^ (q + 1)) + 2 ^ q := by
  have h1 : c % 2 ^ (q + 1) = 2 ^ q := by
    apply Nat.eq_of_testBit_eq
    intro j
    rw [Nat.testBit_mod_two_pow, Nat.testBit_two_pow]
    rcases Nat.lt_trichotomy j q with w | w | w
    · rw [h.2 j w, Bool.and_false, decide_eq_false (by omega)]
    · subst w
      rw [h.1, Bool.and_true, decide_eq_true (by omega), decide_eq_true rfl]
    · rw [decide_eq_false (by omega : ¬ j < q + 1), Bool.false_and, decide_eq_false (by omega)]
  have h2 := Nat.div_add_mod c (2 ^ (q + 1))
  rw [h1] at h2
  exact h2.symm
theorem ma_lowN {c q : Nat} (h : ma_L c q) (hc : c < 2 ^ 31) : c &&& (2 ^ 32 - c) = 2 ^ q := by
  have hq : q < 31 := ma_bl hc h.1
  have e := ma_low_eq h
  generalize c / 2 ^ (q + 1) = m at e
  have hpos : 0 < 2 ^ q := Nat.two_pow_pos q
  have hlt : 2 ^ q < 2 ^ (q + 1) := Nat.pow_lt_pow_right (by decide) (Nat.lt_succ_self q)
  have e1 : c - 1 = 2 ^ (q + 1) * m + (2 ^ q - 1) := by omega
  have e2 : 2 ^ 32 - c = 2 ^ 32 - ((c - 1) + 1) := by omega
  apply Nat.eq_of_testBit_eq
  intro j
  rw [Nat.testBit_and, e2, Nat.testBit_two_pow_sub_succ (by omega : c - 1 < 2 ^ 32), e1, Nat.testBit_two_pow]
  rw [Nat.testBit_two_pow_mul_add m (by omega : 2 ^ q - 1 < 2 ^ (q + 1)) j]
  have hcj : c.testBit j = if j < q + 1 then (2 ^ q).testBit j else m.testBit (j - (q + 1)) := by
    rw [e]
    exact Nat.testBit_two_pow_mul_add m hlt j
  rw [hcj]
  by_cases w : j < q + 1
  · rw [if_pos w, if_pos w, Nat.testBit_two_pow, Nat.testBit_two_pow_sub_one]
    by_cases z : q = j
    · subst z
      simp
      omega
    · simp [z]
  · rw [if_neg w, if_neg w]
    have z : q ≠ j := by omega
    cases m.testBit (j - (q + 1)) <;> simp [z]
theorem ma_lowb {c q : Nat} (h : ma_L c q) (hc : c < 2 ^ 31) : nI c &&& (-(nI c)) = nI (2 ^ q) := by
  have hq : q < 31 := ma_bl hc h.1
  have hc0 : 0 < c := by
    apply Nat.pos_of_ne_zero
    intro w
    have := h.1
    rw [w, Nat.zero_testBit] at this
    exact Bool.noConfusion this
  have hp : 2 ^ q < 2 ^ 31 := Nat.pow_lt_pow_right (by decide) hq
  apply Int32.toBitVec_inj.mp
  apply BitVec.eq_of_toNat_eq
  rw [Int32.toBitVec_and, BitVec.toNat_and, Int32.toBitVec_neg, BitVec.toNat_neg, pk_tn (by omega), pk_tn (by omega), Nat.mod_eq_of_lt (by omega : 2 ^ 32 - c < 2 ^ 32)]
  exact ma_lowN h hc
theorem ma_and_t {y q : Nat} (h : y.testBit q = true) : y &&& 2 ^ q = 2 ^ q := by
  apply Nat.eq_of_testBit_eq
  intro j
  rw [Nat.testBit_and, Nat.testBit_two_pow]
  by_cases z : q = j
  · subst z; rw [h]; rfl
  · rw [decide_eq_false z, Bool.and_false]
theorem ma_and_f {y q : Nat} (h : y.testBit q = false) : y &&& 2 ^ q = 0 := by
  apply Nat.eq_of_testBit_eq
  intro j
  rw [Nat.testBit_and, Nat.testBit_two_pow, Nat.zero_testBit]
  by_cases z : q = j
  · subst z; rw [h]; rfl
  · rw [decide_eq_false z, Bool.and_false]
theorem my_rk_l {post : Int32 → SY → Prop} {J6 : Int32 → Int32 → (Nat → Int32) → (Nat → Int32) → Prop} {x1 x2 x3 x5 fc : Int32} {ay cy : Nat → Int32} {f c : Nat → Nat} {t rows y : Nat} (hR : ma_R f t c rows) (hr : rows < 26) (hcy : ma_arr cy c rows) (h0 : ma_Rc c rows y 0 → J6 (nI rows) (x5 + 1) ay cy) (h1 : ∀ x, ma_Rc c rows y x → x ≠ 0 → x < 2 ^ 26 → J6 (nI (rows + 1)) (x5 + 1) ay (upd cy rows (nI x))) : ∀ dd r x, r + dd = rows → x < 2 ^ 26 → ma_Sp c rows (x ^^^ y) → (∀ i q, i < r → ma_L (c i) q → x.testBit q = false) → wY_rank_44 post J6 x1 x2 x3 (nI rows) x5 fc ay cy (dd + 1) (nI x) (nI r) := by
  intro dd
  induction dd with
  | zero =>
    intro r x hrr hx hS hz
    have hr' : r = rows := by omega
    subst hr'
    refine br_t (nI_le (Nat.le_refl r) (by omega)) ?_
    by_cases w : x = 0
    · subst w
      exact br_t rfl (nm_e (h0 ⟨hS, hz⟩))
    · exact br_f (nI_ne0 (by omega) (by omega)) ⟨vp_in_nI hr (by decide), nm_r (e' := upd cy r (nI x)) (by rw [nI_clamp (by omega)]) (nm_r (nI_1 r) (nm_e (h1 x ⟨hS, hz⟩ w hx)))⟩
  | succ dd ih =>
    intro r x hrr hx hS hz
    have hrn : r < rows := by omega
    have hv : vp_in (nI r) 26 := vp_in_nI (by omega) (by decide)
    obtain ⟨q, hq1, hq2⟩ := hR.1 r hrn
    have hcl := hR.2.2.2 r hrn
    have hlow : cy (nI r).toNatClampNeg &&& (-(cy (nI r).toNatClampNeg)) = nI (2 ^ q) := by
      rw [ma_arr_c hcy hrn (by omega), ma_lowb hq1 (by omega)]
    have hq31 : q < 26 := ma_bl hcl hq1.1
    have hp2 : 2 ^ q < 2 ^ 26 := Nat.pow_lt_pow_right (by decide) hq31
    refine br_f (nI_ge hrn (by omega)) ⟨hv, hv, nm_r hlow ?_⟩
    rw [nx_and]
    cases hb : x.testBit q
    · rw [ma_and_f hb]
      refine br_t rfl (nm_r (nI_1 r) (ih (r + 1) x (by omega) hx hS (fun i p hi hp => ?_)))
      by_cases w : i = r
      · subst w
        rw [ma_L_eq hp hq1]
        exact hb
      · exact hz i p (by omega) hp
    · rw [ma_and_t hb]
      refine br_f (nI_ne0 (Nat.two_pow_pos q) (by omega)) ⟨hv, nm_r (e' := nI (x ^^^ c r)) (by rw [ma_arr_c hcy hrn (by omega), nx_xor]) (nm_r (nI_1 r) (ih (r + 1) (x ^^^ c r) (by omega) (Nat.xor_lt_two_pow hx hcl) ?_ (fun i p hi hp => ?_)))⟩
      · rw [ma_x1]
        exact ma_Sp_x hS (ma_Sp_g hrn)
      · rw [Nat.testBit_xor]
        by_cases w : i = r
        · subst w
          rw [ma_L_eq hp hq1, hb, hq1.1]
          rfl
        · rw [hz i p (by omega) hp]
          obtain ⟨p', hp1, hp2⟩ := hR.1 i (by omega)
          rw [ma_L_eq hp1 hp] at hp2
          rw [hp2 r (by omega) hrn]
          rfl
theorem ma_sh {B s : Nat} (hB : B < 2 ^ 26) (hs : s ≤ 26) : (nI B >>> (nI s &&& 31)) <<< (nI s &&& 31) = nI (ma_hi s B) := by
  have h1 := ma_hi_le s B
  rw [pk_shrN (by omega) _ s (s_l s (by omega))]
  exact pk_shlN _ s (s_l s (by omega)) (Nat.lt_of_le_of_lt h1 (by omega))
theorem my_rank_l {post : Int32 → SY → Prop} {g : Nat → Nat} {n t k s : Nat} {ay : Nat → Int32} (hn : n ≤ 26) (hG : ma_G g n) (hg : ma_arr ay g n) (ht : t ≤ n) (hs : s ≤ 26) (hk : k < 8) (hp : ∀ c cy rows, ma_R (ma_F (ma_bd g) (ma_d g) (k + 1) s) t c rows → ma_arr cy c rows → post (nI rows) (nI n, ay, cy)) : ∀ dd i c cy rows, i + dd = t → ma_R (ma_F (ma_bd g) (ma_d g) (k + 1) s) i c rows → ma_arr cy c rows → wY_rank_6 post (nI t) (nI k) (nI s) (nI n) (dd + 1) (nI rows) (nI i) ay cy := by
  intro dd
  induction dd with
  | zero =>
    intro i c cy rows hi hR hcy
    have hi' : i = t := by omega
    subst hi'
    exact br_t (nI_le (Nat.le_refl i) (by omega)) (hp c cy rows hR hcy)
  | succ dd ih =>
    intro i c cy rows hi hR hcy
    have hin : i < n := by omega
    have hdi := ma_d_pos hG hin
    have hrows : rows ≤ i := by
      rw [hR.2.2.1]
      exact ma_cp_le _ _
    refine br_f (nI_ge (by omega) (by omega)) (br_f (nI_ge (b := 26) (by omega) (by decide)) (my_dim hn hG hg rfl hin ?_))
    by_cases w : ma_d g i = k + 1
    · refine br_t (congrArg nI (by omega)) (my_sides hn hG hg rfl hin ?_)
      have hB : ma_bd g i < 2 ^ 26 := Nat.lt_of_lt_of_le (ma_of_lt _ _) (ma_pl (by omega))
      have hFi : ma_F (ma_bd g) (ma_d g) (k + 1) s i = ma_hi s (ma_bd g i) := ma_F_t w
      have hhi := ma_hi_le s (ma_bd g i)
      refine nm_r (ma_sh hB hs) ⟨rows + 1, my_rk_l (y := ma_hi s (ma_bd g i)) hR (by omega) hcy (fun hx => ?_) (fun x hx h0 hl => ?_) rows 0 _ (by omega) (by omega) ?_ (fun i q hi => absurd hi (Nat.not_lt_zero i))⟩
      · rw [nI_1]
        exact ih (i + 1) c cy rows (by omega) (ma_R_s0 hR (by rw [hFi]; exact (ma_Rc_0 hR hx).mp rfl)) hcy
      · rw [nI_1]
        exact ih (i + 1) (ma_put c rows x) _ (rows + 1) (by omega) (ma_R_s1 hR (by rw [hFi]; exact hx) h0 hl) (ma_arr_put hcy)
      · rw [Nat.xor_self]
        exact ma_Sp_0 _ _
    · refine br_f (fun q => w ?_) (nm_r (nI_1 i) (ih (i + 1) c cy rows (by omega) (ma_R_s0 hR ?_) hcy))
      · have := (nI_eq (by omega) (by omega)).mp q
        omega
      · rw [ma_F_f w]
        exact ma_Sp_0 _ _
theorem my_rank {post : Int32 → SY → Prop} {g : Nat → Nat} {n t k s : Nat} {xt xk xs : Int32} {ay cy : Nat → Int32} (hn : n ≤ 26) (hG : ma_G g n) (hg : ma_arr ay g n) (ht : t ≤ n) (hs : s ≤ 26) (hk : k < 8) (ht' : xt = nI t) (hk' : xk = nI k) (hs' : xs = nI s) (hp : ∀ c cy rows, ma_R (ma_F (ma_bd g) (ma_d g) (k + 1) s) t c rows → ma_arr cy c rows → post (nI rows) (nI n, ay, cy)) : wpY_rank post (nI n, ay, cy) xt xk xs := by
  subst ht' hk' hs'
  unfold wpY_rank
  exact ⟨t + 1, my_rank_l hn hG hg ht hs hk hp t 0 (fun _ => 0) cy 0 (by omega) (ma_R_0 _ _) (fun i hi => absurd hi (Nat.not_lt_zero i))⟩
theorem my_tally_l {post : Int32 → Prop} {g : Nat → Nat} {n t k : Nat} {fc : Int32} {ay cy : Nat → Int32} (hn : n ≤ 26) (hG : ma_G g n) (hg : ma_arr ay g n) (ht : t ≤ n) (hk : k < 8) (hp : post (nI (ma_cp (fun a => ma_d g a = k + 1) t))) : ∀ dd i, i + dd = t → wY_tally_5 post (nI t) (nI k) fc ay cy (dd + 1) (nI (ma_cp (fun a => ma_d g a = k + 1) i)) (nI i) := by
  intro dd
  induction dd with
  | zero =>
    intro i hi
    have hi' : i = t := by omega
    subst hi'
    exact br_t (nI_le (Nat.le_refl i) (by omega)) hp
  | succ dd ih =>
    intro i hi
    have hin : i < n := by omega
    have hdi := ma_d_pos hG hin
    have h1 := ih (i + 1) (by omega)
    refine br_f (nI_ge (by omega) (by omega)) (br_f (nI_ge (b := 26) (by omega) (by decide)) (my_dim hn hG hg rfl hin ?_))
    by_cases w : ma_d g i = k + 1
    · rw [ma_cp_t (P := fun a => ma_d g a = k + 1) w] at h1
      exact br_t (congrArg nI (by omega)) (nm_r (nI_1 _) (nm_r (nI_1 i) h1))
    · rw [ma_cp_f (P := fun a => ma_d g a = k + 1) w] at h1
      refine br_f (fun q => w ?_) (nm_r (nI_1 i) h1)
      have := (nI_eq (by omega) (by omega)).mp q
      omega
theorem my_tally {post : Int32 → Prop} {g : Nat → Nat} {n t k : Nat} {xt xk fc : Int32} {ay cy : Nat → Int32} (hn : n ≤ 26) (hG : ma_G g n) (hg : ma_arr ay g n) (ht : t ≤ n) (hk : k < 8) (ht' : xt = nI t) (hk' : xk = nI k) (hp : post (nI (ma_cp (fun a => ma_d g a = k + 1) t))) : wpY_tally post (fc, ay, cy) xt xk := by
  subst ht' hk'
  unfold wpY_tally
  exact ⟨t + 1, my_tally_l hn hG hg ht hk hp t 0 (by omega)⟩
end
section
theorem ma_ring4 {A B C D L : Int32} (h : A + D = L + B + C) : A - B - (C - D) = L := by grind
theorem my_last {post : Int32 → SY → Prop} {g e : Nat → Nat} {n i j k : Nat} {xi xj xk : Int32} {ay cy : Nat → Int32} (hn : n ≤ 26) (hG : ma_G g n) (hg : ma_arr ay g n) (hJ : ma_J (ma_bd g) (ma_d g) e n) (hij : i ≤ j) (hj : j ≤ n) (hk : k < 7) (hi' : xi = nI i) (hj' : xj = nI j) (hk' : xk = nI k) (hp : ∀ cy', post (nI (ma_la e (ma_d g) (k + 1) i j)) (nI n, ay, cy')) : wpY_last post (nI n, ay, cy) xi xj xk := by
  subst hi' hj' hk'
  unfold wpY_last
  refine my_tally hn hG hg (by omega) (by omega) rfl rfl (my_rank (t := i) (k := k) (s := 0) hn hG hg (by omega) (by omega) (by omega) rfl rfl rfl (fun c1 cy1 r1 hR1 _ => ?_))
  refine nm_e (my_rank (t := j) (k := k + 1) (s := 0) hn hG hg (by omega) (by omega) (by omega) rfl (nI_1 k) rfl (fun c2 cy2 r2 hR2 _ => ?_))
  refine my_rank (t := j) (k := k + 1) (s := i) hn hG hg (by omega) (by omega) (by omega) rfl (nI_1 k) rfl (fun c3 cy3 r3 hR3 _ => ?_)
  refine nm_e ?_
  have h1 : r1 = ma_rf e (ma_d g) (k + 1) i 0 := hR1.2.2.1.trans (ma_F_rf hJ _ _ (by omega))
  have h2 : r2 = ma_rf e (ma_d g) (k + 1 + 1) j 0 := hR2.2.2.1.trans (ma_F_rf hJ _ _ (by omega))
  have h3 : r3 = ma_rf e (ma_d g) (k + 1 + 1) j i := hR3.2.2.1.trans (ma_F_rf hJ _ _ (by omega))
  have h4 := ma_last (ma_G_Fr hG) hJ (k + 1) hij hj
  rw [← h1, ← h2, ← h3] at h4
  have h5 := congrArg nI h4
  rw [← nI_add, ← nI_add, ← nI_add] at h5
  rw [ma_ring4 h5]
  exact hp cy3
theorem ma_la_le (e d : Nat → Nat) (K i j : Nat) : ma_la e d K i j ≤ i := ma_cp_le _ _
theorem my_opening {post : Int32 → SY → Prop} {g e : Nat → Nat} {n i : Nat} {xi : Int32} {ay cy : Nat → Int32} (hn : n ≤ 26) (hG : ma_G g n) (hg : ma_arr ay g n) (hJ : ma_J (ma_bd g) (ma_d g) e n) (hi : i < n) (hi' : xi = nI i) (h1 : e i = 0 → ∀ cy', post 1 (nI n, ay, cy')) (h0 : e i ≠ 0 → ∀ cy', post 0 (nI n, ay, cy')) : wpY_opening post (nI n, ay, cy) xi := by
  subst hi'
  have hd := ma_d_pos hG hi
  have hK : ma_d g i - 1 + 1 = ma_d g i := by omega
  unfold wpY_opening
  refine my_dim hn hG hg rfl hi (my_last (i := i + 1) (j := i + 1) (k := ma_d g i - 1) hn hG hg hJ (Nat.le_refl _) (by omega) (by omega) (nI_1 i) (nI_1 i) rfl (fun cy1 => my_last (i := i) (j := i) (k := ma_d g i - 1) hn hG hg hJ (Nat.le_refl _) (by omega) (by omega) rfl rfl rfl (fun cy2 => ?_)))
  rw [hK]
  have hl := ma_la_le e (ma_d g) (ma_d g i) i i
  by_cases w : e i = 0
  · rw [ma_la_op hJ hi w]
    exact br_f (nI_ge (by omega) (by omega)) (h1 w cy2)
  · rw [ma_la_cl (ma_G_Fr hG) hJ hi w]
    exact br_t (nI_le (Nat.le_refl _) (by omega)) (h0 w cy2)
theorem ma_ring1 (A B : Int32) : A + 1 - B - A + B = 1 := by grind
theorem ma_ring2 (A B : Int32) : A + 1 - (B + 1) - A + B = 0 := by grind
theorem ma_ring3 (A B : Int32) : A - B - A + B = 0 := by grind
theorem my_partners {post : Int32 → SY → Prop} {g e : Nat → Nat} {n i j : Nat} {xi xj : Int32} {ay cy : Nat → Int32} (hn : n ≤ 26) (hG : ma_G g n) (hg : ma_arr ay g n) (hJ : ma_J (ma_bd g) (ma_d g) e n) (hij : i < j) (hj : j < n) (hi' : xi = nI i) (hj' : xj = nI j) (h1 : ma_T (e j) i → ∀ cy', post 1 (nI n, ay, cy')) (h0 : ¬ ma_T (e j) i → ∀ cy', post 0 (nI n, ay, cy')) : wpY_partners post (nI n, ay, cy) xi xj := by
  subst hi' hj'
  have hdi := ma_d_pos hG (show i < n by omega)
  have hdj := ma_d_pos hG hj
  have hK : ma_d g i - 1 + 1 = ma_d g i := by omega
  unfold wpY_partners
  refine my_dim hn hG hg rfl (show i < n by omega) (my_dim hn hG hg rfl hj ?_)
  by_cases w : ma_d g i + 1 = ma_d g j
  · refine br_t (by rw [nI_1]; exact congrArg nI (by omega)) ?_
    refine my_last (i := i + 1) (j := j) (k := ma_d g i - 1) hn hG hg hJ (by omega) (by omega) (by omega) (nI_1 i) rfl rfl (fun cy1 => ?_)
    refine my_last (i := i + 1) (j := j + 1) (k := ma_d g i - 1) hn hG hg hJ (by omega) (by omega) (by omega) (nI_1 i) (nI_1 j) rfl (fun cy2 => ?_)
    refine my_last (i := i) (j := j) (k := ma_d g i - 1) hn hG hg hJ (by omega) (by omega) (by omega) rfl rfl rfl (fun cy3 => ?_)
    refine my_last (i := i) (j := j + 1) (k := ma_d g i - 1) hn hG hg hJ (by omega) (by omega) (by omega) rfl (nI_1 j) rfl (fun cy4 => ?_)
    rw [hK]
    by_cases q : ma_T (e j) i
    · obtain ⟨q1, q2⟩ := ma_la_pt (d := ma_d g) hJ hj q
      rw [q1, q2, ← nI_1]
      exact br_t (ma_ring1 _ _) (h1 q cy4)
    · rcases ma_la_np (d := ma_d g) q with ⟨q1, q2⟩ | ⟨q1, q2⟩
      · rw [q1, q2, ← nI_1, ← nI_1]
        exact br_f (by rw [ma_ring2]; decide) (h0 q cy4)
      · rw [q1, q2]
        exact br_f (by rw [ma_ring3]; decide) (h0 q cy4)
  · refine br_f (fun q => w ?_) (h0 (fun hT => w (ma_J_hom (ma_G_Fr hG) hJ hj i hT.1)) cy)
    rw [nI_1] at q
    have := (nI_eq (by omega) (by omega)).mp q
    omega
theorem my_mate1_l {post : Int32 → SY → Prop} {g e : Nat → Nat} {n i : Nat} {ay : Nat → Int32} (hn : n ≤ 26) (hG : ma_G g n) (hg : ma_arr ay g n) (hJ : ma_J (ma_bd g) (ma_d g) e n) (hi : i < n) (h1 : ∀ j, i < j → j < n → ma_T (e j) i → ∀ cy', post (nI j) (nI n, ay, cy')) (h0 : (∀ j, j < n → ¬ ma_T (e j) i) → ∀ cy', post (-2) (nI n, ay, cy')) : ∀ dd j cy, j + dd = n → (∀ m, m < j → ¬ ma_T (e m) i) → wY_mate_8 post (nI i) 1 (dd + 1) (nI j) (nI n) ay cy := by
  intro dd
  induction dd with
  | zero =>
    intro j cy hj H
    have hj' : j = n := by omega
    subst hj'
    exact br_t (nI_le (Nat.le_refl j) (by omega)) (h0 H cy)
  | succ dd ih =>
    intro j cy hj H
    have nxt : ∀ cy', ¬ ma_T (e j) i → wY_mate_44 post (wY_mate_8 post (nI i) 1 (dd + 1)) (nI i) 1 (nI j) (nI n) ay cy' := fun cy' w => by
      unfold wY_mate_44
      refine br_f (by decide) (nm_r (nI_1 j) (ih (j + 1) cy' (by omega) (fun m hm => ?_)))
      by_cases q : m = j
      · rw [q]; exact w
      · exact H m (by omega)
    refine br_f (nI_ge (by omega) (by omega)) (br_f (by decide) ?_)
    by_cases w : j ≤ i
    · refine br_t (nI_le w (by omega)) (nxt cy (fun hT => ?_))
      have := ma_J_top hJ (i := j) (by omega) hT
      omega
    · refine br_f (nI_ge (by omega) (by omega)) (my_opening hn hG hg hJ (i := j) (by omega) rfl (fun q cy1 => ?_) (fun q cy1 => ?_))
      · exact br_f (by decide) (nxt cy1 (fun hT => ma_T_ne hT q))
      · exact br_t rfl (my_partners hn hG hg hJ (i := i) (j := j) (by omega) (by omega) rfl rfl (fun hT cy2 => br_f (by decide) (h1 j (by omega) (by omega) hT cy2)) (fun hT cy2 => br_t rfl (nxt cy2 hT)))
theorem my_mate0_l {post : Int32 → SY → Prop} {g e : Nat → Nat} {n i : Nat} {ay : Nat → Int32} (hn : n ≤ 26) (hG : ma_G g n) (hg : ma_arr ay g n) (hJ : ma_J (ma_bd g) (ma_d g) e n) (hi : i < n) (he : e i ≠ 0) (h1 : ∀ a, a < i → ma_T (e i) a → ∀ cy', post (nI a) (nI n, ay, cy')) : ∀ dd j cy, j + dd = n → (∀ m, m < j → ¬ ma_T (e i) m) → wY_mate_8 post (nI i) 0 (dd + 1) (nI j) (nI n) ay cy := by
  intro dd
  induction dd with
  | zero =>
    intro j cy hj H
    have hj' : j = n := by omega
    subst hj'
    obtain ⟨a, ha⟩ := ma_T_ex he
    have := ma_J_top hJ hi ha
    exact absurd ha (H a (by omega))
  | succ dd ih =>
    intro j cy hj H
    have nxt : ∀ cy', ¬ ma_T (e i) j → wY_mate_8 post (nI i) 0 (dd + 1) (nI (j + 1)) (nI n) ay cy' := fun cy' w =>
      ih (j + 1) cy' (by omega) (fun m hm => by
        by_cases q : m = j
        · rw [q]; exact w
        · exact H m (by omega))
    refine br_f (nI_ge (by omega) (by omega)) (br_t rfl (br_t rfl ?_))
    by_cases w : i ≤ j
    · refine br_t (nI_le w (by omega)) (nm_r (nI_1 j) (nxt cy (fun hT => ?_)))
      have := ma_J_top hJ hi hT
      omega
    · refine br_f (nI_ge (by omega) (by omega)) (my_opening hn hG hg hJ (i := j) (by omega) rfl (fun q cy1 => ?_) (fun q cy1 => ?_))
      · exact br_f (by decide) (my_partners hn hG hg hJ (i := j) (j := i) (by omega) hi rfl rfl (fun hT cy2 => br_f (by decide) (h1 j (by omega) hT cy2)) (fun hT cy2 => br_t rfl (nm_r (nI_1 j) (nxt cy2 hT))))
      · exact br_t rfl (nm_r (nI_1 j) (nxt cy1 (fun hT => q (hJ.2.2 i j hi hT))))
theorem my_mate {post : Int32 → SY → Prop} {g e : Nat → Nat} {n i : Nat} {xi : Int32} {ay cy : Nat → Int32} (hn : n ≤ 26) (hG : ma_G g n) (hg : ma_arr ay g n) (hJ : ma_J (ma_bd g) (ma_d g) e n) (hi : i < n) (hi' : xi = nI i) (h1 : ∀ a, a < i → ma_T (e i) a → ∀ cy', post (nI a) (nI n, ay, cy')) (h2 : e i = 0 → ∀ j, i < j → j < n → ma_T (e j) i → ∀ cy', post (nI j) (nI n, ay, cy')) (h3 : e i = 0 → (∀ j, j < n → ¬ ma_T (e j) i) → ∀ cy', post (-2) (nI n, ay, cy')) : wpY_mate post (nI n, ay, cy) xi := by
  subst hi'
  unfold wpY_mate
  refine my_opening hn hG hg hJ hi rfl (fun q cy1 => ⟨n + 1, ?_⟩) (fun q cy1 => ⟨n + 1, ?_⟩)
  · exact my_mate1_l hn hG hg hJ hi (h2 q) (h3 q) n 0 cy1 (by omega) (fun m hm => absurd hm (Nat.not_lt_zero m))
  · exact my_mate0_l hn hG hg hJ hi q h1 n 0 cy1 (by omega) (fun m hm => absurd hm (Nat.not_lt_zero m))
theorem my_forever_l {post : Int32 → SY → Prop} {g e : Nat → Nat} {n k : Nat} {ay : Nat → Int32} (hn : n ≤ 26) (hG : ma_G g n) (hg : ma_arr ay g n) (hJ : ma_J (ma_bd g) (ma_d g) e n) (hk : k < 7) (hp : ∀ cy', post (nI (ma_la e (ma_d g) (k + 1) n n)) (nI n, ay, cy')) : ∀ dd i cy, i + dd = n → wY_forever_14 post (nI k) (dd + 1) (nI (ma_la e (ma_d g) (k + 1) i n)) (nI i) (nI n) ay cy := by
  intro dd
  induction dd with
  | zero =>
    intro i cy hi
    have hi' : i = n := by omega
    subst hi'
    exact br_t (nI_le (Nat.le_refl i) (by omega)) (hp cy)
  | succ dd ih =>
    intro i cy hi
    have hin : i < n := by omega
    have hdi := ma_d_pos hG hin
    have h1 := fun cy' => ih (i + 1) cy' (by omega)
    have hf : ¬ (e i = 0 ∧ ma_d g i = k + 1 ∧ ∀ m, m < n → ¬ ma_T (e m) i) → ma_la e (ma_d g) (k + 1) (i + 1) n = ma_la e (ma_d g) (k + 1) i n := fun w => ma_cp_f (P := fun a => e a = 0 ∧ ma_d g a = k + 1 ∧ ∀ m, m < n → ¬ ma_T (e m) a) w
    have ht : (e i = 0 ∧ ma_d g i = k + 1 ∧ ∀ m, m < n → ¬ ma_T (e m) i) → ma_la e (ma_d g) (k + 1) (i + 1) n = ma_la e (ma_d g) (k + 1) i n + 1 := fun w => ma_cp_t (P := fun a => e a = 0 ∧ ma_d g a = k + 1 ∧ ∀ m, m < n → ¬ ma_T (e m) a) w
    refine br_f (nI_ge (by omega) (by omega)) (my_dim hn hG hg rfl hin ?_)
    by_cases w : ma_d g i = k + 1
    · refine br_t (congrArg nI (by omega)) (my_opening hn hG hg hJ hin rfl (fun q cy1 => br_f (by decide) ?_) (fun q cy1 => br_t rfl (nm_r (nI_1 i) ?_)))
      · refine my_mate hn hG hg hJ hin rfl (fun a _ hT => absurd q (ma_T_ne hT)) (fun _ j hj1 hj2 hT cy2 => br_t (nI_pos' (by omega)) (nm_r (nI_1 i) ?_)) (fun _ hno cy2 => br_f (by decide) (nm_r (nI_1 _) (nm_r (nI_1 i) ?_)))
        · have := h1 cy2
          rw [hf (fun z => z.2.2 j hj2 hT)] at this
          exact this
        · have := h1 cy2
          rw [ht ⟨q, w, hno⟩] at this
          exact this
      · have := h1 cy1
        rw [hf (fun z => q z.1)] at this
        exact this
    · refine br_f (fun q => w ?_) (nm_r (nI_1 i) ?_)
      · have := (nI_eq (by omega) (by omega)).mp q
        omega
      · have := h1 cy
        rw [hf (fun z => w z.2.1)] at this
        exact this
end
section
theorem mx_isTime_t {post : Int32 → Prop} {n t : Nat} {ag ab ac ap : Nat → Int32} (hn : n ≤ 26) (ht : t ≤ n) (hp : post 1) : wpX_isTime post (nI n, ag, ab, ac, ap) (nI t) := by
  unfold wpX_isTime
  exact br_f (nI_pos (by omega)) (br_f (nI_nlt ht (by omega)) hp)
theorem mx_isTime_f {post : Int32 → Prop} {n : Nat} {x : Int32} {ag ab ac ap : Nat → Int32} (hn : n ≤ 26) (hx : ∀ i, i ≤ n → x ≠ nI i) (hp : post 0) : wpX_isTime post (nI n, ag, ab, ac, ap) x := by
  unfold wpX_isTime
  refine br_c (fun _ => hp) (fun h => br_c (fun _ => hp) (fun h2 => ?_))
  obtain ⟨j, hj, rfl⟩ := nI_of h
  refine absurd rfl (hx j ?_)
  apply Classical.byContradiction
  intro w
  exact h2 (nI_lt (by omega) hj)
theorem mx_isDim_t {post : Int32 → Prop} {k : Nat} (hk : k < 4) (hp : post 1) : wpX_isDimension post (nI k) := by
  unfold wpX_isDimension
  exact br_f (nI_pos (by omega)) (br_f (nI_nlt (a := 3) (by omega) (by decide)) hp)
theorem mx_isDim_f {post : Int32 → Prop} {x : Int32} (hx : ∀ i, i < 4 → x ≠ nI i) (hp : post 0) : wpX_isDimension post x := by
  unfold wpX_isDimension
  refine br_c (fun _ => hp) (fun h => br_c (fun _ => hp) (fun h2 => ?_))
  obtain ⟨j, hj, rfl⟩ := nI_of h
  refine absurd rfl (hx j ?_)
  apply Classical.byContradiction
  intro w
  exact h2 (nI_lt (a := 3) (by omega) hj)
theorem my_badTime_t {post : Int32 → Prop} {n t : Nat} {ay cy : Nat → Int32} (hn : n ≤ 26) (ht : t ≤ n) (hp : post 0) : wpY_badTime post (nI n, ay, cy) (nI t) := by
  unfold wpY_badTime
  exact br_f (nI_pos (by omega)) (br_t (nI_le ht (by omega)) hp)
theorem my_badTime_f {post : Int32 → Prop} {n : Nat} {x : Int32} {ay cy : Nat → Int32} (hn : n ≤ 26) (hx : ∀ i, i ≤ n → x ≠ nI i) (hp : post 1) : wpY_badTime post (nI n, ay, cy) x := by
  unfold wpY_badTime
  refine br_c (fun _ => hp) (fun h => br_c (fun h2 => ?_) (fun _ => hp))
  obtain ⟨j, hj, rfl⟩ := nI_of h
  exact absurd rfl (hx j ((nI_leI hj (by omega)).mp h2))
theorem my_badDim_t {post : Int32 → Prop} {k : Nat} {fc : Int32} {ay cy : Nat → Int32} (hk : k < 4) (hp : post 0) : wpY_badDimension post (fc, ay, cy) (nI k) := by
  unfold wpY_badDimension
  exact br_f (nI_pos (by omega)) (br_t (nI_le (b := 3) (by omega) (by decide)) hp)
theorem my_badDim_f {post : Int32 → Prop} {x fc : Int32} {ay cy : Nat → Int32} (hx : ∀ i, i < 4 → x ≠ nI i) (hp : post 1) : wpY_badDimension post (fc, ay, cy) x := by
  unfold wpY_badDimension
  refine br_c (fun _ => hp) (fun h => br_c (fun h2 => ?_) (fun _ => hp))
  obtain ⟨j, hj, rfl⟩ := nI_of h
  have := (nI_leI (b := 3) hj (by decide)).mp h2
  exact absurd rfl (hx j (by omega))
theorem my_bad_t {post : Int32 → Prop} {n i : Nat} {ay cy : Nat → Int32} (hn : n ≤ 26) (hi : i < n) (hp : post 0) : wpY_bad post (nI n, ay, cy) (nI i) := by
  unfold wpY_bad
  exact br_f (nI_pos (by omega)) (br_f (nI_ge hi (by omega)) (br_t (nI_le (b := 25) (by omega) (by decide)) hp))
theorem my_bad_f {post : Int32 → Prop} {n : Nat} {x : Int32} {ay cy : Nat → Int32} (hn : n ≤ 26) (hx : ∀ i, i < n → x ≠ nI i) (hp : post 1) : wpY_bad post (nI n, ay, cy) x := by
  unfold wpY_bad
  refine br_c (fun _ => hp) (fun h => br_c (fun _ => hp) (fun h2 => ?_))
  obtain ⟨j, hj, rfl⟩ := nI_of h
  refine absurd rfl (hx j ?_)
  apply Classical.byContradiction
  intro w
  exact h2 (nI_le (by omega) hj)
theorem ma_rng (P : Nat → Prop) (x : Int32) : (∃ i, P i ∧ x = nI i) ∨ (∀ i, P i → x ≠ nI i) := by
  by_cases h : ∃ i, P i ∧ x = nI i
  · exact Or.inl h
  · exact Or.inr (fun i hi e => h ⟨i, hi, e⟩)
theorem mx_dimg {post : Int32 → Prop} {g : Nat → Nat} {n i : Nat} {ag : Nat → Int32} (hn : n ≤ 26) (hG : ma_G g n) (hg : ma_arr ag g n) (hi : i < n) (h : post (nI (ma_d g i - 1))) : wpX_dimensionOf post (ag (nI i).toNatClampNeg) :=
  mx_dim (ma_arr_c hg hi hn) (hG.1 i hi).2.1 (hG.1 i hi).1 h
theorem mx_cp_l {post : Int32 → Prop} {g : Nat → Nat} {n t k : Nat} {ag ab ac ap : Nat → Int32} (hn : n ≤ 26) (hG : ma_G g n) (hg : ma_arr ag g n) (ht : t ≤ n) (hk : k < 8) (hp : post (nI (ma_cp (fun a => ma_d g a = k + 1) t))) : ∀ dd i, i + dd = t → wX_countPieces_5 post (nI t) (nI k) (nI n) ag ab ac ap (dd + 1) (nI (ma_cp (fun a => ma_d g a = k + 1) i)) (nI i) := by
  intro dd
  induction dd with
  | zero =>
    intro i hi
    have hi' : i = t := by omega
    subst hi'
    exact br_t (nI_le (Nat.le_refl i) (by omega)) hp
  | succ dd ih =>
    intro i hi
    have hin : i < n := by omega
    have hdi := ma_d_pos hG hin
    have h1 := ih (i + 1) (by omega)
    refine br_f (nI_ge (by omega) (by omega)) ⟨vp_in_nI (by omega) (by decide), mx_dimg hn hG hg hin ?_⟩
    by_cases w : ma_d g i = k + 1
    · rw [ma_cp_t (P := fun a => ma_d g a = k + 1) w] at h1
      exact br_t (congrArg nI (by omega)) (nm_r (nI_1 _) (nm_r (nI_1 i) h1))
    · rw [ma_cp_f (P := fun a => ma_d g a = k + 1) w] at h1
      refine br_f (fun q => w ?_) (nm_r (nI_1 i) h1)
      have := (nI_eq (by omega) (by omega)).mp q
      omega
theorem mx_cp {post : Int32 → Prop} {g : Nat → Nat} {n t k : Nat} {ag ab ac ap : Nat → Int32} (hn : n ≤ 26) (hG : ma_G g n) (hg : ma_arr ag g n) (ht : t ≤ n) (hk : k < 8) (hp : post (nI (ma_cp (fun a => ma_d g a = k + 1) t))) : wpX_countPieces post (nI n, ag, ab, ac, ap) (nI t) (nI k) := by
  unfold wpX_countPieces
  exact ⟨t + 1, mx_cp_l hn hG hg ht hk hp t 0 (by omega)⟩
theorem mx_cl_l {post : Int32 → Prop} {g e : Nat → Nat} {n f t k : Nat} {ag ab ac ap : Nat → Int32} (hn : n ≤ 26) (hG : ma_G g n) (hX : ma_XA g e n ag ab ac ap) (hft : f ≤ t) (ht : t ≤ n) (hk : k < 8) (hp : post (nI (ma_la e (ma_d g) (k + 1) f t))) : ∀ dd i, i + dd = f → wX_countLasting_6 post (nI f) (nI t) (nI k) (nI n) ag ab ac ap (dd + 1) (nI (ma_la e (ma_d g) (k + 1) i t)) (nI i) := by
  obtain ⟨hJ, hg, hb, hc, hP⟩ := hX
  intro dd
  induction dd with
  | zero =>
    intro i hi
    have hi' : i = f := by omega
    subst hi'
    exact br_t (nI_le (Nat.le_refl i) (by omega)) hp
  | succ dd ih =>
    intro i hi
    have hin : i < n := by omega
    have hdi := ma_d_pos hG hin
    have h1 := ih (i + 1) (by omega)
    have hf : ¬ (e i = 0 ∧ ma_d g i = k + 1 ∧ ∀ m, m < t → ¬ ma_T (e m) i) → ma_la e (ma_d g) (k + 1) (i + 1) t = ma_la e (ma_d g) (k + 1) i t := fun w => ma_cp_f (P := fun a => e a = 0 ∧ ma_d g a = k + 1 ∧ ∀ m, m < t → ¬ ma_T (e m) a) w
    have htt : (e i = 0 ∧ ma_d g i = k + 1 ∧ ∀ m, m < t → ¬ ma_T (e m) i) → ma_la e (ma_d g) (k + 1) (i + 1) t = ma_la e (ma_d g) (k + 1) i t + 1 := fun w => ma_cp_t (P := fun a => e a = 0 ∧ ma_d g a = k + 1 ∧ ∀ m, m < t → ¬ ma_T (e m) a) w
    have hv : vp_in (nI i) 26 := vp_in_nI (by omega) (by decide)
    have ea : ap (nI i).toNatClampNeg = ap i := by rw [nI_clamp (by omega)]
    have lst : e i = 0 → (∀ m, m < t → ¬ ma_T (e m) i) → wX_countLasting_34 post (wX_countLasting_6 post (nI f) (nI t) (nI k) (nI n) ag ab ac ap (dd + 1)) (nI f) (nI t) (nI k) (nI (ma_la e (ma_d g) (k + 1) i t)) (nI i) (nI n) ag ab ac ap := fun q1 q2 => by
      unfold wX_countLasting_34 wX_countLasting_39
      refine br_f (by decide) ⟨hv, mx_dimg hn hG hg hin ?_⟩
      by_cases w : ma_d g i = k + 1
      · rw [htt ⟨q1, w, q2⟩] at h1
        exact br_t (congrArg nI (by omega)) (nm_r (nI_1 _) (nm_r (nI_1 i) h1))
      · rw [hf (fun z => w z.2.1)] at h1
        refine br_f (fun q => w ?_) (nm_r (nI_1 i) h1)
        have := (nI_eq (by omega) (by omega)).mp q
        omega
    have nls : ¬ (e i = 0 ∧ ma_d g i = k + 1 ∧ ∀ m, m < t → ¬ ma_T (e m) i) → wX_countLasting_39 post (wX_countLasting_6 post (nI f) (nI t) (nI k) (nI n) ag ab ac ap (dd + 1)) (nI f) (nI t) (nI k) (nI (ma_la e (ma_d g) (k + 1) i t)) (nI i) 0 (nI n) ag ab ac ap := fun w => by
      unfold wX_countLasting_39
      rw [hf w] at h1
      exact br_t rfl (nm_r (nI_1 i) h1)
    refine br_f (nI_ge (by omega) (by omega)) ⟨hv, ?_⟩
    rw [ea]
    rcases hP i hin with ⟨a, h1, h2, h3⟩ | ⟨j, h1, h2, h3, h4, h5⟩ | ⟨h1, h2, h3⟩
    · rw [h3]
      exact br_f (ma_nm1 (by omega)) ⟨hv, br_t (nI_lt (by omega) (by omega)) (nls (fun z => ma_T_ne h2 z.1))⟩
    · rw [h5]
      refine br_f (ma_nm1 (by omega)) ⟨hv, ?_⟩
      by_cases w : j < t
      · exact br_t (nI_lt w (by omega)) (nls (fun z => z.2.2 j w h4))
      · refine br_f (nI_nlt (by omega) (by omega)) (lst h3 (fun m hm hT => ?_))
        have := hJ.2.1 m j i (by omega) h2 hT h4
        omega
    · rw [h3]
      exact br_t rfl (lst h1 (fun m hm => h2 m (by omega)))
theorem mx_cl {post : Int32 → Prop} {g e : Nat → Nat} {n f t k : Nat} {ag ab ac ap : Nat → Int32} (hn : n ≤ 26) (hG : ma_G g n) (hX : ma_XA g e n ag ab ac ap) (hft : f ≤ t) (ht : t ≤ n) (hk : k < 8) (hp : post (nI (ma_la e (ma_d g) (k + 1) f t))) : wpX_countLasting post (nI n, ag, ab, ac, ap) (nI f) (nI t) (nI k) := by
  unfold wpX_countLasting
  exact ⟨f + 1, mx_cl_l hn hG hX hft ht hk hp f 0 (by omega)⟩
theorem ma_long {g e : Nat → Nat} {n k : Nat} {ag ab ac ap ay : Nat → Int32} (hn : n ≤ 26) (hG : ma_G g n) (hX : ma_XA g e n ag ab ac ap) (hy : ma_arr ay g n) (hk : k < 7) : ∀ dd i m, i + dd = n → m ≤ 26 → ∃ r : Nat, (∀ post : Int32 → Prop, post (nI r) → wX_longest_13 post (nI k) (nI n) ag ab ac ap (dd + 1) (nI m) (nI i)) ∧ (∀ (post : Int32 → SY → Prop) cy, (∀ cy', post (nI r) (nI n, ay, cy')) → wY_longest_14 post (nI k) (dd + 1) (nI m) (nI i) (nI n) ay cy) := by
  obtain ⟨hJ, hg, hb, hc, hP⟩ := hX
  intro dd
  induction dd with
  | zero =>
    intro i m hi hm
    have hi' : i = n := by omega
    subst hi'
    exact ⟨m, fun post h => br_t (nI_le (Nat.le_refl i) (by omega)) h, fun post cy h => br_t (nI_le (Nat.le_refl i) (by omega)) (h cy)⟩
  | succ dd ih =>
    intro i m hi hm
    have hin : i < n := by omega
    have hdi := ma_d_pos hG hin
    have hv : vp_in (nI i) 26 := vp_in_nI (by omega) (by decide)
    have ea : ap (nI i).toNatClampNeg = ap i := by rw [nI_clamp (by omega)]
    have hc1 : ¬ nI n ≤ nI i := nI_ge hin (by omega)
    have hle0 : ∀ x : Int32, x < 0 → x ≤ nI m := fun x hx => Int32.le_of_lt (Int32.lt_of_lt_of_le hx (nI_pos' (by omega)))
    have hm2 : (-2 : Int32) - nI i ≤ nI m := hle0 _ (by
      rw [Int32.lt_iff_toInt_lt, Int32.toInt_sub, nI_toInt (by omega), show (0 : Int32).toInt = 0 from by decide, show (-2 : Int32).toInt = -2 from by decide, Int.bmod_eq_of_le (by omega) (by omega)]
      omega)
    have skipY : ∀ (post : Int32 → SY → Prop) cy r, wY_longest_14 post (nI k) (dd + 1) (nI m) (nI (i + 1)) (nI n) ay cy → (r = -2) → wY_longest_49 post (wY_longest_14 post (nI k) (dd + 1)) (nI k) (nI m) (nI i) r (nI n) ay cy := fun post cy r h hr => by
      subst hr
      unfold wY_longest_49
      exact br_t hm2 (nm_r (nI_1 i) h)
    obtain ⟨r0, hX0, hY0⟩ := ih (i + 1) m (by omega) hm
    by_cases w : ma_d g i = k + 1
    · have ed : nI (ma_d g i - 1) = nI k := congrArg nI (by omega)
      rcases hP i hin with ⟨a, h1, h2, h3⟩ | ⟨j, h1, h2, h3, h4, h5⟩ | ⟨h1, h2, h3⟩
      · refine ⟨r0, fun post h => br_f hc1 ⟨hv, nm_r (e' := nI a - nI i) (by rw [ea, h3]) (br_t (hle0 _ (pk_sneg (by omega) h1)) (nm_r (nI_1 i) (hX0 post h)))⟩, fun post cy h => br_f hc1 (my_dim hn hG hy rfl hin (br_t ed (my_opening hn hG hy hJ hin rfl (fun q => absurd q (ma_T_ne h2)) (fun q cy1 => br_t rfl ?_))))⟩
        exact skipY post cy1 _ (hY0 post cy1 h) rfl
      · have es : nI j - nI i = nI (j - i) := pk_sub (by omega)
        by_cases z : j - i ≤ m
        · refine ⟨r0, fun post h => br_f hc1 ⟨hv, nm_r (e' := nI (j - i)) (by rw [ea, h5, es]) (br_t (nI_le z (by omega)) (nm_r (nI_1 i) (hX0 post h)))⟩, fun post cy h => br_f hc1 (my_dim hn hG hy rfl hin (br_t ed (my_opening hn hG hy hJ hin rfl (fun q cy1 => br_f (by decide) (my_mate hn hG hy hJ hin rfl (fun a _ hT => absurd q (ma_T_ne hT)) (fun _ j' _ hj2 hT cy2 => ?_) (fun _ hno => absurd h4 (hno j h2)))) (fun q => absurd h3 q))))⟩
          have ej : j' = j := hJ.2.1 j' j i hj2 h2 hT h4
          subst ej
          unfold wY_longest_49
          exact br_t (by rw [es]; exact nI_le z (by omega)) (nm_r (nI_1 i) (hY0 post cy2 h))
        · obtain ⟨r1, hX1, hY1⟩ := ih (i + 1) (j - i) (by omega) (by omega)
          refine ⟨r1, fun post h => br_f hc1 ⟨hv, nm_r (e' := nI (j - i)) (by rw [ea, h5, es]) (br_f (nI_ge (by omega) (by omega)) ⟨hv, mx_dimg hn hG hg hin (br_t ed (nm_r (nI_1 i) (hX1 post h)))⟩)⟩, fun post cy h => br_f hc1 (my_dim hn hG hy rfl hin (br_t ed (my_opening hn hG hy hJ hin rfl (fun q cy1 => br_f (by decide) (my_mate hn hG hy hJ hin rfl (fun a _ hT => absurd q (ma_T_ne hT)) (fun _ j' _ hj2 hT cy2 => ?_) (fun _ hno => absurd h4 (hno j h2)))) (fun q => absurd h3 q))))⟩
          have ej : j' = j := hJ.2.1 j' j i hj2 h2 hT h4
          subst ej
          unfold wY_longest_49
          exact br_f (by rw [es]; exact nI_ge (by omega) (by omega)) (nm_r es (nm_r (nI_1 i) (hY1 post cy2 h)))
      · refine ⟨r0, fun post h => br_f hc1 ⟨hv, nm_r (e' := -1 - nI i) (by rw [ea, h3]) (br_t (hle0 _ ?_) (nm_r (nI_1 i) (hX0 post h)))⟩, fun post cy h => br_f hc1 (my_dim hn hG hy rfl hin (br_t ed (my_opening hn hG hy hJ hin rfl (fun q cy1 => br_f (by decide) (my_mate hn hG hy hJ hin rfl (fun a _ hT => absurd q (ma_T_ne hT)) (fun _ j' _ hj2 hT => absurd hT (h2 j' hj2)) (fun _ _ cy2 => skipY post cy2 _ (hY0 post cy2 h) rfl))) (fun q => absurd h1 q))))⟩
        rw [Int32.lt_iff_toInt_lt, Int32.toInt_sub, nI_toInt (by omega), show (0 : Int32).toInt = 0 from by decide, show (-1 : Int32).toInt = -1 from by decide, Int.bmod_eq_of_le (by omega) (by omega)]
        omega
    · have ed : ¬ nI (ma_d g i - 1) = nI k := fun q => w (by
        have := (nI_eq (by omega) (by omega)).mp q
        omega)
      refine ⟨r0, fun post h => br_f hc1 ⟨hv, nm_e (br_c (fun _ => nm_r (nI_1 i) (hX0 post h)) (fun _ => ⟨hv, mx_dimg hn hG hg hin (br_f ed (nm_r (nI_1 i) (hX0 post h)))⟩))⟩, fun post cy h => br_f hc1 (my_dim hn hG hy rfl hin (br_f ed ?_))⟩
      unfold wY_longest_47
      exact skipY post cy _ (hY0 post cy h) rfl
end
section
noncomputable def ma_eu (g : Nat → Nat) (t : Nat) : Int32 := nI (ma_cp (fun a => ma_d g a = 0 + 1) t) - nI (ma_cp (fun a => ma_d g a = 1 + 1) t) + nI (ma_cp (fun a => ma_d g a = 2 + 1) t) - nI (ma_cp (fun a => ma_d g a = 3 + 1) t)
theorem ma_eu_1 {g : Nat → Nat} {i : Nat} (h : ma_d g i = 1) : ma_eu g i + 1 = ma_eu g (i + 1) := by
  unfold ma_eu
  rw [ma_cp_t (P := fun a => ma_d g a = 0 + 1) (by omega), ma_cp_f (P := fun a => ma_d g a = 1 + 1) (by omega), ma_cp_f (P := fun a => ma_d g a = 2 + 1) (by omega), ma_cp_f (P := fun a => ma_d g a = 3 + 1) (by omega), ← nI_1]
  grind
theorem ma_eu_2 {g : Nat → Nat} {i : Nat} (h : ma_d g i = 2) : ma_eu g i + (-1) = ma_eu g (i + 1) := by
  unfold ma_eu
  rw [ma_cp_f (P := fun a => ma_d g a = 0 + 1) (by omega), ma_cp_t (P := fun a => ma_d g a = 1 + 1) (by omega), ma_cp_f (P := fun a => ma_d g a = 2 + 1) (by omega), ma_cp_f (P := fun a => ma_d g a = 3 + 1) (by omega), ← nI_1]
  grind
theorem ma_eu_3 {g : Nat → Nat} {i : Nat} (h : ma_d g i = 3) : ma_eu g i + 1 = ma_eu g (i + 1) := by
  unfold ma_eu
  rw [ma_cp_f (P := fun a => ma_d g a = 0 + 1) (by omega), ma_cp_f (P := fun a => ma_d g a = 1 + 1) (by omega), ma_cp_t (P := fun a => ma_d g a = 2 + 1) (by omega), ma_cp_f (P := fun a => ma_d g a = 3 + 1) (by omega), ← nI_1]
  grind
theorem ma_eu_4 {g : Nat → Nat} {i : Nat} (h : ma_d g i = 4) : ma_eu g i + (-1) = ma_eu g (i + 1) := by
  unfold ma_eu
  rw [ma_cp_f (P := fun a => ma_d g a = 0 + 1) (by omega), ma_cp_f (P := fun a => ma_d g a = 1 + 1) (by omega), ma_cp_f (P := fun a => ma_d g a = 2 + 1) (by omega), ma_cp_t (P := fun a => ma_d g a = 3 + 1) (by omega), ← nI_1]
  grind
theorem mx_eu_l {post : Int32 → Prop} {g : Nat → Nat} {n t : Nat} {ag ab ac ap : Nat → Int32} (hn : n ≤ 26) (hG : ma_G g n) (hg : ma_arr ag g n) (ht : t ≤ n) (hp : post (ma_eu g t)) : ∀ dd i, i + dd = t → wX_euler_16 post (nI t) (nI n) ag ab ac ap (dd + 1) (ma_eu g i) (nI i) := by
  intro dd
  induction dd with
  | zero =>
    intro i hi
    have hi' : i = t := by omega
    subst hi'
    exact br_t (nI_le (Nat.le_refl i) (by omega)) hp
  | succ dd ih =>
    intro i hi
    have hin : i < n := by omega
    have hdi := ma_d_pos hG hin
    have h1 := ih (i + 1) (by omega)
    refine br_f (nI_ge (by omega) (by omega)) ⟨vp_in_nI (by omega) (by decide), mx_dimg hn hG hg hin ⟨by decide, ?_⟩⟩
    have hc : ma_d g i = 1 ∨ ma_d g i = 2 ∨ ma_d g i = 3 ∨ ma_d g i = 4 := by omega
    rcases hc with w | w | w | w
    · exact br_t (by rw [w]; decide) (nm_r (ma_eu_1 w) (nm_r (nI_1 i) h1))
    · exact br_f (by rw [w]; decide) (nm_r (ma_eu_2 w) (nm_r (nI_1 i) h1))
    · exact br_t (by rw [w]; decide) (nm_r (ma_eu_3 w) (nm_r (nI_1 i) h1))
    · exact br_f (by rw [w]; decide) (nm_r (ma_eu_4 w) (nm_r (nI_1 i) h1))
/-- what the dimension of the chain c by its pieces below i is held as -/
def ma_st (c : Nat) (d : Nat → Nat) (i : Nat) (x : Int32) : Prop := (x = -1 ∧ ∀ m, m < i → c.testBit m = false) ∨ (∃ K, 1 ≤ K ∧ K ≤ 4 ∧ x = nI (K - 1) ∧ (∃ m, m < i ∧ c.testBit m = true) ∧ ∀ m, m < i → c.testBit m = true → d m = K)
theorem ma_st_0 (c : Nat) (d : Nat → Nat) : ma_st c d 0 (-1) := Or.inl ⟨rfl, fun m hm => absurd hm (Nat.not_lt_zero m)⟩
theorem ma_st_f {c : Nat} {d : Nat → Nat} {i : Nat} {x : Int32} (h : ma_st c d i x) (hb : c.testBit i = false) : ma_st c d (i + 1) x := by
  rcases h with ⟨h1, h2⟩ | ⟨K, h1, h2, h3, ⟨m, hm, hm2⟩, h5⟩
  · refine Or.inl ⟨h1, fun m hm => ?_⟩
    by_cases w : m = i
    · rw [w]; exact hb
    · exact h2 m (by omega)
  · refine Or.inr ⟨K, h1, h2, h3, ⟨m, by omega, hm2⟩, fun m hm hm2 => ?_⟩
    by_cases w : m = i
    · rw [w, hb] at hm2; exact Bool.noConfusion hm2
    · exact h5 m (by omega) hm2
theorem ma_st_t {c : Nat} {d : Nat → Nat} {i : Nat} {x : Int32} (h : ma_st c d i x) (hb : c.testBit i = true) (hd : 1 ≤ d i ∧ d i ≤ 4) (hx : x = -1 ∨ x = nI (d i - 1)) : ma_st c d (i + 1) (nI (d i - 1)) := by
  refine Or.inr ⟨d i, hd.1, hd.2, rfl, ⟨i, by omega, hb⟩, fun m hm hm2 => ?_⟩
  by_cases w : m = i
  · rw [w]
  · rcases h with ⟨h1, h2⟩ | ⟨K, h1, h2, h3, _, h5⟩
    · rw [h2 m (by omega)] at hm2; exact Bool.noConfusion hm2
    · rw [h5 m (by omega) hm2]
      rcases hx with q | q
      · exact absurd (h3.symm.trans q) (ma_nm1 (by omega))
      · have := (nI_eq (by omega) (by omega)).mp (h3.symm.trans q)
        omega
theorem ma_st_no {c : Nat} {d : Nat → Nat} {i n : Nat} {x : Int32} (h : ma_st c d i x) (hi : i < n) (hb : c.testBit i = true) (h1 : x ≠ -1) (h2 : x ≠ nI (d i - 1)) : ∀ y, ¬ ma_st c d n y := by
  intro y hy
  rcases h with ⟨q1, q2⟩ | ⟨K, q1, q2, q3, ⟨m, hm, hm2⟩, q5⟩
  · exact h1 q1
  · rcases hy with ⟨p1, p2⟩ | ⟨L, p1, p2, p3, _, p5⟩
    · rw [p2 i hi] at hb; exact Bool.noConfusion hb
    · have e1 := p5 i hi hb
      have e2 := p5 m (by omega) hm2
      have e3 := q5 m hm hm2
      apply h2
      rw [q3, e1, ← e2, e3]
theorem ma_st_lt {c : Nat} {d : Nat → Nat} {i : Nat} {x : Int32} (h : ma_st c d i x) : x ≠ -2 := by
  rcases h with ⟨h1, _⟩ | ⟨K, h1, h2, h3, _, _⟩
  · rw [h1]; decide
  · intro e
    have h4 := nI_pos (n := K - 1) (by omega)
    rw [← h3, e] at h4
    exact h4 (by decide)
theorem mx_od_l {post : Int32 → Prop} {g : Nat → Nat} {n c : Nat} {ag ab ac ap : Nat → Int32} (hn : n ≤ 26) (hG : ma_G g n) (hg : ma_arr ag g n) (hc : c < 2 ^ 31) (h1 : ∀ x, ma_st c (ma_d g) n x → post 1) (h0 : (∀ x, ¬ ma_st c (ma_d g) n x) → post 0) : ∀ dd i x, i + dd = n → ma_st c (ma_d g) i x → wX_isOfOneDimension_4 post (nI c) (nI n) ag ab ac ap (dd + 1) x (nI i) := by
  intro dd
  induction dd with
  | zero =>
    intro i x hi hs
    have hi' : i = n := by omega
    subst hi'
    exact br_t (nI_le (Nat.le_refl i) (by omega)) (h1 x hs)
  | succ dd ih =>
    intro i x hi hs
    have hin : i < n := by omega
    have hdi := ma_d_pos hG hin
    refine br_f (nI_ge (by omega) (by omega)) ?_
    cases hb : c.testBit i
    · exact mx_has_f hc (by omega) hb (br_t rfl (nm_r (nI_1 i) (ih (i + 1) x (by omega) (ma_st_f hs hb))))
    · refine mx_has_t hc (by omega) hb (br_f (by decide) ⟨vp_in_nI (by omega) (by decide), mx_dimg hn hG hg hin ?_⟩)
      by_cases w : x = -1
      · exact br_t w (nm_r (nI_1 i) (ih (i + 1) _ (by omega) (ma_st_t hs hb hdi (Or.inl w))))
      · by_cases z : x = nI (ma_d g i - 1)
        · exact br_f w (br_t z (nm_r (nI_1 i) (ih (i + 1) _ (by omega) (ma_st_t hs hb hdi (Or.inr z)))))
        · exact br_f w (br_f z (h0 (ma_st_no hs hin hb w z)))
theorem mx_od {post : Int32 → Prop} {g : Nat → Nat} {n c : Nat} {ag ab ac ap : Nat → Int32} (hn : n ≤ 26) (hG : ma_G g n) (hg : ma_arr ag g n) (hc : c < 2 ^ 31) (h1 : ∀ x, ma_st c (ma_d g) n x → post 1) (h0 : (∀ x, ¬ ma_st c (ma_d g) n x) → post 0) : wpX_isOfOneDimension post (nI n, ag, ab, ac, ap) (nI c) := by
  unfold wpX_isOfOneDimension
  exact ⟨n + 1, mx_od_l hn hG hg hc h1 h0 n 0 (-1) (by omega) (ma_st_0 _ _)⟩
theorem my_cd_l {post : Int32 → Prop} {g : Nat → Nat} {n c : Nat} {ay cy : Nat → Int32} (hn : n ≤ 26) (hG : ma_G g n) (hg : ma_arr ay g n) (hc : c < 2 ^ 31) (h1 : ∀ x, ma_st c (ma_d g) n x → post x) (h0 : (∀ x, ¬ ma_st c (ma_d g) n x) → post (-2)) : ∀ dd i x, i + dd = n → ma_st c (ma_d g) i x → wY_chainDimension_4 post (nI c) (nI n) ay cy (dd + 1) x (nI i) := by
  intro dd
  induction dd with
  | zero =>
    intro i x hi hs
    have hi' : i = n := by omega
    subst hi'
    exact br_t (nI_le (Nat.le_refl i) (by omega)) (h1 x hs)
  | succ dd ih =>
    intro i x hi hs
    have hin : i < n := by omega
    have hdi := ma_d_pos hG hin
    refine br_f (nI_ge (by omega) (by omega)) (br_f (nI_ge (b := 26) (by omega) (by decide)) ?_)
    cases hb : c.testBit i
    · exact br_f (by rw [ma_hb_f hc (by omega) hb]; decide) (nm_r (nI_1 i) (ih (i + 1) x (by omega) (ma_st_f hs hb)))
    · refine br_t (ma_hb_t hc (by omega) hb) ?_
      have go : (x = -1 ∨ x = nI (ma_d g i - 1)) → wY_chainDimension_43 post (wY_chainDimension_4 post (nI c) (nI n) ay cy (dd + 1)) (nI c) (nI i) (nI n) ay cy := fun w => by
        unfold wY_chainDimension_43
        exact my_dim hn hG hg rfl hin (nm_r (nI_1 i) (ih (i + 1) _ (by omega) (ma_st_t hs hb hdi w)))
      by_cases w : x = -1
      · exact br_t (by rw [w]; decide) (go (Or.inl w))
      · have hx : ¬ x < 0 := by
          rcases hs with ⟨q, _⟩ | ⟨K, q1, q2, q3, _, _⟩
          · exact absurd q w
          · rw [q3]; exact nI_pos (by omega)
        refine br_f hx (my_dim hn hG hg rfl hin ?_)
        by_cases z : x = nI (ma_d g i - 1)
        · exact br_t z.symm (go (Or.inr z))
        · exact br_f (fun q => z q.symm) (h0 (ma_st_no hs hin hb w z))
theorem my_cd {post : Int32 → Prop} {g : Nat → Nat} {n c : Nat} {ay cy : Nat → Int32} (hn : n ≤ 26) (hG : ma_G g n) (hg : ma_arr ay g n) (hc : c < 2 ^ 31) (h1 : ∀ x, ma_st c (ma_d g) n x → post x) (h0 : (∀ x, ¬ ma_st c (ma_d g) n x) → post (-2)) : wpY_chainDimension post (nI n, ay, cy) (nI c) := by
  unfold wpY_chainDimension
  exact ⟨n + 1, my_cd_l hn hG hg hc h1 h0 n 0 (-1) (by omega) (ma_st_0 _ _)⟩
theorem mx_bo_l {post : Int32 → Prop} {b : Nat → Nat} {n c : Nat} {ag ab ac ap : Nat → Int32} (hn : n ≤ 26) (hb : ma_arr ab b n) (hc : c < 2 ^ 31) (hp : post (nI (ma_lin b n c))) : ∀ dd i, i + dd = n → wX_borderOf_4 post (nI c) (nI n) ag ab ac ap (dd + 1) (nI (ma_lin b i c)) (nI i) := by
  intro dd
  induction dd with
  | zero =>
    intro i hi
    have hi' : i = n := by omega
    subst hi'
    exact br_t (nI_le (Nat.le_refl i) (by omega)) hp
  | succ dd ih =>
    intro i hi
    have hin : i < n := by omega
    have h1 := ih (i + 1) (by omega)
    refine br_f (nI_ge (by omega) (by omega)) ?_
    cases w : c.testBit i
    · rw [ma_lin_f w] at h1
      exact mx_has_f hc (by omega) w (br_t rfl (nm_r (nI_1 i) h1))
    · rw [ma_lin_t w] at h1
      exact mx_has_t hc (by omega) w (br_f (by decide) ⟨vp_in_nI (by omega) (by decide), nm_r (by rw [ma_arr_c hb hin hn, nx_xor]) (nm_r (nI_1 i) h1)⟩)
theorem mx_bo {post : Int32 → Prop} {b : Nat → Nat} {n c : Nat} {ag ab ac ap : Nat → Int32} (hn : n ≤ 26) (hb : ma_arr ab b n) (hc : c < 2 ^ 31) (hp : post (nI (ma_lin b n c))) : wpX_borderOf post (nI n, ag, ab, ac, ap) (nI c) := by
  unfold wpX_borderOf
  exact ⟨n + 1, mx_bo_l hn hb hc hp n 0 (by omega)⟩
theorem my_ed_l {post : Int32 → Prop} {g : Nat → Nat} {n c : Nat} {ay cy : Nat → Int32} (hn : n ≤ 26) (hG : ma_G g n) (hg : ma_arr ay g n) (hc : c < 2 ^ 31) (hp : post (nI (ma_lin (ma_bd g) n c))) : ∀ dd i, i + dd = n → wY_edge_4 post (nI c) (nI n) ay cy (dd + 1) (nI (ma_lin (ma_bd g) i c)) (nI i) := by
  intro dd
  induction dd with
  | zero =>
    intro i hi
    have hi' : i = n := by omega
    subst hi'
    exact br_t (nI_le (Nat.le_refl i) (by omega)) hp
  | succ dd ih =>
    intro i hi
    have hin : i < n := by omega
    have h1 := ih (i + 1) (by omega)
    refine br_f (nI_ge (by omega) (by omega)) ?_
    cases w : c.testBit i
    · rw [ma_lin_f w] at h1
      exact br_f (by rw [ma_hb_f hc (by omega) w]; decide) (nm_r (nI_1 i) h1)
    · rw [ma_lin_t w] at h1
      exact br_t (ma_hb_t hc (by omega) w) (my_sides hn hG hg rfl hin (nm_r (nx_xor _ _) (nm_r (nI_1 i) h1)))
theorem my_ed {post : Int32 → Prop} {g : Nat → Nat} {n c : Nat} {ay cy : Nat → Int32} (hn : n ≤ 26) (hG : ma_G g n) (hg : ma_arr ay g n) (hc : c < 2 ^ 31) (hp : post (nI (ma_lin (ma_bd g) n c))) : wpY_edge post (nI n, ay, cy) (nI c) := by
  unfold wpY_edge
  exact ⟨n + 1, my_ed_l hn hG hg hc hp n 0 (by omega)⟩
theorem my_bn_l {post : Int32 → SY → Prop} {f c : Nat → Nat} {t rows y k : Nat} {fc : Int32} {ay cy : Nat → Int32} (hR : ma_R f t c rows) (hr : rows ≤ 26) (hcy : ma_arr cy c rows) (hk : k < 2 ^ 31) (h1 : ma_Sp f t y → post 1 (fc, ay, cy)) (h0 : ¬ ma_Sp f t y → post 0 (fc, ay, cy)) : ∀ dd r x, r + dd = rows → x < 2 ^ 26 → ma_Sp c rows (x ^^^ y) → (∀ i q, i < r → ma_L (c i) q → x.testBit q = false) → wY_bounds_60 post (nI k) (nI rows) fc ay cy (dd + 1) (nI x) (nI r) := by
  intro dd
  induction dd with
  | zero =>
    intro r x hrr hx hS hz
    have hr' : r = rows := by omega
    subst hr'
    refine br_t (nI_le (Nat.le_refl r) (by omega)) ?_
    have hq := ma_Rc_0 hR (y := y) (x := x) ⟨hS, hz⟩
    unfold wY_bounds_121
    by_cases w : x = 0
    · exact br_t (by rw [w]; rfl) (h1 (hq.mp w))
    · exact br_f (nI_ne0 (by omega) (by omega)) (h0 (fun z => w (hq.mpr z)))
  | succ dd ih =>
    intro r x hrr hx hS hz
    have hrn : r < rows := by omega
    have hv : vp_in (nI r) 26 := vp_in_nI (by omega) (by decide)
    obtain ⟨q, hq1, hq2⟩ := hR.1 r hrn
    have hcl := hR.2.2.2 r hrn
    have hlow : cy (nI r).toNatClampNeg &&& (-(cy (nI r).toNatClampNeg)) = nI (2 ^ q) := by
      rw [ma_arr_c hcy hrn (by omega), ma_lowb hq1 (by omega)]
    have hq31 : q < 26 := ma_bl hcl hq1.1
    have hp2 : 2 ^ q < 2 ^ 26 := Nat.pow_lt_pow_right (by decide) hq31
    refine br_f (nI_ge hrn (by omega)) (br_f (nI_pos hk) (br_f (nI_ge (b := 26) (by omega) (by decide)) ⟨hv, hv, nm_r hlow ?_⟩))
    rw [nx_and]
    cases hb : x.testBit q
    · rw [ma_and_f hb]
      refine br_t rfl (nm_r (nI_1 r) (ih (r + 1) x (by omega) hx hS (fun i p hi hp => ?_)))
      by_cases w : i = r
      · subst w
        rw [ma_L_eq hp hq1]
        exact hb
      · exact hz i p (by omega) hp
    · rw [ma_and_t hb]
      refine br_f (nI_ne0 (Nat.two_pow_pos q) (by omega)) ⟨hv, nm_r (e' := nI (x ^^^ c r)) (by rw [ma_arr_c hcy hrn (by omega), nx_xor]) (nm_r (nI_1 r) (ih (r + 1) (x ^^^ c r) (by omega) (Nat.xor_lt_two_pow hx hcl) ?_ (fun i p hi hp => ?_)))⟩
      · rw [ma_x1]
        exact ma_Sp_x hS (ma_Sp_g hrn)
      · rw [Nat.testBit_xor]
        by_cases w : i = r
        · subst w
          rw [ma_L_eq hp hq1, hb, hq1.1]
          rfl
        · rw [hz i p (by omega) hp]
          obtain ⟨p', hp1, hp2⟩ := hR.1 i (by omega)
          rw [ma_L_eq hp1 hp] at hp2
          rw [hp2 r (by omega) hrn]
          rfl
end
section
/-- x lies within s and is not among the first n of g -/
def ma_ms (g : Nat → Nat) (n s x : Nat) : Prop := 1 ≤ x ∧ x &&& s = x ∧ ∀ i, i < n → g i ≠ x
theorem ma_sub : ∀ x, x < 64 → ∀ s, s < 64 → ((nI x &&& (nI s ^^^ (-1))) = 0 ↔ x &&& s = x) := by decide +kernel
theorem ma_sub_pop : ∀ x, x < 64 → ∀ s, s < 64 → x &&& s = x → ma_pop x ≤ ma_pop s := by decide +kernel
theorem ma_sub_le {x s : Nat} (h : x &&& s = x) : x ≤ s := by
  have := Nat.and_le_right (n := x) (m := s)
  omega
theorem mx_ms {post : Int32 → Prop} {g : Nat → Nat} {n s x : Nat} {ag ab ac ap : Nat → Int32} (hn : n ≤ 26) (hG : ma_G g n) (hg : ma_arr ag g n) (hs : s < 64) (hx : x < 64) (hx1 : 1 ≤ x) (h1 : ma_ms g n s x → post 1) (h0 : ¬ ma_ms g n s x → post 0) : wpX_isMissingWithin post (nI n, ag, ab, ac, ap) (nI x) (nI s) := by
  unfold wpX_isMissingWithin
  by_cases w : x &&& s = x
  · refine br_t ((ma_sub x hx s hs).mpr w) (mx_num hn hg (fun i hi => (hG.1 i hi).2.1) hx (fun i hi e => br_f (ma_nm1 (by omega)) (h0 (fun z => z.2.2 i hi e))) (fun hno => br_t rfl (h1 ⟨hx1, w, hno⟩)))
  · exact br_f (fun q => w ((ma_sub x hx s hs).mp q)) (h0 (fun z => w z.2.1))
theorem mx_mw_l {post : Int32 → Prop} {g : Nat → Nat} {n s : Nat} {ag ab ac ap : Nat → Int32} (hn : n ≤ 26) (hG : ma_G g n) (hg : ma_arr ag g n) (hs : s < 64) (hp : post (nI (ma_cp (ma_ms g n s) (s + 1)))) : ∀ dd x, x + dd = s + 1 → 1 ≤ x → wX_missingWithin_4 post (nI s) (nI n) ag ab ac ap (dd + 1) (nI (ma_cp (ma_ms g n s) x)) (nI x) := by
  intro dd
  induction dd with
  | zero =>
    intro x hx hx1
    have hx' : x = s + 1 := by omega
    subst hx'
    exact br_t (nI_lt (by omega) (by omega)) hp
  | succ dd ih =>
    intro x hx hx1
    have h1 := ih (x + 1) (by omega) (by omega)
    refine br_f (nI_nlt (by omega) (by omega)) (mx_ms hn hG hg hs (by omega) hx1 (fun w => ?_) (fun w => ?_))
    · rw [ma_cp_t w] at h1
      exact br_f (by decide) (nm_r (nI_1 _) (nm_r (nI_1 x) h1))
    · rw [ma_cp_f w] at h1
      exact br_t rfl (nm_r (nI_1 x) h1)
theorem ma_cp1 {g : Nat → Nat} {n s : Nat} : ma_cp (ma_ms g n s) 1 = 0 := by
  rw [show (1 : Nat) = 0 + 1 from rfl, ma_cp_f (fun w => Nat.not_succ_le_zero 0 w.1)]
  rfl
theorem mx_mw {post : Int32 → Prop} {g : Nat → Nat} {n s : Nat} {ag ab ac ap : Nat → Int32} (hn : n ≤ 26) (hG : ma_G g n) (hg : ma_arr ag g n) (hs : s < 64) (hp : post (nI (ma_cp (ma_ms g n s) (s + 1)))) : wpX_missingWithin post (nI n, ag, ab, ac, ap) (nI s) := by
  unfold wpX_missingWithin
  have h1 := mx_mw_l (ab := ab) (ac := ac) (ap := ap) hn hG hg hs hp s 1 (by omega) (Nat.le_refl 1)
  rw [ma_cp1] at h1
  exact ⟨s + 1, h1⟩
theorem ma_ms_up {g : Nat → Nat} {n s : Nat} (hs : s < 64) : ma_cp (ma_ms g n s) 64 = ma_cp (ma_ms g n s) (s + 1) :=
  ma_cp_up (by omega) (fun x h1 h2 w => by
    have := ma_sub_le w.2.1
    omega)
/-- the growth while it is filled up, the sets below x done -/
noncomputable def ma_fg (g : Nat → Nat) (n s : Nat) : Nat → (Nat → Nat) × Nat
  | 0 => (g, n)
  | x + 1 => if ma_dc (ma_ms g n s x) = true then (ma_put (ma_fg g n s x).1 (ma_fg g n s x).2 x, (ma_fg g n s x).2 + 1) else ma_fg g n s x
theorem ma_fg_t {g : Nat → Nat} {n s x : Nat} (h : ma_ms g n s x) : ma_fg g n s (x + 1) = (ma_put (ma_fg g n s x).1 (ma_fg g n s x).2 x, (ma_fg g n s x).2 + 1) := if_pos (ma_dc_t h)
theorem ma_fg_f {g : Nat → Nat} {n s x : Nat} (h : ¬ ma_ms g n s x) : ma_fg g n s (x + 1) = ma_fg g n s x := if_neg (by rw [ma_dc_f h]; exact Bool.noConfusion)
def ma_FI (g : Nat → Nat) (n s x : Nat) (p : (Nat → Nat) × Nat) : Prop := ma_G p.1 p.2 ∧ p.2 = n + ma_cp (ma_ms g n s) x ∧ ∀ y, (∃ i, i < p.2 ∧ p.1 i = y) ↔ ((∃ i, i < n ∧ g i = y) ∨ (y < x ∧ ma_ms g n s y))
theorem ma_FI_ms {g : Nat → Nat} {n s x : Nat} {p : (Nat → Nat) × Nat} (h : ma_FI g n s x p) : ma_ms p.1 p.2 s x ↔ ma_ms g n s x := by
  constructor
  · intro ⟨w1, w2, w3⟩
    refine ⟨w1, w2, fun i hi e => ?_⟩
    obtain ⟨j, hj, e'⟩ := (h.2.2 x).mpr (Or.inl ⟨i, hi, e⟩)
    exact w3 j hj e'
  · intro ⟨w1, w2, w3⟩
    refine ⟨w1, w2, fun j hj e => ?_⟩
    rcases (h.2.2 x).mp ⟨j, hj, e⟩ with ⟨i, hi, e'⟩ | ⟨q, _⟩
    · exact w3 i hi e'
    · omega
theorem ma_FI_new {g : Nat → Nat} {n s x : Nat} {p : (Nat → Nat) × Nat} (hs : ma_ok s) (h : ma_FI g n s x p) (w : ma_ms g n s x) : (∀ r, ma_sd r x = true → ∃ j, j < p.2 ∧ p.1 j = r) ∧ ma_G (ma_put p.1 p.2 x) (p.2 + 1) := by
  have hxs := ma_sub_le w.2.1
  obtain ⟨s1, s2, s3⟩ := hs
  have hx : x < 64 := by omega
  have hall : ∀ r, ma_sd r x = true → ∃ j, j < p.2 ∧ p.1 j = r := by
    intro r hr
    have h1 := ma_sd_pop hx hr
    have h2 := (ma_sdq r (by omega) x hx).mpr hr
    have h3 : r &&& s = r := by
      have h4 : r &&& (x &&& s) = r := by rw [w.2.1]; exact h2.2.2
      rw [← Nat.and_assoc, h2.2.2] at h4
      exact h4
    apply (h.2.2 r).mpr
    by_cases q : ∃ i, i < n ∧ g i = r
    · exact Or.inl q
    · have h5 := h2.1
      exact Or.inr ⟨h1.2, by omega, h3, fun i hi e => q ⟨i, hi, e⟩⟩
  refine ⟨hall, ma_G_app h.1 w.1 hx ?_ ((ma_FI_ms h).mpr w).2.2 hall⟩
  have := ma_sub_pop x hx s s2 w.2.1
  omega
theorem ma_fg_I {g : Nat → Nat} {n s : Nat} (hG : ma_G g n) (hs : ma_ok s) : ∀ x, ma_FI g n s x (ma_fg g n s x) := by
  intro x
  induction x with
  | zero =>
    refine ⟨hG, rfl, fun y => ⟨fun h => Or.inl h, fun h => ?_⟩⟩
    rcases h with h | ⟨q, _⟩
    · exact h
    · omega
  | succ x ih =>
    by_cases w : ma_ms g n s x
    · obtain ⟨_, h2⟩ := ma_FI_new hs ih w
      rw [ma_fg_t w]
      refine ⟨h2, ?_, fun y => ?_⟩
      · show (ma_fg g n s x).2 + 1 = _
        rw [ma_cp_t w, ih.2.1]
        omega
      · show (∃ i, i < (ma_fg g n s x).2 + 1 ∧ ma_put (ma_fg g n s x).1 (ma_fg g n s x).2 x i = y) ↔ _
        constructor
        · intro ⟨i, hi, e⟩
          by_cases q : i = (ma_fg g n s x).2
          · rw [q, ma_put_s] at e
            exact Or.inr ⟨by omega, e ▸ w⟩
          · rw [ma_put_n q] at e
            rcases (ih.2.2 y).mp ⟨i, by omega, e⟩ with z | ⟨z1, z2⟩
            · exact Or.inl z
            · exact Or.inr ⟨by omega, z2⟩
        · intro z
          by_cases q : y = x
          · exact ⟨(ma_fg g n s x).2, by omega, by rw [ma_put_s]; exact q.symm⟩
          · have z' : (∃ i, i < n ∧ g i = y) ∨ (y < x ∧ ma_ms g n s y) := by
              rcases z with z | ⟨z1, z2⟩
              · exact Or.inl z
              · exact Or.inr ⟨by omega, z2⟩
            obtain ⟨i, hi, e⟩ := (ih.2.2 y).mpr z'
            exact ⟨i, by omega, by rw [ma_put_n (by omega)]; exact e⟩
    · rw [ma_fg_f w]
      refine ⟨ih.1, ?_, fun y => ?_⟩
      · rw [ma_cp_f w]; exact ih.2.1
      · rw [ih.2.2 y]
        constructor
        · intro z
          rcases z with z | ⟨z1, z2⟩
          · exact Or.inl z
          · exact Or.inr ⟨by omega, z2⟩
        · intro z
          rcases z with z | ⟨z1, z2⟩
          · exact Or.inl z
          · by_cases q : y = x
            · exact absurd (q ▸ z2) w
            · exact Or.inr ⟨by omega, z2⟩
theorem ma_fg_up {g : Nat → Nat} {n s : Nat} : ∀ m, ma_fg g n s (s + 1 + m) = ma_fg g n s (s + 1) := by
  intro m
  induction m with
  | zero => rfl
  | succ m ih =>
    rw [← Nat.add_assoc, ma_fg_f (fun w => ?_), ih]
    have := ma_sub_le w.2.1
    omega
theorem ma_cp_mono {P : Nat → Prop} {a : Nat} : ∀ m, ma_cp P a ≤ ma_cp P (a + m) := by
  intro m
  induction m with
  | zero => exact Nat.le_refl _
  | succ m ih =>
    rw [← Nat.add_assoc]
    by_cases w : P (a + m)
    · rw [ma_cp_t w]; omega
    · rw [ma_cp_f w]; exact ih
theorem mx_fill_l {post : Int32 → SX → Prop} {g : Nat → Nat} {n s : Nat} (hG : ma_G g n) (hs : ma_ok s) (hroom : n + ma_cp (ma_ms g n s) (s + 1) ≤ 26) (hp : ∀ e ag ab ac ap, ma_XA (ma_fg g n s (s + 1)).1 e (ma_fg g n s (s + 1)).2 ag ab ac ap → post (nI (ma_fg g n s (s + 1)).2) (nI (ma_fg g n s (s + 1)).2, ag, ab, ac, ap)) : ∀ dd x e ag ab ac ap, x + dd = s + 1 → 1 ≤ x → ma_XA (ma_fg g n s x).1 e (ma_fg g n s x).2 ag ab ac ap → wX_fill_29 post (nI s) (dd + 1) (nI x) (nI (ma_fg g n s x).2) ag ab ac ap := by
  have hs2 := hs.2.1
  intro dd
  induction dd with
  | zero =>
    intro x e ag ab ac ap hx hx1 hX
    have hx' : x = s + 1 := by omega
    subst hx'
    exact br_t (nI_lt (by omega) (by omega)) (hp e ag ab ac ap hX)
  | succ dd ih =>
    intro x e ag ab ac ap hx hx1 hX
    have hI := ma_fg_I hG hs x
    have hm := ma_cp_mono (P := ma_ms g n s) (a := x) (s + 1 - x)
    have hm' := ma_cp_mono (P := ma_ms g n s) (a := x + 1) (s + 1 - (x + 1))
    rw [show x + (s + 1 - x) = s + 1 by omega] at hm
    rw [show x + 1 + (s + 1 - (x + 1)) = s + 1 by omega] at hm'
    have hn := hI.2.1
    refine br_f (nI_nlt (by omega) (by omega)) (mx_ms (g := (ma_fg g n s x).1) (by omega) hI.1 hX.2.1 hs2 (by omega) hx1 (fun w => ?_) (fun w => ?_))
    · have w' := (ma_FI_ms hI).mp w
      obtain ⟨h1, h2⟩ := ma_FI_new hs hI w'
      rw [ma_cp_t w'] at hm'
      refine br_f (by decide) (mx_append (by omega) hI.1 (by omega) h1 h2 hX (fun e' ag' ab' ac' ap' hX' => nm_r (nI_1 x) ?_))
      have h3 := ih (x + 1) e' ag' ab' ac' ap' (by omega) (by omega)
      rw [ma_fg_t w'] at h3
      exact h3 hX'
    · have w' : ¬ ma_ms g n s x := fun z => w ((ma_FI_ms hI).mpr z)
      have h3 := ih (x + 1) e ag ab ac ap (by omega) (by omega)
      rw [ma_fg_f w'] at h3
      exact br_t rfl (nm_r (nI_1 x) (h3 hX))
theorem my_fill_l {post : Int32 → SY → Prop} {g : Nat → Nat} {n s : Nat} {cy : Nat → Int32} (hG : ma_G g n) (hs : ma_ok s) (hroom : n + ma_cp (ma_ms g n s) 64 ≤ 26) (hp : ∀ ay, ma_arr ay (ma_fg g n s 64).1 (ma_fg g n s 64).2 → post (nI (ma_fg g n s 64).2) (nI (ma_fg g n s 64).2, ay, cy)) : ∀ dd x ay, x + dd = 64 → 1 ≤ x → ma_arr ay (ma_fg g n s x).1 (ma_fg g n s x).2 → wY_fill_60 post (nI s) (dd + 1) (nI x) (nI (ma_fg g n s x).2) ay cy := by
  have hs2 := hs.2.1
  intro dd
  induction dd with
  | zero =>
    intro x ay hx hx1 hX
    have hx' : x = 64 := by omega
    subst hx'
    exact br_t (by decide) (hp ay hX)
  | succ dd ih =>
    intro x ay hx hx1 hX
    have hI := ma_fg_I hG hs x
    have hm := ma_cp_mono (P := ma_ms g n s) (a := x) (64 - x)
    have hm' := ma_cp_mono (P := ma_ms g n s) (a := x + 1) (64 - (x + 1))
    rw [show x + (64 - x) = 64 by omega] at hm
    rw [show x + 1 + (64 - (x + 1)) = 64 by omega] at hm'
    have hn := hI.2.1
    have nxt : ¬ ma_ms g n s x → wY_fill_60 post (nI s) (dd + 1) (nI (x + 1)) (nI (ma_fg g n s x).2) ay cy := fun w' => by
      have h3 := ih (x + 1) ay (by omega) (by omega)
      rw [ma_fg_f w'] at h3
      exact h3 hX
    refine br_f (nI_ge (b := 64) (by omega) (by decide)) ?_
    rw [nx_and]
    by_cases w : x &&& s = x
    · refine br_t (by rw [w]) (my_find (g := (ma_fg g n s x).1) (by omega) hX (fun i hi => (hI.1.1 i hi).2.1) rfl (by omega) (fun i hi e => br_t (nI_pos' (by omega)) (nm_r (nI_1 x) (nxt (fun z => ((ma_FI_ms hI).mpr z).2.2 i hi e)))) (fun hno => br_f (by decide) ?_))
      have w' := (ma_FI_ms hI).mp ⟨hx1, w, hno⟩
      rw [ma_cp_t w'] at hm'
      refine my_put (by omega) (nm_r (nI_1 x) ?_)
      have h3 := ih (x + 1) (upd ay (ma_fg g n s x).2 (nI x)) (by omega) (by omega)
      rw [ma_fg_t w'] at h3
      exact h3 (ma_arr_put hX)
    · refine br_f (fun q => w ((nI_eq ?_ (by omega)).mp q)) (nm_r (nI_1 x) (nxt (fun z => w z.2.1)))
      have := Nat.and_le_left (n := x) (m := s)
      omega
theorem my_fill_c {post : Int32 → SY → Prop} {g : Nat → Nat} {n s : Nat} {ay cy : Nat → Int32} (hn : n ≤ 26) (hG : ma_G g n) (hg : ma_arr ay g n) (hs : ma_ok s) (h1 : n + ma_cp (ma_ms g n s) 64 ≤ 26 → ∃ m, wY_fill_60 post (nI s) m 1 (nI n) ay cy) (h0 : 26 < n + ma_cp (ma_ms g n s) 64 → post (-2) (nI n, ay, cy)) : ∀ dd x, x + dd = 64 → 1 ≤ x → wY_fill_14 post (nI s) (nI n) ay cy (dd + 1) (nI (ma_cp (ma_ms g n s) x)) (nI x) := by
  have hs2 := hs.2.1
  intro dd
  induction dd with
  | zero =>
    intro x hx hx1
    have hx' : x = 64 := by omega
    subst hx'
    have hc := ma_cp_le (ma_ms g n s) 64
    refine br_t (by decide) ?_
    rw [nI_add]
    exact pk_le (n + ma_cp (ma_ms g n s) 64) 26 h1 h0
  | succ dd ih =>
    intro x hx hx1
    have h3 := ih (x + 1) (by omega) (by omega)
    refine br_f (nI_ge (b := 64) (by omega) (by decide)) ?_
    rw [nx_and]
    by_cases w : x &&& s = x
    · refine br_t (by rw [w]) (my_find hn hg (fun i hi => (hG.1 i hi).2.1) rfl (by omega) (fun i hi e => ?_) (fun hno => ?_))
      · rw [ma_cp_f (fun z => z.2.2 i hi e)] at h3
        exact br_t (nI_pos' (by omega)) (nm_r (nI_1 x) h3)
      · rw [ma_cp_t ⟨hx1, w, hno⟩] at h3
        exact br_f (by decide) (nm_r (nI_1 _) (nm_r (nI_1 x) h3))
    · rw [ma_cp_f (fun z => w z.2.1)] at h3
      refine br_f (fun q => w ((nI_eq ?_ (by omega)).mp q)) (nm_r (nI_1 x) h3)
      have := Nat.and_le_left (n := x) (m := s)
      omega
end
section
theorem ma_arr_le {a : Nat → Int32} {g : Nat → Nat} {n m : Nat} (h : ma_arr a g n) (hm : m ≤ n) : ma_arr a g m := fun i hi => h i (by omega)
theorem ma_eu_0 (g : Nat → Nat) : ma_eu g 0 = 0 := by
  unfold ma_eu
  rw [ma_cp_0, ma_cp_0, ma_cp_0, ma_cp_0]
  decide
/-- both hold the growth g of n pieces; the reference's column is free -/
def i_Rel (k : Nat) (u : SX) (v : SY) : Prop := ∃ (n : Nat) (g e : Nat → Nat) (ag ab ac ap ay cy : Nat → Int32), n ≤ 26 ∧ ma_G g n ∧ ma_XA g e n ag ab ac ap ∧ ma_arr ay g n ∧ u = (nI n, ag, ab, ac, ap) ∧ v = (nI n, ay, cy)
theorem i_up {k : Nat} {u : SX} {v : SY} (h : i_Rel k u v) : i_Rel (k + 4) u v := h
theorem i_vc0 : wpX_init (fun u => wpY_init (fun v => i_Rel 0 u v)) := by
  unfold wpX_init wpY_init
  refine ⟨0, fun _ => 0, fun _ => 0, fun _ => 0, fun _ => 0, fun _ => 0, fun _ => 0, fun _ => 0, fun _ => 0, by omega, ⟨fun i hi => absurd hi (Nat.not_lt_zero i), fun i _ hi => absurd hi (Nat.not_lt_zero i), fun i hi => absurd hi (Nat.not_lt_zero i)⟩, ⟨ma_J_0 _ _ _, fun i hi => absurd hi (Nat.not_lt_zero i), fun i hi => absurd hi (Nat.not_lt_zero i), fun i hi => absurd hi (Nat.not_lt_zero i), fun i hi => absurd hi (Nat.not_lt_zero i)⟩, fun i hi => absurd hi (Nat.not_lt_zero i), rfl, rfl⟩
theorem i_vc_add {k : Nat} {u : SX} {v : SY} (I : i_Rel k u v) (hk : k + 4 ≤ 2048) (v1 : Int32) : wpX_add (fun r u' => wpY_add (fun r' v' => r' = r ∧ i_Rel (k + 4) u' v') v v1) u v1 := by
  obtain ⟨n, g, e, ag, ab, ac, ap, ay, cy, hn, hG, hX, hy, rfl, rfl⟩ := I
  have R : i_Rel (k + 4) (nI n, ag, ab, ac, ap) (nI n, ay, cy) := ⟨n, g, e, ag, ab, ac, ap, ay, cy, hn, hG, hX, hy, rfl, rfl⟩
  have hgl : ∀ i, i < n → g i < 64 := fun i hi => (hG.1 i hi).2.1
  unfold wpX_add wpY_add
  rcases ma_rng ma_ok v1 with ⟨s, hs, rfl⟩ | hv
  · have hs2 := hs.2.1
    refine mx_isPiece_t hs (br_f (by decide) (mx_num hn hX.2.1 hgl hs2 (fun i hi e => br_f (ma_nm1 (by omega)) ?_) (fun hno => br_t rfl ?_)))
    · exact my_badPiece_t hs (br_t rfl (my_find hn hy hgl rfl hs2 (fun j hj _ => br_f (nI_pos (by omega)) ⟨rfl, R⟩) (fun hno => absurd e (hno i hi))))
    · have fnd : ∀ post : Int32 → Prop, post (-1) → wpY_find post (nI n, ay, cy) (nI s) := fun post hp => my_find hn hy hgl rfl hs2 (fun j hj e => absurd e (hno j hj)) (fun _ => hp)
      refine mx_sides hn hG hX.2.1 hs2 (fun hall => ?_) (fun ⟨r, hr1, hr2⟩ => ?_)
      · have hlt : ma_of (fun j => ma_sd (g j) s) n < 2 ^ 31 := Nat.lt_of_lt_of_le (ma_of_lt _ _) (ma_pl (by omega))
        refine br_f (ma_nm1 hlt) ?_
        by_cases h26 : n < 26
        · have hG' := ma_G_app hG hs.1 hs2 hs.2.2 hno hall
          refine br_t (nI_lt (b := 26) h26 (by decide)) (mx_append h26 hG hs2 hall hG' hX (fun e' ag' ab' ac' ap' hX' => ?_))
          exact my_badPiece_t hs (br_t rfl (fnd _ (br_t (by decide) (my_st hn hG hy hs2 (fun _ => br_f (by decide) (my_put h26 ⟨(nI_pred n).symm, n + 1, ma_put g n s, e', ag', ab', ac', ap', _, cy, h26, hG', hX', ma_arr_put hy, rfl, rfl⟩)) (fun ⟨r, hr1, hr2⟩ => (hall r hr1).elim (fun j hj => absurd hj.2 (hr2 j hj.1)))))))
        · refine br_f (nI_nlt (b := 26) (by omega) (by omega)) ?_
          exact my_badPiece_t hs (br_t rfl (fnd _ (br_t (by decide) (my_st hn hG hy hs2 (fun _ => br_f (by decide) (my_put_f (by omega) ⟨rfl, R⟩)) (fun ⟨r, hr1, hr2⟩ => (hall r hr1).elim (fun j hj => absurd hj.2 (hr2 j hj.1)))))))
      · refine br_t rfl ?_
        exact my_badPiece_t hs (br_t rfl (fnd _ (br_t (by decide) (my_st hn hG hy hs2 (fun hall => (hall r hr1).elim (fun j hj => absurd hj.2 (hr2 j hj.1))) (fun _ => br_t rfl ⟨rfl, R⟩)))))
  · exact mx_isPiece_f hv (br_t rfl (my_badPiece_f hv (br_f (by decide) ⟨rfl, R⟩)))
theorem i_vc_fill {k : Nat} {u : SX} {v : SY} (I : i_Rel k u v) (hk : k + 4 ≤ 2048) (v1 : Int32) : wpX_fill (fun r u' => wpY_fill (fun r' v' => r' = r ∧ i_Rel (k + 4) u' v') v v1) u v1 := by
  obtain ⟨n, g, e, ag, ab, ac, ap, ay, cy, hn, hG, hX, hy, rfl, rfl⟩ := I
  have R : i_Rel (k + 4) (nI n, ag, ab, ac, ap) (nI n, ay, cy) := ⟨n, g, e, ag, ab, ac, ap, ay, cy, hn, hG, hX, hy, rfl, rfl⟩
  unfold wpX_fill
  rcases ma_rng ma_ok v1 with ⟨s, hs, rfl⟩ | hv
  · have hs2 := hs.2.1
    refine mx_isPiece_t hs (br_f (by decide) (mx_mw hn hG hX.2.1 hs2 ?_))
    have hc := ma_cp_le (ma_ms g n s) (s + 1)
    have hup := ma_ms_up (g := g) (n := n) hs2
    have hf0 : ma_fg g n s 1 = (g, n) := by
      rw [show (1 : Nat) = 0 + 1 from rfl, ma_fg_f (fun w => Nat.not_succ_le_zero 0 w.1)]
      rfl
    have hfe : ma_fg g n s 64 = ma_fg g n s (s + 1) := by
      have := ma_fg_up (g := g) (n := n) (s := s) (64 - (s + 1))
      rw [show s + 1 + (64 - (s + 1)) = 64 by omega] at this
      exact this
    rw [nI_add]
    refine pk_le (n + ma_cp (ma_ms g n s) (s + 1)) 26 (fun hroom => ?_) (fun hroom => ?_)
    · have hIe := ma_fg_I hG hs (s + 1)
      have hne := hIe.2.1
      have hx := mx_fill_l (post := fun r u' => wpY_fill (fun r' v' => r' = r ∧ i_Rel (k + 4) u' v') (nI n, ay, cy) (nI s)) hG hs hroom (fun e' ag' ab' ac' ap' hX' => ?_) s 1 e ag ab ac ap (by omega) (Nat.le_refl 1)
      · rw [hf0] at hx
        exact ⟨s + 1, hx hX⟩
      · unfold wpY_fill
        refine my_badPiece_t hs (br_t rfl ?_)
        have hy1 := my_fill_c (post := fun r' v' => r' = nI (ma_fg g n s (s + 1)).2 ∧ i_Rel (k + 4) (nI (ma_fg g n s (s + 1)).2, ag', ab', ac', ap') v') (cy := cy) hn hG hy hs (fun hr => ?_) (fun hr => ?_) 63 1 rfl (Nat.le_refl 1)
        · rw [ma_cp1] at hy1
          exact ⟨64, hy1⟩
        · have hy2 := my_fill_l (post := fun r' v' => r' = nI (ma_fg g n s (s + 1)).2 ∧ i_Rel (k + 4) (nI (ma_fg g n s (s + 1)).2, ag', ab', ac', ap') v') (cy := cy) hG hs hr (fun ay' hay => ?_) 63 1 ay rfl (Nat.le_refl 1)
          · rw [hf0] at hy2
            exact ⟨64, hy2 hy⟩
          · rw [hfe] at hay ⊢
            exact ⟨rfl, _, _, e', ag', ab', ac', ap', ay', cy, by omega, hIe.1, hX', hay, rfl, rfl⟩
        · omega
    · unfold wpY_fill
      refine my_badPiece_t hs (br_t rfl ?_)
      have hy1 := my_fill_c (post := fun r' v' => r' = -2 ∧ i_Rel (k + 4) (nI n, ag, ab, ac, ap) v') (cy := cy) hn hG hy hs (fun hr => by omega) (fun _ => ⟨rfl, R⟩) 63 1 rfl (Nat.le_refl 1)
      rw [ma_cp1] at hy1
      exact ⟨64, hy1⟩
  · unfold wpY_fill
    exact mx_isPiece_f hv (br_t rfl (my_badPiece_f hv (br_f (by decide) ⟨rfl, R⟩)))
theorem i_vc_undo {k : Nat} {u : SX} {v : SY} (I : i_Rel k u v) (hk : k + 4 ≤ 2048) : wpX_undo (fun r u' => wpY_undo (fun r' v' => r' = r ∧ i_Rel (k + 4) u' v') v) u := by
  obtain ⟨n, g, e, ag, ab, ac, ap, ay, cy, hn, hG, hX, hy, rfl, rfl⟩ := I
  unfold wpX_undo
  cases n with
  | zero =>
    refine br_f (by decide) ?_
    unfold wpY_undo
    exact br_t rfl ⟨rfl, 0, g, e, ag, ab, ac, ap, ay, cy, hn, hG, hX, hy, rfl, rfl⟩
  | succ n =>
    obtain ⟨hJ, hg, hb, hc, hP⟩ := hX
    have hv : vp_in (nI n) 26 := vp_in_nI (by omega) (by decide)
    have hcl : (nI n).toNatClampNeg = n := nI_clamp (by omega)
    have fin : ∀ ap' : Nat → Int32, (∀ i, i < n → ma_P e n i (ap' i)) → wpY_undo (fun r' v' => r' = ag (nI n).toNatClampNeg ∧ i_Rel (k + 4) (nI n, ag, ab, ac, ap') v') (nI (n + 1), ay, cy) := fun ap' hP' => by
      unfold wpY_undo
      refine br_f (nI_ne0 (by omega) (by omega)) (nm_r (nI_pred n) ⟨hv, ?_, n, g, e, ag, ab, ac, ap', ay, cy, by omega, ma_G_le hG (by omega), ⟨ma_J_le hJ (by omega), ma_arr_le hg (by omega), ma_arr_le hb (by omega), ma_arr_le hc (by omega), hP'⟩, ma_arr_le hy (by omega), rfl, rfl⟩)
      rw [hcl, hy n (by omega), hg n (by omega)]
    refine br_t (nI_lt (a := 0) (by omega) (by omega)) (nm_r (nI_pred n) ⟨hv, nm_r (e' := ap n) (by rw [hcl]) ?_⟩)
    rcases hP n (by omega) with ⟨a, h1, h2, h3⟩ | ⟨j, h1, h2, h3, h4, h5⟩ | ⟨h1, h2, h3⟩
    · refine mx_isNum_t (by omega) h1 h3 (br_f (by decide) ⟨?_, nm_r (e' := upd ap a (-1)) ?_ ⟨hv, fin _ (ma_P_undo1 hJ h2 hP)⟩⟩)
      · rw [h3]; exact vp_in_nI (by omega) (by decide)
      · rw [h3, nI_clamp (by omega)]
    · omega
    · exact mx_isNum_m (by omega) h3 (br_t rfl ⟨hv, fin _ (ma_P_undo0 h1 hP)⟩)
theorem i_vc_size {k : Nat} {u : SX} {v : SY} (I : i_Rel k u v) (hk : k + 4 ≤ 2048) : wpX_size (fun r => wpY_size (fun r' => r' = r ∧ i_Rel (k + 4) u v) v) u := by
  have R := i_up I
  obtain ⟨n, g, e, ag, ab, ac, ap, ay, cy, hn, hG, hX, hy, rfl, rfl⟩ := I
  unfold wpX_size wpY_size
  exact ⟨rfl, R⟩
theorem i_vc_piece {k : Nat} {u : SX} {v : SY} (I : i_Rel k u v) (hk : k + 4 ≤ 2048) (v1 : Int32) : wpX_piece (fun r => wpY_piece (fun r' => r' = r ∧ i_Rel (k + 4) u v) v v1) u v1 := by
  have R := i_up I
  obtain ⟨n, g, e, ag, ab, ac, ap, ay, cy, hn, hG, hX, hy, rfl, rfl⟩ := I
  unfold wpX_piece wpY_piece
  rcases ma_rng (fun i => i < n) v1 with ⟨i, hi, rfl⟩ | hv
  · have hi : i < n := hi
    refine mx_isNum_t hn hi rfl (br_f (by decide) ⟨vp_in_nI (by omega) (by decide), my_bad_t hn hi (br_t rfl ⟨vp_in_nI (by omega) (by decide), ?_, R⟩)⟩)
    rw [ma_arr_c hy hi hn, ma_arr_c hX.2.1 hi hn]
  · exact mx_isNum_f hn hv (br_t rfl (my_bad_f hn hv (br_f (by decide) ⟨rfl, R⟩)))
theorem i_vc_pieces {k : Nat} {u : SX} {v : SY} (I : i_Rel k u v) (hk : k + 4 ≤ 2048) (v1 : Int32) (v2 : Int32) : wpX_pieces (fun r => wpY_pieces (fun r' => r' = r ∧ i_Rel (k + 4) u v) v v1 v2) u v1 v2 := by
  have R := i_up I
  obtain ⟨n, g, e, ag, ab, ac, ap, ay, cy, hn, hG, hX, hy, rfl, rfl⟩ := I
  unfold wpX_pieces wpY_pieces
  rcases ma_rng (fun i => i ≤ n) v1 with ⟨t, ht, rfl⟩ | hv
  · have ht : t ≤ n := ht
    rcases ma_rng (fun i => i < 4) v2 with ⟨q, hq, rfl⟩ | hv2
    · have hq : q < 4 := hq
      exact mx_isTime_t hn ht (br_f (by decide) (mx_isDim_t hq (br_f (by decide) (mx_cp hn hG hX.2.1 ht (by omega) (my_badTime_t hn ht (br_t rfl (my_badDim_t hq (br_t rfl (my_tally hn hG hy ht (by omega) rfl rfl ⟨rfl, R⟩)))))))))
    · exact mx_isTime_t hn ht (br_f (by decide) (mx_isDim_f hv2 (br_t rfl (my_badTime_t hn ht (br_t rfl (my_badDim_f hv2 (br_f (by decide) ⟨rfl, R⟩)))))))
  · exact mx_isTime_f hn hv (br_t rfl (my_badTime_f hn hv (br_f (by decide) ⟨rfl, R⟩)))
theorem i_vc_holes {k : Nat} {u : SX} {v : SY} (I : i_Rel k u v) (hk : k + 4 ≤ 2048) (v1 : Int32) (v2 : Int32) : wpX_holes (fun r => wpY_holes (fun r' v' => r' = r ∧ i_Rel (k + 4) u v') v v1 v2) u v1 v2 := by
  obtain ⟨n, g, e, ag, ab, ac, ap, ay, cy, hn, hG, hX, hy, rfl, rfl⟩ := I
  have R : ∀ cy', i_Rel (k + 4) (nI n, ag, ab, ac, ap) (nI n, ay, cy') := fun cy' => ⟨n, g, e, ag, ab, ac, ap, ay, cy', hn, hG, hX, hy, rfl, rfl⟩
  unfold wpX_holes wpY_holes
  rcases ma_rng (fun i => i ≤ n) v1 with ⟨t, ht, rfl⟩ | hv
  · have ht : t ≤ n := ht
    rcases ma_rng (fun i => i < 4) v2 with ⟨q, hq, rfl⟩ | hv2
    · have hq : q < 4 := hq
      exact mx_isTime_t hn ht (br_f (by decide) (mx_isDim_t hq (br_f (by decide) (mx_cl hn hG hX (Nat.le_refl t) ht (by omega) (my_badTime_t hn ht (br_t rfl (my_badDim_t hq (br_t rfl (my_last hn hG hy hX.1 (Nat.le_refl t) ht (by omega) rfl rfl rfl (fun cy' => ⟨rfl, R cy'⟩))))))))))
    · exact mx_isTime_t hn ht (br_f (by decide) (mx_isDim_f hv2 (br_t rfl (my_badTime_t hn ht (br_t rfl (my_badDim_f hv2 (br_f (by decide) ⟨rfl, R cy⟩)))))))
  · exact mx_isTime_f hn hv (br_t rfl (my_badTime_f hn hv (br_f (by decide) ⟨rfl, R cy⟩)))
theorem i_vc_lasting {k : Nat} {u : SX} {v : SY} (I : i_Rel k u v) (hk : k + 4 ≤ 2048) (v1 : Int32) (v2 : Int32) (v3 : Int32) : wpX_lasting (fun r => wpY_lasting (fun r' v' => r' = r ∧ i_Rel (k + 4) u v') v v1 v2 v3) u v1 v2 v3 := by
  obtain ⟨n, g, e, ag, ab, ac, ap, ay, cy, hn, hG, hX, hy, rfl, rfl⟩ := I
  have R : ∀ cy', i_Rel (k + 4) (nI n, ag, ab, ac, ap) (nI n, ay, cy') := fun cy' => ⟨n, g, e, ag, ab, ac, ap, ay, cy', hn, hG, hX, hy, rfl, rfl⟩
  unfold wpX_lasting
  by_cases good : ∃ i j, i ≤ j ∧ j ≤ n ∧ v1 = nI i ∧ v2 = nI j
  · obtain ⟨i, j, hij, hj, rfl, rfl⟩ := good
    refine br_f (nI_pos (by omega)) (br_f (nI_nlt hij (by omega)) (br_t (nI_le hj (by omega)) ?_))
    unfold wpY_lasting
    rcases ma_rng (fun i => i < 4) v3 with ⟨q, hq, rfl⟩ | hv2
    · have hq : q < 4 := hq
      exact mx_isDim_t hq (br_f (by decide) (mx_cl hn hG hX hij hj (by omega) (my_badTime_t hn (by omega) (br_t rfl (my_badTime_t hn hj (br_t rfl (br_t (nI_le hij (by omega)) (my_badDim_t hq (br_t rfl (my_last hn hG hy hX.1 hij hj (by omega) rfl rfl rfl (fun cy' => ⟨rfl, R cy'⟩)))))))))))
    · exact mx_isDim_f hv2 (br_t rfl (my_badTime_t hn (by omega) (br_t rfl (my_badTime_t hn hj (br_t rfl (br_t (nI_le hij (by omega)) (my_badDim_f hv2 (br_f (by decide) ⟨rfl, R cy⟩))))))))
  · have P : wpY_lasting (fun r' v' => r' = -1 ∧ i_Rel (k + 4) (nI n, ag, ab, ac, ap) v') (nI n, ay, cy) v1 v2 v3 := by
      unfold wpY_lasting
      rcases ma_rng (fun i => i ≤ n) v1 with ⟨i, hi, rfl⟩ | hv
      · rcases ma_rng (fun i => i ≤ n) v2 with ⟨j, hj, rfl⟩ | hv2
        · have hi : i ≤ n := hi
          have hj : j ≤ n := hj
          refine my_badTime_t hn hi (br_t rfl (my_badTime_t hn hj (br_t rfl (br_f (nI_ge ?_ (by omega)) ⟨rfl, R cy⟩))))
          apply Classical.byContradiction
          intro w
          exact good ⟨i, j, by omega, hj, rfl, rfl⟩
        · exact my_badTime_t hn hi (br_t rfl (my_badTime_f hn hv2 (br_f (by decide) ⟨rfl, R cy⟩)))
      · exact my_badTime_f hn hv (br_f (by decide) ⟨rfl, R cy⟩)
    refine br_c (fun _ => P) (fun h1 => br_c (fun _ => P) (fun h2 => br_c (fun h3 => ?_) (fun _ => P)))
    obtain ⟨i, hi, rfl⟩ := nI_of h1
    have h4 : ¬ v2 < 0 := fun w => h2 (Int32.lt_of_lt_of_le w (nI_pos' hi))
    obtain ⟨j, hj, rfl⟩ := nI_of h4
    refine absurd ⟨i, j, ?_, (nI_leI hj (by omega)).mp h3, rfl, rfl⟩ good
    apply Classical.byContradiction
    intro w
    exact h2 (nI_lt (by omega) hi)
theorem i_vc_opens {k : Nat} {u : SX} {v : SY} (I : i_Rel k u v) (hk : k + 4 ≤ 2048) (v1 : Int32) : wpX_opens (fun r => wpY_opens (fun r' v' => r' = r ∧ i_Rel (k + 4) u v') v v1) u v1 := by
  obtain ⟨n, g, e, ag, ab, ac, ap, ay, cy, hn, hG, hX, hy, rfl, rfl⟩ := I
  have R : ∀ cy', i_Rel (k + 4) (nI n, ag, ab, ac, ap) (nI n, ay, cy') := fun cy' => ⟨n, g, e, ag, ab, ac, ap, ay, cy', hn, hG, hX, hy, rfl, rfl⟩
  unfold wpX_opens wpY_opens
  rcases ma_rng (fun i => i < n) v1 with ⟨i, hi, rfl⟩ | hv
  · have hi : i < n := hi
    have hvi : vp_in (nI i) 26 := vp_in_nI (by omega) (by decide)
    have ea : ap (nI i).toNatClampNeg = ap i := by rw [nI_clamp (by omega)]
    refine mx_isNum_t hn hi rfl (br_f (by decide) ⟨hvi, ?_⟩)
    rw [ea]
    rcases hX.2.2.2.2 i hi with ⟨a, h1, h2, h3⟩ | ⟨j, h1, h2, h3, h4, h5⟩ | ⟨h1, h2, h3⟩
    · rw [h3]
      exact br_f (ma_nm1 (by omega)) ⟨hvi, br_t (nI_le (by omega) (by omega)) (my_bad_t hn hi (br_t rfl (my_opening hn hG hy hX.1 hi rfl (fun q => absurd q (ma_T_ne h2)) (fun _ cy' => br_t rfl ⟨rfl, R cy'⟩))))⟩
    · rw [h5]
      exact br_f (ma_nm1 (by omega)) ⟨hvi, br_f (nI_ge (by omega) (by omega)) (my_bad_t hn hi (br_t rfl (my_opening hn hG hy hX.1 hi rfl (fun _ cy' => br_f (by decide) ⟨rfl, R cy'⟩) (fun q => absurd h3 q))))⟩
    · rw [h3]
      exact br_t rfl (my_bad_t hn hi (br_t rfl (my_opening hn hG hy hX.1 hi rfl (fun _ cy' => br_f (by decide) ⟨rfl, R cy'⟩) (fun q => absurd h1 q))))
  · exact mx_isNum_f hn hv (br_t rfl (my_bad_f hn hv (br_f (by decide) ⟨rfl, R cy⟩)))
theorem i_vc_partner {k : Nat} {u : SX} {v : SY} (I : i_Rel k u v) (hk : k + 4 ≤ 2048) (v1 : Int32) : wpX_partner (fun r => wpY_partner (fun r' v' => r' = r ∧ i_Rel (k + 4) u v') v v1) u v1 := by
  obtain ⟨n, g, e, ag, ab, ac, ap, ay, cy, hn, hG, hX, hy, rfl, rfl⟩ := I
  have R : ∀ cy', i_Rel (k + 4) (nI n, ag, ab, ac, ap) (nI n, ay, cy') := fun cy' => ⟨n, g, e, ag, ab, ac, ap, ay, cy', hn, hG, hX, hy, rfl, rfl⟩
  have hJ := hX.1
  unfold wpX_partner wpY_partner
  rcases ma_rng (fun i => i < n) v1 with ⟨i, hi, rfl⟩ | hv
  · have hi : i < n := hi
    have hvi : vp_in (nI i) 26 := vp_in_nI (by omega) (by decide)
    have ea : ap (nI i).toNatClampNeg = ap i := by rw [nI_clamp (by omega)]
    refine mx_isNum_t hn hi rfl (br_f (by decide) ⟨hvi, ?_⟩)
    rw [ea]
    rcases hX.2.2.2.2 i hi with ⟨a, h1, h2, h3⟩ | ⟨j, h1, h2, h3, h4, h5⟩ | ⟨h1, h2, h3⟩
    · rw [h3]
      exact br_f (ma_nm1 (by omega)) ⟨hvi, my_bad_t hn hi (br_t rfl (my_mate hn hG hy hJ hi rfl (fun a' _ hT cy' => ⟨by rw [ma_T_eq hT h2], R cy'⟩) (fun q => absurd q (ma_T_ne h2)) (fun q => absurd q (ma_T_ne h2))))⟩
    · rw [h5]
      exact br_f (ma_nm1 (by omega)) ⟨hvi, my_bad_t hn hi (br_t rfl (my_mate hn hG hy hJ hi rfl (fun a' _ hT => absurd h3 (ma_T_ne hT)) (fun _ j' _ hj2 hT cy' => ⟨by rw [hJ.2.1 j' j i hj2 h2 hT h4], R cy'⟩) (fun _ hno => absurd h4 (hno j h2))))⟩
    · rw [h3]
      exact br_t rfl (my_bad_t hn hi (br_t rfl (my_mate hn hG hy hJ hi rfl (fun a' _ hT => absurd h1 (ma_T_ne hT)) (fun _ j' _ hj2 hT => absurd hT (h2 j' hj2)) (fun _ _ cy' => ⟨rfl, R cy'⟩))))
  · exact mx_isNum_f hn hv (br_t rfl (my_bad_f hn hv (br_f (by decide) ⟨rfl, R cy⟩)))
theorem i_vc_forever {k : Nat} {u : SX} {v : SY} (I : i_Rel k u v) (hk : k + 4 ≤ 2048) (v1 : Int32) : wpX_forever (fun r => wpY_forever (fun r' v' => r' = r ∧ i_Rel (k + 4) u v') v v1) u v1 := by
  obtain ⟨n, g, e, ag, ab, ac, ap, ay, cy, hn, hG, hX, hy, rfl, rfl⟩ := I
  have R : ∀ cy', i_Rel (k + 4) (nI n, ag, ab, ac, ap) (nI n, ay, cy') := fun cy' => ⟨n, g, e, ag, ab, ac, ap, ay, cy', hn, hG, hX, hy, rfl, rfl⟩
  unfold wpX_forever wpY_forever
  rcases ma_rng (fun i => i < 4) v1 with ⟨q, hq, rfl⟩ | hv2
  · have hq : q < 4 := hq
    exact mx_isDim_t hq (br_f (by decide) (mx_cl hn hG hX (Nat.le_refl n) (Nat.le_refl n) (by omega) (my_badDim_t hq (br_t rfl ⟨n + 1, my_forever_l hn hG hy hX.1 (by omega) (fun cy' => ⟨rfl, R cy'⟩) n 0 cy (by omega)⟩))))
  · exact mx_isDim_f hv2 (br_t rfl (my_badDim_f hv2 (br_f (by decide) ⟨rfl, R cy⟩)))
theorem i_vc_longest {k : Nat} {u : SX} {v : SY} (I : i_Rel k u v) (hk : k + 4 ≤ 2048) (v1 : Int32) : wpX_longest (fun r => wpY_longest (fun r' v' => r' = r ∧ i_Rel (k + 4) u v') v v1) u v1 := by
  obtain ⟨n, g, e, ag, ab, ac, ap, ay, cy, hn, hG, hX, hy, rfl, rfl⟩ := I
  have R : ∀ cy', i_Rel (k + 4) (nI n, ag, ab, ac, ap) (nI n, ay, cy') := fun cy' => ⟨n, g, e, ag, ab, ac, ap, ay, cy', hn, hG, hX, hy, rfl, rfl⟩
  unfold wpX_longest wpY_longest
  rcases ma_rng (fun i => i < 4) v1 with ⟨q, hq, rfl⟩ | hv2
  · have hq : q < 4 := hq
    obtain ⟨r, h1, h2⟩ := ma_long hn hG hX hy (k := q) (by omega) n 0 0 (by omega) (by omega)
    exact mx_isDim_t hq (br_f (by decide) ⟨n + 1, h1 _ (my_badDim_t hq (br_t rfl ⟨n + 1, h2 _ cy (fun cy' => ⟨rfl, R cy'⟩)⟩))⟩)
  · exact mx_isDim_f hv2 (br_t rfl (my_badDim_f hv2 (br_f (by decide) ⟨rfl, R cy⟩)))
theorem i_vc_euler {k : Nat} {u : SX} {v : SY} (I : i_Rel k u v) (hk : k + 4 ≤ 2048) (v1 : Int32) : wpX_euler (fun r => wpY_euler (fun r' => r' = r ∧ i_Rel (k + 4) u v) v v1) u v1 := by
  have R := i_up I
  obtain ⟨n, g, e, ag, ab, ac, ap, ay, cy, hn, hG, hX, hy, rfl, rfl⟩ := I
  unfold wpX_euler wpY_euler
  rcases ma_rng (fun i => i ≤ n) v1 with ⟨t, ht, rfl⟩ | hv
  · have ht : t ≤ n := ht
    refine mx_isTime_t hn ht (br_f (by decide) ⟨t + 1, ?_⟩)
    have h1 := fun post hp => mx_eu_l (post := post) (ab := ab) (ac := ac) (ap := ap) hn hG hX.2.1 ht hp t 0 (by omega)
    rw [ma_eu_0] at h1
    exact h1 _ (my_badTime_t hn ht (br_t rfl (my_tally (k := 0) hn hG hy ht (by omega) rfl rfl (my_tally (k := 1) hn hG hy ht (by omega) rfl rfl (my_tally (k := 2) hn hG hy ht (by omega) rfl rfl (my_tally (k := 3) hn hG hy ht (by omega) rfl rfl ⟨rfl, R⟩))))))
  · exact mx_isTime_f hn hv (br_t rfl (my_badTime_f hn hv (br_f (by decide) ⟨rfl, R⟩)))
theorem ma_pn {n : Nat} (hn : n ≤ 26) : 2 ^ n ≤ 2 ^ 26 := ma_pl hn
theorem i_vc_border {k : Nat} {u : SX} {v : SY} (I : i_Rel k u v) (hk : k + 4 ≤ 2048) (v1 : Int32) : wpX_border (fun r => wpY_border (fun r' => r' = r ∧ i_Rel (k + 4) u v) v v1) u v1 := by
  have R := i_up I
  obtain ⟨n, g, e, ag, ab, ac, ap, ay, cy, hn, hG, hX, hy, rfl, rfl⟩ := I
  have hp := ma_pn hn
  have hsh := ma_sh1 n (by omega)
  unfold wpX_border wpX_isSetOfNumbers
  rcases ma_rng (fun c => c < 2 ^ n) v1 with ⟨c, hc, rfl⟩ | hv
  · have hc : c < 2 ^ n := hc
    have hc31 : c < 2 ^ 31 := by omega
    refine br_f (nI_pos hc31) (br_f (by rw [hsh]; exact nI_ge hc (by omega)) (br_f (by decide) ?_))
    have Y : ∀ post : Int32 → Prop, wpY_chainDimension (fun r_3 => (r_3 = (-2) → post (-2)) ∧ (¬ r_3 = (-2) → wpY_edge (fun r_8 => post r_8) (nI n, ay, cy) (nI c))) (nI n, ay, cy) (nI c) → wpY_border post (nI n, ay, cy) (nI c) := fun post h => by
      unfold wpY_border
      exact br_f (nI_pos hc31) (br_t (by rw [hsh]; exact nI_lt hc (by omega)) h)
    refine mx_od hn hG hX.2.1 hc31 (fun x hx => br_f (by decide) (mx_bo hn hX.2.2.1 hc31 ?_)) (fun hno => br_t rfl ?_)
    · exact Y _ (my_cd hn hG hy hc31 (fun y hy' => br_f (ma_st_lt hy') (my_ed hn hG hy hc31 ⟨rfl, R⟩)) (fun hno => absurd hx (hno x)))
    · exact Y _ (my_cd hn hG hy hc31 (fun y hy' => absurd hy' (hno y)) (fun _ => br_t rfl ⟨rfl, R⟩))
  · have Y : wpY_border (fun r' => r' = -1 ∧ i_Rel (k + 4) (nI n, ag, ab, ac, ap) (nI n, ay, cy)) (nI n, ay, cy) v1 := by
      unfold wpY_border
      refine br_c (fun _ => ⟨rfl, R⟩) (fun h1 => br_f (fun h2 => ?_) ⟨rfl, R⟩)
      obtain ⟨j, hj, rfl⟩ := nI_of h1
      rw [hsh] at h2
      exact absurd rfl (hv j ((nI_ltI hj (by omega)).mp h2))
    refine br_c (fun _ => br_t rfl Y) (fun h1 => br_t ?_ (br_t rfl Y))
    obtain ⟨j, hj, rfl⟩ := nI_of h1
    rw [hsh]
    refine nI_le ?_ hj
    apply Classical.byContradiction
    intro w
    exact absurd rfl (hv j (show j < 2 ^ n by omega))
theorem ma_F0 (b d : Nat → Nat) (K : Nat) : ma_F b d K 0 = ma_fk b d K := by
  funext i
  exact ma_hi_z _
theorem i_vc_bounds {k : Nat} {u : SX} {v : SY} (I : i_Rel k u v) (hk : k + 4 ≤ 2048) (v1 : Int32) : wpX_bounds (fun r => wpY_bounds (fun r' v' => r' = r ∧ i_Rel (k + 4) u v') v v1) u v1 := by
  obtain ⟨n, g, e, ag, ab, ac, ap, ay, cy, hn, hG, hX, hy, rfl, rfl⟩ := I
  have R : ∀ cy', i_Rel (k + 4) (nI n, ag, ab, ac, ap) (nI n, ay, cy') := fun cy' => ⟨n, g, e, ag, ab, ac, ap, ay, cy', hn, hG, hX, hy, rfl, rfl⟩
  have hp := ma_pn hn
  have hsh := ma_sh1 n (by omega)
  have hF := ma_G_Fr hG
  obtain ⟨hJ, hg, hb, hcc, hP⟩ := hX
  unfold wpX_bounds wpX_isSetOfNumbers
  rcases ma_rng (fun c => c < 2 ^ n) v1 with ⟨c, hc, rfl⟩ | hv
  · have hc : c < 2 ^ n := hc
    have hc31 : c < 2 ^ 31 := by omega
    have hl31 : ma_lin (ma_bd g) n c < 2 ^ 31 := Nat.lt_of_lt_of_le (ma_lin_lt (m := 26) (fun i hi => Nat.lt_of_lt_of_le (ma_of_lt _ _) (ma_pl (by omega)))) (by decide)
    refine br_f (nI_pos hc31) (br_f (by rw [hsh]; exact nI_ge hc (by omega)) (br_f (by decide) ?_))
    have Y : ∀ post : Int32 → SY → Prop, (∀ x, ma_st c (ma_d g) n x → wpY_edge (fun r_8 => (r_8 = 0 → wpY_rank (fun r_13 u => match u with | (f_count_14, a_pieces_15, a_column_16) => ∃ n60 : Nat, wY_bounds_60 post x r_13 f_count_14 a_pieces_15 a_column_16 n60 (nI c) 0) (nI n, ay, cy) (nI n) (x + 1) 0) ∧ (¬ r_8 = 0 → post 2 (nI n, ay, cy))) (nI n, ay, cy) (nI c)) → ((∀ x, ¬ ma_st c (ma_d g) n x) → post (-2) (nI n, ay, cy)) → wpY_bounds post (nI n, ay, cy) (nI c) := fun post h1 h0 => by
      unfold wpY_bounds
      exact br_f (nI_pos hc31) (br_t (by rw [hsh]; exact nI_lt hc (by omega)) (my_cd hn hG hy hc31 (fun x hx => br_f (ma_st_lt hx) (h1 x hx)) (fun hno => br_t rfl (h0 hno))))
    refine mx_od hn hG hg hc31 (fun x hx => br_f (by decide) (mx_bo hn hb hc31 ?_)) (fun hno => br_t rfl ?_)
    · by_cases hz : ma_lin (ma_bd g) n c = 0
      · refine br_t (by rw [hz]; rfl) ?_
        have fin : ∀ (r : Int32) (K q : Nat) (y : Int32), q + 1 = K → q < 8 → y + 1 = nI q → (y = -1 ∧ c = 0 ∨ ∃ m, m < 2 ^ 31 ∧ y = nI m) → (ma_Sp (ma_fk (ma_bd g) (ma_d g) K) n c → r = 1) → (¬ ma_Sp (ma_fk (ma_bd g) (ma_d g) K) n c → r = 0) → wpY_edge (fun r_8 => (r_8 = 0 → wpY_rank (fun r_13 u => match u with | (f_count_14, a_pieces_15, a_column_16) => ∃ n60 : Nat, wY_bounds_60 (fun r' v' => r' = r ∧ i_Rel (k + 4) (nI n, ag, ab, ac, ap) v') y r_13 f_count_14 a_pieces_15 a_column_16 n60 (nI c) 0) (nI n, ay, cy) (nI n) (y + 1) 0) ∧ (¬ r_8 = 0 → (2 = r ∧ i_Rel (k + 4) (nI n, ag, ab, ac, ap) (nI n, ay, cy)))) (nI n, ay, cy) (nI c) := fun r K q y hqK hq hyq hyc h1 h0 => by
          refine my_ed hn hG hy hc31 (br_t (by rw [hz]; rfl) (my_rank (t := n) (k := q) (s := 0) hn hG hy (Nat.le_refl n) (by omega) hq rfl hyq rfl (fun col cy' rows hR hcy => ?_)))
          rw [hqK, ma_F0] at hR
          have hrows : rows ≤ n := by
            rw [hR.2.2.1]
            exact ma_cp_le _ _
          rcases hyc with ⟨hy1, hc0⟩ | ⟨m, hm, hy1⟩
          · refine ⟨1, ?_⟩
            have e1 : r = 1 := h1 (by rw [hc0]; exact ma_Sp_0 _ _)
            have fin2 : wY_bounds_121 (fun r' v' => r' = r ∧ i_Rel (k + 4) (nI n, ag, ab, ac, ap) v') (nI c) (nI n) ay cy' := by
              unfold wY_bounds_121
              exact br_t (by rw [hc0]; rfl) ⟨e1.symm, R cy'⟩
            exact br_c (fun _ => fin2) (fun _ => br_t (by rw [hy1]; decide) fin2)
          · rw [hy1]
            refine ⟨rows + 1, my_bn_l (y := c) hR (by omega) hcy hm (fun w => ⟨(h1 w).symm, R cy'⟩) (fun w => ⟨(h0 w).symm, R cy'⟩) rows 0 c (by omega) (by omega) ?_ (fun i q hi => absurd hi (Nat.not_lt_zero i))⟩
            rw [Nat.xor_self]
            exact ma_Sp_0 _ _
        have main : ∀ (K q : Nat), q + 1 = K → q < 8 → (∀ y, ma_st c (ma_d g) n y → y + 1 = nI q ∧ (y = -1 ∧ c = 0 ∨ ∃ m, m < 2 ^ 31 ∧ y = nI m)) → (∀ a, c.testBit a = true → ma_d g a + 1 = K) → wpX_withoutBorders (fun r_22 => (r_22 = 0 → wpY_bounds (fun r' v' => r' = 1 ∧ i_Rel (k + 4) (nI n, ag, ab, ac, ap) v') (nI n, ay, cy) (nI c)) ∧ (¬ r_22 = 0 → wpY_bounds (fun r' v' => r' = 0 ∧ i_Rel (k + 4) (nI n, ag, ab, ac, ap) v') (nI n, ay, cy) (nI c))) (nI n, ag, ab, ac, ap) (nI c) := fun K q hqK hq hst hh => by
          refine mx_wb (K := K) hn hF hJ hcc hP rfl hc hh (fun r hr hr2 => ?_)
          have hr0 := ma_Red_0 hJ hr
          by_cases w : r = 0
          · exact br_t (by rw [w]; rfl) (Y _ (fun y hy' => fin 1 K q y hqK hq (hst y hy').1 (hst y hy').2 (fun _ => rfl) (fun z => absurd (hr0.mp w) z)) (fun hno => absurd hx (hno x)))
          · exact br_f (nI_ne0 (by omega) (by omega)) (Y _ (fun y hy' => fin 0 K q y hqK hq (hst y hy').1 (hst y hy').2 (fun z => absurd (hr0.mpr z) w) (fun _ => rfl)) (fun hno => absurd hx (hno x)))
        rcases hx with ⟨q1, q2⟩ | ⟨K, q1, q2, q3, ⟨m, hm1, hm2⟩, q5⟩
        · have hc0 : c = 0 := by
            apply Nat.eq_of_testBit_eq
            intro i
            rw [Nat.zero_testBit]
            by_cases hi : i < n
            · exact q2 i hi
            · exact ma_bf hc (by omega)
          refine main 1 0 rfl (by omega) (fun y hy' => ?_) (fun a ha => ?_)
          · rcases hy' with ⟨p1, p2⟩ | ⟨L, p1, p2, p3, ⟨m', hm1', hm2'⟩, p5⟩
            · exact ⟨by rw [p1]; decide, Or.inl ⟨p1, hc0⟩⟩
            · rw [hc0, Nat.zero_testBit] at hm2'
              exact Bool.noConfusion hm2'
          · rw [hc0, Nat.zero_testBit] at ha
            exact Bool.noConfusion ha
        · refine main (K + 1) K rfl (by omega) (fun y hy' => ?_) (fun a ha => ?_)
          · rcases hy' with ⟨p1, p2⟩ | ⟨L, p1, p2, p3, _, p5⟩
            · rw [p2 m hm1] at hm2
              exact Bool.noConfusion hm2
            · have e1 := p5 m hm1 hm2
              have e2 := q5 m hm1 hm2
              have e3 : L = K := by omega
              subst e3
              refine ⟨?_, Or.inr ⟨L - 1, by omega, p3⟩⟩
              rw [p3, nI_1]
              exact congrArg nI (by omega)
          · rw [q5 a (ma_bl hc ha) ha]
      · refine br_f (nI_ne0 (by omega) hl31) (Y _ (fun y _ => my_ed hn hG hy hc31 (br_f (nI_ne0 (by omega) hl31) ⟨rfl, R cy⟩)) (fun hno => absurd hx (hno x)))
    · exact Y _ (fun y hy' => absurd hy' (hno y)) (fun _ => ⟨rfl, R cy⟩)
  · have Y : wpY_bounds (fun r' v' => r' = -1 ∧ i_Rel (k + 4) (nI n, ag, ab, ac, ap) v') (nI n, ay, cy) v1 := by
      unfold wpY_bounds
      refine br_c (fun _ => ⟨rfl, R cy⟩) (fun h1 => br_f (fun h2 => ?_) ⟨rfl, R cy⟩)
      obtain ⟨j, hj, rfl⟩ := nI_of h1
      rw [hsh] at h2
      exact absurd rfl (hv j ((nI_ltI hj (by omega)).mp h2))
    refine br_c (fun _ => br_t rfl Y) (fun h1 => br_t ?_ (br_t rfl Y))
    obtain ⟨j, hj, rfl⟩ := nI_of h1
    rw [hsh]
    refine nI_le ?_ hj
    apply Classical.byContradiction
    intro w
    exact absurd rfl (hv j (show j < 2 ^ n by omega))
end
