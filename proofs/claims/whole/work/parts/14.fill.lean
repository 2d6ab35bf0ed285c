/-- x lies within s and is not among the first n of g -/
def ma_ms (g : Nat → Nat) (n s x : Nat) : Prop := 1 ≤ x ∧ x &&& s = x ∧ ∀ i, i < n → g i ≠ x
theorem ma_sub : ∀ x, x < 64 → ∀ s, s < 64 → ((nI x &&& (nI s ^^^ (-1))) = 0 ↔ x &&& s = x) := by decide +kernel
theorem ma_sub_pop : ∀ x, x < 64 → ∀ s, s < 64 → x &&& s = x → ma_pop x ≤ ma_pop s := by decide +kernel
theorem ma_sub_le {x s : Nat} (h : x &&& s = x) : x ≤ s := by
  have := Nat.and_le_right (n := x) (m := s)
  omega
theorem mx_ms {post : Int32 → Prop} {g : Nat → Nat} {n s x : Nat} {ag ab ac ap : Nat → Int32} (hn : n ≤ 26) (hG : ma_G g n) (hg : ma_arr ag g n) (hs : s < 64) (hx : x < 64) (hx1 : 1 ≤ x) (h1 : ma_ms g n s x → post 1) (h0 : ¬ ma_ms g n s x → post 0) : wpX_isMissingWithin post (nI n, ag, ab, ac, ap) (nI x) (nI s) := by
  unfold wpX_isMissingWithin
  by_cases w : x &&& s = x
  · refine br_t ((ma_sub x hx s hs).mpr w) (mx_num hn hg (fun i hi => (hG.1 i hi).2.1) hx (fun i hi e => br_f (ma_nm1 (by omega)) (h0 (fun z => z.2.2 i hi e))) (fun hno => br_t rfl (h1 ⟨hx1, w, hno⟩)))
  · exact br_f (fun q => w ((ma_sub x hx s hs).mp q)) (h0 (fun z => w z.2.1))
theorem mx_mw_l {post : Int32 → Prop} {g : Nat → Nat} {n s : Nat} {ag ab ac ap : Nat → Int32} (hn : n ≤ 26) (hG : ma_G g n) (hg : ma_arr ag g n) (hs : s < 64) (hp : post (nI (ma_cp (ma_ms g n s) (s + 1)))) : ∀ dd x, x + dd = s + 1 → 1 ≤ x → wX_missingWithin_4 post (nI s) (nI n) ag ab ac ap (dd + 1) (nI (ma_cp (ma_ms g n s) x)) (nI x) := by
  intro dd
  induction dd with
  | zero =>
    intro x hx hx1
    have hx' : x = s + 1 := by omega
    subst hx'
    exact br_t (nI_lt (by omega) (by omega)) hp
  | succ dd ih =>
    intro x hx hx1
    have h1 := ih (x + 1) (by omega) (by omega)
    refine br_f (nI_nlt (by omega) (by omega)) (mx_ms hn hG hg hs (by omega) hx1 (fun w => ?_) (fun w => ?_))
    · rw [ma_cp_t w] at h1
      exact br_f (by decide) (nm_r (nI_1 _) (nm_r (nI_1 x) h1))
    · rw [ma_cp_f w] at h1
      exact br_t rfl (nm_r (nI_1 x) h1)
theorem ma_cp1 {g : Nat → Nat} {n s : Nat} : ma_cp (ma_ms g n s) 1 = 0 := by
  rw [show (1 : Nat) = 0 + 1 from rfl, ma_cp_f (fun w => Nat.not_succ_le_zero 0 w.1)]
  rfl
theorem mx_mw {post : Int32 → Prop} {g : Nat → Nat} {n s : Nat} {ag ab ac ap : Nat → Int32} (hn : n ≤ 26) (hG : ma_G g n) (hg : ma_arr ag g n) (hs : s < 64) (hp : post (nI (ma_cp (ma_ms g n s) (s + 1)))) : wpX_missingWithin post (nI n, ag, ab, ac, ap) (nI s) := by
  unfold wpX_missingWithin
  have h1 := mx_mw_l (ab := ab) (ac := ac) (ap := ap) hn hG hg hs hp s 1 (by omega) (Nat.le_refl 1)
  rw [ma_cp1] at h1
  exact ⟨s + 1, h1⟩
theorem ma_ms_up {g : Nat → Nat} {n s : Nat} (hs : s < 64) : ma_cp (ma_ms g n s) 64 = ma_cp (ma_ms g n s) (s + 1) :=
  ma_cp_up (by omega) (fun x h1 h2 w => by
    have := ma_sub_le w.2.1
    omega)
/-- the growth while it is filled up, the sets below x done -/
noncomputable def ma_fg (g : Nat → Nat) (n s : Nat) : Nat → (Nat → Nat) × Nat
  | 0 => (g, n)
  | x + 1 => if ma_dc (ma_ms g n s x) = true then (ma_put (ma_fg g n s x).1 (ma_fg g n s x).2 x, (ma_fg g n s x).2 + 1) else ma_fg g n s x
theorem ma_fg_t {g : Nat → Nat} {n s x : Nat} (h : ma_ms g n s x) : ma_fg g n s (x + 1) = (ma_put (ma_fg g n s x).1 (ma_fg g n s x).2 x, (ma_fg g n s x).2 + 1) := if_pos (ma_dc_t h)
theorem ma_fg_f {g : Nat → Nat} {n s x : Nat} (h : ¬ ma_ms g n s x) : ma_fg g n s (x + 1) = ma_fg g n s x := if_neg (by rw [ma_dc_f h]; exact Bool.noConfusion)
def ma_FI (g : Nat → Nat) (n s x : Nat) (p : (Nat → Nat) × Nat) : Prop := ma_G p.1 p.2 ∧ p.2 = n + ma_cp (ma_ms g n s) x ∧ ∀ y, (∃ i, i < p.2 ∧ p.1 i = y) ↔ ((∃ i, i < n ∧ g i = y) ∨ (y < x ∧ ma_ms g n s y))
theorem ma_FI_ms {g : Nat → Nat} {n s x : Nat} {p : (Nat → Nat) × Nat} (h : ma_FI g n s x p) : ma_ms p.1 p.2 s x ↔ ma_ms g n s x := by
  constructor
  · intro ⟨w1, w2, w3⟩
    refine ⟨w1, w2, fun i hi e => ?_⟩
    obtain ⟨j, hj, e'⟩ := (h.2.2 x).mpr (Or.inl ⟨i, hi, e⟩)
    exact w3 j hj e'
  · intro ⟨w1, w2, w3⟩
    refine ⟨w1, w2, fun j hj e => ?_⟩
    rcases (h.2.2 x).mp ⟨j, hj, e⟩ with ⟨i, hi, e'⟩ | ⟨q, _⟩
    · exact w3 i hi e'
    · omega
theorem ma_FI_new {g : Nat → Nat} {n s x : Nat} {p : (Nat → Nat) × Nat} (hs : ma_ok s) (h : ma_FI g n s x p) (w : ma_ms g n s x) : (∀ r, ma_sd r x = true → ∃ j, j < p.2 ∧ p.1 j = r) ∧ ma_G (ma_put p.1 p.2 x) (p.2 + 1) := by
  have hxs := ma_sub_le w.2.1
  obtain ⟨s1, s2, s3⟩ := hs
  have hx : x < 64 := by omega
  have hall : ∀ r, ma_sd r x = true → ∃ j, j < p.2 ∧ p.1 j = r := by
    intro r hr
    have h1 := ma_sd_pop hx hr
    have h2 := (ma_sdq r (by omega) x hx).mpr hr
    have h3 : r &&& s = r := by
      have h4 : r &&& (x &&& s) = r := by rw [w.2.1]; exact h2.2.2
      rw [← Nat.and_assoc, h2.2.2] at h4
      exact h4
    apply (h.2.2 r).mpr
    by_cases q : ∃ i, i < n ∧ g i = r
    · exact Or.inl q
    · have h5 := h2.1
      exact Or.inr ⟨h1.2, by omega, h3, fun i hi e => q ⟨i, hi, e⟩⟩
  refine ⟨hall, ma_G_app h.1 w.1 hx ?_ ((ma_FI_ms h).mpr w).2.2 hall⟩
  have := ma_sub_pop x hx s s2 w.2.1
  omega
theorem ma_fg_I {g : Nat → Nat} {n s : Nat} (hG : ma_G g n) (hs : ma_ok s) : ∀ x, ma_FI g n s x (ma_fg g n s x) := by
  intro x
  induction x with
  | zero =>
    refine ⟨hG, rfl, fun y => ⟨fun h => Or.inl h, fun h => ?_⟩⟩
    rcases h with h | ⟨q, _⟩
    · exact h
    · omega
  | succ x ih =>
    by_cases w : ma_ms g n s x
    · obtain ⟨_, h2⟩ := ma_FI_new hs ih w
      rw [ma_fg_t w]
      refine ⟨h2, ?_, fun y => ?_⟩
      · show (ma_fg g n s x).2 + 1 = _
        rw [ma_cp_t w, ih.2.1]
        omega
      · show (∃ i, i < (ma_fg g n s x).2 + 1 ∧ ma_put (ma_fg g n s x).1 (ma_fg g n s x).2 x i = y) ↔ _
        constructor
        · intro ⟨i, hi, e⟩
          by_cases q : i = (ma_fg g n s x).2
          · rw [q, ma_put_s] at e
            exact Or.inr ⟨by omega, e ▸ w⟩
          · rw [ma_put_n q] at e
            rcases (ih.2.2 y).mp ⟨i, by omega, e⟩ with z | ⟨z1, z2⟩
            · exact Or.inl z
            · exact Or.inr ⟨by omega, z2⟩
        · intro z
          by_cases q : y = x
          · exact ⟨(ma_fg g n s x).2, by omega, by rw [ma_put_s]; exact q.symm⟩
          · have z' : (∃ i, i < n ∧ g i = y) ∨ (y < x ∧ ma_ms g n s y) := by
              rcases z with z | ⟨z1, z2⟩
              · exact Or.inl z
              · exact Or.inr ⟨by omega, z2⟩
            obtain ⟨i, hi, e⟩ := (ih.2.2 y).mpr z'
            exact ⟨i, by omega, by rw [ma_put_n (by omega)]; exact e⟩
    · rw [ma_fg_f w]
      refine ⟨ih.1, ?_, fun y => ?_⟩
      · rw [ma_cp_f w]; exact ih.2.1
      · rw [ih.2.2 y]
        constructor
        · intro z
          rcases z with z | ⟨z1, z2⟩
          · exact Or.inl z
          · exact Or.inr ⟨by omega, z2⟩
        · intro z
          rcases z with z | ⟨z1, z2⟩
          · exact Or.inl z
          · by_cases q : y = x
            · exact absurd (q ▸ z2) w
            · exact Or.inr ⟨by omega, z2⟩
theorem ma_fg_up {g : Nat → Nat} {n s : Nat} : ∀ m, ma_fg g n s (s + 1 + m) = ma_fg g n s (s + 1) := by
  intro m
  induction m with
  | zero => rfl
  | succ m ih =>
    rw [← Nat.add_assoc, ma_fg_f (fun w => ?_), ih]
    have := ma_sub_le w.2.1
    omega
theorem ma_cp_mono {P : Nat → Prop} {a : Nat} : ∀ m, ma_cp P a ≤ ma_cp P (a + m) := by
  intro m
  induction m with
  | zero => exact Nat.le_refl _
  | succ m ih =>
    rw [← Nat.add_assoc]
    by_cases w : P (a + m)
    · rw [ma_cp_t w]; omega
    · rw [ma_cp_f w]; exact ih
theorem mx_fill_l {post : Int32 → SX → Prop} {g : Nat → Nat} {n s : Nat} (hG : ma_G g n) (hs : ma_ok s) (hroom : n + ma_cp (ma_ms g n s) (s + 1) ≤ 26) (hp : ∀ e ag ab ac ap, ma_XA (ma_fg g n s (s + 1)).1 e (ma_fg g n s (s + 1)).2 ag ab ac ap → post (nI (ma_fg g n s (s + 1)).2) (nI (ma_fg g n s (s + 1)).2, ag, ab, ac, ap)) : ∀ dd x e ag ab ac ap, x + dd = s + 1 → 1 ≤ x → ma_XA (ma_fg g n s x).1 e (ma_fg g n s x).2 ag ab ac ap → wX_fill_29 post (nI s) (dd + 1) (nI x) (nI (ma_fg g n s x).2) ag ab ac ap := by
  have hs2 := hs.2.1
  intro dd
  induction dd with
  | zero =>
    intro x e ag ab ac ap hx hx1 hX
    have hx' : x = s + 1 := by omega
    subst hx'
    exact br_t (nI_lt (by omega) (by omega)) (hp e ag ab ac ap hX)
  | succ dd ih =>
    intro x e ag ab ac ap hx hx1 hX
    have hI := ma_fg_I hG hs x
    have hm := ma_cp_mono (P := ma_ms g n s) (a := x) (s + 1 - x)
    have hm' := ma_cp_mono (P := ma_ms g n s) (a := x + 1) (s + 1 - (x + 1))
    rw [show x + (s + 1 - x) = s + 1 by omega] at hm
    rw [show x + 1 + (s + 1 - (x + 1)) = s + 1 by omega] at hm'
    have hn := hI.2.1
    refine br_f (nI_nlt (by omega) (by omega)) (mx_ms (g := (ma_fg g n s x).1) (by omega) hI.1 hX.2.1 hs2 (by omega) hx1 (fun w => ?_) (fun w => ?_))
    · have w' := (ma_FI_ms hI).mp w
      obtain ⟨h1, h2⟩ := ma_FI_new hs hI w'
      rw [ma_cp_t w'] at hm'
      refine br_f (by decide) (mx_append (by omega) hI.1 (by omega) h1 h2 hX (fun e' ag' ab' ac' ap' hX' => nm_r (nI_1 x) ?_))
      have h3 := ih (x + 1) e' ag' ab' ac' ap' (by omega) (by omega)
      rw [ma_fg_t w'] at h3
      exact h3 hX'
    · have w' : ¬ ma_ms g n s x := fun z => w ((ma_FI_ms hI).mpr z)
      have h3 := ih (x + 1) e ag ab ac ap (by omega) (by omega)
      rw [ma_fg_f w'] at h3
      exact br_t rfl (nm_r (nI_1 x) (h3 hX))
theorem my_fill_l {post : Int32 → SY → Prop} {g : Nat → Nat} {n s : Nat} {cy : Nat → Int32} (hG : ma_G g n) (hs : ma_ok s) (hroom : n + ma_cp (ma_ms g n s) 64 ≤ 26) (hp : ∀ ay, ma_arr ay (ma_fg g n s 64).1 (ma_fg g n s 64).2 → post (nI (ma_fg g n s 64).2) (nI (ma_fg g n s 64).2, ay, cy)) : ∀ dd x ay, x + dd = 64 → 1 ≤ x → ma_arr ay (ma_fg g n s x).1 (ma_fg g n s x).2 → wY_fill_60 post (nI s) (dd + 1) (nI x) (nI (ma_fg g n s x).2) ay cy := by
  have hs2 := hs.2.1
  intro dd
  induction dd with
  | zero =>
    intro x ay hx hx1 hX
    have hx' : x = 64 := by omega
    subst hx'
    exact br_t (by decide) (hp ay hX)
  | succ dd ih =>
    intro x ay hx hx1 hX
    have hI := ma_fg_I hG hs x
    have hm := ma_cp_mono (P := ma_ms g n s) (a := x) (64 - x)
    have hm' := ma_cp_mono (P := ma_ms g n s) (a := x + 1) (64 - (x + 1))
    rw [show x + (64 - x) = 64 by omega] at hm
    rw [show x + 1 + (64 - (x + 1)) = 64 by omega] at hm'
    have hn := hI.2.1
    have nxt : ¬ ma_ms g n s x → wY_fill_60 post (nI s) (dd + 1) (nI (x + 1)) (nI (ma_fg g n s x).2) ay cy := fun w' => by
      have h3 := ih (x + 1) ay (by omega) (by omega)
      rw [ma_fg_f w'] at h3
      exact h3 hX
    refine br_f (nI_ge (b := 64) (by omega) (by decide)) ?_
    rw [nx_and]
    by_cases w : x &&& s = x
    · refine br_t (by rw [w]) (my_find (g := (ma_fg g n s x).1) (by omega) hX (fun i hi => (hI.1.1 i hi).2.1) rfl (by omega) (fun i hi e => br_t (nI_pos' (by omega)) (nm_r (nI_1 x) (nxt (fun z => ((ma_FI_ms hI).mpr z).2.2 i hi e)))) (fun hno => br_f (by decide) ?_))
      have w' := (ma_FI_ms hI).mp ⟨hx1, w, hno⟩
      rw [ma_cp_t w'] at hm'
      refine my_put (by omega) (nm_r (nI_1 x) ?_)
      have h3 := ih (x + 1) (upd ay (ma_fg g n s x).2 (nI x)) (by omega) (by omega)
      rw [ma_fg_t w'] at h3
      exact h3 (ma_arr_put hX)
    · refine br_f (fun q => w ((nI_eq ?_ (by omega)).mp q)) (nm_r (nI_1 x) (nxt (fun z => w z.2.1)))
      have := Nat.and_le_left (n := x) (m := s)
      omega
theorem my_fill_c {post : Int32 → SY → Prop} {g : Nat → Nat} {n s : Nat} {ay cy : Nat → Int32} (hn : n ≤ 26) (hG : ma_G g n) (hg : ma_arr ay g n) (hs : ma_ok s) (h1 : n + ma_cp (ma_ms g n s) 64 ≤ 26 → ∃ m, wY_fill_60 post (nI s) m 1 (nI n) ay cy) (h0 : 26 < n + ma_cp (ma_ms g n s) 64 → post (-2) (nI n, ay, cy)) : ∀ dd x, x + dd = 64 → 1 ≤ x → wY_fill_14 post (nI s) (nI n) ay cy (dd + 1) (nI (ma_cp (ma_ms g n s) x)) (nI x) := by
  have hs2 := hs.2.1
  intro dd
  induction dd with
  | zero =>
    intro x hx hx1
    have hx' : x = 64 := by omega
    subst hx'
    have hc := ma_cp_le (ma_ms g n s) 64
    refine br_t (by decide) ?_
    rw [nI_add]
    exact pk_le (n + ma_cp (ma_ms g n s) 64) 26 h1 h0
  | succ dd ih =>
    intro x hx hx1
    have h3 := ih (x + 1) (by omega) (by omega)
    refine br_f (nI_ge (b := 64) (by omega) (by decide)) ?_
    rw [nx_and]
    by_cases w : x &&& s = x
    · refine br_t (by rw [w]) (my_find hn hg (fun i hi => (hG.1 i hi).2.1) rfl (by omega) (fun i hi e => ?_) (fun hno => ?_))
      · rw [ma_cp_f (fun z => z.2.2 i hi e)] at h3
        exact br_t (nI_pos' (by omega)) (nm_r (nI_1 x) h3)
      · rw [ma_cp_t ⟨hx1, w, hno⟩] at h3
        exact br_f (by decide) (nm_r (nI_1 _) (nm_r (nI_1 x) h3))
    · rw [ma_cp_f (fun z => w z.2.1)] at h3
      refine br_f (fun q => w ((nI_eq ?_ (by omega)).mp q)) (nm_r (nI_1 x) h3)
      have := Nat.and_le_left (n := x) (m := s)
      omega
