/-! falling products, the greatest common divisor, how many are drawn; wins, needs -/
def FL (n : Nat) : Nat → Nat
  | 0 => 1
  | m + 1 => FL n m * (n - m)
theorem FL_zero {n : Nat} : ∀ {m : Nat}, n < m → FL n m = 0
  | 0, h => absurd h (Nat.not_lt_zero _)
  | m + 1, h => by
    unfold FL
    rcases Nat.lt_or_ge n m with q | q
    · rw [FL_zero q, Nat.zero_mul]
    · rw [show n - m = 0 by omega, Nat.mul_zero]
theorem FL_pos {n : Nat} : ∀ {m : Nat}, m ≤ n → 0 < FL n m
  | 0, _ => Nat.one_pos
  | m + 1, h => by unfold FL; exact Nat.mul_pos (FL_pos (by omega)) (by omega)
theorem FL_mono {a b : Nat} (h : a ≤ b) : ∀ m, FL a m ≤ FL b m
  | 0 => Nat.le_refl _
  | m + 1 => by unfold FL; exact Nat.mul_le_mul (FL_mono h m) (by omega)
theorem FL_le {n b : Nat} (h : n ≤ b) : ∀ m, FL n m ≤ b ^ m
  | 0 => Nat.le_refl _
  | m + 1 => by unfold FL; rw [Nat.pow_succ]; exact Nat.mul_le_mul (FL_le h m) (by omega)
theorem lN_0 : lN 0 = 0 := rfl
theorem lN_one : lN 1 = 1 := rfl
theorem s_falling {n m : Nat} {Q : Int64 → Prop} (hn : n < 1000000) (hm : m < 1000000) (h : Q (lN (FL n m))) : wp_X6_falling (nI n) (nI m) Q := by
  have key : ∀ (k j : Nat), j + k = m → L_X6_falling_5 (nI n) (nI m) Q (k + 1) (lN (FL n j)) (nI j) := by
    intro k
    induction k with
    | zero => intro j hj; rw [show j = m by omega]; exact br_f (nltN (Nat.le_refl _) (by omega)) h
    | succ k ih =>
      intro j hj
      refine br_t (ltN (by omega) (by omega)) ?_
      have e : lN (FL n j) * Int32.toInt64 (nI n - nI j) = lN (FL n (j + 1)) := by
        rcases Nat.lt_or_ge n j with q | q
        · rw [FL_zero q, FL_zero (show n < j + 1 by omega)]
          rw [lN_0]; exact Int64.zero_mul
        · rw [pk_sub q, nI_l (by omega), lN_mul]; rfl
      rw [e, nI_1]
      exact ih (j + 1) (by omega)
  exact ⟨m + 1, key m 0 (Nat.zero_add _)⟩
theorem s7_rows {n m : Nat} {Q : Int64 → Prop} (hn : n < 1000000) (hm : m < 1000000) (h : Q (lN (FL n m))) : wp_X7_rows (nI n) (nI m) Q := by
  have key : ∀ (k j : Nat), j + k = m → L_X7_rows_5 (nI n) (nI m) Q (k + 1) (lN (FL n j)) (nI j) := by
    intro k
    induction k with
    | zero => intro j hj; rw [show j = m by omega]; exact br_f (nltN (Nat.le_refl _) (by omega)) h
    | succ k ih =>
      intro j hj
      refine br_t (ltN (by omega) (by omega)) ?_
      unfold B_X7_rows_27
      rcases Nat.lt_or_ge j n with q | q
      · refine br_t (ltN q (by omega)) ?_
        rw [pk_sub (by omega), nI_l (by omega), lN_mul, nI_1]
        exact ih (j + 1) (by omega)
      · refine br_f (nltN q (by omega)) ?_
        rw [nI_1, ← lN_0, lN_mul, Nat.mul_zero, show (0 : Nat) = FL n (j + 1) by rw [FL_zero (by omega)]]
        exact ih (j + 1) (by omega)
  exact ⟨m + 1, key m 0 (Nat.zero_add _)⟩
/-! Euclid -/
theorem lcmp0 {x : Nat} (hx : x < 2 ^ 63) : lg_cmp (lN x) 0 = 0 ↔ x = 0 := by
  unfold lg_cmp
  rw [show (0 : Int64) = lN 0 from rfl]
  by_cases h : x = 0
  · subst h; simp
  · have h1 : lN 0 < lN x := (pk_lLT (by omega) hx).mpr (by omega)
    simp [h1, h]
def fibN : Nat → Nat
  | 0 => 1
  | 1 => 1
  | n + 2 => fibN (n + 1) + fibN n
/-- Euclid's way ends within r steps -/
def ends (r x y : Nat) : Prop := match r with
  | 0 => y = 0
  | r + 1 => y = 0 ∨ ends r y (x % y)
theorem ends_le : ∀ (r x y : Nat), ¬ ends r x y → fibN r ≤ y
  | 0, x, y, h => by unfold ends at h; unfold fibN; omega
  | 1, x, y, h => by unfold ends at h; unfold fibN; have : ¬ y = 0 := fun e => h (Or.inl e); omega
  | r + 2, x, y, h => by
    unfold ends at h
    have hy : ¬ y = 0 := fun e => h (Or.inl e)
    have h1 : ¬ ends (r + 1) y (x % y) := fun e => h (Or.inr e)
    have a1 := ends_le (r + 1) y (x % y) h1
    unfold ends at h1
    have hz : ¬ x % y = 0 := fun e => h1 (Or.inl e)
    have h2 : ¬ ends r (x % y) (y % (x % y)) := fun e => h1 (Or.inr e)
    have a2 := ends_le r (x % y) (y % (x % y)) h2
    have hlt : x % y < y := Nat.mod_lt _ (by omega)
    have e1 := Nat.mod_add_div y (x % y)
    have e2 : 1 ≤ y / (x % y) := (Nat.le_div_iff_mul_le (by omega)).mpr (by omega)
    have e3 : x % y * 1 ≤ x % y * (y / (x % y)) := Nat.mul_le_mul_left _ e2
    show fibN (r + 1) + fibN r ≤ y
    omega
theorem fib100 : 2 ^ 62 < fibN 100 := by decide +kernel
theorem ends100 {x y : Nat} (h : y < 2 ^ 62) : ends 100 x y := Classical.byContradiction fun c => by
  have a := ends_le 100 x y c
  have b := fib100
  exact absurd (Nat.lt_of_lt_of_le b a) (by omega)
theorem s_common {x y : Nat} {Q : Int64 → Prop} (hx : x < 2 ^ 62) (hy : y < 2 ^ 62) (h : Q (lN (Nat.gcd x y))) : wp_X6_commonDivisor (lN x) (lN y) Q := by
  have key : ∀ (r s x y : Nat), s + r = 100 → x < 2 ^ 62 → y < 2 ^ 62 → ends r x y → Q (lN (Nat.gcd x y)) → L_X6_commonDivisor_9 Q (r + 1) (lN x) (lN y) (nI s) := by
    intro r
    induction r with
    | zero =>
      intro s x y hs hx hy he h
      have e : y = 0 := he
      rw [e, Nat.gcd_zero_right] at h
      rw [show s = 100 by omega]
      exact br_f (by decide) h
    | succ r ih =>
      intro s x y hs hx hy he h
      refine br_t (ltN (b := 100) (by omega) (by omega)) ?_
      by_cases hy0 : y = 0
      · rw [hy0, Nat.gcd_zero_right] at h
        exact br_t ((lcmp0 (by omega)).mpr hy0) h
      · refine br_f (fun q => hy0 ((lcmp0 (by omega)).mp q)) ⟨fun q => hy0 ((pk_lEQ (b := 0) (by omega) (by omega)).mp q), ?_⟩
        rw [pk_lRem (by omega) (by omega) (by omega), nI_1]
        have hm : x % y < y := Nat.mod_lt _ (by omega)
        rcases he with q | q
        · exact absurd q hy0
        · exact ih (s + 1) y (x % y) (by omega) hy (by omega) q (by rw [Nat.gcd_comm, ← Nat.gcd_rec, Nat.gcd_comm]; exact h)
  exact ⟨101, key 100 0 x y rfl hx hy (ends100 hy) h⟩
theorem s7_common {x y : Nat} {Q : Int64 → Prop} (hx : x < 2 ^ 62) (hy : y < 2 ^ 62) (h : Q (lN (Nat.gcd x y))) : wp_X7_common (lN x) (lN y) Q := by
  have key : ∀ (r x y : Nat), x < 2 ^ 62 → y < 2 ^ 62 → ends r x y → Q (lN (Nat.gcd x y)) → L_X7_common_6 Q (r + 1) (lN x) (lN y) := by
    intro r
    induction r with
    | zero =>
      intro x y hx hy he h
      have e : y = 0 := he
      rw [e, Nat.gcd_zero_right] at h
      exact br_t ((lcmp0 (by omega)).mpr e) h
    | succ r ih =>
      intro x y hx hy he h
      by_cases hy0 : y = 0
      · rw [hy0, Nat.gcd_zero_right] at h
        exact br_t ((lcmp0 (by omega)).mpr hy0) h
      · refine br_f (fun q => hy0 ((lcmp0 (by omega)).mp q)) ⟨fun q => hy0 ((pk_lEQ (b := 0) (by omega) (by omega)).mp q), ?_⟩
        rw [pk_lRem (by omega) (by omega) (by omega)]
        have hm : x % y < y := Nat.mod_lt _ (by omega)
        rcases he with q | q
        · exact absurd q hy0
        · exact ih y (x % y) hy (by omega) q (by rw [Nat.gcd_comm, ← Nat.gcd_rec, Nat.gcd_comm]; exact h)
  exact ⟨101, key 100 x y hx hy (ends100 hy) h⟩
/-- a part of a fraction in lowest terms -/
def low (x y : Nat) (part : Int32) : Nat := (if part = 0 then x else y) / Nat.gcd x y
theorem gcd_lt {x y : Nat} (hy : 0 < y) (h : y < 2 ^ 62) : 0 < Nat.gcd x y ∧ Nat.gcd x y < 2 ^ 62 := ⟨Nat.gcd_pos_of_pos_right _ hy, Nat.lt_of_le_of_lt (Nat.gcd_le_right _ hy) h⟩
theorem s_lowest {x y : Nat} {part : Int32} {Q : Int64 → Prop} (hx : x < 2 ^ 62) (hy0 : 0 < y) (hy : y < 2 ^ 62) (h : Q (lN (low x y part))) : wp_X6_lowest (lN x) (lN y) part Q := by
  obtain ⟨g0, g1⟩ := gcd_lt (x := x) hy0 hy
  refine s_common hx hy (br_f (fun q => by have := (lcmp0 (by omega)).mp q; omega) ?_)
  have hne : ¬ lN (Nat.gcd x y) = 0 := fun q => by have := (pk_lEQ (b := 0) (by omega) (by omega)).mp q; omega
  unfold low at h
  unfold B_X6_lowest_26
  refine br_c (fun c => ⟨hne, ?_⟩) (fun c => ⟨hne, ?_⟩)
  · rw [if_pos c] at h; rw [pk_lDiv (by omega) (by omega) (by omega)]; exact h
  · rw [if_neg c] at h; rw [pk_lDiv (by omega) (by omega) (by omega)]; exact h
/-- how many are drawn -/
def dr (nt k n T : Nat) : Nat := min n (min (nt - k) T)
theorem min_lt {a b : Nat} (hb : a < 1000000) (hc : b < 1000000) : (if nI b < nI a then nI b else nI a) = nI (min a b) := by
  rcases Nat.lt_or_ge b a with q | q
  · rw [if_pos (ltN q (by omega)), Nat.min_eq_right (by omega)]
  · rw [if_neg (nltN q (by omega)), Nat.min_eq_left q]
theorem s_drawsAhead {nt k n T : Nat} {c : Nat → Int32} {Q : Int32 → Prop} (hk : k ≤ nt) (h6 : nt ≤ 6) (e : c 11 = nI k) (hn : n < 1000) (hT : T < 1000) (h : Q (nI (dr nt k n T))) : wp_X6_drawsAhead c (nI nt) (nI n) (nI T) Q := by
  unfold wp_X6_drawsAhead wp_X3_next
  dsimp only
  rw [e, pk_sub hk, min_lt (by omega) (by omega), min_lt (by omega) (by omega)]
  exact h
theorem s7_drawn {nt k n T : Nat} {th c : Nat → Int32} {Q : Int32 → Prop} (hk : k ≤ nt) (h6 : nt ≤ 6) (et : th 0 = nI nt) (e : c 11 = nI k) (hn : n < 1000) (hT : T < 1000) (h : Q (nI (dr nt k n T))) : wp_X7_drawn th c (nI n) (nI T) Q := by
  unfold wp_X7_drawn B_X7_drawn_25
  rw [e, et, pk_sub hk]
  unfold dr at h
  rcases Nat.lt_or_ge n (nt - k) with q | q
  · refine br_t (ltN q (by omega)) ?_
    rcases Nat.lt_or_ge T n with q2 | q2
    · refine br_t (ltN q2 (by omega)) ?_
      rw [show min n (min (nt - k) T) = T by omega] at h; exact h
    · refine br_f (nltN q2 (by omega)) ?_
      rw [show min n (min (nt - k) T) = n by omega] at h; exact h
  · refine br_f (nltN q (by omega)) ?_
    rcases Nat.lt_or_ge T (nt - k) with q2 | q2
    · refine br_t (ltN q2 (by omega)) ?_
      rw [show min n (min (nt - k) T) = T by omega] at h; exact h
    · refine br_f (nltN q2 (by omega)) ?_
      rw [show min n (min (nt - k) T) = nt - k by omega] at h; exact h
theorem s_isPart {x : Int32} {Q : Int32 → Prop} (h1 : x = 0 ∨ x = 1 → Q 1) (h0 : ¬ (x = 0 ∨ x = 1) → Q 0) : wp_X6_isPart x Q := br_c (fun c => h1 (Or.inl c)) (fun c => br_c (fun c2 => h1 (Or.inr c2)) (fun c2 => h0 (fun q => q.elim c c2)))
theorem part_in {x : Int32} {Q : Int32 → Prop} (h1 : x = 0 ∨ x = 1 → Q 1) (h0 : ¬ (x = 0 ∨ x = 1) → Q 0) : wp_X7_in x 0 1 Q := by
  have e0 : (0 : Int32).toInt = 0 := by decide
  have e1 : (1 : Int32).toInt = 1 := by decide
  refine br_c (fun c => h0 (fun q => ?_)) (fun c => br_c (fun c2 => h0 (fun q => ?_)) (fun c2 => h1 ?_))
  · rw [fa_lt] at c
    rcases q with q | q
    · rw [q] at c; omega
    · rw [q] at c; omega
  · rw [fa_lt] at c2
    rcases q with q | q
    · rw [q] at c2; omega
    · rw [q] at c2; omega
  · rw [fa_lt] at c c2
    rw [fa_eq, fa_eq]
    omega
theorem pow45 : ∀ m, m ≤ 6 → 45 ^ m < 10000000000 := by decide
