/-! PURE PART: loops, bits, small numbers -/
def lp {α : Type} (f : Nat → α → α) : Nat → Nat → α → α
  | _, 0, a => a
  | j, m + 1, a => lp f (j + 1) m (f j a)
theorem lpx {α : Type} (L : Nat → α → Nat → Prop) (f : Nat → α → α) (E : α → Prop) (N : Nat) (hs : ∀ n a j, j < N → L n (f j a) (j + 1) → L (n + 1) a j) (hx : ∀ n a, E a → L (n + 1) a N) : ∀ m j a, j + m = N → E (lp f j m a) → L (m + 1) a j := by
  intro m
  induction m with
  | zero => intro j a hj h; have e : j = N := by omega
            subst e; exact hx 0 a h
  | succ m ih => intro j a hj h; exact hs (m + 1) a j (by omega) (ih (j + 1) (f j a) (by omega) h)
theorem lp_congr {α : Type} {f g : Nat → α → α} : ∀ (m j : Nat) (a : α), (∀ i a, j ≤ i → i < j + m → f i a = g i a) → lp f j m a = lp g j m a := by
  intro m
  induction m with
  | zero => intro j a _; rfl
  | succ m ih => intro j a h; show lp f (j + 1) m (f j a) = lp g (j + 1) m (g j a); rw [h j a (Nat.le_refl j) (by omega)]; exact ih (j + 1) _ (fun i a h1 h2 => h i a (by omega) (by omega))
theorem lp_pair {α β : Type} (f : Nat → α → α) (g : Nat → β → β) : ∀ (m j : Nat) (a : α) (b : β), lp (fun t (q : α × β) => (f t q.1, g t q.2)) j m (a, b) = (lp f j m a, lp g j m b) := by
  intro m
  induction m with
  | zero => intro j a b; rfl
  | succ m ih => intro j a b; exact ih (j + 1) (f j a) (g j b)
theorem lp_app {α : Type} (f : Nat → α → α) : ∀ (m n j : Nat) (a : α), lp f j (m + n) a = lp f (j + m) n (lp f j m a) := by
  intro m
  induction m with
  | zero => intro n j a; simp [lp]
  | succ m ih => intro n j a; rw [show m + 1 + n = (m + n) + 1 by omega]; show lp f (j + 1) (m + n) (f j a) = lp f (j + (m + 1)) n (lp f (j + 1) m (f j a)); rw [ih, show j + 1 + m = j + (m + 1) by omega]
theorem lp_id {α : Type} (f : Nat → α → α) : ∀ (m j : Nat) (a : α), (∀ i a, j ≤ i → i < j + m → f i a = a) → lp f j m a = a := by
  intro m
  induction m with
  | zero => intro j a _; rfl
  | succ m ih => intro j a h; show lp f (j + 1) m (f j a) = a; rw [h j a (Nat.le_refl j) (by omega)]; exact ih (j + 1) a (fun i a h1 h2 => h i a (by omega) (by omega))
theorem lp_inv {α : Type} (f : Nat → α → α) (P : Nat → α → Prop) : ∀ (m j : Nat) (a : α), P j a → (∀ i a, j ≤ i → i < j + m → P i a → P (i + 1) (f i a)) → P (j + m) (lp f j m a) := by
  intro m
  induction m with
  | zero => intro j a h _; exact h
  | succ m ih => intro j a h hs; rw [show j + (m + 1) = (j + 1) + m by omega]; exact ih (j + 1) (f j a) (hs j a (Nat.le_refl j) (by omega) h) (fun i a h1 h2 h3 => hs i a (by omega) (by omega) h3)
/-- a loop that may stop: found (inl) or on (inr) -/
def lq {α ρ : Type} (f : Nat → α → ρ ⊕ α) : Nat → Nat → α → ρ ⊕ α
  | _, 0, a => .inr a
  | j, m + 1, a => match f j a with
    | .inl r => .inl r
    | .inr b => lq f (j + 1) m b
theorem lqx {α ρ : Type} (L : Nat → α → Nat → Prop) (f : Nat → α → ρ ⊕ α) (E : ρ ⊕ α → Prop) (N : Nat) (hs : ∀ n a j, j < N → (∀ r, f j a = .inl r → E (.inl r) → L (n + 1) a j) ∧ (∀ b, f j a = .inr b → L n b (j + 1) → L (n + 1) a j)) (hx : ∀ n a, E (.inr a) → L (n + 1) a N) : ∀ m j a, j + m = N → E (lq f j m a) → L (m + 1) a j := by
  intro m
  induction m with
  | zero => intro j a hj h; have e : j = N := by omega
            subst e; exact hx 0 a h
  | succ m ih =>
    intro j a hj h
    unfold lq at h
    cases hf : f j a with
    | inl r => rw [hf] at h; exact (hs (m + 1) a j (by omega)).1 r hf h
    | inr b => rw [hf] at h; exact (hs (m + 1) a j (by omega)).2 b hf (ih (j + 1) b (by omega) h)
theorem lq_congr {α ρ : Type} {f g : Nat → α → ρ ⊕ α} : ∀ (m j : Nat) (a : α), (∀ i a, j ≤ i → i < j + m → f i a = g i a) → lq f j m a = lq g j m a := by
  intro m
  induction m with
  | zero => intro j a _; rfl
  | succ m ih =>
    intro j a h
    unfold lq
    rw [h j a (Nat.le_refl j) (by omega)]
    cases g j a with
    | inl r => rfl
    | inr b => exact ih (j + 1) b (fun i a h1 h2 => h i a (by omega) (by omega))
/-! bits -/
theorem b_1 : ∀ i, i < 32 → bt 1 i = decide (i = 0) := by decide +kernel
theorem bit1 (x : Int32) {t : Nat} (ht : t < 32) : (x >>> (nI t &&& 31)) &&& 1 = if bt x t then 1 else 0 := by
  apply b_ext
  intro i hi
  rw [b_and, b_sshr t ht x hi, b_1 i hi]
  cases hb : bt x t with
  | true =>
    rw [if_pos rfl, b_1 i hi]
    by_cases h0 : i = 0
    · subst h0; simp [ht, hb]
    · simp [h0]
  | false =>
    rw [if_neg (show ¬ (false = true) by decide), b_0]
    by_cases h0 : i = 0
    · subst h0; simp [ht, hb]
    · simp [h0]
theorem bit1_0 (x : Int32) {t : Nat} (ht : t < 32) : (x >>> (nI t &&& 31)) &&& 1 = 0 ↔ bt x t = false := by
  rw [bit1 x ht]
  cases bt x t <;> simp
theorem bit1_1 (x : Int32) {t : Nat} (ht : t < 32) : (x >>> (nI t &&& 31)) &&& 1 = 1 ↔ bt x t = true := by
  rw [bit1 x ht]
  cases bt x t <;> simp
theorem b_bit {t i : Nat} (ht : t < 32) (hi : i < 32) : bt (1 <<< (nI t &&& 31)) i = decide (i = t) := by
  rw [b_shl t ht 1 hi, b_1 _ (by omega)]
  by_cases h : i = t
  · subst h; simp
  · by_cases h2 : t ≤ i
    · have : ¬ i - t = 0 := by omega
      simp [h, h2, this]
    · simp [h, h2]
/-! small numbers -/
theorem i5 : (5 : Int32) = nI 5 := rfl
theorem n5 (t : Nat) : (5 : Int32) + nI t = nI (5 + t) := nI_add 5 t
theorem n6 (t : Nat) : (6 : Int32) + nI t = nI (6 + t) := nI_add 6 t
theorem n0 (t : Nat) : (0 : Int32) + nI t = nI t := by rw [show (0 : Int32) = nI 0 from rfl, nI_add, Nat.zero_add]
theorem n30 (t : Nat) : (30 : Int32) + nI t = nI (30 + t) := nI_add 30 t
theorem m6 (p : Nat) : (6 : Int32) * nI p = nI (6 * p) := pk_mul 6 p
theorem m6' (p : Nat) : nI p * (6 : Int32) = nI (6 * p) := by rw [Nat.mul_comm]; exact pk_mul p 6
theorem m14 (p : Nat) : (14 : Int32) * nI p = nI (14 * p) := pk_mul 14 p
theorem m14' (p : Nat) : nI p * (14 : Int32) = nI (14 * p) := by rw [Nat.mul_comm]; exact pk_mul p 14
theorem cl {n : Nat} (h : n < 2147483648) : Int32.toNatClampNeg (nI n) = n := nI_clamp h
theorem ltN {a b : Nat} (h : a < b) (hb : b < 2147483648) : nI a < nI b := nI_lt h hb
theorem nltN {a b : Nat} (h : b ≤ a) (hb : a < 2147483648) : ¬ nI a < nI b := nI_nlt h hb
theorem neN {a b : Nat} (h : a ≠ b) (ha : a < 2147483648) (hb : b < 2147483648) : ¬ nI a = nI b := fun e => h ((nI_eq ha hb).mp e)
theorem nI_m4 {a : Nat} (ha : a < 2147483648) : ¬ nI a = -4 := by
  intro e
  have := congrArg Int32.toInt e
  rw [nI_toInt ha] at this
  have h2 : (-4 : Int32).toInt = -4 := by decide
  omega
theorem inN {n N : Nat} (h : n < N) (hN : N < 2147483648) : vp_in (nI n) N := vp_in_nI h hN
/-- a number is one of n, or none -/
theorem ofN (x : Int32) (n : Nat) (hn : n < 2147483648) : (∃ j, j < n ∧ x = nI j) ∨ (∀ j, j < n → x ≠ nI j) := by
  by_cases h : ∃ j, j < n ∧ x = nI j
  · exact Or.inl h
  · exact Or.inr (fun j hj e => h ⟨j, hj, e⟩)
theorem ofN' {x : Int32} {n : Nat} (hn : n < 2147483648) (h0 : ¬ x < 0) (h1 : x < nI n) : ∃ j, j < n ∧ x = nI j := by
  rcases pk_ix x hn with h | h | h
  · exact absurd h h0
  · exact absurd h1 (Int32.not_lt.mpr h)
  · exact h
theorem nI_m1 {n : Nat} (h : 0 < n) : nI n - 1 = nI (n - 1) := by
  obtain ⟨m, rfl⟩ : ∃ m, n = m + 1 := ⟨n - 1, by omega⟩
  rw [nI_pred]; simp
/-! 'in': is it one of them -/
theorem s_isPerson_t {np p : Nat} {Q : Int32 → Prop} (hp : p < np) (hn : np < 2147483648) (h : Q 1) : wp_X2_isPerson (nI np) (nI p) Q := br_f (nI_pos (by omega)) (br_t (ltN hp hn) h)
theorem s_isPerson_f {np : Nat} {x : Int32} {Q : Int32 → Prop} (hx : ∀ j, j < np → x ≠ nI j) (hn : np < 2147483648) (h : Q 0) : wp_X2_isPerson (nI np) x Q := br_c (fun _ => h) (fun c => br_f (fun c2 => by obtain ⟨j, h1, h2⟩ := ofN' hn c c2; exact hx j h1 h2) h)
theorem s_isThing_t {np p : Nat} {Q : Int32 → Prop} (hp : p < np) (hn : np < 2147483648) (h : Q 1) : wp_X2_isThing (nI np) (nI p) Q := br_f (nI_pos (by omega)) (br_t (ltN hp hn) h)
theorem s_isThing_f {np : Nat} {x : Int32} {Q : Int32 → Prop} (hx : ∀ j, j < np → x ≠ nI j) (hn : np < 2147483648) (h : Q 0) : wp_X2_isThing (nI np) x Q := br_c (fun _ => h) (fun c => br_f (fun c2 => by obtain ⟨j, h1, h2⟩ := ofN' hn c c2; exact hx j h1 h2) h)
theorem zb0 : zb 0 := rfl
theorem zb1 : zb 1 := rfl
theorem zf0 : zf 0 := ⟨rfl, rfl⟩
theorem zf1 : zf 1 := ⟨rfl, rfl⟩
theorem s_in_t {n p : Nat} {Q : Int32 → Prop} (hp : p < n) (hn : n < 2147483648) (h : Q 1) : wp_X7_in (nI p) 0 (nI n - 1) Q := br_f (nI_pos (by omega)) (br_f (by rw [nI_m1 (by omega)]; exact nltN (by omega) (by omega)) h)
theorem s_in_f {n : Nat} {x : Int32} {Q : Int32 → Prop} (hx : ∀ j, j < n → x ≠ nI j) (hn : n < 2147483648) (h : Q 0) : wp_X7_in x 0 (nI n - 1) Q := br_c (fun _ => h) (fun c => br_t (by
  by_cases h0 : n = 0
  · subst h0
    have e : nI 0 - 1 = -1 := by decide
    rw [e]
    have h1 := Int32.not_lt.mp c
    rw [fa_le] at h1
    rw [fa_lt]
    have h2 : (0 : Int32).toInt = 0 := by decide
    have h3 : (-1 : Int32).toInt = -1 := by decide
    omega
  · rw [nI_m1 (by omega)]
    by_cases h1 : nI (n - 1) < x
    · exact h1
    · exfalso
      have h2 := Int32.not_lt.mp h1
      obtain ⟨j, a, b⟩ := nI_of2 (n := n - 1) (nI_toInt (by omega)) c h2
      exact hx j (by omega) b) h)
theorem s7_isPerson_t {np p : Nat} {pe : Nat → Int32} {Q : Int32 → Prop} (he : pe 0 = nI np) (hp : p < np) (hn : np < 2147483648) (h : Q 1) : wp_X7_isPerson pe (nI p) Q := by
  unfold wp_X7_isPerson; rw [he]; exact s_in_t hp hn ⟨zb1, h⟩
theorem s7_isPerson_f {np : Nat} {x : Int32} {pe : Nat → Int32} {Q : Int32 → Prop} (he : pe 0 = nI np) (hx : ∀ j, j < np → x ≠ nI j) (hn : np < 2147483648) (h : Q 0) : wp_X7_isPerson pe x Q := by
  unfold wp_X7_isPerson; rw [he]; exact s_in_f hx hn ⟨zb0, h⟩
theorem s7_isThing_t {np p : Nat} {pe : Nat → Int32} {Q : Int32 → Prop} (he : pe 0 = nI np) (hp : p < np) (hn : np < 2147483648) (h : Q 1) : wp_X7_isThing pe (nI p) Q := by
  unfold wp_X7_isThing; rw [he]; exact s_in_t hp hn ⟨zb1, h⟩
theorem s7_isThing_f {np : Nat} {x : Int32} {pe : Nat → Int32} {Q : Int32 → Prop} (he : pe 0 = nI np) (hx : ∀ j, j < np → x ≠ nI j) (hn : np < 2147483648) (h : Q 0) : wp_X7_isThing pe x Q := by
  unfold wp_X7_isThing; rw [he]; exact s_in_f hx hn ⟨zb0, h⟩
/-! what things are worth: by which of them one has -/
def cntk (kd : Nat → Int32) (b : Nat → Bool) (k : Int32) (nt : Nat) : Int32 := lp (fun t a => if b t = true ∧ kd t = k then a + 1 else a) 0 nt 0
def ownw (kd wt : Nat → Int32) (g p : Int32) (t : Nat) : Int32 := if kd t = 0 then wt t else if kd t = 1 then -(wt t) else if kd t = 2 then (if 0 < g then 0 else -(wt t)) else (if 1 < p then wt t else 0)
def wv (kd wt lk : Nat → Int32) (nt : Nat) (b : Nat → Bool) : Int32 := lp (fun t s => if b t = true then s + (lk t + ownw kd wt (cntk kd b 0 nt) (cntk kd b 3 nt) t) else s) 0 nt 0
theorem cntk_le (kd : Nat → Int32) (b : Nat → Bool) (k : Int32) (nt : Nat) : ∃ c, c ≤ nt ∧ cntk kd b k nt = nI c := by
  have := lp_inv (fun t (a : Int32) => if b t = true ∧ kd t = k then a + 1 else a) (fun j a => ∃ c, c ≤ j ∧ a = nI c) nt 0 0 ⟨0, Nat.le_refl 0, rfl⟩ (fun i a _ _ h => by
    obtain ⟨c, h1, rfl⟩ := h
    by_cases hc : b i = true ∧ kd i = k
    · rw [if_pos hc]; exact ⟨c + 1, by omega, nI_1 c⟩
    · rw [if_neg hc]; exact ⟨c, by omega, rfl⟩)
  rw [Nat.zero_add] at this
  exact this
theorem cntk_congr {kd kd' : Nat → Int32} {b b' : Nat → Bool} {k : Int32} {nt : Nat} (hk : ∀ t, t < nt → kd t = kd' t) (hb : ∀ t, t < nt → b t = b' t) : cntk kd b k nt = cntk kd' b' k nt := lp_congr nt 0 0 (fun i a _ h => by simp only [hk i (by omega), hb i (by omega)])
theorem wv_congr {kd kd' wt wt' lk lk' : Nat → Int32} {b b' : Nat → Bool} {nt : Nat} (hk : ∀ t, t < nt → kd t = kd' t) (hw : ∀ t, t < nt → wt t = wt' t) (hl : ∀ t, t < nt → lk t = lk' t) (hb : ∀ t, t < nt → b t = b' t) : wv kd wt lk nt b = wv kd' wt' lk' nt b' := lp_congr nt 0 0 (fun i a _ h => by
  simp only [ownw, hb i (by omega), hk i (by omega), hw i (by omega), hl i (by omega), cntk_congr hk hb])
theorem s_countOf {kd : Nat → Int32} {nt : Nat} {x1 x2 : Int32} {Q : Int32 → Prop} (hn : nt ≤ 6) (h : Q (cntk kd (bt x2) x1 nt)) : wp_X2_countOf kd (nI nt) x1 x2 Q := by
  refine ⟨nt + 1, lpx (fun n a j => L_X2_countOf_5 kd (nI nt) x1 x2 Q n a (nI j)) (fun t a => if bt x2 t = true ∧ kd t = x1 then a + 1 else a) Q nt (fun n a j hj hL => ?_) (fun n a hQ => ?_) nt 0 0 (Nat.zero_add _) h⟩
  · refine br_t (ltN hj (by omega)) ?_
    rw [nI_1, bit1_0 x2 (by omega)]
    cases hb : bt x2 j with
    | false => exact br_t rfl (by simpa [hb] using hL)
    | true =>
      refine br_f (by decide) ⟨inN (by omega) (by omega), ?_⟩
      rw [cl (by omega)]
      exact br_c (fun c => by simpa [hb, c] using hL) (fun c => by simpa [hb, c] using hL)
  · exact br_f (nltN (Nat.le_refl _) (by omega)) hQ
theorem s_likingOf {lk : Nat → Int32} {p t : Nat} {Q : Int32 → Prop} (hp : p < 5) (ht : t < 6) (h : Q (lk (6 * p + t))) : wp_X2_likingOf lk (nI p) (nI t) Q := by
  unfold wp_X2_likingOf
  rw [m6', nI_add, cl (by omega)]
  exact ⟨inN (by omega) (by omega), h⟩
theorem s_ownWorth {kd wt : Nat → Int32} {t : Nat} {g p : Int32} {Q : Int32 → Prop} (ht : t < 6) (h : Q (ownw kd wt g p t)) : wp_X2_ownWorth kd wt (nI t) g p Q := by
  have hi : vp_in (nI t) 6 := inN ht (by omega)
  unfold wp_X2_ownWorth
  rw [cl (by omega)]
  unfold ownw at h
  refine ⟨hi, br_c (fun c => ⟨hi, by simpa [c] using h⟩) (fun c => br_c (fun c2 => ⟨hi, by simpa [c2] using h⟩) (fun c2 => br_c (fun c3 => br_c (fun c4 => by simpa [c3, c4] using h) (fun c4 => ⟨hi, by simpa [c3, c4] using h⟩)) (fun c3 => br_c (fun c4 => ⟨hi, by simpa [c, c2, c3, c4] using h⟩) (fun c4 => by simpa [c, c2, c3, c4] using h))))⟩
theorem s_worthTo {kd wt lk : Nat → Int32} {nt p : Nat} {x2 : Int32} {Q : Int32 → Prop} (hn : nt ≤ 6) (hp : p < 5) (h : Q (wv kd wt (fun t => lk (6 * p + t)) nt (bt x2))) : wp_X2_worthTo kd wt lk (nI nt) (nI p) x2 Q := by
  refine s_countOf hn (s_countOf hn ?_)
  refine ⟨nt + 1, lpx (fun n a j => L_X2_worthTo_21 kd wt lk (nI nt) (nI p) x2 (cntk kd (bt x2) 0 nt) (cntk kd (bt x2) 3 nt) Q n a (nI j)) (fun t s => if bt x2 t = true then s + (lk (6 * p + t) + ownw kd wt (cntk kd (bt x2) 0 nt) (cntk kd (bt x2) 3 nt) t) else s) Q nt (fun n a j hj hL => ?_) (fun n a hQ => ?_) nt 0 0 (Nat.zero_add _) h⟩
  · refine br_t (ltN hj (by omega)) ?_
    rw [nI_1, bit1_0 x2 (by omega)]
    cases hb : bt x2 j with
    | false => exact br_t rfl (by simpa [hb] using hL)
    | true => exact br_f (by decide) (s_likingOf hp (by omega) (s_ownWorth (by omega) (by simpa [hb] using hL)))
  · exact br_f (nltN (Nat.le_refl _) (by omega)) hQ
