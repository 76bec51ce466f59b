/-! sharing out: the reference's way, code by code; and both are one -/
def dig (O : Nat → Bool) (np : Nat) : Nat → Nat → Nat → Nat
  | 0, _, _ => 0
  | k + 1, v, t => if O k = true then (if t = k then v % np else dig O np k (v / np) t) else dig O np k v t
def enc (O : Nat → Bool) (np : Nat) : Nat → Nat → Nat
  | 0, _ => 0
  | k + 1, v => if O k = true then 8 * enc O np k (v / np) + v % np else 8 * enc O np k v
def Mc (O : Nat → Bool) (np : Nat) : Nat → Nat
  | 0 => 1
  | k + 1 => if O k = true then np * Mc O np k else Mc O np k
def dsum (d : Nat → Nat) : Nat → Nat
  | 0 => 0
  | k + 1 => 8 * dsum d k + d k
theorem dig_s (O : Nat → Bool) (np k v t : Nat) : dig O np (k + 1) v t = if O k = true then (if t = k then v % np else dig O np k (v / np) t) else dig O np k v t := rfl
theorem Mc_s (O : Nat → Bool) (np k : Nat) : Mc O np (k + 1) = if O k = true then np * Mc O np k else Mc O np k := rfl
theorem enc_lt {O : Nat → Bool} {np : Nat} (h0 : 1 ≤ np) (h8 : np ≤ 8) : ∀ k v v', v < v' → v' < Mc O np k → enc O np k v < enc O np k v' := by
  intro k
  induction k with
  | zero => intro v v' h1 h2; unfold Mc at h2; omega
  | succ k ih =>
    intro v v' h1 h2
    unfold enc
    unfold Mc at h2
    by_cases ho : O k = true
    · rw [if_pos ho] at h2
      rw [if_pos ho, if_pos ho]
      have q1 : v' / np < Mc O np k := Nat.div_lt_of_lt_mul h2
      have q2 : v / np ≤ v' / np := Nat.div_le_div_right (by omega)
      have r1 : v % np < np := Nat.mod_lt _ (by omega)
      have r2 : v' % np < np := Nat.mod_lt _ (by omega)
      by_cases e : v / np = v' / np
      · have a1 := Nat.div_add_mod v np
        have a2 := Nat.div_add_mod v' np
        rw [e] at a1
        rw [e]
        omega
      · have := ih (v / np) (v' / np) (by omega) q1
        omega
    · rw [if_neg ho] at h2
      rw [if_neg ho, if_neg ho]
      have := ih v v' h1 h2
      omega
theorem dig_all {O : Nat → Bool} {np : Nat} (h0 : 1 ≤ np) : ∀ k (f : Nat → Nat), (∀ t, t < k → O t = true → f t < np) → ∃ v, v < Mc O np k ∧ ∀ t, t < k → O t = true → dig O np k v t = f t := by
  intro k
  induction k with
  | zero => intro f _; exact ⟨0, Nat.zero_lt_one, fun t ht => absurd ht (by omega)⟩
  | succ k ih =>
    intro f hf
    obtain ⟨v, h1, h2⟩ := ih f (fun t ht => hf t (by omega))
    unfold Mc
    by_cases ho : O k = true
    · rw [if_pos ho]
      have hk := hf k (by omega) ho
      refine ⟨np * v + f k, ?_, fun t ht hot => ?_⟩
      · have : np * (v + 1) ≤ np * Mc O np k := Nat.mul_le_mul_left np (by omega)
        rw [Nat.mul_add, Nat.mul_one] at this
        omega
      · unfold dig
        rw [if_pos ho]
        by_cases e : t = k
        · rw [if_pos e, e, Nat.mul_add_mod, Nat.mod_eq_of_lt hk]
        · rw [if_neg e, Nat.mul_add_div (by omega), Nat.div_eq_of_lt hk, Nat.add_zero]
          exact h2 t (by omega) hot
    · rw [if_neg ho]
      refine ⟨v, h1, fun t ht hot => ?_⟩
      unfold dig
      rw [if_neg ho]
      by_cases e : t = k
      · rw [e] at hot; exact absurd hot ho
      · exact h2 t (by omega) hot
theorem dig_lt {O : Nat → Bool} {np : Nat} (h0 : 1 ≤ np) : ∀ k v t, dig O np k v t < np := by
  intro k
  induction k with
  | zero => intro v t; unfold dig; omega
  | succ k ih =>
    intro v t
    unfold dig
    split
    · split
      · exact Nat.mod_lt _ (by omega)
      · exact ih _ _
    · exact ih _ _
theorem dsum_congr {d d' : Nat → Nat} : ∀ k, (∀ t, t < k → d t = d' t) → dsum d k = dsum d' k := by
  intro k
  induction k with
  | zero => intro _; rfl
  | succ k ih => intro h; unfold dsum; rw [ih (fun t ht => h t (by omega)), h k (by omega)]
theorem enc_dsum {O : Nat → Bool} {np : Nat} : ∀ k v, enc O np k v = dsum (fun t => if O t = true then dig O np k v t else 0) k := by
  intro k
  induction k with
  | zero => intro v; rfl
  | succ k ih =>
    intro v
    unfold enc dsum
    by_cases ho : O k = true
    · rw [if_pos ho, ih]
      have e1 : dsum (fun t => if O t = true then dig O np (k + 1) v t else 0) k = dsum (fun t => if O t = true then dig O np k (v / np) t else 0) k := dsum_congr k (fun t ht => by
        rw [dig_s, if_pos ho, if_neg (show ¬ t = k by omega)])
      rw [e1, if_pos ho, dig_s, if_pos ho, if_pos rfl]
    · rw [if_neg ho, ih]
      have e1 : dsum (fun t => if O t = true then dig O np (k + 1) v t else 0) k = dsum (fun t => if O t = true then dig O np k v t else 0) k := dsum_congr k (fun t ht => by
        rw [dig_s, if_neg ho])
      rw [e1, if_neg ho]
      omega
theorem dig_up {O : Nat → Bool} {np nt v : Nat} (hO : ∀ t, nt ≤ t → t < 6 → O t = false) (t : Nat) : ∀ j, nt ≤ j → j ≤ 6 → dig O np j v t = dig O np nt v t := by
  intro j
  induction j with
  | zero => intro h1 _; rw [show nt = 0 by omega]
  | succ j ih =>
    intro h1 h2
    by_cases e : nt = j + 1
    · rw [e]
    · have := hO j (by omega) (by omega)
      rw [dig_s, if_neg (by rw [this]; decide)]
      exact ih (by omega) (by omega)
theorem Mc_up {O : Nat → Bool} {np nt : Nat} (hO : ∀ t, nt ≤ t → t < 6 → O t = false) : ∀ j, nt ≤ j → j ≤ 6 → Mc O np j = Mc O np nt := by
  intro j
  induction j with
  | zero => intro h1 _; rw [show nt = 0 by omega]
  | succ j ih =>
    intro h1 h2
    by_cases e : nt = j + 1
    · rw [e]
    · have := hO j (by omega) (by omega)
      rw [Mc_s, if_neg (by rw [this]; decide)]
      exact ih (by omega) (by omega)
theorem Mc_pow (O : Nat → Bool) (np : Nat) : ∀ k, Mc O np k = np ^ fa_cnt O k := by
  intro k
  induction k with
  | zero => rfl
  | succ k ih =>
    unfold Mc
    cases ho : O k with
    | true => rw [if_pos rfl, fa_cnt_yes ho, ih, Nat.pow_succ, Nat.mul_comm]
    | false => rw [if_neg (by decide), fa_cnt_no ho, ih]
/-- the code as one number -/
def Kc (d : Nat → Nat) : Nat := 32768 * d 0 + 4096 * d 1 + 512 * d 2 + 64 * d 3 + 8 * d 4 + d 5
theorem dsum_6 (d : Nat → Nat) : dsum d 6 = Kc d := by
  simp only [dsum, Kc]
  omega
theorem Kc_dig {d : Nat → Nat} (h : ∀ t, t < 6 → d t < 8) {t : Nat} (ht : t < 6) : Kc d / 2 ^ (3 * (5 - t)) % 2 ^ 3 = d t := by
  have h0 := h 0 (by omega)
  have h1 := h 1 (by omega)
  have h2 := h 2 (by omega)
  have h3 := h 3 (by omega)
  have h4 := h 4 (by omega)
  have h5 := h 5 (by omega)
  unfold Kc
  rcases six ht with e | e | e | e | e | e <;> rw [e] <;> simp only [Nat.sub_self, Nat.reduceSub, Nat.reduceMul, Nat.reducePow] <;> omega
theorem Kc_lt {d : Nat → Nat} (h : ∀ t, t < 6 → d t < 8) : Kc d < 262144 := by
  have h0 := h 0 (by omega)
  have h1 := h 1 (by omega)
  have h2 := h 2 (by omega)
  have h3 := h 3 (by omega)
  have h4 := h 4 (by omega)
  have h5 := h 5 (by omega)
  unfold Kc
  omega
section ShareD
variable {np nt : Nat} {tk kd wt lk pe th la ki wo li nw now : Nat → Int32}
def wsum (kd wt lk : Nat → Int32) (nt : Nat) : Nat → (Nat → Nat) → Nat → Int
  | 0, _, _ => 0
  | n + 1, f, s => wsum kd wt lk nt n f s + (W1 kd wt lk nt n (pre s f n)).toInt
theorem wsum_bd (hP : PR np nt tk kd wt lk) (f : Nat → Nat) (s : Nat) : ∀ n, n ≤ np → -(360 * (n : Int)) ≤ wsum kd wt lk nt n f s ∧ wsum kd wt lk nt n f s ≤ 360 * (n : Int) := by
  intro n
  induction n with
  | zero => intro _; unfold wsum; decide
  | succ n ih =>
    intro hn
    have a := ih (by omega)
    have b := W1_bd hP (p := n) (by omega) (pre s f n)
    have hc : ((n + 1 : Nat) : Int) = (n : Int) + 1 := rfl
    unfold wsum
    omega
def ud (nt s : Nat) (f : Nat → Nat) (n : Nat) : Nat → Nat := fun t => if bt (nI s) t = true ∧ t < nt ∧ f t < n then f t else 0
theorem ud_succ (nt s : Nat) (f : Nat → Nat) (n t : Nat) : ud nt s f (n + 1) t = ud nt s f n t + n * (pre s f n t && decide (t < nt)).toNat := by
  unfold ud pre
  by_cases h1 : bt (nI s) t = true
  · by_cases h2 : t < nt
    · by_cases h3 : f t = n
      · rw [if_pos ⟨h1, h2, by omega⟩, if_neg (fun z => by omega), h1, decide_eq_true h2, decide_eq_true h3, h3]
        simp
      · rw [h1, decide_eq_false h3]
        by_cases h4 : f t < n
        · rw [if_pos ⟨rfl, h2, by omega⟩, if_pos ⟨rfl, h2, h4⟩]
          simp
        · rw [if_neg (fun z => by omega), if_neg (fun z => by omega)]
          simp
    · rw [if_neg (fun z => h2 z.2.1), if_neg (fun z => h2 z.2.1), decide_eq_false h2]
      simp
  · rw [if_neg (fun z => h1 z.1), if_neg (fun z => h1 z.1)]
    simp at h1
    rw [h1]
    simp
theorem vv_split (f : Nat → Nat) (s : Nat) : ∀ n, vv (Gf kd wt lk nt) n f s = wsum kd wt lk nt n f s * 262144 - ((Kc (ud nt s f n) : Nat) : Int) := by
  intro n
  induction n with
  | zero =>
    have e : Kc (ud nt s f 0) = 0 := by
      have h : ∀ t, ud nt s f 0 t = 0 := fun t => by unfold ud; rw [if_neg (fun z => by omega)]
      unfold Kc
      rw [h, h, h, h, h, h]
    rw [e]
    rfl
  | succ n ih =>
    have e : Kc (ud nt s f (n + 1)) = Kc (ud nt s f n) + n * KP nt (pre s f n) := by
      unfold KP Kx Kc
      simp only [ud_succ, Nat.mul_add, Nat.mul_left_comm n]
      omega
    unfold vv wsum
    rw [ih, e]
    unfold Gf
    omega
theorem ov_bits (c : Nat → Int32) : ∀ m, m ≤ 31 → ∀ i, i < 32 → bt (ov c m) i = decide (i < m ∧ ¬ c (5 + i) = -4) := by
  intro m
  induction m with
  | zero => intro _ i hi; show bt 0 i = _; rw [b_0, decide_eq_false (fun z => by omega)]
  | succ m ih =>
    intro hm i hi
    have e : ov c (m + 1) = if c (5 + m) = -4 then ov c m else ov c m ||| (1 <<< (nI m &&& 31)) := lp_succ _ m 0
    rw [e]
    by_cases h4 : c (5 + m) = -4
    · rw [if_pos h4, ih (by omega) i hi]
      by_cases em : i = m
      · rw [em, decide_eq_false (fun z => by omega), decide_eq_false (fun z => z.2 h4)]
      · by_cases h : i < m ∧ ¬ c (5 + i) = -4
        · rw [decide_eq_true h, decide_eq_true ⟨by omega, h.2⟩]
        · rw [decide_eq_false h, decide_eq_false (fun z => h ⟨by omega, z.2⟩)]
    · rw [if_neg h4, b_or, ih (by omega) i hi, b_bit (by omega) hi]
      by_cases em : i = m
      · rw [em, decide_eq_true rfl, decide_eq_true (show m < m + 1 ∧ ¬ c (5 + m) = -4 from ⟨by omega, h4⟩)]
        simp
      · rw [decide_eq_false em]
        by_cases h : i < m ∧ ¬ c (5 + i) = -4
        · rw [decide_eq_true h, decide_eq_true (show i < m + 1 ∧ ¬ c (5 + i) = -4 from ⟨by omega, h.2⟩)]
          rfl
        · rw [decide_eq_false h, decide_eq_false (fun z : i < m + 1 ∧ ¬ c (5 + i) = -4 => h ⟨by omega, z.2⟩)]
          rfl
/-- the things that are had, as a number -/
def al (c : Nat → Int32) : Nat := mk6 (fun t => decide (¬ c (5 + t) = -4))
theorem al_ov (c : Nat → Int32) : ov c 6 = nI (al c) := b_ext (fun i hi => by
  rw [ov_bits c 6 (by omega) i hi]
  by_cases h6 : i < 6
  · unfold al
    rw [mk6_bt _ h6]
    by_cases h : ¬ c (5 + i) = -4
    · rw [decide_eq_true h, decide_eq_true ⟨h6, h⟩]
    · rw [decide_eq_false h, decide_eq_false (fun z => h z.2)]
  · rw [sb_hi (al c) (mk6_lt _) i hi (by omega), decide_eq_false (fun z => h6 z.1)])
theorem al_bt (c : Nat → Int32) {t : Nat} (ht : t < 6) : bt (nI (al c)) t = decide (¬ c (5 + t) = -4) := mk6_bt _ ht
def Oc (c : Nat → Int32) : Nat → Bool := fun t => decide (¬ c (5 + t) = -4)
theorem hc_cnt (c : Nat → Int32) : ∀ m, hc c m = nI (fa_cnt (Oc c) m) := by
  intro m
  induction m with
  | zero => rfl
  | succ m ih =>
    have e : hc c (m + 1) = if c (5 + m) = -4 then hc c m else hc c m + 1 := lp_succ _ m 0
    rw [e]
    by_cases h4 : c (5 + m) = -4
    · rw [if_pos h4, fa_cnt_no (p := Oc c) (decide_eq_false (fun z => z h4)), ih]
    · rw [if_neg h4, fa_cnt_yes (p := Oc c) (decide_eq_true h4), ih, nI_1]
theorem s7_dealBy {O : Nat → Bool} {v : Nat} {tr : Nat → Int32} {Q : (Nat → Int32) → Prop} (hP : PR np nt tk kd wt lk) (hM : MR np nt tk kd wt lk pe th la ki wo li) (hO : ∀ t, t < nt → O t = Oc now t) (hv : v < 1000000) (h : ∀ t' : Nat → Int32, (∀ t, t < nt → O t = true → t' (5 + t) = nI (dig O np nt v t)) → (∀ i, (∀ t, t < nt → O t = true → i ≠ 5 + t) → t' i = tr i) → Q t') : wp_X7_dealBy pe th now tr (nI v) Q := by
  have h0 := hP.1
  have h5 := hP.2.1
  have h6 := hP.2.2.1
  have key : ∀ k v (tr : Nat → Int32), k ≤ nt → v < 1000000 → (∀ t' : Nat → Int32, (∀ t, t < k → O t = true → t' (5 + t) = nI (dig O np k v t)) → (∀ i, (∀ t, t < k → O t = true → i ≠ 5 + t) → t' i = tr i) → Q t') → L_X7_dealBy_11 pe th now Q (k + 1) tr (nI v) (nI k - 1) := by
    intro k
    induction k with
    | zero => intro v tr _ _ h; exact br_t (by decide) (h tr (fun t ht => absurd ht (by omega)) (fun i _ => rfl))
    | succ k ih =>
      intro v tr hk hv h
      have hd : v / np ≤ v := Nat.div_le_self _ _
      rw [nI_pred]
      refine br_f (nI_pos (by omega)) ?_
      rw [n5, cl (by omega), am1, hM.1, pk_rem (by omega) (by omega) (by omega), pk_div (by omega) (by omega) (by omega)]
      have hne : ¬ nI np = 0 := nI_ne0 (by omega) (by omega)
      have hin : vp_in (nI (5 + k)) 14 := inN (by omega) (by omega)
      refine ⟨hin, br_c (fun c4 => ?_) (fun c4 => ⟨hne, hin, hne, ?_⟩)⟩
      · have ho : ¬ O k = true := fun z => by rw [hO k (by omega)] at z; exact of_decide_eq_true z c4
        refine ih v tr (by omega) hv (fun t' a b => h t' (fun t ht hot => ?_) (fun i hi => b i (fun t ht => hi t (by omega))))
        unfold dig
        rw [if_neg ho]
        by_cases e : t = k
        · rw [e] at hot; exact absurd hot ho
        · exact a t (by omega) hot
      · have ho : O k = true := by rw [hO k (by omega)]; exact decide_eq_true c4
        refine ih (v / np) _ (by omega) (by omega) (fun t' a b => h t' (fun t ht hot => ?_) (fun i hi => ?_))
        · unfold dig
          rw [if_pos ho]
          by_cases e : t = k
          · rw [if_pos e, e, b (5 + k) (fun t' ht' _ => by omega), pk_us]
          · rw [if_neg e]; exact a t (by omega) hot
        · rw [b i (fun t ht => hi t (by omega)), pk_un (hi k (by omega) ho)]
  refine ⟨nt + 1, ?_⟩
  rw [hM.2.1]
  exact key nt v tr (Nat.le_refl _) hv h
theorem WA_int (hP : PR np nt tk kd wt lk) {c : Nat → Int32} {s : Nat} {f : Nat → Nat} (hc : ∀ p, p < np → ∀ t, t < nt → hb c p t = pre s f p t) : (WA kd wt lk np nt c).toInt = wsum kd wt lk nt np f s := by
  have h5 := hP.2.1
  have key : ∀ n, n ≤ np → (lp (fun p a => a + W1 kd wt lk nt p (hb c p)) 0 n 0 : Int32).toInt = wsum kd wt lk nt n f s := by
    intro n
    induction n with
    | zero => intro _; rfl
    | succ n ih =>
      intro hn
      have a := ih (by omega)
      have b := W1_bd hP (p := n) (by omega) (hb c n)
      have d := wsum_bd hP f s n (by omega)
      rw [lp_succ]
      unfold wsum
      rw [fb_addI (by omega) (by omega), a, W1_congr (hc n (by omega))]
  exact key np (Nat.le_refl _)
end ShareD
