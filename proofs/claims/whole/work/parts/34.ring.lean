/-! rings of envy -/
theorem lpr {α : Type} (L : Nat → α → Nat → Prop) (I : Nat → α → Prop) (N : Nat) (hs : ∀ n a j, j < N → I j a → (∀ b, I (j + 1) b → L n b (j + 1)) → L (n + 1) a j) (hx : ∀ n a, I N a → L (n + 1) a N) : ∀ m j a, j + m = N → I j a → L (m + 1) a j := by
  intro m
  induction m with
  | zero => intro j a hj h; have e : j = N := by omega
            rw [e] at h ⊢; exact hx 0 a h
  | succ m ih => intro j a hj h; exact hs (m + 1) a j (by omega) h (fun b hb => ih (j + 1) b (by omega) hb)
theorem least {P : Nat → Prop} : ∀ k, P k → ∃ j, j ≤ k ∧ P j ∧ ∀ i, i < j → ¬ P i := by
  intro k
  induction k using Nat.strongRecOn with
  | ind k ih =>
    intro h
    by_cases hq : ∃ i, i < k ∧ P i
    · obtain ⟨i, h1, h2⟩ := hq
      obtain ⟨j, a, b, c⟩ := ih i h1 h2
      exact ⟨j, by omega, b, c⟩
    · exact ⟨k, Nat.le_refl _, h, fun i hi hp => hq ⟨i, hi, hp⟩⟩
/-- a way of k steps from p to q -/
def rc (E : Nat → Nat → Bool) (np p : Nat) : Nat → Nat → Prop
  | 0, q => q = p
  | k + 1, q => ∃ i, i < np ∧ rc E np p k i ∧ E i q = true
theorem rc_way {E : Nat → Nat → Bool} {np p : Nat} : ∀ k q, rc E np p k q → ∃ w : Nat → Nat, w 0 = p ∧ w k = q ∧ ∀ i, i < k → w i < np ∧ E (w i) (w (i + 1)) = true := by
  intro k
  induction k with
  | zero => intro q h; exact ⟨fun _ => p, rfl, Eq.symm h, fun i hi => absurd hi (by omega)⟩
  | succ k ih =>
    intro q h
    obtain ⟨i, h1, h2, h3⟩ := h
    obtain ⟨w, a, b, c⟩ := ih i h2
    refine ⟨fun j => if j ≤ k then w j else q, ?_, ?_, fun j hj => ?_⟩
    · simp [a]
    · show (if k + 1 ≤ k then w (k + 1) else q) = q
      rw [if_neg (by omega)]
    · by_cases e : j = k
      · have e1 : (if k ≤ k then w k else q) = i := by rw [if_pos (Nat.le_refl k)]; exact b
        have e2 : (if k + 1 ≤ k then w (k + 1) else q) = q := if_neg (by omega)
        rw [e]
        show (if k ≤ k then w k else q) < np ∧ E (if k ≤ k then w k else q) (if k + 1 ≤ k then w (k + 1) else q) = true
        rw [e1, e2]
        exact ⟨h1, h3⟩
      · have hj2 : j < k := by omega
        obtain ⟨c1, c2⟩ := c j hj2
        simp only [show j ≤ k by omega, show j + 1 ≤ k by omega, if_true]
        exact ⟨c1, c2⟩
theorem way_rc {E : Nat → Nat → Bool} {np : Nat} {w : Nat → Nat} (i : Nat) : ∀ m, (∀ t, t < m → w (i + t) < np ∧ E (w (i + t)) (w (i + t + 1)) = true) → rc E np (w i) m (w (i + m)) := by
  intro m
  induction m with
  | zero => intro _; rfl
  | succ m ih => intro h; exact ⟨w (i + m), (h m (by omega)).1, ih (fun t ht => h t (by omega)), (h m (by omega)).2⟩
theorem rc_short {E : Nat → Nat → Bool} {np : Nat} (hE : ∀ p, E p p = false) : ∀ k p, 1 ≤ k → p < np → rc E np p k p → ∃ j q, j ≤ k ∧ 2 ≤ j ∧ j ≤ np ∧ q < np ∧ rc E np q j q := by
  intro k
  induction k using Nat.strongRecOn with
  | ind k ih =>
    intro p hk hp h
    by_cases h1 : k = 1
    · rw [h1] at h
      obtain ⟨i, a, b, c⟩ := h
      have b2 : i = p := b
      rw [b2, hE p] at c
      cases c
    · by_cases hn : k ≤ np
      · exact ⟨k, p, Nat.le_refl _, by omega, hn, hp, h⟩
      · obtain ⟨w, a, b, c⟩ := rc_way k p h
        obtain ⟨i, j, h2, h3, h4⟩ := fb_twice (m := np) (n := k) (f := w) (fun i hi => (c i hi).1) (by omega)
        have hr := way_rc (E := E) (np := np) (w := w) i (j - i) (fun t ht => c (i + t) (by omega))
        rw [show i + (j - i) = j by omega, ← h4] at hr
        obtain ⟨j2, q2, a2, b2, c2, d2, e2⟩ := ih (j - i) (by omega) (w i) (by omega) (c i (by omega)).1 hr
        exact ⟨j2, q2, by omega, b2, c2, d2, e2⟩
section Ring
variable {np nt : Nat} {tk kd wt lk pe th la ki wo li nw now : Nat → Int32}
theorem s_comesBack {env : Nat → Int32} {E : Nat → Nat → Bool} {p k : Nat} {Q : Int32 → Prop} (hn : np ≤ 5) (hp : p < np) (hk : k ≤ 5) (he : ∀ i, i < np → ∀ q, q < 32 → (bt (env i) q = true ↔ q < np ∧ E i q = true)) (h1 : rc E np p k p → Q 1) (h0 : ¬ rc E np p k p → Q 0) : wp_X0_comesBack env (nI np) (nI p) (nI k) Q := by
  refine ⟨k + 1, lpr (fun n a j => L_X0_comesBack_8 env (nI np) (nI p) (nI k) Q n a (nI j)) (fun s a => ∀ q, q < 32 → (bt a q = true ↔ q < np ∧ rc E np p s q)) k (fun n a j hj hI hn2 => ?_) (fun n a hI => ?_) k 0 _ (Nat.zero_add _) (fun q hq => ?_)⟩
  · refine br_t (ltN hj (by omega)) ⟨np + 1, lpr (fun n' b i => L_X0_comesBack_20 env (nI np) (nI p) (nI k) a (nI j) Q (L_X0_comesBack_8 env (nI np) (nI p) (nI k) Q n) n' b (nI i)) (fun i b => ∀ q, q < 32 → (bt b q = true ↔ q < np ∧ ∃ i', i' < i ∧ rc E np p j i' ∧ E i' q = true)) np (fun n' b i hi hb hn3 => ?_) (fun n' b hb => ?_) np 0 0 (Nat.zero_add _) (fun q hq => ?_)⟩
    · refine br_t (ltN hi (by omega)) ?_
      rw [bit1_0 a (by omega), nI_1]
      by_cases hc : rc E np p j i
      · have hb1 : bt a i = true := (hI i (by omega)).mpr ⟨hi, hc⟩
        refine br_f (by rw [hb1]; decide) ⟨inN (by omega) (by omega), ?_⟩
        rw [cl (by omega)]
        refine hn3 _ (fun q hq => ?_)
        rw [b_or, Bool.or_eq_true, hb q hq, he i hi q hq]
        constructor
        · rintro (⟨a1, i', a2, a3, a4⟩ | ⟨a1, a2⟩)
          · exact ⟨a1, i', by omega, a3, a4⟩
          · exact ⟨a1, i, by omega, hc, a2⟩
        · rintro ⟨a1, i', a2, a3, a4⟩
          by_cases e : i' = i
          · rw [e] at a4; exact Or.inr ⟨a1, a4⟩
          · exact Or.inl ⟨a1, i', by omega, a3, a4⟩
      · have hb1 : bt a i = false := by
          cases hh : bt a i with
          | false => rfl
          | true => exact absurd ((hI i (by omega)).mp hh).2 hc
        refine br_t hb1 (hn3 _ (fun q hq => ?_))
        rw [hb q hq]
        constructor
        · rintro ⟨a1, i', a2, a3, a4⟩
          exact ⟨a1, i', by omega, a3, a4⟩
        · rintro ⟨a1, i', a2, a3, a4⟩
          by_cases e : i' = i
          · rw [e] at a3; exact absurd a3 hc
          · exact ⟨a1, i', by omega, a3, a4⟩
    · refine br_f (nltN (Nat.le_refl _) (by omega)) ?_
      rw [nI_1]
      exact hn2 b (fun q hq => hb q hq)
    · rw [b_0]
      constructor
      · intro z; cases z
      · rintro ⟨a1, i', a2, a3, a4⟩; omega
  · refine br_f (nltN (Nat.le_refl _) (by omega)) ?_
    rw [bit1_0 a (by omega)]
    by_cases hc : rc E np p k p
    · have hb1 : bt a p = true := (hI p (by omega)).mpr ⟨hp, hc⟩
      exact br_f (by rw [hb1]; decide) (h1 hc)
    · have hb1 : bt a p = false := by
        cases hh : bt a p with
        | false => rfl
        | true => exact absurd ((hI p (by omega)).mp hh).2 hc
      exact br_t hb1 (h0 hc)
  · rw [b_bit (by omega) hq]
    constructor
    · intro z
      have e : q = p := of_decide_eq_true z
      rw [e]; exact ⟨hp, rfl⟩
    · rintro ⟨a1, a2⟩
      have e : q = p := a2
      exact decide_eq_true e
theorem s_tellEnvied {env : Nat → Int32} {Q : (Nat → Int32) → Prop} (hP : PR np nt tk kd wt lk) (h : ∀ env', (∀ i, i < np → ∀ q, q < 32 → (bt (env' i) q = true ↔ q < np ∧ En kd wt lk nt nw i q = true)) → Q env') : wp_X0_tellEnvied env kd wt lk (nI np) (nI nt) nw Q := by
  have h5 := hP.2.1
  refine ⟨np + 1, lpr (fun n a j => L_X0_tellEnvied_2 kd wt lk (nI np) (nI nt) nw Q n a (nI j)) (fun j a => ∀ i, i < j → ∀ q, q < 32 → (bt (a i) q = true ↔ q < np ∧ En kd wt lk nt nw i q = true)) np (fun n a j hj hI hn2 => ?_) (fun n a hI => ?_) np 0 _ (Nat.zero_add _) (fun i hi => absurd hi (by omega))⟩
  · refine br_t (ltN hj (by omega)) ⟨inN (by omega) (by omega), np + 1, lpr (fun n' b i => L_X0_tellEnvied_20 kd wt lk (nI np) (nI nt) nw (nI j) Q (L_X0_tellEnvied_2 kd wt lk (nI np) (nI nt) nw Q n) n' b (nI i)) (fun q0 b => (∀ i, i < j → ∀ q, q < 32 → (bt (b i) q = true ↔ q < np ∧ En kd wt lk nt nw i q = true)) ∧ ∀ q, q < 32 → (bt (b j) q = true ↔ q < q0 ∧ En kd wt lk nt nw j q = true)) np (fun n' b i hi hb hn3 => ?_) (fun n' b hb => ?_) np 0 _ (Nat.zero_add _) ?_⟩
    · refine br_t (ltN hi (by omega)) (s_envies hP hj ?_)
      rw [nI_1]
      cases hE : En kd wt lk nt nw j i with
      | true =>
        refine br_f (by decide) ⟨inN (by omega) (by omega), inN (by omega) (by omega), ?_⟩
        rw [cl (by omega)]
        refine hn3 _ ⟨fun i' hi' q hq => ?_, fun q hq => ?_⟩
        · rw [pk_un (by omega)]; exact hb.1 i' hi' q hq
        · rw [pk_us, b_or, Bool.or_eq_true, hb.2 q hq, b_bit (by omega) hq]
          constructor
          · rintro (⟨a1, a2⟩ | a1)
            · exact ⟨by omega, a2⟩
            · have e : q = i := of_decide_eq_true a1
              rw [e]; exact ⟨by omega, hE⟩
          · rintro ⟨a1, a2⟩
            by_cases e : q = i
            · exact Or.inr (decide_eq_true e)
            · exact Or.inl ⟨by omega, a2⟩
      | false =>
        refine br_t rfl (hn3 _ ⟨hb.1, fun q hq => ?_⟩)
        rw [hb.2 q hq]
        constructor
        · rintro ⟨a1, a2⟩; exact ⟨by omega, a2⟩
        · rintro ⟨a1, a2⟩
          by_cases e : q = i
          · rw [e, hE] at a2; cases a2
          · exact ⟨by omega, a2⟩
    · refine br_f (nltN (Nat.le_refl _) (by omega)) ?_
      rw [nI_1]
      refine hn2 b (fun i hi q hq => ?_)
      by_cases e : i = j
      · rw [e]; exact hb.2 q hq
      · exact hb.1 i (by omega) q hq
    · rw [cl (by omega)]
      refine ⟨fun i hi q hq => ?_, fun q hq => ?_⟩
      · rw [pk_un (by omega)]; exact hI i hi q hq
      · rw [pk_us, b_0]
        constructor
        · intro z; cases z
        · rintro ⟨a1, -⟩; omega
  · exact br_f (nltN (Nat.le_refl _) (by omega)) (h a hI)
/-- there is a ring of k -/
def Rg (E : Nat → Nat → Bool) (np k : Nat) : Prop := 2 ≤ k ∧ k ≤ np ∧ ∃ p, p < np ∧ rc E np p k p
theorem s_shortestRing {env : Nat → Int32} {Q : Int32 → (Nat → Int32) → Prop} (hP : PR np nt tk kd wt lk) (h1 : ∀ k e, Rg (En kd wt lk nt nw) np k → (∀ j, j < k → ¬ Rg (En kd wt lk nt nw) np j) → Q (nI k) e) (h2 : ∀ e, (∀ k, ¬ Rg (En kd wt lk nt nw) np k) → Q (-4) e) : wp_X0_shortestRing env kd wt lk (nI np) (nI nt) nw Q := by
  have h0 := hP.1
  have h5 := hP.2.1
  refine s_tellEnvied hP (fun env' he => ⟨np - 1 + 1, lpr (fun n (_ : Unit) j => L_X0_shortestRing_8 env' kd wt lk (nI np) (nI nt) nw Q n (nI j)) (fun k _ => 2 ≤ k ∧ ∀ j, j < k → ¬ Rg (En kd wt lk nt nw) np j) (np + 1) (fun n a j hj hI hn2 => ?_) (fun n a hI => ?_) (np - 1) 2 () (by omega) ⟨Nat.le_refl _, fun j hj hr => ?_⟩⟩)
  · refine br_f (nltN (by omega) (by omega)) ⟨np + 1, lpr (fun n' (_ : Unit) i => L_X0_shortestRing_19 env' kd wt lk (nI np) (nI nt) nw (nI j) Q (L_X0_shortestRing_8 env' kd wt lk (nI np) (nI nt) nw Q n) n' (nI i)) (fun p _ => ∀ i, i < p → ¬ rc (En kd wt lk nt nw) np i j i) np (fun n' b i hi hb hn3 => ?_) (fun n' b hb => ?_) np 0 () (Nat.zero_add _) (fun i hi => absurd hi (by omega))⟩
    · refine br_t (ltN hi (by omega)) (s_comesBack (E := En kd wt lk nt nw) h5 hi (by omega) he (fun hc => br_f (by decide) ?_) (fun hc => br_t rfl ?_))
      · exact h1 j env' ⟨hI.1, by omega, i, hi, hc⟩ hI.2
      · rw [nI_1]
        refine hn3 () (fun i' hi' => ?_)
        by_cases e : i' = i
        · rw [e]; exact hc
        · exact hb i' (by omega)
    · refine br_f (nltN (Nat.le_refl _) (by omega)) ?_
      rw [nI_1]
      refine hn2 () ⟨by have := hI.1; omega, fun j' hj' hr => ?_⟩
      by_cases e : j' = j
      · obtain ⟨a1, a2, p, a3, a4⟩ := hr
        rw [e] at a4
        exact hb p a3 a4
      · exact hI.2 j' (by omega) hr
  · refine br_t (ltN (by omega) (by omega)) (h2 env' (fun k hk => hI.2 k (by have := hk.2.1; omega) hk))
  · have := hr.1; omega
/-- the shortest of those seen -/
def Bx (C : Nat → Nat → Prop) (S : Nat → Nat → Prop) (x : Int32) : Prop := (x = -4 ∧ ∀ p n, S p n → ¬ C n p) ∨ ∃ k p, S p k ∧ C k p ∧ k ≤ 5 ∧ x = nI k ∧ ∀ p' n', S p' n' → C n' p' → k ≤ n'
theorem Bx_congr {C S S' : Nat → Nat → Prop} {x : Int32} (h : ∀ p n, S p n ↔ S' p n) (hB : Bx C S x) : Bx C S' x := by
  rcases hB with ⟨a, b⟩ | ⟨k, p, a, b, c, d, e⟩
  · exact Or.inl ⟨a, fun p n hs => b p n ((h p n).mpr hs)⟩
  · exact Or.inr ⟨k, p, (h p k).mp a, b, c, d, fun p' n' hs => e p' n' ((h p' n').mpr hs)⟩
theorem Bx_no {C S : Nat → Nat → Prop} {x : Int32} {p n : Nat} (hc : ¬ C n p) (hB : Bx C S x) : Bx C (fun p' n' => S p' n' ∨ (p' = p ∧ n' = n)) x := by
  rcases hB with ⟨a, b⟩ | ⟨k, q, a, b, c, d, e⟩
  · refine Or.inl ⟨a, fun p' n' hs => ?_⟩
    rcases hs with hs | ⟨e1, e2⟩
    · exact b p' n' hs
    · rw [e1, e2]; exact hc
  · refine Or.inr ⟨k, q, Or.inl a, b, c, d, fun p' n' hs hq => ?_⟩
    rcases hs with hs | ⟨e1, e2⟩
    · exact e p' n' hs hq
    · rw [e1, e2] at hq; exact absurd hq hc
theorem Bx_first {C S : Nat → Nat → Prop} {x : Int32} {p n : Nat} (hn : n ≤ 5) (hc : C n p) (hx : x = -4) (hB : Bx C S x) : Bx C (fun p' n' => S p' n' ∨ (p' = p ∧ n' = n)) (nI n) := by
  rcases hB with ⟨a, b⟩ | ⟨k, q, a, b, c, d, e⟩
  · refine Or.inr ⟨n, p, Or.inr ⟨rfl, rfl⟩, hc, hn, rfl, fun p' n' hs hq => ?_⟩
    rcases hs with hs | ⟨e1, e2⟩
    · exact absurd hq (b p' n' hs)
    · omega
  · rw [d] at hx; exact absurd hx (nI_m4 (by omega))
theorem Bx_less {C S : Nat → Nat → Prop} {x : Int32} {p n : Nat} (hn : n ≤ 5) (hc : C n p) (hx : ¬ x = -4) (hl : nI n < x) (hB : Bx C S x) : Bx C (fun p' n' => S p' n' ∨ (p' = p ∧ n' = n)) (nI n) := by
  rcases hB with ⟨a, b⟩ | ⟨k, q, a, b, c, d, e⟩
  · exact absurd a hx
  · refine Or.inr ⟨n, p, Or.inr ⟨rfl, rfl⟩, hc, hn, rfl, fun p' n' hs hq => ?_⟩
    rcases hs with hs | ⟨e1, e2⟩
    · have := e p' n' hs hq
      rw [d] at hl
      rcases Nat.lt_or_ge n k with z | z
      · omega
      · exact absurd hl (nltN z (by omega))
    · omega
theorem Bx_more {C S : Nat → Nat → Prop} {x : Int32} {p n : Nat} (hn : n ≤ 5) (hx : ¬ x = -4) (hl : ¬ nI n < x) (hB : Bx C S x) : Bx C (fun p' n' => S p' n' ∨ (p' = p ∧ n' = n)) x := by
  rcases hB with ⟨a, b⟩ | ⟨k, q, a, b, c, d, e⟩
  · exact absurd a hx
  · refine Or.inr ⟨k, q, Or.inl a, b, c, d, fun p' n' hs hq => ?_⟩
    rcases hs with hs | ⟨e1, e2⟩
    · exact e p' n' hs hq
    · rw [d] at hl
      rcases Nat.lt_or_ge n k with z | z
      · exact absurd (ltN z (by omega)) hl
      · omega
theorem s7_reach {x1 M : Int32} {p n : Nat} {Q : Int32 → Prop} {k5 : Int32 → Int32 → Prop} {k22 : Int32 → Int32 → Int32 → Prop} (hP : PR np nt tk kd wt lk) (hM : MR np nt tk kd wt lk pe th la ki wo li) (hS : Sd np nt nw) (hR : RS nw now) (hp : p < np) (hm : ∀ q, q < 32 → (bt M q = true ↔ q < np ∧ rc (En kd wt lk nt nw) np p n q)) (h : ∀ a, (∀ q, q < 32 → (bt a q = true ↔ q < np ∧ rc (En kd wt lk nt nw) np p (n + 1) q)) → wp_X7_has a (nI p) (fun r19 => (r19 = 0 → k22 x1 a (nI (n + 1) + 1)) ∧ (¬ r19 = 0 → (x1 = (-4) → k22 (nI (n + 1)) a (nI (n + 1) + 1)) ∧ (¬ x1 = (-4) → (nI (n + 1) < x1 → k22 (nI (n + 1)) a (nI (n + 1) + 1)) ∧ (¬ nI (n + 1) < x1 → k22 x1 a (nI (n + 1) + 1)))))) : ∃ n33 : Nat, L_X7_ring_34 pe th ki wo li now x1 (nI p) M (nI (n + 1)) Q k5 k22 n33 0 0 := by
  have h5 := hP.2.1
  have plt : ∀ j, j < np → nI j < pe 0 := fun j hj => by rw [hM.1]; exact ltN hj (by omega)
  have pnl : ¬ nI np < pe 0 := by rw [hM.1]; exact nltN (Nat.le_refl _) (by omega)
  refine ⟨np + 1, lpr (fun n' b i => L_X7_ring_34 pe th ki wo li now x1 (nI p) M (nI (n + 1)) Q k5 k22 n' b (nI i)) (fun i b => ∀ q, q < 32 → (bt b q = true ↔ q < np ∧ ∃ i', i' < i ∧ rc (En kd wt lk nt nw) np p n i' ∧ En kd wt lk nt nw i' q = true)) np (fun n' b i hi hb hn3 => ?_) (fun n' b hb => ?_) np 0 0 (Nat.zero_add _) (fun q hq => ?_)⟩
  · refine br_t (plt i hi) ⟨np + 1, lpr (fun n'' c j => L_X7_ring_48 pe th ki wo li now x1 (nI p) M (nI (n + 1)) (nI i) Q k5 k22 (L_X7_ring_34 pe th ki wo li now x1 (nI p) M (nI (n + 1)) Q k5 k22 n') n'' c (nI j)) (fun j c => ∀ q, q < 32 → (bt c q = true ↔ q < np ∧ ((∃ i', i' < i ∧ rc (En kd wt lk nt nw) np p n i' ∧ En kd wt lk nt nw i' q = true) ∨ (q < j ∧ rc (En kd wt lk nt nw) np p n i ∧ En kd wt lk nt nw i q = true)))) np (fun n'' c j hj hc hn4 => ?_) (fun n'' c hc => ?_) np 0 b (Nat.zero_add _) (fun q hq => ?_)⟩
    · refine br_t (plt j hj) ?_
      simp only [B_X7_ring_88, B_X7_ring_89]
      rw [nI_1, or0]
      have keep : ¬ (rc (En kd wt lk nt nw) np p n i ∧ En kd wt lk nt nw i j = true) → L_X7_ring_48 pe th ki wo li now x1 (nI p) M (nI (n + 1)) (nI i) Q k5 k22 (L_X7_ring_34 pe th ki wo li now x1 (nI p) M (nI (n + 1)) Q k5 k22 n') n'' c (nI (j + 1)) := by
        intro hno
        refine hn4 c (fun q hq => ?_)
        rw [hc q hq]
        constructor
        · rintro ⟨a1, a2 | ⟨a3, a4, a5⟩⟩
          · exact ⟨a1, Or.inl a2⟩
          · exact ⟨a1, Or.inr ⟨by omega, a4, a5⟩⟩
        · rintro ⟨a1, a2 | ⟨a3, a4, a5⟩⟩
          · exact ⟨a1, Or.inl a2⟩
          · by_cases e : q = j
            · rw [e] at a5; exact absurd ⟨a4, a5⟩ hno
            · exact ⟨a1, Or.inr ⟨by omega, a4, a5⟩⟩
      by_cases hr : rc (En kd wt lk nt nw) np p n i
      · have hb1 : bt M i = true := (hm i (by omega)).mpr ⟨hi, hr⟩
        refine s_has_t (by omega) hb1 (br_f (by decide) (s7_envies hP hM hS hR hi hj ?_))
        cases hE : En kd wt lk nt nw i j with
        | true =>
          refine br_f (by decide) (hn4 _ (fun q hq => ?_))
          rw [b_or, Bool.or_eq_true, hc q hq, b_bit (by omega) hq]
          constructor
          · rintro (⟨a1, a2 | ⟨a3, a4, a5⟩⟩ | a1)
            · exact ⟨a1, Or.inl a2⟩
            · exact ⟨a1, Or.inr ⟨by omega, a4, a5⟩⟩
            · have e : q = j := of_decide_eq_true a1
              rw [e]; exact ⟨hj, Or.inr ⟨by omega, hr, hE⟩⟩
          · rintro ⟨a1, a2 | ⟨a3, a4, a5⟩⟩
            · exact Or.inl ⟨a1, Or.inl a2⟩
            · by_cases e : q = j
              · exact Or.inr (decide_eq_true e)
              · exact Or.inl ⟨a1, Or.inr ⟨by omega, a4, a5⟩⟩
        | false => exact br_t rfl (keep (fun z => by rw [hE] at z; exact absurd z.2 (by decide)))
      · have hb1 : bt M i = false := by
          cases hh : bt M i with
          | false => rfl
          | true => exact absurd ((hm i (by omega)).mp hh).2 hr
        exact s_has_f (by omega) hb1 (br_t rfl (keep (fun z => hr z.1)))
    · refine br_f pnl ?_
      rw [nI_1]
      refine hn3 c (fun q hq => ?_)
      rw [hc q hq]
      constructor
      · rintro ⟨a1, ⟨i', a2, a3, a4⟩ | ⟨a3, a4, a5⟩⟩
        · exact ⟨a1, i', by omega, a3, a4⟩
        · exact ⟨a1, i, by omega, a4, a5⟩
      · rintro ⟨a1, i', a2, a3, a4⟩
        by_cases e : i' = i
        · rw [e] at a3 a4; exact ⟨a1, Or.inr ⟨a1, a3, a4⟩⟩
        · exact ⟨a1, Or.inl ⟨i', by omega, a3, a4⟩⟩
    · rw [hb q hq]
      constructor
      · rintro ⟨a1, a2⟩; exact ⟨a1, Or.inl a2⟩
      · rintro ⟨a1, a2 | ⟨a3, -⟩⟩
        · exact ⟨a1, a2⟩
        · omega
  · refine br_f pnl ?_
    simp only [B_X7_ring_132, B_X7_ring_127, B_X7_ring_133]
    exact h b (fun q hq => hb q hq)
  · rw [b_0]
    constructor
    · intro z; cases z
    · rintro ⟨a1, i', a2, a3, a4⟩; omega
theorem s7_ring {Q : Int32 → Prop} (hP : PR np nt tk kd wt lk) (hM : MR np nt tk kd wt lk pe th la ki wo li) (hS : Sd np nt nw) (hR : RS nw now) (h : ∀ x, Bx (fun n p => rc (En kd wt lk nt nw) np p n p) (fun p n => p < np ∧ 1 ≤ n ∧ n ≤ 5) x → Q x) : wp_X7_ring pe th ki wo li now Q := by
  have h5 := hP.2.1
  have plt : ∀ j, j < np → nI j < pe 0 := fun j hj => by rw [hM.1]; exact ltN hj (by omega)
  have pnl : ¬ nI np < pe 0 := by rw [hM.1]; exact nltN (Nat.le_refl _) (by omega)
  refine ⟨np + 1, lpr (fun n a j => L_X7_ring_5 pe th ki wo li now Q n a (nI j)) (fun p x => Bx (fun n p => rc (En kd wt lk nt nw) np p n p) (fun p' n => p' < p ∧ 1 ≤ n ∧ n ≤ 5) x) np (fun n a p hp hI hn2 => ?_) (fun n a hI => ?_) np 0 (-4) (Nat.zero_add _) (Or.inl ⟨rfl, fun p n hs => absurd hs.1 (by omega)⟩)⟩
  · refine br_t (plt p hp) ⟨5 + 1, lpr (fun n' (b : Int32 × Int32) k => L_X7_ring_22 pe th ki wo li now (nI p) Q (L_X7_ring_5 pe th ki wo li now Q n) n' b.1 b.2 (nI k)) (fun k b => 1 ≤ k ∧ (∀ q, q < 32 → (bt b.2 q = true ↔ q < np ∧ rc (En kd wt lk nt nw) np p (k - 1) q)) ∧ Bx (fun n p => rc (En kd wt lk nt nw) np p n p) (fun p' n => (p' < p ∧ 1 ≤ n ∧ n ≤ 5) ∨ (p' = p ∧ 1 ≤ n ∧ n < k)) b.1) 6 (fun n' b k hk hb hn3 => ?_) (fun n' b hb => ?_) 5 1 (a, _) rfl ⟨Nat.le_refl _, fun q hq => ?_, ?_⟩⟩
    · obtain ⟨m, em⟩ : ∃ m, k = m + 1 := ⟨k - 1, by have := hb.1; omega⟩
      rw [em] at hb hn3 ⊢
      obtain ⟨b0, b1, b2⟩ := hb
      rw [Nat.add_sub_cancel] at b1
      have same : ∀ x, Bx (fun n p => rc (En kd wt lk nt nw) np p n p) (fun p' n' => ((p' < p ∧ 1 ≤ n' ∧ n' ≤ 5) ∨ (p' = p ∧ 1 ≤ n' ∧ n' < m + 1)) ∨ (p' = p ∧ n' = m + 1)) x → Bx (fun n p => rc (En kd wt lk nt nw) np p n p) (fun p' n => (p' < p ∧ 1 ≤ n ∧ n ≤ 5) ∨ (p' = p ∧ 1 ≤ n ∧ n < m + 1 + 1)) x := fun x hx => Bx_congr (fun p' n' => by
        constructor
        · rintro ((z | z) | z)
          · exact Or.inl z
          · exact Or.inr ⟨z.1, z.2.1, by omega⟩
          · exact Or.inr ⟨z.1, by omega, by omega⟩
        · rintro (z | z)
          · exact Or.inl (Or.inl z)
          · by_cases e : n' = m + 1
            · exact Or.inr ⟨z.1, e⟩
            · exact Or.inl (Or.inr ⟨z.1, z.2.1, by omega⟩)) hx
      refine br_f (nltN (a := 5) (by omega) (by omega)) (s7_reach hP hM hS hR hp b1 (fun c hc => ?_))
      rw [nI_1]
      have go : ∀ x, Bx (fun n p => rc (En kd wt lk nt nw) np p n p) (fun p' n' => ((p' < p ∧ 1 ≤ n' ∧ n' ≤ 5) ∨ (p' = p ∧ 1 ≤ n' ∧ n' < m + 1)) ∨ (p' = p ∧ n' = m + 1)) x → L_X7_ring_22 pe th ki wo li now (nI p) Q (L_X7_ring_5 pe th ki wo li now Q n) n' x c (nI (m + 1 + 1)) := fun x hx => hn3 (x, c) ⟨by omega, hc, same x hx⟩
      by_cases hr : rc (En kd wt lk nt nw) np p (m + 1) p
      · have hb1 : bt c p = true := (hc p (by omega)).mpr ⟨hp, hr⟩
        exact s_has_t (by omega) hb1 (br_f (by decide) (br_c (fun z => go _ (Bx_first (by omega) hr z b2)) (fun z => br_c (fun z2 => go _ (Bx_less (by omega) hr z z2 b2)) (fun z2 => go _ (Bx_more (by omega) z z2 b2)))))
      · have hb1 : bt c p = false := by
          cases hh : bt c p with
          | false => rfl
          | true => exact absurd ((hc p (by omega)).mp hh).2 hr
        exact s_has_f (by omega) hb1 (br_t rfl (go _ (Bx_no hr b2)))
    · refine br_t (ltN (a := 5) (by omega) (by omega)) ?_
      rw [nI_1]
      refine hn2 b.1 (Bx_congr (fun p' n' => ?_) hb.2.2)
      constructor
      · rintro (z | z)
        · exact ⟨by omega, z.2⟩
        · exact ⟨by omega, z.2.1, by omega⟩
      · rintro ⟨z1, z2, z3⟩
        by_cases e : p' = p
        · exact Or.inr ⟨e, z2, by omega⟩
        · exact Or.inl ⟨by omega, z2, z3⟩
    · show bt (1 <<< (nI p &&& 31)) q = true ↔ _
      rw [b_bit (by omega) hq]
      constructor
      · intro z
        have e : q = p := of_decide_eq_true z
        rw [e]; exact ⟨hp, rfl⟩
      · rintro ⟨a1, a2⟩
        have e : q = p := a2
        exact decide_eq_true e
    · refine Bx_congr (fun p' n' => ?_) hI
      constructor
      · intro z; exact Or.inl z
      · rintro (z | z)
        · exact z
        · omega
  · exact br_f pnl (h a hI)
theorem e_ring {env : Nat → Int32} {Z : Int32 → Int32 → (Nat → Int32) → Prop} (hP : PR np nt tk kd wt lk) (hM : MR np nt tk kd wt lk pe th la ki wo li) (hS : Sd np nt nw) (hR : RS nw now) (hZ : ∀ r e, Z r r e) : wp_X6_ring nw env kd wt lk (nI np) (nI nt) (fun r1 e => wp_X7_ring pe th ki wo li now (fun r2 => Z r1 r2 e)) := by
  have h5 := hP.2.1
  refine s_shortestRing hP (fun k e hk hl => s7_ring hP hM hS hR (fun x hx => ?_)) (fun e hl => s7_ring hP hM hS hR (fun x hx => ?_))
  · rcases hx with ⟨a, b⟩ | ⟨k', p', ⟨a0, a1, a2⟩, b, c, d, f⟩
    · obtain ⟨k1, k2, p, k3, k4⟩ := hk
      exact absurd k4 (b p k ⟨k3, by omega, by omega⟩)
    · obtain ⟨j, q, j1, j2, j3, j4, j5⟩ := rc_short (fun p => En_self p) k' p' a1 a0 b
      obtain ⟨k1, k2, p, k3, k4⟩ := hk
      have hle := f p k ⟨k3, by omega, by omega⟩ k4
      have hge : ¬ j < k := fun z => hl j z ⟨j2, j3, q, j4, j5⟩
      have e2 : k' = k := by omega
      rw [d, e2]; exact hZ _ _
  · rcases hx with ⟨a, b⟩ | ⟨k', p', ⟨a0, a1, a2⟩, b, c, d, f⟩
    · rw [a]; exact hZ _ _
    · obtain ⟨j, q, j1, j2, j3, j4, j5⟩ := rc_short (fun p => En_self p) k' p' a1 a0 b
      exact absurd ⟨j2, j3, q, j4, j5⟩ (hl j)
end Ring
