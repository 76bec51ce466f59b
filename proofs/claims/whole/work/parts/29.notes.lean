/-! what was noted: note, forget, fair -/
theorem s_fill {N : Nat} {c : Nat → Int32} {x : Int32} {Q : (Nat → Int32) → Prop} (hN : N < 1000000) (h : ∀ g, (∀ j, j < N → g j = x) → (∀ j, N ≤ j → g j = c j) → Q g) : wp_J7_fill_53178 N c x Q := by
  refine ⟨N + 1, lpx (fun n a j => L_J7_fill_53178_5 N x (Int32.ofNat N) Q n a (nI j)) (fun j q => upd q (0 + j) x) Q N (fun n a j hj hL => ?_) (fun n a hQ => ?_) N 0 c (Nat.zero_add _) ?_⟩
  · refine br_t (ltN hj (by omega)) ⟨inN hj (by omega), ?_⟩
    rw [Nat.zero_add] at hL
    rw [nI_1, cl (by omega)]; exact hL
  · exact br_f (nltN (Nat.le_refl _) (by omega)) hQ
  · rw [lp_put (fun _ => x) 0 N c]
    exact h _ (fun j hj => by rw [fb_put_in (by omega) (by omega)]) (fun j hj => by rw [fb_put_out (by omega)])
def cnt (no : Nat → Int32) (p : Nat) : Nat → Nat
  | 0 => 0
  | k + 1 => cnt no p k + (if no k = nI p then 1 else 0)
theorem cnt_le (no : Nat → Int32) (p : Nat) : ∀ k, cnt no p k ≤ k
  | 0 => Nat.le_refl _
  | k + 1 => by unfold cnt; have := cnt_le no p k; split <;> omega
theorem cnt_congr {a b : Nat → Int32} {p : Nat} : ∀ {k : Nat}, (∀ j, j < k → a j = b j) → cnt a p k = cnt b p k
  | 0, _ => rfl
  | k + 1, h => by unfold cnt; rw [cnt_congr (fun j hj => h j (by omega)), h k (by omega)]
theorem cnt_pos {no : Nat → Int32} {p : Nat} : ∀ {k : Nat}, 0 < cnt no p k ↔ ∃ j, j < k ∧ no j = nI p
  | 0 => by unfold cnt; constructor
            · intro h; omega
            · rintro ⟨j, hj, -⟩; omega
  | k + 1 => by
    unfold cnt
    constructor
    · intro h
      by_cases e : no k = nI p
      · exact ⟨k, by omega, e⟩
      · rw [if_neg e] at h
        obtain ⟨j, h1, h2⟩ := (cnt_pos (k := k)).mp (by omega)
        exact ⟨j, by omega, h2⟩
    · rintro ⟨j, h1, h2⟩
      by_cases e : no k = nI p
      · rw [if_pos e]; omega
      · rw [if_neg e]
        have hj : j < k := by
          rcases Nat.lt_or_ge j k with q | q
          · exact q
          · exact absurd (by rw [show k = j by omega]; exact h2) e
        have := (cnt_pos (k := k)).mpr ⟨j, hj, h2⟩
        omega
/-- the notes of both -/
def NT (np k : Nat) (dn no : Nat → Int32) : Prop := k ≤ 8 ∧ (∀ j, j < k → ∃ p, p < np ∧ no j = nI p) ∧ (∀ p, p < 5 → dn p = nI (cnt no p k))
section Notes
variable {np nt kn : Nat} {tk kd wt lk pe th la ki wo li nw now dn no : Nat → Int32} {x1 x2 x3 : Int32}
theorem e_note {Z : Int32 → Int32 → (Nat → Int32) → Int32 → (Nat → Int32) → Int32 → Prop} (hP : PR np nt tk kd wt lk) (hM : MR np nt tk kd wt lk pe th la ki wo li) (hN : NT np kn dn no) (hZ : ∀ r k d n, NT np k d n → Z r r d (nI k) n (nI k)) : wp_X6_note dn (nI kn) (nI np) x1 (fun r1 d s => wp_X7_note pe no (nI kn) x1 (fun r2 n q => Z r1 r2 d s n q)) := by
  have h5 := hP.2.1
  have hk := hN.1
  rcases ofN x1 np (by omega) with ⟨p, hp, e⟩ | hx
  · rw [e]
    refine s_isPerson_t hp (by omega) (br_f (by decide) ?_)
    by_cases h8 : kn < 8
    · refine br_t (ltN (b := 8) h8 (by omega)) ?_
      unfold wp_X1_add
      rw [cl (by omega)]
      refine ⟨inN (by omega) (by omega), inN (by omega) (by omega), s7_isPerson_t hM.1 hp (by omega) (br_f (by decide) (br_f (neN (b := 8) (by omega) (by omega) (by omega)) ⟨inN (by omega) (by omega), ?_⟩))⟩
      rw [cl (by omega), nI_1]
      refine hZ _ _ _ _ ⟨by omega, fun j hj => ?_, fun q hq => ?_⟩
      · by_cases ej : j = kn
        · rw [ej, pk_us]; exact ⟨p, hp, rfl⟩
        · rw [pk_un ej]; exact hN.2.1 j (by omega)
      · have ec : cnt (upd no kn (nI p)) q kn = cnt no q kn := cnt_congr (fun j hj => pk_un (by omega))
        unfold cnt
        rw [ec, pk_us]
        by_cases eq : q = p
        · rw [eq, pk_us, if_pos rfl, hN.2.2 p (by omega), nI_1]
        · rw [pk_un eq, if_neg (neN (fun z => eq z.symm) (by omega) (by omega)), Nat.add_zero]; exact hN.2.2 q hq
    · have e8 : kn = 8 := by omega
      subst e8
      exact br_f (by decide) (s7_isPerson_t hM.1 hp (by omega) (br_f (by decide) (br_t rfl (hZ _ _ _ _ hN))))
  · exact s_isPerson_f hx (by omega) (br_t rfl (s7_isPerson_f hM.1 hx (by omega) (br_t rfl (hZ _ _ _ _ hN))))
theorem e_forget {Z : Int32 → Int32 → (Nat → Int32) → Int32 → (Nat → Int32) → Int32 → Prop} (hZ : ∀ r k d n, NT np k d n → Z r r d (nI k) n (nI k)) : wp_X6_forget dn (nI kn) (fun r1 d s => wp_X7_forget (nI kn) (fun r2 q => Z r1 r2 d s no q)) := by
  refine s_fill (by omega) (fun g h1 h2 => ?_)
  exact hZ _ 0 g no ⟨by omega, fun j hj => absurd hj (by omega), fun p hp => h1 p hp⟩
/-- all tickets as laid -/
def tkS (tk : Nat → Int32) (np : Nat) : Int32 := lp (fun p a => a + tk p) 0 np 0
theorem tkS_le (hP : PR np nt tk kd wt lk) : ∃ A, A ≤ 45 ∧ tkS tk np = nI A ∧ ∀ p v, p < np → tk p = nI v → v ≤ 9 → v ≤ A := by
  have h5 := hP.2.1
  have := lp_inv (fun p (a : Int32) => a + tk p) (fun j a => ∃ A, A ≤ 9 * j ∧ a = nI A ∧ ∀ p v, p < j → tk p = nI v → v ≤ 9 → v ≤ A) np 0 0 ⟨0, by omega, rfl, fun p v hp => absurd hp (by omega)⟩ (fun i a _ hi h => by
    obtain ⟨A, h1, h2, h3⟩ := h
    obtain ⟨v, hv, ev⟩ := hP.2.2.2.1 i (by omega)
    refine ⟨A + v, by omega, by show a + tk i = _; rw [h2, ev, nI_add], fun p w hp ew hw => ?_⟩
    by_cases e : p = i
    · rw [e, ev] at ew
      have := (nI_eq (by omega) (by omega)).mp ew
      omega
    · have := h3 p w (by omega) ew hw
      omega)
  rw [Nat.zero_add] at this
  obtain ⟨A, h1, h2, h3⟩ := this
  exact ⟨A, by omega, h2, h3⟩
theorem s_allTickets {Q : Int32 → Prop} (h5 : np ≤ 5) (h : Q (tkS tk np)) : wp_X2_allTickets tk (nI np) Q := by
  refine ⟨np + 1, lpx (fun n a j => L_X2_allTickets_4 tk (nI np) Q n a (nI j)) (fun p a => a + tk p) Q np (fun n a j hj hL => ?_) (fun n a hQ => ?_) np 0 0 (Nat.zero_add _) h⟩
  · refine br_t (ltN hj (by omega)) ⟨inN (by omega) (by omega), ?_⟩
    rw [nI_1, cl (by omega)]; exact hL
  · exact br_f (nltN (Nat.le_refl _) (by omega)) hQ
theorem s_power {b k : Nat} {Q : Int64 → Prop} (hk : k < 1000000) (h : Q (lN (b ^ k))) : wp_X1_power (lN b) (nI k) Q := by
  have key : ∀ (m j : Nat), j + m = k → L_X1_power_5 (lN b) (nI k) Q (m + 1) (lN (b ^ j)) (nI j) := by
    intro m
    induction m with
    | zero => intro j hj; rw [show j = k by omega]; exact br_f (nltN (Nat.le_refl _) (by omega)) h
    | succ m ih =>
      intro j hj
      refine br_t (ltN (by omega) (by omega)) ?_
      rw [lN_mul, ← Nat.pow_succ, nI_1]
      exact ih (j + 1) (by omega)
  exact ⟨k + 1, key k 0 (Nat.zero_add _)⟩
theorem s_canBe_t {Q : Int32 → Prop} (h : ∀ p, p < 5 → 0 < dn p → ¬ tk p = 0) (hQ : Q 1) : wp_X1_canBe dn tk Q := by
  have key : ∀ (m j : Nat), j + m = 5 → L_X1_canBe_2 dn tk Q (m + 1) (nI j) := by
    intro m
    induction m with
    | zero => intro j hj; rw [show j = 5 by omega]; exact br_f (by decide) hQ
    | succ m ih =>
      intro j hj
      refine br_t (ltN (b := 5) (by omega) (by omega)) ⟨inN (by omega) (by omega), ?_⟩
      rw [cl (by omega), nI_1]
      exact br_c (fun c => ⟨inN (by omega) (by omega), br_f (h j (by omega) c) (ih (j + 1) (by omega))⟩) (fun _ => ih (j + 1) (by omega))
  exact ⟨6, key 5 0 rfl⟩
theorem s_canBe_f {Q : Int32 → Prop} {q : Nat} (hq : q < 5) (h1 : 0 < dn q) (h2 : tk q = 0) (hQ : Q 0) : wp_X1_canBe dn tk Q := by
  have key : ∀ (m j : Nat), j + m = 5 → j ≤ q → L_X1_canBe_2 dn tk Q (m + 1) (nI j) := by
    intro m
    induction m with
    | zero => intro j hj hjq; omega
    | succ m ih =>
      intro j hj hjq
      refine br_t (ltN (b := 5) (by omega) (by omega)) ⟨inN (by omega) (by omega), ?_⟩
      rw [cl (by omega), nI_1]
      by_cases e : j = q
      · rw [e]; exact br_t h1 ⟨inN (by omega) (by omega), br_t h2 hQ⟩
      · exact br_c (fun _ => ⟨inN (by omega) (by omega), br_c (fun _ => hQ) (fun _ => ih (j + 1) (by omega) (by omega))⟩) (fun _ => ih (j + 1) (by omega) (by omega))
  exact ⟨6, key 5 0 rfl (Nat.zero_le _)⟩
theorem nI_gt0 {n : Nat} (hn : n < 1000000) : 0 < nI n ↔ 0 < n := by
  constructor
  · intro h
    rcases Nat.lt_or_ge 0 n with q | q
    · exact q
    · rw [show n = 0 by omega] at h; exact absurd h (by decide)
  · intro h; exact ltN (a := 0) h (by omega)
theorem fair_bound {s c k A v : Nat} (hs : s ≤ 9) (hc : c ≤ 8) (hk : k ≤ 8) (hA : A ≤ 45) (hv : v ≤ 9) : s * (2 ^ c * A ^ k) < 2 ^ 61 ∧ (10 - s) * (A + v) ^ k < 2 ^ 61 := by
  have a1 : 2 ^ c ≤ 2 ^ 8 := Nat.pow_le_pow_right (by omega) hc
  have a2 : A ^ k ≤ 45 ^ 8 := Nat.le_trans (Nat.pow_le_pow_left hA k) (Nat.pow_le_pow_right (by omega) hk)
  have a3 : (A + v) ^ k ≤ 54 ^ 8 := Nat.le_trans (Nat.pow_le_pow_left (by omega) k) (Nat.pow_le_pow_right (by omega) hk)
  have a4 : s * (2 ^ c * A ^ k) ≤ 9 * (2 ^ 8 * 45 ^ 8) := Nat.mul_le_mul hs (Nat.mul_le_mul a1 a2)
  have a5 : (10 - s) * (A + v) ^ k ≤ 10 * 54 ^ 8 := Nat.mul_le_mul (by omega) a3
  exact ⟨Nat.lt_of_le_of_lt a4 (by decide), Nat.lt_of_le_of_lt a5 (by decide)⟩
theorem e_fair {Z : Int64 → Int64 → Prop} (hP : PR np nt tk kd wt lk) (hM : MR np nt tk kd wt lk pe th la ki wo li) (hN : NT np kn dn no) (hZ : ∀ r, Z r r) : wp_X6_fair dn (nI kn) tk (nI np) x1 x2 x3 (fun r1 => wp_X7_fair pe la no (nI kn) x1 x2 x3 (fun r2 => Z r1 r2)) := by
  have h5 := hP.2.1
  have hk := hN.1
  rcases ofN x1 np (by omega) with ⟨p, hp, e⟩ | hx
  · rw [e]
    refine s_isPerson_t hp (by omega) (br_f (by decide) ?_)
    have k7 : ∀ {Q : Int32 → Prop}, Q 1 → wp_X7_isPerson pe (nI p) Q := fun h => s7_isPerson_t hM.1 hp (by omega) h
    refine br_c (fun c => k7 (br_f (by decide) (br_t c (br_t rfl (hZ _))))) (fun c => br_c (fun c2 => k7 (br_f (by decide) (br_f c (br_t c2 (br_t rfl (hZ _)))))) (fun c2 => ?_))
    have kin : ∀ {Q : Int32 → Prop}, Q 1 → wp_X7_in x2 1 9 Q := fun h => br_f c (br_f c2 h)
    obtain ⟨s, hs1, hs2, es⟩ := nI_pos1 (M := 9) (n := 9) (by decide) c c2
    refine s_isPart (fun hx3 => br_f (by decide) ?_) (fun hx3 => br_t rfl (k7 (br_f (by decide) (kin (br_f (by decide) (part_in (fun q => absurd q hx3) (fun _ => br_t rfl (hZ _))))))))
    have kpt : ∀ {Q : Int32 → Prop}, Q 1 → wp_X7_in x3 0 1 Q := fun h => part_in (fun _ => h) (fun q => absurd hx3 q)
    obtain ⟨A, hA, eA, hAv⟩ := tkS_le hP
    obtain ⟨v, hv, ev⟩ := hP.2.2.2.1 p (by omega)
    have hcp : cnt no p kn ≤ 8 := Nat.le_trans (cnt_le no p kn) hk
    -- the reference's sum of all tickets
    have m37 : ∀ {Q : Int64 → Prop}, (∃ n, L_X7_fair_81 pe la no (nI kn) (nI p) x3 (nI A) Q n (Int32.toInt64 x2) (10 - Int32.toInt64 x2) 0) → ∃ n, L_X7_fair_37 pe la no (nI kn) (nI p) x2 x3 Q n 0 0 := by
      intro Q hq
      refine ⟨np + 1, lpx (fun n a j => L_X7_fair_37 pe la no (nI kn) (nI p) x2 x3 Q n a (nI j)) (fun q a => a + tk q) (fun a => ∃ n, L_X7_fair_81 pe la no (nI kn) (nI p) x3 a Q n (Int32.toInt64 x2) (10 - Int32.toInt64 x2) 0) np (fun n a j hj hL => ?_) (fun n a hQ => ?_) np 0 0 (Nat.zero_add _) ?_⟩
      · refine br_t (by rw [hM.1]; exact ltN hj (by omega)) ⟨inN (by omega) (by omega), ?_⟩
        rw [nI_1, cl (by omega), hM.2.2.1 j (by omega)]; exact hL
      · exact br_f (by rw [hM.1]; exact nltN (Nat.le_refl _) (by omega)) hQ
      · rw [show lp (fun q (a : Int32) => a + tk q) 0 np 0 = nI A from eA]; exact hq
    -- one step of the reference's notes
    have stp : ∀ (Q : Int64 → Prop) (n j : Nat) (a b : Int64), j < kn → (∃ q, q < np ∧ no j = nI q ∧ (tk q = 0 → Q (-4)) ∧ (¬ tk q = 0 → L_X7_fair_81 pe la no (nI kn) (nI p) x3 (nI A) Q n (a * (if no j = nI p then 2 * lN A else lN A)) (b * lN (A + v)) (nI (j + 1)))) → L_X7_fair_81 pe la no (nI kn) (nI p) x3 (nI A) Q (n + 1) a b (nI j) := by
      intro Q n j a b hj hq
      obtain ⟨q, hq1, hq2, hq3, hq4⟩ := hq
      refine br_t (ltN hj (by omega)) ⟨inN (by omega) (by omega), ?_⟩
      rw [cl (by omega), hq2, cl (by omega), hM.2.2.1 q (by omega)]
      refine ⟨inN (by omega) (by omega), br_c (fun z => hq3 z) (fun z => ⟨inN (by omega) (by omega), ?_⟩)⟩
      have hq5 := hq4 z
      rw [hq2] at hq5
      unfold B_X7_fair_135
      rw [cl (by omega), hM.2.2.1 p (by omega), ev, nI_add, nI_l (by omega), nI_l (by omega), nI_1]
      exact br_c (fun z2 => ⟨inN (by omega) (by omega), by rw [if_pos z2] at hq5; exact hq5⟩) (fun z2 => ⟨inN (by omega) (by omega), by rw [if_neg z2] at hq5; exact hq5⟩)
    by_cases hgood : ∀ j, j < kn → ∀ q, q < np → no j = nI q → ¬ tk q = 0
    · refine s_canBe_t (fun q hq hd hz => ?_) (br_f (by decide) ?_)
      · rw [hN.2.2 q hq, nI_gt0 (by have := cnt_le no q kn; omega)] at hd
        obtain ⟨j, hj1, hj2⟩ := cnt_pos.mp hd
        obtain ⟨q2, hq1, hq2⟩ := hN.2.1 j hj1
        have := (nI_eq (by omega) (by omega)).mp (hj2.symm.trans hq2)
        rw [this] at hz
        exact hgood j hj1 q2 hq1 hq2 hz
      · -- the numbers of both
        obtain ⟨b1, b2⟩ := fair_bound (v := v) hs2 hcp hk hA hv
        have hX0 : 0 < s * (2 ^ cnt no p kn * A ^ kn) := by
          refine Nat.mul_pos (by omega) (Nat.mul_pos (Nat.pow_pos (by omega)) ?_)
          by_cases h0 : kn = 0
          · rw [h0]; exact Nat.one_pos
          · obtain ⟨q, hq1, hq2⟩ := hN.2.1 0 (by omega)
            have hz := hgood 0 (by omega) q hq1 hq2
            obtain ⟨w, hw, ew⟩ := hP.2.2.2.1 q (by omega)
            have h1 := hAv q w hq1 ew hw
            have h2 : w ≠ 0 := fun z => hz (by rw [ew, z]; rfl)
            exact Nat.pow_pos (by omega)
        have e10 : Int32.toInt64 (10 - x2) = lN (10 - s) := by rw [es, show (10 : Int32) = nI 10 from rfl, pk_sub (by omega), nI_l (by omega)]
        have e10' : 10 - Int32.toInt64 x2 = lN (10 - s) := by rw [es, nI_l (by omega), show (10 : Int64) = lN 10 from rfl, lN_sub (by omega)]
        unfold wp_X1_loadedWeight wp_X1_evenWeight
        rw [cl (by omega), hN.2.2 p (by omega)]
        refine ⟨inN (by omega) (by omega), s_power (b := 2) (by omega) (s_allTickets h5 ?_)⟩
        rw [eA, nI_l (by omega)]
        refine s_power (by omega) (s_allTickets h5 ?_)
        rw [eA, ev, nI_add, nI_l (by omega)]
        refine ⟨inN (by omega) (by omega), s_power (by omega) ?_⟩
        dsimp only
        rw [e10, es, nI_l (by omega), lN_mul, lN_mul, lN_mul, lN_add]
        refine s_lowest (by omega) (by omega) (by omega) ?_
        rw [← es]
        refine k7 (br_f (by decide) (kin (br_f (by decide) (kpt (br_f (by decide) (m37 ?_))))))
        have key : ∀ (m j : Nat), j + m = kn → L_X7_fair_81 pe la no (nI kn) (nI p) x3 (nI A) (fun r2 => Z (lN (low (s * (2 ^ cnt no p kn * A ^ kn)) (s * (2 ^ cnt no p kn * A ^ kn) + (10 - s) * (A + v) ^ kn) x3)) r2) (m + 1) (lN (s * (2 ^ cnt no p j * A ^ j))) (lN ((10 - s) * (A + v) ^ j)) (nI j) := by
          intro m
          induction m with
          | zero =>
            intro j hj
            rw [show j = kn by omega]
            refine br_f (nltN (Nat.le_refl _) (by omega)) ?_
            rw [lN_add]
            refine s7_common (by omega) (by omega) ?_
            obtain ⟨g0, g1⟩ := gcd_lt (x := s * (2 ^ cnt no p kn * A ^ kn)) (y := s * (2 ^ cnt no p kn * A ^ kn) + (10 - s) * (A + v) ^ kn) (by omega) (by omega)
            have hne : ¬ lN (Nat.gcd (s * (2 ^ cnt no p kn * A ^ kn)) (s * (2 ^ cnt no p kn * A ^ kn) + (10 - s) * (A + v) ^ kn)) = 0 := fun q => by have := (pk_lEQ (b := 0) (by omega) (by omega)).mp q; omega
            unfold low
            refine br_c (fun c3 => ⟨hne, ?_⟩) (fun c3 => ⟨hne, ?_⟩)
            · rw [if_pos c3, pk_lDiv (by omega) (by omega) (by omega)]; exact hZ _
            · rw [if_neg c3, pk_lDiv (by omega) (by omega) (by omega)]; exact hZ _
          | succ m ih =>
            intro j hj
            obtain ⟨q, hq1, hq2⟩ := hN.2.1 j (by omega)
            refine stp _ _ j _ _ (by omega) ⟨q, hq1, hq2, fun z => absurd z (hgood j (by omega) q hq1 hq2), fun _ => ?_⟩
            have i1 := ih (j + 1) (by omega)
            have ea : lN (s * (2 ^ cnt no p j * A ^ j)) * (if no j = nI p then 2 * lN A else lN A) = lN (s * (2 ^ cnt no p (j + 1) * A ^ (j + 1))) := by
              rw [show cnt no p (j + 1) = cnt no p j + (if no j = nI p then 1 else 0) from rfl]
              by_cases z : no j = nI p
              · rw [if_pos z, if_pos z, show (2 : Int64) = lN 2 from rfl, lN_mul, lN_mul, Nat.pow_succ, Nat.pow_succ]
                congr 1
                simp only [Nat.mul_assoc, Nat.mul_left_comm, Nat.mul_comm]
              · rw [if_neg z, if_neg z, Nat.add_zero, lN_mul, Nat.pow_succ]
                congr 1
                simp only [Nat.mul_assoc]
            have eb : lN ((10 - s) * (A + v) ^ j) * lN (A + v) = lN ((10 - s) * (A + v) ^ (j + 1)) := by
              rw [lN_mul, Nat.pow_succ, Nat.mul_assoc]
            rw [ea, eb]
            exact i1
        have i0 := key kn 0 (Nat.zero_add _)
        rw [e10', show Int32.toInt64 x2 = lN s by rw [es, nI_l (by omega)]]
        refine ⟨kn + 1, ?_⟩
        have z1 : s * (2 ^ cnt no p 0 * A ^ 0) = s := by show s * (2 ^ 0 * A ^ 0) = s; simp
        have z2 : (10 - s) * (A + v) ^ 0 = 10 - s := by simp
        rw [z1, z2] at i0
        exact i0
    · -- somebody without a ticket was noted
      have hbad : ∃ j, j < kn ∧ ∃ q, q < np ∧ no j = nI q ∧ tk q = 0 := Classical.byContradiction fun z => hgood fun j hj q hq he ht => z ⟨j, hj, q, hq, he, ht⟩
      obtain ⟨j0, hj0, q0, hq0, he0, ht0⟩ := hbad
      refine s_canBe_f (q := q0) (by omega) ?_ ht0 (br_t rfl ?_)
      · rw [hN.2.2 q0 (by omega), nI_gt0 (by have := cnt_le no q0 kn; omega)]
        exact cnt_pos.mpr ⟨j0, hj0, he0⟩
      · refine k7 (br_f (by decide) (kin (br_f (by decide) (kpt (br_f (by decide) (m37 ?_))))))
        have key : ∀ (m j : Nat) (a b : Int64), j + m = kn → j ≤ j0 → L_X7_fair_81 pe la no (nI kn) (nI p) x3 (nI A) (fun r2 => Z (-4) r2) (m + 1) a b (nI j) := by
          intro m
          induction m with
          | zero => intro j a b hj hj2; omega
          | succ m ih =>
            intro j a b hj hj2
            obtain ⟨q, hq1, hq2⟩ := hN.2.1 j (by omega)
            by_cases ej : j = j0
            · refine stp _ _ j _ _ (by omega) ⟨q0, hq0, by rw [ej]; exact he0, fun _ => hZ _, fun z => absurd ht0 z⟩
            · exact stp _ _ j _ _ (by omega) ⟨q, hq1, hq2, fun _ => hZ _, fun _ => ih (j + 1) _ _ (by omega) (by omega)⟩
        exact ⟨kn + 1, key kn 0 _ _ (Nat.zero_add _) (Nat.zero_le _)⟩
  · exact s_isPerson_f hx (by omega) (br_t rfl (s7_isPerson_f hM.1 hx (by omega) (br_t rfl (hZ _))))
end Notes
