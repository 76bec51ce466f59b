/-! a year: on the trial alone -/
theorem lo_draw {c m : Nat → Int32} {q k : Nat} (h1 : ∀ i, i < 12 → m i = c i) (hq : q < 5) (hk : k < 6) : ∀ i, i < 12 → dM m q k i = dC c q k i := fun i hi => by
  unfold dC dM
  rw [pk_un (show i ≠ 13 by omega)]
  by_cases e : i = 11
  · rw [e, pk_us, pk_us]
  · rw [pk_un e, pk_un e, pk_un (show i ≠ 12 by omega)]
    by_cases e2 : i = 5 + k
    · rw [e2, pk_us, pk_us]
    · rw [pk_un e2, pk_un e2]
      by_cases e3 : i = q
      · rw [e3, pk_us, pk_us, h1 q (by omega)]
      · rw [pk_un e3, pk_un e3]; exact h1 i hi
section Year
variable {np nt : Nat} {tk kd wt lk pe th la ki wo li nw now : Nat → Int32}
theorem turn0 {c : Nat → Int32} {v : Nat} (hP : PR np nt tk kd wt lk) (hM : MR np nt tk kd wt lk pe th la ki wo li) (hS : Sd np nt c) (hv : v < 65521) : ∃ c', Sd np nt c' ∧ (∀ Q, Q c' → wp_X6_tryDraw c (nI nt) (nI v) Q) ∧ (∀ (t : Nat → Int32) (Q : (Nat → Int32) → Prop), (∀ i, i < 12 → t i = c i) → (∀ t', (∀ i, i < 12 → t' i = c' i) → Q t') → ((0 < hat t → (t 11 < th 0 → ¬ hat t = 0 ∧ (wp_X7_drawOn t (nI v - nI v / hat t * hat t) (fun r15 c_16 => Q c_16))) ∧ (¬ t 11 < th 0 → Q t)) ∧ (¬ 0 < hat t → Q t))) := by
  have h5 := hP.2.1
  have h6 := hP.2.2.1
  obtain ⟨tv, hc⟩ := tks hS
  have hh : hat c = nI (tsum tv 0 5) := hat_tsum (fun p hp => (hc p hp).2)
  have hle := tsum_le (tv := tv) (fun p hp => (hc p hp).1) 5 0 (by omega)
  have hht : ∀ t : Nat → Int32, (∀ i, i < 12 → t i = c i) → hat t = nI (tsum tv 0 5) := fun t ht => by rw [hat_congr (c := t) (d := c) (fun i hi => ht i (by omega))]; exact hh
  obtain ⟨k, hk1, hk2⟩ := hS.2.2.2.1
  by_cases h0 : tsum tv 0 5 = 0
  · refine ⟨c, hS, fun Q h => s_tickets ?_, fun t Q ht h => ?_⟩
    · rw [hh, h0]; exact br_f (by decide) h
    · rw [hht t ht, h0]; exact br_f (by decide) (h t ht)
  · have hpos : (0 : Int32) < nI (tsum tv 0 5) := ltN (a := 0) (by omega) (by omega)
    by_cases hkn : k < nt
    · have hm : v % tsum tv 0 5 < tsum tv 0 5 := Nat.mod_lt _ (by omega)
      cases hf : fnd tv 0 5 (v % tsum tv 0 5) with
      | none => have := (fnd_none 5 0 _).mp hf; omega
      | some q =>
        obtain ⟨-, q5, q0⟩ := fnd_some 5 0 _ q hf
        have hqn : q < np := by
          rcases Nat.lt_or_ge q np with h | h
          · exact h
          · have e0 := hS.2.1 q h (by omega)
            rw [(hc q (by omega)).2] at e0
            have := (nI_eq (b := 0) (by have := (hc q (by omega)).1; omega) (by omega)).mp e0
            omega
        refine ⟨dC c q k, Sd_draw h6 h5 hS hqn hkn ⟨tv q - 1, by have := (hc q (by omega)).1; omega, by rw [(hc q (by omega)).2]; congr 1; omega⟩, fun Q h => s_tickets ?_, fun t Q ht h => ?_⟩
        · rw [hh]
          refine br_t hpos ?_
          unfold wp_X3_next
          rw [hk2]
          refine br_t (ltN hkn (by omega)) ⟨nI_ne0 (by omega) (by omega), ?_⟩
          rw [pk_rem (by omega) (by omega) (by omega)]
          refine s_ticketHolder hc (by omega) (fun r hr => ?_)
          rw [hf] at hr
          have hr2 : r = nI q := hr
          rw [hr2]
          exact s_takeNext (by omega) (by omega) hk2 h
        · have hct : ∀ p, p < 5 → tv p ≤ 9 ∧ t p = nI (tv p) := fun p hp => by rw [ht p (by omega)]; exact hc p hp
          have e11 : t 11 = nI k := by rw [ht 11 (by omega)]; exact hk2
          rw [hht t ht]
          refine br_t hpos (br_t (by rw [e11, hM.2.1]; exact ltN hkn (by omega)) ⟨nI_ne0 (by omega) (by omega), ?_⟩)
          rw [pk_rem (by omega) (by omega) (by omega)]
          exact s7_drawOn hct (by omega) hf (by omega) e11 (h _ (lo_draw ht (by omega) (by omega)))
    · refine ⟨c, hS, fun Q h => s_tickets ?_, fun t Q ht h => ?_⟩
      · rw [hh]
        refine br_t hpos ?_
        unfold wp_X3_next
        rw [hk2]
        exact br_f (nltN (by omega) (by omega)) h
      · rw [hht t ht]
        refine br_t hpos (br_f ?_ (h t ht))
        rw [ht 11 (by omega), hk2, hM.2.1]
        exact nltN (by omega) (by omega)
theorem turn1 {c : Nat → Int32} {v u : Nat} (hP : PR np nt tk kd wt lk) (hS : Sd np nt c) (hv : v < 65521) (hu : u ≤ 3) : ∃ c', Sd np nt c' ∧ (∀ Q, Q c' → wp_X6_tryBuy c (nI np) (nI v) (nI u) Q) ∧ (∀ (t : Nat → Int32) (Q : (Nat → Int32) → Prop), (∀ i, i < 12 → t i = c i) → (∀ t', (∀ i, i < 12 → t' i = c' i) → Q t') → (¬ nI np = 0 ∧ (vp_in (0 + (nI v - nI v / nI np * nI np)) 14 ∧ (vp_in (0 + (nI v - nI v / nI np * nI np)) 14 ∧ ((9 < (t (Int32.toNatClampNeg (0 + (nI v - nI v / nI np * nI np))) + nI u) → B_X7_turn_124 pe th t (0 + (nI v - nI v / nI np * nI np)) (t (Int32.toNatClampNeg (0 + (nI v - nI v / nI np * nI np)))) 0 Q) ∧ (¬ 9 < (t (Int32.toNatClampNeg (0 + (nI v - nI v / nI np * nI np))) + nI u) → B_X7_turn_124 pe th t (0 + (nI v - nI v / nI np * nI np)) (t (Int32.toNatClampNeg (0 + (nI v - nI v / nI np * nI np)))) (nI u) Q)))))) := by
  have h1 := hP.1
  have h5 := hP.2.1
  have h6 := hP.2.2.1
  have hm : v % np < np := Nat.mod_lt _ (by omega)
  have er : nI v - nI v / nI np * nI np = nI (v % np) := pk_rem (by omega) (by omega) (by omega)
  obtain ⟨w, hw, ew⟩ := hS.1 (v % np) (by omega)
  have hne : ¬ nI np = 0 := nI_ne0 (by omega) (by omega)
  have hpos : (0 : Int32) < nI np := ltN (a := 0) (by omega) (by omega)
  have hin : vp_in (nI (v % np)) 14 := inN (by omega) (by omega)
  unfold wp_X6_tryBuy B_X7_turn_124
  rw [er, n0, cl (by omega)]
  by_cases hf : w + u ≤ 9
  · refine ⟨bC c (v % np) (w + u), Sd_tk h6 h5 hS hm hf, fun Q h => br_t hpos ⟨hne, s_ticketsOf (by omega) ?_⟩, fun t Q ht h => ⟨hne, hin, hin, ?_⟩⟩
    · rw [ew, nI_add]
      refine br_f (nltN (a := 9) (by omega) (by omega)) ?_
      unfold wp_X3_addTickets
      rw [cl (by omega), ew, nI_add]
      exact ⟨hin, hin, h⟩
    · rw [ht (v % np) (by omega), ew, nI_add]
      refine br_f (nltN (a := 9) (by omega) (by omega)) ⟨hin, h _ (fun i hi => ?_)⟩
      unfold bC
      by_cases e : i = v % np
      · rw [e, pk_us, pk_us]
      · rw [pk_un e, pk_un e]; exact ht i hi
  · refine ⟨c, hS, fun Q h => br_t hpos ⟨hne, s_ticketsOf (by omega) ?_⟩, fun t Q ht h => ⟨hne, hin, hin, ?_⟩⟩
    · rw [ew, nI_add]
      exact br_t (ltN (a := 9) (by omega) (by omega)) h
    · rw [ht (v % np) (by omega), ew, nI_add]
      refine br_t (ltN (a := 9) (by omega) (by omega)) ⟨hin, h _ (fun i hi => ?_)⟩
      by_cases e : i = v % np
      · rw [e, pk_us, ew]; exact Int32.add_zero _
      · rw [pk_un e]; exact ht i hi
theorem turn2 {c : Nat → Int32} {v u : Nat} (hP : PR np nt tk kd wt lk) (hS : Sd np nt c) (hv : v < 65521) (hu : u < 65521) : ∃ c', Sd np nt c' ∧ (∀ Q, Q c' → wp_X6_tryGive c (nI np) (nI nt) (nI v) (nI u) Q) ∧ (∀ (t : Nat → Int32) (Q : (Nat → Int32) → Prop), (∀ i, i < 12 → t i = c i) → (∀ t', (∀ i, i < 12 → t' i = c' i) → Q t') → ((0 < nI nt → ¬ nI nt = 0 ∧ (vp_in (5 + (nI v - nI v / nI nt * nI nt)) 14 ∧ ((t (Int32.toNatClampNeg (5 + (nI v - nI v / nI nt * nI nt))) = (-4) → B_X7_turn_188 pe th t (5 + (nI v - nI v / nI nt * nI nt)) (-4) Q) ∧ (¬ t (Int32.toNatClampNeg (5 + (nI v - nI v / nI nt * nI nt))) = (-4) → ¬ nI np = 0 ∧ (B_X7_turn_188 pe th t (5 + (nI v - nI v / nI nt * nI nt)) (nI u - nI u / nI np * nI np) Q))))) ∧ (¬ 0 < nI nt → Q t))) := by
  have h1 := hP.1
  have h5 := hP.2.1
  have h6 := hP.2.2.1
  by_cases h0 : nt = 0
  · refine ⟨c, hS, fun Q h => br_f (by rw [h0]; decide) h, fun t Q ht h => br_f (by rw [h0]; decide) (h t ht)⟩
  · have hm : v % nt < nt := Nat.mod_lt _ (by omega)
    have hm2 : u % np < np := Nat.mod_lt _ (by omega)
    have er : nI v - nI v / nI nt * nI nt = nI (v % nt) := pk_rem (by omega) (by omega) (by omega)
    have er2 : nI u - nI u / nI np * nI np = nI (u % np) := pk_rem (by omega) (by omega) (by omega)
    have hne : ¬ nI np = 0 := nI_ne0 (by omega) (by omega)
    have hnt : ¬ nI nt = 0 := nI_ne0 (by omega) (by omega)
    have hpos : (0 : Int32) < nI np := ltN (a := 0) (by omega) (by omega)
    have hpos2 : (0 : Int32) < nI nt := ltN (a := 0) (by omega) (by omega)
    have hin : vp_in (nI (5 + v % nt)) 14 := inN (by omega) (by omega)
    unfold wp_X6_tryGive B_X7_turn_188
    rw [er, er2, n5, cl (by omega)]
    by_cases e4 : c (5 + v % nt) = -4
    · refine ⟨c, hS, fun Q h => br_t hpos2 (br_t hpos ⟨hnt, s_ownerOf (by omega) (br_t e4 h)⟩), fun t Q ht h => br_t hpos2 ⟨hnt, hin, br_t (by rw [ht _ (by omega)]; exact e4) ⟨hin, h _ (fun i hi => ?_)⟩⟩⟩
      by_cases e : i = 5 + v % nt
      · rw [e, pk_us, e4]
      · rw [pk_un e]; exact ht i hi
    · by_cases e5 : c (5 + v % nt) = nI (u % np)
      · refine ⟨c, hS, fun Q h => br_t hpos2 (br_t hpos ⟨hnt, s_ownerOf (by omega) (br_f e4 ⟨hne, s_ownerOf (by omega) (br_t e5 h)⟩)⟩), fun t Q ht h => br_t hpos2 ⟨hnt, hin, br_f (by rw [ht _ (by omega)]; exact e4) ⟨hne, hin, h _ (fun i hi => ?_)⟩⟩⟩
        by_cases e : i = 5 + v % nt
        · rw [e, pk_us, e5]
        · rw [pk_un e]; exact ht i hi
      · refine ⟨pC c (v % nt) (nI (u % np)), Sd_pass h6 h5 hS hm hm2, fun Q h => br_t hpos2 (br_t hpos ⟨hnt, s_ownerOf (by omega) (br_f e4 ⟨hne, s_pass (by omega) e5 h⟩)⟩), fun t Q ht h => br_t hpos2 ⟨hnt, hin, br_f (by rw [ht _ (by omega)]; exact e4) ⟨hne, hin, h _ (fun i hi => ?_)⟩⟩⟩
        rw [pC_lo c (by omega) (by omega)]
        by_cases e : i = 5 + v % nt
        · rw [e, pk_us, pk_us]
        · rw [pk_un e, pk_un e]; exact ht i hi
theorem turnA {c : Nat → Int32} {d : Nat} (hP : PR np nt tk kd wt lk) (hM : MR np nt tk kd wt lk pe th la ki wo li) (hS : Sd np nt c) (hd : d < 65521) : ∃ c', Sd np nt c' ∧ (∀ Q, Q c' → wp_X6_takeTurn c (nI np) (nI nt) (nI d) Q) ∧ (∀ (t : Nat → Int32) (Q : (Nat → Int32) → Prop), (∀ i, i < 12 → t i = c i) → (∀ t', (∀ i, i < 12 → t' i = c' i) → Q t') → wp_X7_turn pe th t (nI d) Q) := by
  have e4 : nI d - nI d / 4 * 4 = nI (d % 4) := pk_rem (d := 4) (by omega) (by omega) (by omega)
  have f4 : nI d / 4 = nI (d / 4) := pk_div (d := 4) (by omega) (by omega) (by omega)
  have f64 : nI d / 64 = nI (d / 64) := pk_div (d := 64) (by omega) (by omega) (by omega)
  have f3 : nI (d / 64) - nI (d / 64) / 3 * 3 = nI (d / 64 % 3) := pk_rem (d := 3) (by omega) (by omega) (by omega)
  unfold wp_X6_takeTurn wp_X7_turn
  rw [e4, f4, f64, f3, nI_1, hM.1]
  have hr : d % 4 = 0 ∨ d % 4 = 1 ∨ d % 4 = 2 ∨ d % 4 = 3 := by omega
  rcases hr with z | z | z | z
  · obtain ⟨c', a, b, e⟩ := turn0 (v := d / 4) hP hM hS (by omega)
    rw [z]
    exact ⟨c', a, fun Q h => br_t rfl (b Q h), fun t Q ht h => s7_hatOf (br_t rfl (e t Q ht h))⟩
  · obtain ⟨c', a, b, e⟩ := turn1 (pe := pe) (th := th) (v := d / 4) (u := d / 64 % 3 + 1) hP hS (by omega) (by omega)
    rw [z]
    exact ⟨c', a, fun Q h => br_f (by decide) (br_t rfl (b Q h)), fun t Q ht h => s7_hatOf (br_f (by decide) (br_t rfl (e t Q ht h)))⟩
  · obtain ⟨c', a, b, e⟩ := turn2 (pe := pe) (th := th) (v := d / 4) (u := d / 64) hP hS (by omega) (by omega)
    rw [z, hM.2.1]
    exact ⟨c', a, fun Q h => br_f (by decide) (br_f (by decide) (br_t rfl (b Q h))), fun t Q ht h => s7_hatOf (br_f (by decide) (br_f (by decide) (br_t rfl (e t Q ht h))))⟩
  · rw [z]
    exact ⟨c, hS, fun Q h => br_f (by decide) (br_f (by decide) (br_f (by decide) h)), fun t Q ht h => s7_hatOf (br_f (by decide) (br_f (by decide) (br_f (by decide) (h t ht))))⟩
theorem drawNo {z k : Nat} (hz : z ≤ 9999) (hk : k < 60) : Int64.toInt32 (((((7919 * (Int32.toInt64 (nI z))) + (6151 * (Int32.toInt64 (nI k)))) + 1) * (((7919 * (Int32.toInt64 (nI z))) + (6151 * (Int32.toInt64 (nI k)))) + 1)) - ((((7919 * (Int32.toInt64 (nI z))) + (6151 * (Int32.toInt64 (nI k)))) + 1) * (((7919 * (Int32.toInt64 (nI z))) + (6151 * (Int32.toInt64 (nI k)))) + 1)) / 65521 * 65521) = nI ((7919 * z + 6151 * k + 1) * (7919 * z + 6151 * k + 1) % 65521) := by
  have e : (7919 * (Int32.toInt64 (nI z))) + (6151 * (Int32.toInt64 (nI k))) + 1 = lN (7919 * z + 6151 * k + 1) := by
    rw [nI_l (by omega), nI_l (by omega), show (7919 : Int64) = lN 7919 from rfl, show (6151 : Int64) = lN 6151 from rfl, show (1 : Int64) = lN 1 from rfl, lN_mul, lN_mul, lN_add, lN_add]
  have hX : 7919 * z + 6151 * k + 1 ≤ 80000000 := by omega
  have hXX : (7919 * z + 6151 * k + 1) * (7919 * z + 6151 * k + 1) ≤ 80000000 * 80000000 := Nat.mul_le_mul hX hX
  rw [e, lN_mul, show (65521 : Int64) = lN 65521 from rfl, pk_lRem (Nat.lt_of_le_of_lt hXX (by decide)) (by decide) (by decide), lN_i]
theorem yearA {z n : Nat} {x3 : Int32} (hP : PR np nt tk kd wt lk) (hM : MR np nt tk kd wt lk pe th la ki wo li) (hz : z ≤ 9999) (hn : n ≤ 60) : ∀ (m j : Nat) (c : Nat → Int32), j + m = n → Sd np nt c → ∃ c', Sd np nt c' ∧ (∀ Q, ((x3 = 0 → wp_X3_ownedThings c' (fun r10 => Q r10 c')) ∧ (¬ x3 = 0 → wp_X6_worthOfAll_trial c' kd wt lk (nI np) (nI nt) (fun r12 => Q (1000 + r12) c'))) → L_X6_year_47 nw kd wt lk (nI np) (nI nt) (nI z) (nI n) x3 Q (m + 1) c (nI j)) ∧ (∀ (t : Nat → Int32) (Q : Int32 → (Nat → Int32) → Prop), (∀ i, i < 12 → t i = c i) → (∀ t', (∀ i, i < 12 → t' i = c' i) → (x3 = 0 → wp_X7_thingsHad_tried th t' (fun r10 => Q r10 t')) ∧ (¬ x3 = 0 → wp_X7_worthOfAll_tried pe th ki wo li t' (fun r12 => Q (r12 + 1000) t'))) → L_X7_year_39 pe th ki wo li now (nI z) (nI n) x3 Q (m + 1) t (nI j)) := by
  intro m
  induction m with
  | zero =>
    intro j c hj hS
    rw [show j = n by omega]
    exact ⟨c, hS, fun Q h => br_f (nltN (Nat.le_refl _) (by omega)) h, fun t Q ht h => br_f (nltN (Nat.le_refl _) (by omega)) (h t ht)⟩
  | succ m ih =>
    intro j c hj hS
    obtain ⟨c1, s1, a1, b1⟩ := turnA (d := (7919 * z + 6151 * j + 1) * (7919 * z + 6151 * j + 1) % 65521) hP hM hS (Nat.mod_lt _ (by decide))
    obtain ⟨c2, s2, a2, b2⟩ := ih (j + 1) c1 (by omega) s1
    refine ⟨c2, s2, fun Q h => br_t (ltN (by omega) (by omega)) ?_, fun t Q ht h => br_t (ltN (by omega) (by omega)) ?_⟩
    · rw [drawNo hz (by omega), nI_1]
      exact a1 _ (a2 Q h)
    · rw [drawNo hz (by omega), nI_1]
      exact b1 t _ ht (fun t' ht' => b2 t' Q ht' h)
theorem s7_take {t : Nat → Int32} {Q : (Nat → Int32) → Prop} (h : ∀ t', (∀ i, i < 14 → t' i = now i) → Q t') : wp_X7_take now t Q := by
  refine ⟨15, lpx (fun n a j => L_X7_take_2 now Q n a (nI j)) (fun j q => upd q j (now j)) Q 14 (fun n a j hj hL => ?_) (fun n a hQ => ?_) 14 0 t rfl ?_⟩
  · refine br_t (ltN (b := 14) hj (by omega)) ?_
    rw [nI_1, cl (by omega)]
    exact ⟨inN (by omega) (by omega), inN (by omega) (by omega), hL⟩
  · exact br_f (nltN (b := 14) (Nat.le_refl _) (by omega)) hQ
  · have e := lp_put now 0 14 t
    simp only [Nat.zero_add] at e
    rw [e]
    exact h _ (fun i hi => by rw [fb_put_in (by omega) (by omega), Nat.sub_zero])
theorem in_c {x a b : Int32} {Q : Int32 → Prop} (h1 : ¬ x < a → ¬ b < x → Q 1) (h0 : x < a ∨ b < x → Q 0) : wp_X7_in x a b Q := br_c (fun c => h0 (Or.inl c)) (fun c => br_c (fun c2 => h0 (Or.inr c2)) (fun c2 => h1 c c2))
theorem e_year {tr ti : Nat → Int32} {x1 x2 x3 : Int32} {Z : Int32 → Int32 → (Nat → Int32) → (Nat → Int32) → Prop} (hP : PR np nt tk kd wt lk) (hM : MR np nt tk kd wt lk pe th la ki wo li) (hS : Sd np nt nw) (hR : RS nw now) (hZ : ∀ r c t, Z r r c t) : wp_X6_year nw tr kd wt lk (nI np) (nI nt) x1 x2 x3 (fun r1 c => wp_X7_year pe th ki wo li now ti x1 x2 x3 (fun r2 t => Z r1 r2 c t)) := by
  have h5 := hP.2.1
  have h6 := hP.2.2.1
  refine br_c (fun c => in_c (fun q _ => absurd c q) (fun _ => br_t rfl (hZ _ _ _))) (fun c1 => br_c (fun c => in_c (fun _ q => absurd c q) (fun _ => br_t rfl (hZ _ _ _))) (fun c2 => ?_))
  have k1 : ∀ {Q : Int32 → Prop}, Q 1 → wp_X7_in x1 0 9999 Q := fun h => in_c (fun _ _ => h) (fun q => q.elim (fun q => absurd q c1) (fun q => absurd q c2))
  refine br_c (fun c => k1 (br_f (by decide) (in_c (fun q _ => absurd c q) (fun _ => br_t rfl (hZ _ _ _))))) (fun c3 => br_c (fun c => k1 (br_f (by decide) (in_c (fun _ q => absurd c q) (fun _ => br_t rfl (hZ _ _ _))))) (fun c4 => ?_))
  have k2 : ∀ {Q : Int32 → Prop}, Q 1 → wp_X7_in x2 1 60 Q := fun h => in_c (fun _ _ => h) (fun q => q.elim (fun q => absurd q c3) (fun q => absurd q c4))
  refine br_c (fun c => k1 (br_f (by decide) (k2 (br_f (by decide) (in_c (fun q _ => absurd c q) (fun _ => br_t rfl (hZ _ _ _))))))) (fun c5 => br_c (fun c => k1 (br_f (by decide) (k2 (br_f (by decide) (in_c (fun _ q => absurd c q) (fun _ => br_t rfl (hZ _ _ _))))))) (fun c6 => ?_))
  have k3 : ∀ {Q : Int32 → Prop}, Q 1 → wp_X7_in x3 0 1 Q := fun h => in_c (fun _ _ => h) (fun q => q.elim (fun q => absurd q c5) (fun q => absurd q c6))
  obtain ⟨z, hz, ez⟩ := nI_of2 (x := x1) (M := 9999) (n := 9999) (by decide) c1 (Int32.not_lt.mp c2)
  have c3' : ¬ x2 < 0 := fun q => c3 (Int32.lt_trans q (by decide))
  obtain ⟨n, hn, en⟩ := nI_of2 (x := x2) (M := 60) (n := 60) (by decide) c3' (Int32.not_lt.mp c4)
  have hS0 : Sd np nt (va_cpy nw tr 0 0 14) := Sd_congr (fun i hi => by have := cpy_row nw tr 0 i hi; rw [Nat.mul_zero] at this; rw [this]; unfold row; congr 1; omega) h6 hS
  have hlo : ∀ i, i < 14 → va_cpy nw tr 0 0 14 i = nw i := fun i hi => by have := cpy_row nw tr 0 i hi; rw [Nat.mul_zero] at this; rw [this]; unfold row; congr 1; omega
  obtain ⟨c', s', a, b⟩ := yearA (nw := nw) (now := now) (x3 := x3) hP hM hz hn n 0 _ (Nat.zero_add _) hS0
  have key : ∀ r1, (∀ t', (∀ i, i < 12 → t' i = c' i) → (x3 = 0 → wp_X7_thingsHad_tried th t' (fun r10 => Z r1 r10 c' t')) ∧ (¬ x3 = 0 → wp_X7_worthOfAll_tried pe th ki wo li t' (fun r12 => Z r1 (r12 + 1000) c' t'))) → wp_X7_year pe th ki wo li now ti x1 x2 x3 (fun r2 t => Z r1 r2 c' t) := by
    intro r1 h
    refine k1 (br_f (by decide) (k2 (br_f (by decide) (k3 (br_f (by decide) (s7_take (fun t' ht' => ⟨n + 1, ?_⟩)))))))
    rw [ez, en]
    exact b t' _ (fun i hi => by rw [ht' i (by omega), hlo i (by omega)]; exact hR.1 i hi) h
  refine ⟨n + 1, ?_⟩
  rw [ez, en] at key ⊢
  refine a _ (br_c (fun e0 => s_ownedThings (key _ (fun t' ht' => br_t e0 (s7_thingsHad_tried hM.2.1 h6 ?_)))) (fun e0 => s_worthOfAll_trial hP (key _ (fun t' ht' => br_f e0 (s7_worthOfAll_tried hP hM ?_)))))
  · rw [hc_congr (c := t') (d := c') (fun t ht => ht' (5 + t) (by omega)), ← hc_6 h6 (c := c') (fun t h1 h2 => by
      rcases s'.2.2.1 t h2 with h | ⟨h, -⟩
      · exact h
      · omega)]
    exact hZ _ _ _
  · rw [Int32.add_comm, WA_congr h6 (c := t') (d := c') (fun t ht => ht' (5 + t) (by omega))]; exact hZ _ _ _
end Year
