/-! swaps, gives, envy -/
section Barter
variable {np nt : Nat} {tk kd wt lk pe th la ki wo li nw now : Nat → Int32} {Z : Int32 → Int32 → Prop}
/-- what p would have of a set -/
def Ws (kd wt lk : Nat → Int32) (nt p : Nat) (x : Int32) : Int32 := W1 kd wt lk nt p (bt x)
def Hs (nw : Nat → Int32) (p : Nat) : Int32 := sv nw (nI p) 6
theorem Ws_bd (hP : PR np nt tk kd wt lk) {p : Nat} (hp : p < np) (x : Int32) : -360 ≤ (Ws kd wt lk nt p x).toInt ∧ (Ws kd wt lk nt p x).toInt ≤ 360 := W1_bd hP hp (bt x)
theorem sub_i {a b : Int32} (ha : -360 ≤ a.toInt ∧ a.toInt ≤ 360) (hb : -360 ≤ b.toInt ∧ b.toInt ≤ 360) : (0 < a - b ↔ b < a) := by
  have e := fb_subI (x := a) (y := b) (by omega) (by omega)
  have e0 : (0 : Int32).toInt = 0 := by decide
  rw [fa_lt, fa_lt, e]
  omega
theorem s_change {p : Nat} {x : Int32} {Q : Int32 → Prop} (hP : PR np nt tk kd wt lk) (hp : p < np) (h : Q (Ws kd wt lk nt p (Hs nw p ^^^ x) - Ws kd wt lk nt p (Hs nw p))) : wp_X0_change kd wt lk (nI nt) nw (nI p) x Q :=
  s_setOf (s_w hP hp (fun _ _ => rfl) (s_w hP hp (fun _ _ => rfl) h))
/-- who has a thing: nobody, or one of them; in both -/
theorem own_both (hS : Sd np nt nw) (hR : RS nw now) {t : Nat} (ht : t < 6) : (nw (5 + t) = -4 ∧ now (5 + t) = -4) ∨ ∃ p, p < np ∧ nw (5 + t) = nI p ∧ now (5 + t) = nI p := by
  have e := hR.1 (5 + t) (by omega)
  rcases hS.2.2.1 t ht with h | ⟨-, p, hp, h⟩
  · exact Or.inl ⟨h, by rw [e, h]⟩
  · exact Or.inr ⟨p, hp, h, by rw [e, h]⟩
theorem bits_tu (t u : Nat) : (1 : Int32) <<< (nI t &&& 31) ||| (1 : Int32) <<< (nI u &&& 31) = (1 : Int32) <<< (nI t &&& 31) ||| (1 : Int32) <<< (nI u &&& 31) := rfl
theorem e_swaps (hP : PR np nt tk kd wt lk) (hM : MR np nt tk kd wt lk pe th la ki wo li) (hS : Sd np nt nw) (hR : RS nw now) (hZ : ∀ r, Z r r) : wp_X6_swaps nw kd wt lk (nI nt) (fun r1 => wp_X7_swaps th ki wo li now (fun r2 => Z r1 r2)) := by
  have h5 := hP.2.1
  have h6 := hP.2.2.1
  have hlt : ∀ j, j < nt → nI j < th 0 := fun j hj => by rw [hM.2.1]; exact ltN hj (by omega)
  have hnl : ¬ nI nt < th 0 := by rw [hM.2.1]; exact nltN (Nat.le_refl _) (by omega)
  have inner : ∀ (t : Nat) (r0 : Int32), t < nt → ∀ (m u : Nat), u + m = nt → ∃ r : Int32, (∀ (Q k2 : Int32 → Prop), Q r → (Q r0 → k2 (nI (t + 1))) → L_X0_firstSwap_15 kd wt lk (nI nt) nw (nI t) Q k2 (m + 1) (nI u)) ∧ (∀ (Q k2 : Int32 → Prop), Q r → (Q r0 → k2 (nI (t + 1))) → L_X7_swaps_16 th ki wo li now (nI t) Q k2 (m + 1) (nI u)) := by
    intro t r0 ht m
    induction m with
    | zero =>
      intro u hu
      rw [show u = nt by omega]
      refine ⟨r0, fun Q k2 h hk => br_f (nltN (Nat.le_refl _) (by omega)) ?_, fun Q k2 h hk => br_f hnl ?_⟩
      · rw [nI_1]; exact hk h
      · rw [nI_1]; exact hk h
    | succ m ih =>
      intro u hu
      obtain ⟨r, i1, i2⟩ := ih (u + 1) (by omega)
      have go2 : ∀ (Q k2 : Int32 → Prop), Q r → (Q r0 → k2 (nI (t + 1))) → L_X7_swaps_16 th ki wo li now (nI t) Q k2 (m + 1) (nI u + 1) := fun Q k2 h hk => by rw [nI_1]; exact i2 Q k2 h hk
      have go1 : ∀ (Q k2 : Int32 → Prop), Q r → (Q r0 → k2 (nI (t + 1))) → L_X0_firstSwap_15 kd wt lk (nI nt) nw (nI t) Q k2 (m + 1) (nI u + 1) := fun Q k2 h hk => by rw [nI_1]; exact i1 Q k2 h hk
      have hi1 : vp_in (nI (5 + t)) 14 := inN (by omega) (by omega)
      have hi2 : vp_in (nI (5 + u)) 14 := inN (by omega) (by omega)
      -- the class's test answers d, the reference's goes by d
      have pre1 : ∀ (Q k2 : Int32 → Prop), wp_X0_bothGain kd wt lk (nI nt) nw (nI t) (nI u) (fun r4 => (r4 = 0 → L_X0_firstSwap_15 kd wt lk (nI nt) nw (nI t) Q k2 (m + 1) (nI u + 1)) ∧ (¬ r4 = 0 → Q ((10 * nI t) + nI u))) → L_X0_firstSwap_15 kd wt lk (nI nt) nw (nI t) Q k2 (m + 1 + 1) (nI u) := fun Q k2 h => br_t (ltN (by omega) (by omega)) h
      rcases own_both hS hR (t := t) (by omega) with ⟨a1, a2⟩ | ⟨p, hp, a1, a2⟩
      · refine ⟨r, fun Q k2 h hk => pre1 Q k2 (s_ownerOf (by omega) (s_ownerOf (by omega) (br_t a1 (br_t rfl (go1 Q k2 h hk))))), fun Q k2 h hk => br_t (hlt u (by omega)) ?_⟩
        rw [n5, n5, cl (by omega), cl (by omega)]
        exact ⟨hi1, hi2, br_t a2 (go2 Q k2 h hk)⟩
      · have a3 : ¬ nw (5 + t) = -4 := by rw [a1]; exact nI_m4 (by omega)
        have a4 : ¬ now (5 + t) = -4 := by rw [a2]; exact nI_m4 (by omega)
        rcases own_both hS hR (t := u) (by omega) with ⟨b1, b2⟩ | ⟨q, hq, b1, b2⟩
        · refine ⟨r, fun Q k2 h hk => pre1 Q k2 (s_ownerOf (by omega) (s_ownerOf (by omega) (br_f a3 (br_t b1 (br_t rfl (go1 Q k2 h hk)))))), fun Q k2 h hk => br_t (hlt u (by omega)) ?_⟩
          rw [n5, n5, cl (by omega), cl (by omega)]
          exact ⟨hi1, hi2, br_f a4 (br_t b2 (go2 Q k2 h hk))⟩
        · have b3 : ¬ nw (5 + u) = -4 := by rw [b1]; exact nI_m4 (by omega)
          have b4 : ¬ now (5 + u) = -4 := by rw [b2]; exact nI_m4 (by omega)
          by_cases hpq : p = q
          · refine ⟨r, fun Q k2 h hk => pre1 Q k2 (s_ownerOf (by omega) (s_ownerOf (by omega) (br_f a3 (br_f b3 (br_t (by rw [a1, b1, hpq]) (br_t rfl (go1 Q k2 h hk))))))), fun Q k2 h hk => br_t (hlt u (by omega)) ?_⟩
            rw [n5, n5, cl (by omega), cl (by omega)]
            exact ⟨hi1, hi2, br_f a4 (br_f b4 (br_t (by rw [a2, b2, hpq]) (go2 Q k2 h hk)))⟩
          · have c1 : ¬ nw (5 + t) = nw (5 + u) := by rw [a1, b1]; exact neN hpq (by omega) (by omega)
            have c2 : ¬ now (5 + t) = now (5 + u) := by rw [a2, b2]; exact neN hpq (by omega) (by omega)
            generalize hx : (1 : Int32) <<< (nI t &&& 31) ||| (1 : Int32) <<< (nI u &&& 31) = x
            have pb := Ws_bd hP hp
            have qb := Ws_bd hP hq
            have ep : sv now (nI p) nt = Hs nw p := (sv_both hp hP hS hR).symm
            have eq : sv now (nI q) nt = Hs nw q := (sv_both hq hP hS hR).symm
            have pre2 : ∀ (Q k2 : Int32 → Prop), ((Ws kd wt lk nt p (Hs nw p) < Ws kd wt lk nt p (Hs nw p ^^^ x) → ((Ws kd wt lk nt q (Hs nw q) < Ws kd wt lk nt q (Hs nw q ^^^ x) → Q ((10 * nI t) + nI u)) ∧ (¬ Ws kd wt lk nt q (Hs nw q) < Ws kd wt lk nt q (Hs nw q ^^^ x) → L_X7_swaps_16 th ki wo li now (nI t) Q k2 (m + 1) (nI u + 1)))) ∧ (¬ Ws kd wt lk nt p (Hs nw p) < Ws kd wt lk nt p (Hs nw p ^^^ x) → L_X7_swaps_16 th ki wo li now (nI t) Q k2 (m + 1) (nI u + 1))) → L_X7_swaps_16 th ki wo li now (nI t) Q k2 (m + 1 + 1) (nI u) := by
              intro Q k2 h
              refine br_t (hlt u (by omega)) ?_
              rw [n5, n5, cl (by omega), cl (by omega)]
              refine ⟨hi1, hi2, br_f a4 (br_f b4 (br_f c2 ?_))⟩
              rw [a2, b2, hx]
              refine s7_hadBy_now hM.2.1 h6 (s7_hadBy_now hM.2.1 h6 ?_)
              rw [ep, eq]
              exact s7_w hP hM hp (fun _ _ => rfl) (s7_w hP hM hp (fun _ _ => rfl) (br_c (fun z => s7_w hP hM hq (fun _ _ => rfl) (s7_w hP hM hq (fun _ _ => rfl) (h.1 z))) (fun z => h.2 z)))
            have pre3 : ∀ (Q : Int32 → Prop), ((0 < Ws kd wt lk nt p (Hs nw p ^^^ x) - Ws kd wt lk nt p (Hs nw p) → ((0 < Ws kd wt lk nt q (Hs nw q ^^^ x) - Ws kd wt lk nt q (Hs nw q) → Q 1) ∧ (¬ 0 < Ws kd wt lk nt q (Hs nw q ^^^ x) - Ws kd wt lk nt q (Hs nw q) → Q 0))) ∧ (¬ 0 < Ws kd wt lk nt p (Hs nw p ^^^ x) - Ws kd wt lk nt p (Hs nw p) → Q 0)) → wp_X0_bothGain kd wt lk (nI nt) nw (nI t) (nI u) Q := by
              intro Q h
              refine s_ownerOf (by omega) (s_ownerOf (by omega) (br_f a3 (br_f b3 (br_f c1 ?_))))
              rw [a1, b1, hx]
              exact s_change hP hp (br_c (fun z => s_change hP hq (h.1 z)) (fun z => h.2 z))
            by_cases g1 : Ws kd wt lk nt p (Hs nw p) < Ws kd wt lk nt p (Hs nw p ^^^ x)
            · by_cases g2 : Ws kd wt lk nt q (Hs nw q) < Ws kd wt lk nt q (Hs nw q ^^^ x)
              · exact ⟨(10 * nI t) + nI u, fun Q k2 h hk => pre1 Q k2 (pre3 _ (br_t ((sub_i (pb _) (pb _)).mpr g1) (br_t ((sub_i (qb _) (qb _)).mpr g2) (br_f (by decide) h)))), fun Q k2 h hk => pre2 Q k2 (br_t g1 (br_t g2 h))⟩
              · exact ⟨r, fun Q k2 h hk => pre1 Q k2 (pre3 _ (br_t ((sub_i (pb _) (pb _)).mpr g1) (br_f (fun z => g2 ((sub_i (qb _) (qb _)).mp z)) (br_t rfl (go1 Q k2 h hk))))), fun Q k2 h hk => pre2 Q k2 (br_t g1 (br_f g2 (go2 Q k2 h hk)))⟩
            · exact ⟨r, fun Q k2 h hk => pre1 Q k2 (pre3 _ (br_f (fun z => g1 ((sub_i (pb _) (pb _)).mp z)) (br_t rfl (go1 Q k2 h hk)))), fun Q k2 h hk => pre2 Q k2 (br_f g1 (go2 Q k2 h hk))⟩
  have outer : ∀ (m t : Nat), t + m = nt → ∃ r : Int32, (∀ Q : Int32 → Prop, Q r → L_X0_firstSwap_2 kd wt lk (nI nt) nw Q (m + 1) (nI t)) ∧ (∀ Q : Int32 → Prop, Q r → L_X7_swaps_2 th ki wo li now Q (m + 1) (nI t)) := by
    intro m
    induction m with
    | zero =>
      intro t ht
      rw [show t = nt by omega]
      exact ⟨-4, fun Q h => br_f (nltN (Nat.le_refl _) (by omega)) h, fun Q h => br_f hnl h⟩
    | succ m ih =>
      intro t ht
      obtain ⟨r0, i1, i2⟩ := ih (t + 1) (by omega)
      obtain ⟨r, j1, j2⟩ := inner t r0 (by omega) (nt - (t + 1)) (t + 1) (by omega)
      refine ⟨r, fun Q h => br_t (ltN (by omega) (by omega)) ?_, fun Q h => br_t (hlt t (by omega)) ?_⟩
      · rw [nI_1]; exact ⟨_, j1 Q _ h (fun z => i1 Q z)⟩
      · rw [nI_1]; exact ⟨_, j2 Q _ h (fun z => i2 Q z)⟩
  obtain ⟨r, i1, i2⟩ := outer nt 0 (Nat.zero_add _)
  exact ⟨nt + 1, i1 _ ⟨nt + 1, i2 _ (hZ _)⟩⟩
theorem e_gives (hP : PR np nt tk kd wt lk) (hM : MR np nt tk kd wt lk pe th la ki wo li) (hS : Sd np nt nw) (hR : RS nw now) (hZ : ∀ r, Z r r) : wp_X6_gives nw kd wt lk (nI np) (nI nt) (fun r1 => wp_X7_gives pe th ki wo li now (fun r2 => Z r1 r2)) := by
  have h5 := hP.2.1
  have h6 := hP.2.2.1
  have hlt : ∀ j, j < nt → nI j < th 0 := fun j hj => by rw [hM.2.1]; exact ltN hj (by omega)
  have hnl : ¬ nI nt < th 0 := by rw [hM.2.1]; exact nltN (Nat.le_refl _) (by omega)
  have plt : ∀ j, j < np → nI j < pe 0 := fun j hj => by rw [hM.1]; exact ltN hj (by omega)
  have pnl : ¬ nI np < pe 0 := by rw [hM.1]; exact nltN (Nat.le_refl _) (by omega)
  -- nobody has it
  have none1 : ∀ (t : Nat), t < nt → nw (5 + t) = -4 → ∀ (m q : Nat), q + m = np → ∀ (Q k2 : Int32 → Prop), k2 (nI (t + 1)) → L_X0_firstGift_13 kd wt lk (nI np) (nI nt) nw (nI t) Q k2 (m + 1) (nI q) := by
    intro t ht e m
    induction m with
    | zero => intro q hq Q k2 h; rw [show q = np by omega]; refine br_f (nltN (Nat.le_refl _) (by omega)) ?_; rw [nI_1]; exact h
    | succ m ih =>
      intro q hq Q k2 h
      refine br_t (ltN (by omega) (by omega)) (s_ownerOf (by omega) (br_t e (br_t rfl ?_)))
      rw [nI_1]; exact ih (q + 1) (by omega) Q k2 h
  have inner : ∀ (t p : Nat) (r0 : Int32), t < nt → p < np → nw (5 + t) = nI p → now (5 + t) = nI p → ∀ (m q : Nat), q + m = np → ∃ r : Int32, (∀ (Q k2 : Int32 → Prop), Q r → (Q r0 → k2 (nI (t + 1))) → L_X0_firstGift_13 kd wt lk (nI np) (nI nt) nw (nI t) Q k2 (m + 1) (nI q)) ∧ (∀ (Q k2 : Int32 → Prop), Q r → (Q r0 → k2 (nI (t + 1))) → L_X7_gives_23 pe th ki wo li now (nI t) (nI p) Q k2 (m + 1) (nI q)) := by
    intro t p r0 ht hp a1 a2 m
    have a3 : ¬ nw (5 + t) = -4 := by rw [a1]; exact nI_m4 (by omega)
    have a5 : ¬ nI p = -4 := nI_m4 (by omega)
    induction m with
    | zero =>
      intro q hq
      rw [show q = np by omega]
      refine ⟨r0, fun Q k2 h hk => br_f (nltN (Nat.le_refl _) (by omega)) ?_, fun Q k2 h hk => br_f pnl ?_⟩
      · rw [nI_1]; exact hk h
      · rw [nI_1]; exact hk h
    | succ m ih =>
      intro q hq
      obtain ⟨r, i1, i2⟩ := ih (q + 1) (by omega)
      have go2 : ∀ (Q k2 : Int32 → Prop), Q r → (Q r0 → k2 (nI (t + 1))) → L_X7_gives_23 pe th ki wo li now (nI t) (nI p) Q k2 (m + 1) (nI q + 1) := fun Q k2 h hk => by rw [nI_1]; exact i2 Q k2 h hk
      have go1 : ∀ (Q k2 : Int32 → Prop), Q r → (Q r0 → k2 (nI (t + 1))) → L_X0_firstGift_13 kd wt lk (nI np) (nI nt) nw (nI t) Q k2 (m + 1) (nI q + 1) := fun Q k2 h hk => by rw [nI_1]; exact i1 Q k2 h hk
      by_cases hpq : p = q
      · refine ⟨r, fun Q k2 h hk => br_t (ltN (by omega) (by omega)) (s_ownerOf (by omega) (br_f a3 (br_t (by rw [a1, hpq]) (br_t rfl (go1 Q k2 h hk))))), fun Q k2 h hk => br_t (plt q (by omega)) (br_f a5 (br_t (by rw [hpq]) (go2 Q k2 h hk)))⟩
      · have hq' : q < np := by omega
        have c1 : ¬ nw (5 + t) = nI q := by rw [a1]; exact neN hpq (by omega) (by omega)
        have c2 : ¬ nI q = nI p := neN (fun z => hpq z.symm) (by omega) (by omega)
        generalize hx : (1 : Int32) <<< (nI t &&& 31) = x
        have ep : sv now (nI p) nt = Hs nw p := (sv_both hp hP hS hR).symm
        have eq : sv now (nI q) nt = Hs nw q := (sv_both hq' hP hS hR).symm
        have bx : ∀ i, i < nt → bt x i = decide (i = t) := fun i hi => by rw [← hx]; exact b_bit (by omega) (by omega)
        have hb1 : ∀ i, i < nt → bt (Hs nw p &&& (x ^^^ (-1))) i = bt (Hs nw p ^^^ x) i := fun i hi => by
          rw [b_and, b_xor, b_xor, bx i hi, b_m1 i (by omega)]
          by_cases e : i = t
          · rw [e]; unfold Hs; rw [sv_bits _ _ 6 (by omega) t (by omega), a1]; simp; omega
          · simp [e]
        have hb2 : ∀ i, i < nt → bt (Hs nw q ||| x) i = bt (Hs nw q ^^^ x) i := fun i hi => by
          rw [b_or, b_xor, bx i hi]
          by_cases e : i = t
          · rw [e]; unfold Hs; rw [sv_bits _ _ 6 (by omega) t (by omega)]; simp [c1]
          · simp [e]
        generalize hd1 : Ws kd wt lk nt p (Hs nw p ^^^ x) - Ws kd wt lk nt p (Hs nw p) = d1
        generalize hd2 : Ws kd wt lk nt q (Hs nw q ^^^ x) - Ws kd wt lk nt q (Hs nw q) = d2
        have pre1 : ∀ (Q : Int32 → Prop), ((d1 < 0 → Q 0) ∧ (¬ d1 < 0 → (d2 < 0 → Q 0) ∧ (¬ d2 < 0 → (0 < d1 + d2 → Q 1) ∧ (¬ 0 < d1 + d2 → Q 0)))) → wp_X0_isGoodGift kd wt lk (nI nt) nw (nI t) (nI q) Q := by
          intro Q h
          refine s_ownerOf (by omega) (br_f a3 (br_f c1 ?_))
          rw [a1, hx]
          refine s_change hP hp (s_change hP hq' ?_)
          rw [hd1, hd2]
          exact h
        have pre2 : ∀ (Q k2 : Int32 → Prop), ((d1 < 0 → L_X7_gives_23 pe th ki wo li now (nI t) (nI p) Q k2 (m + 1) (nI q + 1)) ∧ (¬ d1 < 0 → (d2 < 0 → L_X7_gives_23 pe th ki wo li now (nI t) (nI p) Q k2 (m + 1) (nI q + 1)) ∧ (¬ d2 < 0 → (0 < d1 + d2 → Q ((10 * nI t) + nI q)) ∧ (¬ 0 < d1 + d2 → L_X7_gives_23 pe th ki wo li now (nI t) (nI p) Q k2 (m + 1) (nI q + 1))))) → L_X7_gives_23 pe th ki wo li now (nI t) (nI p) Q k2 (m + 1 + 1) (nI q) := by
          intro Q k2 h
          refine br_t (plt q (by omega)) (br_f a5 (br_f c2 (s7_hadBy_now hM.2.1 h6 ?_)))
          rw [hx, ep]
          refine s7_w hP hM hp hb1 (s7_hadBy_now hM.2.1 h6 ?_)
          rw [ep]
          refine s7_w hP hM hp (fun _ _ => rfl) (s7_hadBy_now hM.2.1 h6 ?_)
          rw [eq]
          refine s7_w hP hM hq' hb2 (s7_hadBy_now hM.2.1 h6 ?_)
          rw [eq]
          refine s7_w hP hM hq' (fun _ _ => rfl) ?_
          have z1 : W1 kd wt lk nt p (bt (Hs nw p ^^^ x)) - W1 kd wt lk nt p (bt (Hs nw p)) = d1 := hd1
          have z2 : W1 kd wt lk nt q (bt (Hs nw q ^^^ x)) - W1 kd wt lk nt q (bt (Hs nw q)) = d2 := hd2
          rw [z1, z2]
          exact h
        have lift : ∀ (Q k2 : Int32 → Prop), wp_X0_isGoodGift kd wt lk (nI nt) nw (nI t) (nI q) (fun r4 => (r4 = 0 → L_X0_firstGift_13 kd wt lk (nI np) (nI nt) nw (nI t) Q k2 (m + 1) (nI q + 1)) ∧ (¬ r4 = 0 → Q ((10 * nI t) + nI q))) → L_X0_firstGift_13 kd wt lk (nI np) (nI nt) nw (nI t) Q k2 (m + 1 + 1) (nI q) := fun Q k2 h => br_t (ltN (by omega) (by omega)) h
        by_cases g1 : d1 < 0
        · exact ⟨r, fun Q k2 h hk => lift Q k2 (pre1 _ (br_t g1 (br_t rfl (go1 Q k2 h hk)))), fun Q k2 h hk => pre2 Q k2 (br_t g1 (go2 Q k2 h hk))⟩
        · by_cases g2 : d2 < 0
          · exact ⟨r, fun Q k2 h hk => lift Q k2 (pre1 _ (br_f g1 (br_t g2 (br_t rfl (go1 Q k2 h hk))))), fun Q k2 h hk => pre2 Q k2 (br_f g1 (br_t g2 (go2 Q k2 h hk)))⟩
          · by_cases g3 : 0 < d1 + d2
            · exact ⟨(10 * nI t) + nI q, fun Q k2 h hk => lift Q k2 (pre1 _ (br_f g1 (br_f g2 (br_t g3 (br_f (by decide) h))))), fun Q k2 h hk => pre2 Q k2 (br_f g1 (br_f g2 (br_t g3 h)))⟩
            · exact ⟨r, fun Q k2 h hk => lift Q k2 (pre1 _ (br_f g1 (br_f g2 (br_f g3 (br_t rfl (go1 Q k2 h hk)))))), fun Q k2 h hk => pre2 Q k2 (br_f g1 (br_f g2 (br_f g3 (go2 Q k2 h hk))))⟩
  have outer : ∀ (m t : Nat), t + m = nt → ∃ r : Int32, (∀ Q : Int32 → Prop, Q r → L_X0_firstGift_2 kd wt lk (nI np) (nI nt) nw Q (m + 1) (nI t)) ∧ (∀ Q : Int32 → Prop, Q r → L_X7_gives_2 pe th ki wo li now Q (m + 1) (nI t)) := by
    intro m
    induction m with
    | zero =>
      intro t ht
      rw [show t = nt by omega]
      exact ⟨-4, fun Q h => br_f (nltN (Nat.le_refl _) (by omega)) h, fun Q h => br_f hnl h⟩
    | succ m ih =>
      intro t ht
      obtain ⟨r0, i1, i2⟩ := ih (t + 1) (by omega)
      rcases own_both hS hR (t := t) (by omega) with ⟨a1, a2⟩ | ⟨p, hp, a1, a2⟩
      · refine ⟨r0, fun Q h => br_t (ltN (by omega) (by omega)) ⟨np + 1, none1 t (by omega) a1 np 0 (Nat.zero_add _) Q _ (i1 Q h)⟩, fun Q h => br_t (hlt t (by omega)) ?_⟩
        rw [n5, cl (by omega), a2]
        refine ⟨inN (by omega) (by omega), 1, br_t (plt 0 (by have := hP.1; omega)) (br_t rfl ?_)⟩
        rw [nI_1]; exact i2 Q h
      · obtain ⟨r, j1, j2⟩ := inner t p r0 (by omega) hp a1 a2 np 0 (Nat.zero_add _)
        refine ⟨r, fun Q h => br_t (ltN (by omega) (by omega)) ⟨_, j1 Q _ h (fun z => i1 Q z)⟩, fun Q h => br_t (hlt t (by omega)) ?_⟩
        rw [n5, cl (by omega), a2]
        exact ⟨inN (by omega) (by omega), _, j2 Q _ h (fun z => i2 Q z)⟩
  obtain ⟨r, i1, i2⟩ := outer nt 0 (Nat.zero_add _)
  exact ⟨nt + 1, i1 _ ⟨nt + 1, i2 _ (hZ _)⟩⟩
/-- p envies q -/
def En (kd wt lk : Nat → Int32) (nt : Nat) (nw : Nat → Int32) (p q : Nat) : Bool := decide (Ws kd wt lk nt p (Hs nw p) < Ws kd wt lk nt p (Hs nw q))
theorem En_self (p : Nat) : En kd wt lk nt nw p p = false := by unfold En; simp [Int32.lt_irrefl]
theorem s_envies {p q : Nat} {Q : Int32 → Prop} (hP : PR np nt tk kd wt lk) (hp : p < np) (h : Q (if En kd wt lk nt nw p q then 1 else 0)) : wp_X0_envies kd wt lk (nI nt) nw (nI p) (nI q) Q := by
  refine s_setOf (s_w hP hp (fun _ _ => rfl) (s_setOf (s_w hP hp (fun _ _ => rfl) ?_)))
  unfold En at h
  refine br_c (fun c => ?_) (fun c => ?_)
  · rw [decide_eq_true (show Ws kd wt lk nt p (Hs nw p) < Ws kd wt lk nt p (Hs nw q) from c), if_pos rfl] at h; exact h
  · rw [decide_eq_false (show ¬ Ws kd wt lk nt p (Hs nw p) < Ws kd wt lk nt p (Hs nw q) from c), if_neg (by decide)] at h; exact h
theorem s7_envies {p q : Nat} {Q : Int32 → Prop} (hP : PR np nt tk kd wt lk) (hM : MR np nt tk kd wt lk pe th la ki wo li) (hS : Sd np nt nw) (hR : RS nw now) (hp : p < np) (hq : q < np) (h : Q (if En kd wt lk nt nw p q then 1 else 0)) : wp_X7_envies th ki wo li now (nI p) (nI q) Q := by
  have h5 := hP.2.1
  have h6 := hP.2.2.1
  by_cases hpq : p = q
  · rw [hpq, En_self, if_neg (by decide)] at h
    exact br_t (by rw [hpq]) h
  · refine br_f (neN hpq (by omega) (by omega)) (s7_hadBy_now hM.2.1 h6 ?_)
    rw [show sv now (nI q) nt = Hs nw q from (sv_both hq hP hS hR).symm]
    refine s7_w hP hM hp (fun _ _ => rfl) (s7_hadBy_now hM.2.1 h6 ?_)
    rw [show sv now (nI p) nt = Hs nw p from (sv_both hp hP hS hR).symm]
    refine s7_w hP hM hp (fun _ _ => rfl) ?_
    unfold En at h
    refine br_c (fun c => ?_) (fun c => ?_)
    · rw [decide_eq_true (show Ws kd wt lk nt p (Hs nw p) < Ws kd wt lk nt p (Hs nw q) from c), if_pos rfl] at h; exact h
    · rw [decide_eq_false (show ¬ Ws kd wt lk nt p (Hs nw p) < Ws kd wt lk nt p (Hs nw q) from c), if_neg (by decide)] at h; exact h
theorem e_envy (hP : PR np nt tk kd wt lk) (hM : MR np nt tk kd wt lk pe th la ki wo li) (hS : Sd np nt nw) (hR : RS nw now) (hZ : ∀ r, Z r r) : wp_X6_envy nw kd wt lk (nI np) (nI nt) (fun r1 => wp_X7_envy pe th ki wo li now (fun r2 => Z r1 r2)) := by
  have h5 := hP.2.1
  have plt : ∀ j, j < np → nI j < pe 0 := fun j hj => by rw [hM.1]; exact ltN hj (by omega)
  have pnl : ¬ nI np < pe 0 := by rw [hM.1]; exact nltN (Nat.le_refl _) (by omega)
  have inner : ∀ (p : Nat) (r0 : Int32), p < np → ∀ (m q : Nat), q + m = np → ∃ r : Int32, (∀ (Q k2 : Int32 → Prop), Q r → (Q r0 → k2 (nI (p + 1))) → L_X0_firstEnvy_13 kd wt lk (nI np) (nI nt) nw (nI p) Q k2 (m + 1) (nI q)) ∧ (∀ (Q k2 : Int32 → Prop), Q r → (Q r0 → k2 (nI (p + 1))) → L_X7_envy_14 pe th ki wo li now (nI p) Q k2 (m + 1) (nI q)) := by
    intro p r0 hp m
    induction m with
    | zero =>
      intro q hq
      rw [show q = np by omega]
      refine ⟨r0, fun Q k2 h hk => br_f (nltN (Nat.le_refl _) (by omega)) ?_, fun Q k2 h hk => br_f pnl ?_⟩
      · rw [nI_1]; exact hk h
      · rw [nI_1]; exact hk h
    | succ m ih =>
      intro q hq
      obtain ⟨r, i1, i2⟩ := ih (q + 1) (by omega)
      cases he : En kd wt lk nt nw p q with
      | true =>
        exact ⟨(10 * nI p) + nI q, fun Q k2 h hk => br_t (ltN (by omega) (by omega)) (s_envies hP hp (by rw [he]; exact br_f (by decide) h)), fun Q k2 h hk => br_t (plt q (by omega)) (s7_envies hP hM hS hR hp (by omega) (by rw [he]; exact br_f (by decide) h))⟩
      | false =>
        exact ⟨r, fun Q k2 h hk => br_t (ltN (by omega) (by omega)) (s_envies hP hp (by rw [he]; exact br_t rfl (by rw [nI_1]; exact i1 Q k2 h hk))), fun Q k2 h hk => br_t (plt q (by omega)) (s7_envies hP hM hS hR hp (by omega) (by rw [he]; exact br_t rfl (by rw [nI_1]; exact i2 Q k2 h hk)))⟩
  have outer : ∀ (m p : Nat), p + m = np → ∃ r : Int32, (∀ Q : Int32 → Prop, Q r → L_X0_firstEnvy_2 kd wt lk (nI np) (nI nt) nw Q (m + 1) (nI p)) ∧ (∀ Q : Int32 → Prop, Q r → L_X7_envy_2 pe th ki wo li now Q (m + 1) (nI p)) := by
    intro m
    induction m with
    | zero =>
      intro p hp
      rw [show p = np by omega]
      exact ⟨-4, fun Q h => br_f (nltN (Nat.le_refl _) (by omega)) h, fun Q h => br_f pnl h⟩
    | succ m ih =>
      intro p hp
      obtain ⟨r0, i1, i2⟩ := ih (p + 1) (by omega)
      obtain ⟨r, j1, j2⟩ := inner p r0 (by omega) np 0 (Nat.zero_add _)
      exact ⟨r, fun Q h => br_t (ltN (by omega) (by omega)) ⟨_, j1 Q _ h (fun z => i1 Q z)⟩, fun Q h => br_t (plt p (by omega)) ⟨_, j2 Q _ h (fun z => i2 Q z)⟩⟩
  obtain ⟨r, i1, i2⟩ := outer np 0 (Nat.zero_add _)
  exact ⟨np + 1, i1 _ ⟨np + 1, i2 _ (hZ _)⟩⟩
end Barter
