/-! wins, needs -/
section Wins
variable {np nt : Nat} {tk kd wt lk pe th la ki wo li nw now : Nat → Int32} {x1 x2 x3 : Int32} {Z : Int32 → Int32 → Prop}
/-- the hat and one's own tickets in it -/
theorem own_tk (hS : Sd np nt nw) (hnp : np ≤ 5) {p : Nat} (hp : p < np) : ∃ T v, v ≤ 9 ∧ v ≤ T ∧ T ≤ 45 ∧ hat nw = nI T ∧ nw p = nI v := by
  obtain ⟨tv, hc⟩ := tks hS
  have hle := tsum_le (tv := tv) (fun p hp => (hc p hp).1) 5 0 (by omega)
  refine ⟨tsum tv 0 5, tv p, (hc p (by omega)).1, ?_, by omega, hat_tsum (fun p hp => (hc p hp).2), (hc p (by omega)).2⟩
  show tv p ≤ tv 0 + (tv 1 + (tv 2 + (tv 3 + (tv 4 + 0))))
  rcases (show p = 0 ∨ p = 1 ∨ p = 2 ∨ p = 3 ∨ p = 4 by omega) with e | e | e | e | e <;> rw [e] <;> omega
theorem in_range {x lo hi : Int32} {Q : Int32 → Prop} (h : ((x < lo → Q 0) ∧ (¬ x < lo → (hi < x → Q 0) ∧ (¬ hi < x → Q 1)))) : wp_X7_in x lo hi Q := h
theorem FL45 {n m : Nat} (hn : n ≤ 45) (hm : m ≤ 6) : FL n m < 10000000000 := Nat.lt_of_le_of_lt (FL_le hn m) (pow45 m hm)
theorem nI_pos1 {x M : Int32} {n : Nat} (hM : M.toInt = n) (h1 : ¬ x < 1) (h2 : ¬ M < x) : ∃ y, 1 ≤ y ∧ y ≤ n ∧ x = nI y := by
  have e0 : (0 : Int32).toInt = 0 := by decide
  have e1 : (1 : Int32).toInt = 1 := by decide
  have h0 : ¬ x < 0 := fun q => h1 (by rw [fa_lt] at q ⊢; omega)
  obtain ⟨y, hy, ey⟩ := nI_of2 hM h0 (Int32.not_lt.mp h2)
  refine ⟨y, ?_, hy, ey⟩
  rcases Nat.lt_or_ge 0 y with q | q
  · exact q
  · exact absurd (by rw [ey, show y = 0 by omega]; decide) h1
theorem e_wins (hP : PR np nt tk kd wt lk) (hM : MR np nt tk kd wt lk pe th la ki wo li) (hS : Sd np nt nw) (hR : RS nw now) (hZ : ∀ r, Z r r) : wp_X6_wins nw (nI np) (nI nt) x1 x2 x3 (fun r1 => wp_X7_wins pe th now x1 x2 x3 (fun r2 => Z r1 r2)) := by
  have h5 := hP.2.1
  have h6 := hP.2.2.1
  rcases ofN x1 np (by omega) with ⟨p, hp, e⟩ | hx
  · rw [e]
    refine s_isPerson_t hp (by omega) (br_f (by decide) ?_)
    have k7 : ∀ {Q : Int32 → Prop}, Q 1 → wp_X7_isPerson pe (nI p) Q := fun h => s7_isPerson_t hM.1 hp (by omega) h
    refine br_c (fun c => k7 (br_f (by decide) (br_t c (br_t rfl (hZ _))))) (fun c => br_c (fun c2 => k7 (br_f (by decide) (br_f c (br_t c2 (br_t rfl (hZ _)))))) (fun c2 => ?_))
    have kin : ∀ {Q : Int32 → Prop}, Q 1 → wp_X7_in x2 1 6 Q := fun h => br_f c (br_f c2 h)
    obtain ⟨n, hn1, hn2, en⟩ := nI_pos1 (M := 6) (n := 6) (by decide) c c2
    refine s_isPart (fun hx3 => br_f (by decide) ?_) (fun hx3 => br_t rfl (k7 (br_f (by decide) (kin (br_f (by decide) (part_in (fun q => absurd q hx3) (fun _ => br_t rfl (hZ _))))))))
    have kpt : ∀ {Q : Int32 → Prop}, Q 1 → wp_X7_in x3 0 1 Q := fun h => part_in (fun _ => h) (fun q => absurd hx3 q)
    obtain ⟨T, v, hv9, hvT, hT, eT, ev⟩ := own_tk hS h5 hp
    obtain ⟨k, hk1, hk2⟩ := hS.2.2.2.1
    have hm11 : now 11 = nI k := by rw [hR.1 11 (by omega)]; exact hk2
    have hmT : hat now = nI T := by rw [hat_congr (c := now) (d := nw) (fun t ht => hR.1 t (by omega))]; exact eT
    have hmv : now p = nI v := by rw [hR.1 p (by omega)]; exact ev
    have hd : dr nt k n T ≤ 6 ∧ dr nt k n T ≤ T := by unfold dr; omega
    rw [en]
    refine s_tickets ?_
    rw [eT]
    refine s_drawsAhead hk1 h6 hk2 (by omega) (by omega) (s_falling (by omega) (by omega) (s_ticketsOf (by omega) ?_))
    rw [ev, pk_sub hvT]
    have hlost : FL (T - v) (dr nt k n T) ≤ FL T (dr nt k n T) := FL_mono (by omega) _
    have hway := FL45 hT hd.1
    have hpos := FL_pos hd.2
    refine s_falling (by omega) (by omega) ?_
    rw [lN_sub hlost]
    refine s_lowest (by omega) hpos (by omega) ?_
    rw [en] at kin
    refine k7 (br_f (by decide) (kin (br_f (by decide) (kpt (br_f (by decide) (s7_hatOf ?_))))))
    rw [hmT]
    refine s7_drawn hk1 h6 hM.2.1 hm11 (by omega) (by omega) (s7_rows (by omega) (by omega) ?_)
    rw [n0, cl (by omega), hmv, pk_sub hvT]
    refine ⟨inN (by omega) (by omega), s7_rows (by omega) (by omega) ?_⟩
    rw [lN_sub hlost]
    refine s7_common (by omega) (by omega) ?_
    obtain ⟨g0, g1⟩ := gcd_lt (x := FL T (dr nt k n T) - FL (T - v) (dr nt k n T)) hpos (by omega)
    have hne : ¬ lN (Nat.gcd (FL T (dr nt k n T) - FL (T - v) (dr nt k n T)) (FL T (dr nt k n T))) = 0 := fun q => by have := (pk_lEQ (b := 0) (by omega) (by omega)).mp q; omega
    unfold B_X7_wins_103 low
    refine br_c (fun c3 => ⟨hne, ?_⟩) (fun c3 => ⟨hne, ?_⟩)
    · rw [if_pos c3, pk_lDiv (by omega) (by omega) (by omega)]; exact hZ _
    · rw [if_neg c3, pk_lDiv (by omega) (by omega) (by omega)]; exact hZ _
  · exact s_isPerson_f hx (by omega) (br_t rfl (s7_isPerson_f hM.1 hx (by omega) (br_t rfl (hZ _))))
theorem e_needs (hP : PR np nt tk kd wt lk) (hM : MR np nt tk kd wt lk pe th la ki wo li) (hS : Sd np nt nw) (hR : RS nw now) (hZ : ∀ r, Z r r) : wp_X6_needs nw (nI np) (nI nt) x1 x2 x3 (fun r1 => wp_X7_needs pe th now x1 x2 x3 (fun r2 => Z r1 r2)) := by
  have h5 := hP.2.1
  have h6 := hP.2.2.1
  rcases ofN x1 np (by omega) with ⟨p, hp, e⟩ | hx
  · rw [e]
    refine s_isPerson_t hp (by omega) (br_f (by decide) ?_)
    have k7 : ∀ {Q : Int32 → Prop}, Q 1 → wp_X7_isPerson pe (nI p) Q := fun h => s7_isPerson_t hM.1 hp (by omega) h
    refine br_c (fun c => k7 (br_f (by decide) (br_t c (br_t rfl (hZ _))))) (fun c => br_c (fun c2 => k7 (br_f (by decide) (br_f c (br_t c2 (br_t rfl (hZ _)))))) (fun c2 => ?_))
    have kin : ∀ {Q : Int32 → Prop}, Q 1 → wp_X7_in x2 1 6 Q := fun h => br_f c (br_f c2 h)
    refine br_c (fun c3 => k7 (br_f (by decide) (kin (br_f (by decide) (br_t c3 (br_t rfl (hZ _))))))) (fun c3 => br_c (fun c4 => k7 (br_f (by decide) (kin (br_f (by decide) (br_f c3 (br_t c4 (br_t rfl (hZ _)))))))) (fun c4 => ?_))
    have kix : ∀ {Q : Int32 → Prop}, Q 1 → wp_X7_in x3 1 10 Q := fun h => br_f c3 (br_f c4 h)
    obtain ⟨n, hn1, hn2, en⟩ := nI_pos1 (M := 6) (n := 6) (by decide) c c2
    obtain ⟨T, v, hv9, hvT, hT, eT, ev⟩ := own_tk hS h5 hp
    obtain ⟨k, hk1, hk2⟩ := hS.2.2.2.1
    have hm11 : now 11 = nI k := by rw [hR.1 11 (by omega)]; exact hk2
    have hmT : hat now = nI T := by rw [hat_congr (c := now) (d := nw) (fun t ht => hR.1 t (by omega))]; exact eT
    have hmv : now p = nI v := by rw [hR.1 p (by omega)]; exact ev
    have hd : ∀ y, dr nt k n y ≤ 6 := fun y => by unfold dr; omega
    -- the test at 'own', in both
    have key : ∀ (m own : Nat), own + m = 10 → ∃ r : Int32, (∀ Q : Int32 → Prop, Q r → L_X6_needs_56 nw (nI np) (nI nt) (nI n) x3 (nI (T - v)) Q (m + 1) (nI own)) ∧ (∀ Q : Int32 → Prop, Q r → L_X7_needs_51 pe th now (nI n) x3 (nI (T - v)) Q (m + 1) (nI own)) := by
      intro m
      induction m with
      | zero =>
        intro own ho
        rw [show own = 10 by omega]
        exact ⟨-4, fun Q h => br_t (by decide) h, fun Q h => br_t (by decide) h⟩
      | succ m ih =>
        intro own ho
        obtain ⟨r, i1, i2⟩ := ih (own + 1) (by omega)
        have hn9 : ¬ 9 < nI own := nltN (a := 9) (by omega) (by omega)
        by_cases ht : lg_cmp (10 * (lN (FL (T - v + own) (dr nt k n (T - v + own))) - lN (FL (T - v) (dr nt k n (T - v + own))))) (Int32.toInt64 x3 * lN (FL (T - v + own) (dr nt k n (T - v + own)))) < 0
        · refine ⟨r, fun Q h => br_f hn9 ?_, fun Q h => br_f hn9 ?_⟩
          · rw [nI_add]
            refine s_drawsAhead hk1 h6 hk2 (by omega) (by omega) (s_falling (by omega) (by have := hd (T - v + own); omega) (s_falling (by omega) (by have := hd (T - v + own); omega) (br_t ht ?_)))
            rw [nI_1]; exact i1 Q h
          · rw [nI_add]
            refine s7_drawn hk1 h6 hM.2.1 hm11 (by omega) (by omega) (s7_rows (by omega) (by have := hd (T - v + own); omega) (s7_rows (by omega) (by have := hd (T - v + own); omega) (br_t ht ?_)))
            rw [nI_1]; exact i2 Q h
        · refine ⟨nI own, fun Q h => br_f hn9 ?_, fun Q h => br_f hn9 ?_⟩
          · rw [nI_add]
            exact s_drawsAhead hk1 h6 hk2 (by omega) (by omega) (s_falling (by omega) (by have := hd (T - v + own); omega) (s_falling (by omega) (by have := hd (T - v + own); omega) (br_f ht h)))
          · rw [nI_add]
            exact s7_drawn hk1 h6 hM.2.1 hm11 (by omega) (by omega) (s7_rows (by omega) (by have := hd (T - v + own); omega) (s7_rows (by omega) (by have := hd (T - v + own); omega) (br_f ht h)))
    obtain ⟨r, i1, i2⟩ := key 10 0 rfl
    rw [en]
    rw [en] at kin
    refine s_tickets (s_ticketsOf (by omega) ?_)
    rw [eT, ev, pk_sub hvT]
    refine ⟨11, i1 _ (k7 (br_f (by decide) (kin (br_f (by decide) (kix (br_f (by decide) (s7_hatOf ?_)))))))⟩
    rw [n0, cl (by omega), hmT, hmv, pk_sub hvT]
    exact ⟨inN (by omega) (by omega), 11, i2 _ (hZ _)⟩
  · exact s_isPerson_f hx (by omega) (br_t rfl (s7_isPerson_f hM.1 hx (by omega) (br_t rfl (hZ _))))
end Wins
