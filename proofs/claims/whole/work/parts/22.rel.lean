/-! THE RELATION between the class and the reference -/
/-- a parish, as the class holds it -/
def PR (np nt : Nat) (tk kd wt lk : Nat → Int32) : Prop := 1 ≤ np ∧ np ≤ 5 ∧ nt ≤ 6 ∧ (∀ p, p < 5 → ∃ v, v ≤ 9 ∧ tk p = nI v) ∧ (∀ p, np ≤ p → p < 5 → tk p = 0) ∧ (∀ t, t < nt → ∃ k, k ≤ 3 ∧ kd t = nI k) ∧ (∀ t, t < nt → ∃ v, v ≤ 30 ∧ wt t = nI v) ∧ (∀ k, k < 30 → ∃ v, v ≤ 30 ∧ lk k = nI v)
/-- the same one, as the reference holds it -/
def MR (np nt : Nat) (tk kd wt lk pe th la ki wo li : Nat → Int32) : Prop := pe 0 = nI np ∧ th 0 = nI nt ∧ (∀ p, p < 5 → la p = tk p) ∧ (∀ t, t < nt → ki t = kd t) ∧ (∀ t, t < nt → wo t = wt t) ∧ (∀ k, k < 30 → li k = lk k)
/-- a stand of the class: tickets, owners, next, what can be refused -/
def Sd (np nt : Nat) (c : Nat → Int32) : Prop := (∀ p, p < 5 → ∃ v, v ≤ 9 ∧ c p = nI v) ∧ (∀ p, np ≤ p → p < 5 → c p = 0) ∧ (∀ t, t < 6 → c (5 + t) = -4 ∨ (t < nt ∧ ∃ p, p < np ∧ c (5 + t) = nI p)) ∧ (∃ k, k ≤ nt ∧ c 11 = nI k) ∧ (c 13 = -4 ∨ ∃ k, k < nt ∧ c 11 = nI (k + 1) ∧ c 13 = nI k)
/-- a stand of both -/
def RS (c m : Nat → Int32) : Prop := (∀ k, k < 12 → m k = c k) ∧ m 13 = c 12 ∧ m 12 = (if c 13 = -4 then 0 else 1)
def W1 (kd wt lk : Nat → Int32) (nt p : Nat) (b : Nat → Bool) : Int32 := wv kd wt (fun t => lk (6 * p + t)) nt b
def hb (c : Nat → Int32) (p t : Nat) : Bool := decide (c (5 + t) = nI p)
theorem W1_congr {kd wt lk : Nat → Int32} {nt p : Nat} {b b' : Nat → Bool} (h : ∀ t, t < nt → b t = b' t) : W1 kd wt lk nt p b = W1 kd wt lk nt p b' := wv_congr (fun _ _ => rfl) (fun _ _ => rfl) (fun _ _ => rfl) h
section Reads
variable {np nt : Nat} {tk kd wt lk pe th la ki wo li nw now : Nat → Int32}
theorem s_w {p : Nat} {x2 : Int32} {b : Nat → Bool} {Q : Int32 → Prop} (hP : PR np nt tk kd wt lk) (hp : p < np) (hb : ∀ t, t < nt → bt x2 t = b t) (h : Q (W1 kd wt lk nt p b)) : wp_X2_worthTo kd wt lk (nI nt) (nI p) x2 Q := by
  obtain ⟨h1, h2, h3, -⟩ := hP
  exact s_worthTo h3 (by omega) (by rw [show wv kd wt (fun t => lk (6 * p + t)) nt (bt x2) = W1 kd wt lk nt p b from W1_congr hb]; exact h)
theorem s7_w {p : Nat} {x2 : Int32} {b : Nat → Bool} {Q : Int32 → Prop} (hP : PR np nt tk kd wt lk) (hM : MR np nt tk kd wt lk pe th la ki wo li) (hp : p < np) (hb : ∀ t, t < nt → bt x2 t = b t) (h : Q (W1 kd wt lk nt p b)) : wp_X7_worthOf th ki wo li (nI p) x2 Q := by
  obtain ⟨h1, h2, h3, h4, h5, h6, h7, h8⟩ := hP
  obtain ⟨m1, m2, m3, m4, m5, m6⟩ := hM
  refine s7_worthOf m2 h3 (by omega) (fun t ht => by rw [m4 t ht]; exact h6 t ht) ?_
  rw [show wv ki wo (fun t => li (6 * p + t)) nt (bt x2) = W1 kd wt lk nt p b from wv_congr m4 m5 (fun t ht => m6 _ (by omega)) hb]
  exact h
theorem sv_hb {c : Nat → Int32} {p m : Nat} (hm : m ≤ 31) : ∀ t, t < m → bt (sv c (nI p) m) t = hb c p t := fun t ht => by
  rw [sv_bits c (nI p) m hm t (by omega)]
  simp [hb, ht]
theorem hb_RS (hR : RS nw now) (p : Nat) : ∀ t, t < 6 → hb now p t = hb nw p t := fun t ht => by unfold hb; rw [hR.1 (5 + t) (by omega)]
/-- what all have is worth -/
def WA (kd wt lk : Nat → Int32) (np nt : Nat) (c : Nat → Int32) : Int32 := lp (fun p a => a + W1 kd wt lk nt p (hb c p)) 0 np 0
theorem WA_congr {c d : Nat → Int32} (hn : nt ≤ 6) (h : ∀ t, t < nt → c (5 + t) = d (5 + t)) : WA kd wt lk np nt c = WA kd wt lk np nt d := lp_congr np 0 0 (fun i a _ _ => by
  rw [W1_congr (b := hb c i) (b' := hb d i) (fun t ht => by unfold hb; rw [h t ht])])
theorem s_worthOfAll_now {Q : Int32 → Prop} (hP : PR np nt tk kd wt lk) (h : Q (WA kd wt lk np nt nw)) : wp_X6_worthOfAll_now nw kd wt lk (nI np) (nI nt) Q := by
  have h5 := hP.2.1
  have h6 := hP.2.2.1
  refine ⟨np + 1, lpx (fun n a j => L_X6_worthOfAll_now_4 nw kd wt lk (nI np) (nI nt) Q n a (nI j)) (fun p a => a + W1 kd wt lk nt p (hb nw p)) Q np (fun n a j hj hL => ?_) (fun n a hQ => ?_) np 0 0 (Nat.zero_add _) h⟩
  · refine br_t (ltN hj (by omega)) (s_setOf (s_w hP hj (fun t ht => sv_hb (by omega) t (by omega)) ?_))
    rw [nI_1]; exact hL
  · exact br_f (nltN (Nat.le_refl _) (by omega)) hQ
theorem s_worthOfAll_trial {Q : Int32 → Prop} (hP : PR np nt tk kd wt lk) (h : Q (WA kd wt lk np nt nw)) : wp_X6_worthOfAll_trial nw kd wt lk (nI np) (nI nt) Q := by
  have h5 := hP.2.1
  have h6 := hP.2.2.1
  refine ⟨np + 1, lpx (fun n a j => L_X6_worthOfAll_trial_4 nw kd wt lk (nI np) (nI nt) Q n a (nI j)) (fun p a => a + W1 kd wt lk nt p (hb nw p)) Q np (fun n a j hj hL => ?_) (fun n a hQ => ?_) np 0 0 (Nat.zero_add _) h⟩
  · refine br_t (ltN hj (by omega)) (s_setOf (s_w hP hj (fun t ht => sv_hb (by omega) t (by omega)) ?_))
    rw [nI_1]; exact hL
  · exact br_f (nltN (Nat.le_refl _) (by omega)) hQ
theorem s7_worthOfAll_now {Q : Int32 → Prop} (hP : PR np nt tk kd wt lk) (hM : MR np nt tk kd wt lk pe th la ki wo li) (h : Q (WA kd wt lk np nt now)) : wp_X7_worthOfAll_now pe th ki wo li now Q := by
  have h5 := hP.2.1
  have h6 := hP.2.2.1
  refine ⟨np + 1, lpx (fun n a j => L_X7_worthOfAll_now_4 pe th ki wo li now Q n a (nI j)) (fun p a => a + W1 kd wt lk nt p (hb now p)) Q np (fun n a j hj hL => ?_) (fun n a hQ => ?_) np 0 0 (Nat.zero_add _) h⟩
  · refine br_t (by rw [hM.1]; exact ltN hj (by omega)) (s7_hadBy_now hM.2.1 h6 (s7_w hP hM hj (fun t ht => sv_hb (by omega) t ht) ?_))
    rw [nI_1]; exact hL
  · exact br_f (by rw [hM.1]; exact nltN (Nat.le_refl _) (by omega)) hQ
theorem s7_worthOfAll_tried {Q : Int32 → Prop} (hP : PR np nt tk kd wt lk) (hM : MR np nt tk kd wt lk pe th la ki wo li) (h : Q (WA kd wt lk np nt now)) : wp_X7_worthOfAll_tried pe th ki wo li now Q := by
  have h5 := hP.2.1
  have h6 := hP.2.2.1
  refine ⟨np + 1, lpx (fun n a j => L_X7_worthOfAll_tried_4 pe th ki wo li now Q n a (nI j)) (fun p a => a + W1 kd wt lk nt p (hb now p)) Q np (fun n a j hj hL => ?_) (fun n a hQ => ?_) np 0 0 (Nat.zero_add _) h⟩
  · refine br_t (by rw [hM.1]; exact ltN hj (by omega)) (s7_hadBy_tried hM.2.1 h6 (s7_w hP hM hj (fun t ht => sv_hb (by omega) t ht) ?_))
    rw [nI_1]; exact hL
  · exact br_f (by rw [hM.1]; exact nltN (Nat.le_refl _) (by omega)) hQ
/-- the class's set is the reference's -/
theorem sv_both {p : Nat} (hp : p < np) (hP : PR np nt tk kd wt lk) (hS : Sd np nt nw) (hR : RS nw now) : sv nw (nI p) 6 = sv now (nI p) nt := by
  have h6 := hP.2.2.1
  rw [sv_6 h6 (c := nw) (fun t h1 h2 e => by
    rcases hS.2.2.1 t h2 with h | ⟨h, -⟩
    · have := hP.2.1
      exact nI_m4 (a := p) (by omega) (e.symm.trans h)
    · omega)]
  exact sv_congr (fun t ht => (hR.1 (5 + t) (by omega)).symm)
theorem e_person {x1 x2 : Int32} {Z : Int32 → Int32 → Prop} (hP : PR np nt tk kd wt lk) (hM : MR np nt tk kd wt lk pe th la ki wo li) (hS : Sd np nt nw) (hR : RS nw now) (hZ : ∀ r, Z r r) : wp_X6_person nw tk kd wt lk (nI np) (nI nt) x1 x2 (fun r1 => wp_X7_person pe th la ki wo li now x1 x2 (fun r2 => Z r1 r2)) := by
  have h5 := hP.2.1
  have h6 := hP.2.2.1
  rcases ofN x1 np (by omega) with ⟨p, hp, rfl⟩ | hx
  · refine s_isPerson_t hp (by omega) (br_f (by decide) ?_)
    have k : ∀ {r1 : Int32}, ((x2 = 0 → vp_in (0 + nI p) 14 ∧ Z r1 (now (Int32.toNatClampNeg (0 + nI p)))) ∧ (¬ x2 = 0 → (x2 = 1 → vp_in (nI p) 10 ∧ Z r1 (la (Int32.toNatClampNeg (nI p)))) ∧ (¬ x2 = 1 → (x2 = 2 → wp_X7_hadBy_now th now (nI p) (fun r17 => Z r1 r17)) ∧ (¬ x2 = 2 → (x2 = 3 → wp_X7_hadBy_now th now (nI p) (fun r22 => wp_X7_worthOf th ki wo li (nI p) r22 (fun r24 => Z r1 (r24 + 1000)))) ∧ (¬ x2 = 3 → Z r1 (-1)))))) → wp_X7_person pe th la ki wo li now (nI p) x2 (fun r2 => Z r1 r2) := fun h => s7_isPerson_t hM.1 hp (by omega) (br_f (by decide) h)
    refine br_c (fun c => s_ticketsOf (by omega) (k (br_t c ?_))) (fun c => br_c (fun c1 => ?_) (fun c1 => br_c (fun c2 => s_setOf (k (br_f c (br_f c1 (br_t c2 (s7_hadBy_now hM.2.1 h6 ?_)))))) (fun c2 => br_c (fun c3 => s_setOf (s_w hP hp (fun t ht => sv_hb (by omega) t (by omega)) (k (br_f c (br_f c1 (br_f c2 (br_t c3 (s7_hadBy_now hM.2.1 h6 (s7_w hP hM hp (fun t ht => (sv_hb (by omega) t ht).trans (hb_RS hR p t (by omega))) ?_))))))))) (fun c3 => k (br_f c (br_f c1 (br_f c2 (br_f c3 (hZ _)))))))))
    · rw [n0, cl (by omega), hR.1 p (by omega)]; exact ⟨inN (by omega) (by omega), hZ _⟩
    · refine ⟨inN (by omega) (by omega), ?_⟩
      rw [cl (by omega)]
      refine k (br_f c (br_t c1 ⟨inN (by omega) (by omega), ?_⟩))
      rw [cl (by omega), hM.2.2.1 p (by omega)]; exact hZ _
    · rw [← sv_both hp hP hS hR]; exact hZ _
    · rw [Int32.add_comm]; exact hZ _
  · exact s_isPerson_f hx (by omega) (br_t rfl (s7_isPerson_f hM.1 hx (by omega) (br_t rfl (hZ _))))
theorem e_likes {x1 x2 : Int32} {Z : Int32 → Int32 → Prop} (hP : PR np nt tk kd wt lk) (hM : MR np nt tk kd wt lk pe th la ki wo li) (hZ : ∀ r, Z r r) : wp_X6_likes lk (nI np) (nI nt) x1 x2 (fun r1 => wp_X7_likes pe th li x1 x2 (fun r2 => Z r1 r2)) := by
  have h5 := hP.2.1
  have h6 := hP.2.2.1
  rcases ofN x1 np (by omega) with ⟨p, hp, rfl⟩ | hx
  · refine s_isPerson_t hp (by omega) (br_f (by decide) ?_)
    rcases ofN x2 nt (by omega) with ⟨t, ht, rfl⟩ | hx2
    · refine s_isThing_t ht (by omega) (br_f (by decide) (s_likingOf (by omega) (by omega) (s7_isPerson_t hM.1 hp (by omega) (br_f (by decide) (s7_isThing_t hM.2.1 ht (by omega) (br_f (by decide) ?_))))))
      rw [m6, nI_add, cl (by omega), hM.2.2.2.2.2 _ (by omega)]
      exact ⟨inN (by omega) (by omega), hZ _⟩
    · exact s_isThing_f hx2 (by omega) (br_t rfl (s7_isPerson_t hM.1 hp (by omega) (br_f (by decide) (s7_isThing_f hM.2.1 hx2 (by omega) (br_t rfl (hZ _))))))
  · exact s_isPerson_f hx (by omega) (br_t rfl (s7_isPerson_f hM.1 hx (by omega) (br_t rfl (hZ _))))
/-- what can be refused, in both -/
theorem can_both (hS : Sd np nt nw) (hR : RS nw now) (h6 : nt ≤ 6) : (now 12 = 0 ∧ nw 13 = -4) ∨ ∃ k, k < nt ∧ now 12 = 1 ∧ now 11 = nI (k + 1) ∧ nw 11 = nI (k + 1) ∧ nw 13 = nI k := by
  rcases hS.2.2.2.2 with h | ⟨k, h1, h2, h3⟩
  · exact Or.inl ⟨by rw [hR.2.2, if_pos h], h⟩
  · exact Or.inr ⟨k, h1, by rw [hR.2.2, if_neg (by rw [h3]; exact nI_m4 (by omega))], by rw [hR.1 11 (by omega)]; exact h2, h2, h3⟩
theorem e_thing {x1 x2 : Int32} {Z : Int32 → Int32 → Prop} (hP : PR np nt tk kd wt lk) (hM : MR np nt tk kd wt lk pe th la ki wo li) (hS : Sd np nt nw) (hR : RS nw now) (hZ : ∀ r, Z r r) : wp_X6_thing nw kd wt (nI nt) x1 x2 (fun r1 => wp_X7_thing th ki wo now x1 x2 (fun r2 => Z r1 r2)) := by
  have h5 := hP.2.1
  have h6 := hP.2.2.1
  rcases ofN x1 nt (by omega) with ⟨t, ht, rfl⟩ | hx
  · refine s_isThing_t ht (by omega) (br_f (by decide) ?_)
    have k : ∀ {r1 : Int32}, ((x2 = 0 → vp_in (nI t) 12 ∧ Z r1 (ki (Int32.toNatClampNeg (nI t)))) ∧ (¬ x2 = 0 → (x2 = 1 → vp_in (nI t) 12 ∧ Z r1 (wo (Int32.toNatClampNeg (nI t)))) ∧ (¬ x2 = 1 → (x2 = 2 → vp_in (5 + nI t) 14 ∧ Z r1 (now (Int32.toNatClampNeg (5 + nI t)))) ∧ (¬ x2 = 2 → (x2 = 3 → (nI t < now 11 → Z r1 1) ∧ (¬ nI t < now 11 → Z r1 0)) ∧ (¬ x2 = 3 → (x2 = 4 → (nI t = now 11 - 1 → (now 12 = 1 → Z r1 1) ∧ (¬ now 12 = 1 → Z r1 0)) ∧ (¬ nI t = now 11 - 1 → Z r1 0)) ∧ (¬ x2 = 4 → Z r1 (-1))))))) → wp_X7_thing th ki wo now (nI t) x2 (fun r2 => Z r1 r2) := fun h => s7_isThing_t hM.2.1 ht (by omega) (br_f (by decide) h)
    refine br_c (fun c => ⟨inN (by omega) (by omega), k (br_t c ⟨inN (by omega) (by omega), ?_⟩)⟩) (fun c => br_c (fun c1 => ⟨inN (by omega) (by omega), k (br_f c (br_t c1 ⟨inN (by omega) (by omega), ?_⟩))⟩) (fun c1 => br_c (fun c2 => s_ownerOf (by omega) (k (br_f c (br_f c1 (br_t c2 ?_))))) (fun c2 => br_c (fun c3 => ?_) (fun c3 => br_c (fun c4 => ?_) (fun c4 => k (br_f c (br_f c1 (br_f c2 (br_f c3 (br_f c4 (hZ _)))))))))))
    · rw [cl (by omega), hM.2.2.2.1 t ht]; exact hZ _
    · rw [cl (by omega), hM.2.2.2.2.1 t ht]; exact hZ _
    · rw [n5, cl (by omega), hR.1 (5 + t) (by omega)]; exact ⟨inN (by omega) (by omega), hZ _⟩
    · have e := hR.1 11 (by omega)
      exact br_c (fun q => k (br_f c (br_f c1 (br_f c2 (br_t c3 (br_t (by rw [e]; exact q) (hZ _))))))) (fun q => k (br_f c (br_f c1 (br_f c2 (br_t c3 (br_f (by rw [e]; exact q) (hZ _)))))))
    · rcases can_both hS hR h6 with ⟨a1, a2⟩ | ⟨j, a0, a1, a2, a3, a4⟩
      · refine br_f (fun q => nI_m4 (a := t) (by omega) (q.trans a2)) (k (br_f c (br_f c1 (br_f c2 (br_f c3 (br_t c4 (br_c (fun _ => br_f (by rw [a1]; decide) (hZ _)) (fun _ => hZ _))))))))
      · have e2 : now 11 - 1 = nI j := by rw [a2, nI_pred]
        refine br_c (fun q => k (br_f c (br_f c1 (br_f c2 (br_f c3 (br_t c4 (br_t (by rw [e2, ← a4]; exact q) (br_t a1 (hZ _))))))))) (fun q => k (br_f c (br_f c1 (br_f c2 (br_f c3 (br_t c4 (br_f (by rw [e2, ← a4]; exact q) (hZ _)))))))) 
  · exact s_isThing_f hx (by omega) (br_t rfl (s7_isThing_f hM.2.1 hx (by omega) (br_t rfl (hZ _))))
end Reads
