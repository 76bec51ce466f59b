/-! what one has (bits), how many things are had, the hat; the reference's worth -/
def sv (c : Nat → Int32) (x : Int32) (m : Nat) : Int32 := lp (fun t a => if c (5 + t) = x then a ||| (1 <<< (nI t &&& 31)) else a) 0 m 0
def ov (c : Nat → Int32) (m : Nat) : Int32 := lp (fun t a => if c (5 + t) = -4 then a else a ||| (1 <<< (nI t &&& 31))) 0 m 0
def hc (c : Nat → Int32) (m : Nat) : Int32 := lp (fun t a => if c (5 + t) = -4 then a else a + 1) 0 m 0
def hat (c : Nat → Int32) : Int32 := lp (fun p a => a + c p) 0 5 0
theorem or0 (x : Int32) : x ||| 0 = x := b_ext (fun i _ => by rw [b_or, b_0]; simp)
theorem sv_bits (c : Nat → Int32) (x : Int32) : ∀ m, m ≤ 31 → ∀ i, i < 32 → bt (sv c x m) i = decide (i < m ∧ c (5 + i) = x) := by
  intro m
  induction m with
  | zero => intro _ i hi; show bt 0 i = _; rw [b_0]; simp
  | succ m ih =>
    intro hm i hi
    have e : sv c x (m + 1) = if c (5 + m) = x then sv c x m ||| (1 <<< (nI m &&& 31)) else sv c x m := by
      unfold sv; rw [lp_app _ m 1, Nat.zero_add]; rfl
    rw [e]
    by_cases hc : c (5 + m) = x
    · rw [if_pos hc, b_or, ih (by omega) i hi, b_bit (by omega) hi]
      by_cases him : i = m
      · subst him; simp [hc]
      · have : (i < m + 1) ↔ i < m := by omega
        simp [him, this]
    · rw [if_neg hc, ih (by omega) i hi]
      by_cases him : i = m
      · subst him; simp [hc]
      · have : (i < m + 1) ↔ i < m := by omega
        simp [this]
theorem sv_6 {c : Nat → Int32} {x : Int32} {nt : Nat} (hn : nt ≤ 6) (h : ∀ t, nt ≤ t → t < 6 → c (5 + t) ≠ x) : sv c x 6 = sv c x nt := by
  have e : (6 : Nat) = nt + (6 - nt) := by omega
  unfold sv
  rw [e, lp_app, Nat.zero_add]
  exact lp_id _ _ _ _ (fun i a h1 h2 => if_neg (h i h1 (by omega)))
theorem sv_congr {c d : Nat → Int32} {x : Int32} {m : Nat} (h : ∀ t, t < m → c (5 + t) = d (5 + t)) : sv c x m = sv d x m := lp_congr m 0 0 (fun i a _ h2 => by rw [h i (by omega)])
theorem hc_6 {c : Nat → Int32} {nt : Nat} (hn : nt ≤ 6) (h : ∀ t, nt ≤ t → t < 6 → c (5 + t) = -4) : hc c 6 = hc c nt := by
  have e : (6 : Nat) = nt + (6 - nt) := by omega
  unfold hc
  rw [e, lp_app, Nat.zero_add]
  exact lp_id _ _ _ _ (fun i a h1 h2 => if_pos (h i h1 (by omega)))
theorem hc_congr {c d : Nat → Int32} {m : Nat} (h : ∀ t, t < m → c (5 + t) = d (5 + t)) : hc c m = hc d m := lp_congr m 0 0 (fun i a _ h2 => by rw [h i (by omega)])
theorem hat_congr {c d : Nat → Int32} (h : ∀ t, t < 5 → c t = d t) : hat c = hat d := lp_congr 5 0 0 (fun i a _ h2 => by rw [h i (by omega)])
theorem s_ownerOf {c : Nat → Int32} {t : Nat} {Q : Int32 → Prop} (ht : t < 6) (h : Q (c (5 + t))) : wp_X3_ownerOf c (nI t) Q := by
  unfold wp_X3_ownerOf; rw [n5, cl (by omega)]; exact ⟨inN (by omega) (by omega), h⟩
theorem s_ticketsOf {c : Nat → Int32} {p : Nat} {Q : Int32 → Prop} (hp : p < 5) (h : Q (c p)) : wp_X3_ticketsOf c (nI p) Q := by
  unfold wp_X3_ticketsOf; rw [cl (by omega)]; exact ⟨inN (by omega) (by omega), h⟩
theorem s_setOf {c : Nat → Int32} {x : Int32} {Q : Int32 → Prop} (h : Q (sv c x 6)) : wp_X3_setOf c x Q := by
  refine ⟨7, lpx (fun n a j => L_X3_setOf_4 c x Q n a (nI j)) (fun t a => if c (5 + t) = x then a ||| (1 <<< (nI t &&& 31)) else a) Q 6 (fun n a j hj hL => ?_) (fun n a hQ => ?_) 6 0 0 rfl h⟩
  · refine br_t (ltN (b := 6) hj (by omega)) (s_ownerOf hj ?_)
    rw [nI_1]
    exact br_c (fun k => by simpa [k] using hL) (fun k => by simpa [k] using hL)
  · exact br_f (nltN (Nat.le_refl _) (by omega)) hQ
theorem s_ownedSet {c : Nat → Int32} {Q : Int32 → Prop} (h : Q (ov c 6)) : wp_X3_ownedSet c Q := by
  refine ⟨7, lpx (fun n a j => L_X3_ownedSet_4 c Q n a (nI j)) (fun t a => if c (5 + t) = -4 then a else a ||| (1 <<< (nI t &&& 31))) Q 6 (fun n a j hj hL => ?_) (fun n a hQ => ?_) 6 0 0 rfl h⟩
  · refine br_t (ltN (b := 6) hj (by omega)) (s_ownerOf hj ?_)
    rw [nI_1]
    exact br_c (fun k => by simpa [k] using hL) (fun k => by simpa [k] using hL)
  · exact br_f (nltN (Nat.le_refl _) (by omega)) hQ
theorem s_tickets {c : Nat → Int32} {Q : Int32 → Prop} (h : Q (hat c)) : wp_X3_tickets c Q := by
  refine ⟨6, lpx (fun n a j => L_X3_tickets_4 c Q n a (nI j)) (fun p a => a + c p) Q 5 (fun n a j hj hL => ?_) (fun n a hQ => ?_) 5 0 0 rfl h⟩
  · refine br_t (ltN (b := 5) hj (by omega)) ⟨inN (by omega) (by omega), ?_⟩
    rw [nI_1, cl (by omega)]; exact hL
  · exact br_f (nltN (Nat.le_refl _) (by omega)) hQ
theorem s7_hatOf {c : Nat → Int32} {Q : Int32 → Prop} (h : Q (hat c)) : wp_X7_hatOf c Q := by
  refine ⟨6, lpx (fun n a j => L_X7_hatOf_4 c Q n a (nI j)) (fun p a => a + c p) Q 5 (fun n a j hj hL => ?_) (fun n a hQ => ?_) 5 0 0 rfl h⟩
  · refine br_t (ltN (b := 5) hj (by omega)) ?_
    rw [nI_1, n0, cl (by omega)]; exact ⟨inN (by omega) (by omega), hL⟩
  · exact br_f (nltN (Nat.le_refl _) (by omega)) hQ
theorem s7_hadBy_now {th c : Nat → Int32} {nt : Nat} {x : Int32} {Q : Int32 → Prop} (he : th 0 = nI nt) (hn : nt ≤ 6) (h : Q (sv c x nt)) : wp_X7_hadBy_now th c x Q := by
  refine ⟨nt + 1, lpx (fun n a j => L_X7_hadBy_now_5 th c x Q n a (nI j)) (fun t a => if c (5 + t) = x then a ||| (1 <<< (nI t &&& 31)) else a) Q nt (fun n a j hj hL => ?_) (fun n a hQ => ?_) nt 0 0 (Nat.zero_add _) h⟩
  · refine br_t (by rw [he]; exact ltN hj (by omega)) ?_
    rw [n5, cl (by omega)]
    refine ⟨inN (by omega) (by omega), br_c (fun k => ?_) (fun k => ?_)⟩
    · unfold B_X7_hadBy_now_35; rw [nI_1]; simpa [k] using hL
    · unfold B_X7_hadBy_now_35; rw [nI_1, or0]; simpa [k] using hL
  · exact br_f (by rw [he]; exact nltN (Nat.le_refl _) (by omega)) hQ
theorem s7_hadBy_tried {th c : Nat → Int32} {nt : Nat} {x : Int32} {Q : Int32 → Prop} (he : th 0 = nI nt) (hn : nt ≤ 6) (h : Q (sv c x nt)) : wp_X7_hadBy_tried th c x Q := by
  refine ⟨nt + 1, lpx (fun n a j => L_X7_hadBy_tried_5 th c x Q n a (nI j)) (fun t a => if c (5 + t) = x then a ||| (1 <<< (nI t &&& 31)) else a) Q nt (fun n a j hj hL => ?_) (fun n a hQ => ?_) nt 0 0 (Nat.zero_add _) h⟩
  · refine br_t (by rw [he]; exact ltN hj (by omega)) ?_
    rw [n5, cl (by omega)]
    refine ⟨inN (by omega) (by omega), br_c (fun k => ?_) (fun k => ?_)⟩
    · unfold B_X7_hadBy_tried_35; rw [nI_1]; simpa [k] using hL
    · unfold B_X7_hadBy_tried_35; rw [nI_1, or0]; simpa [k] using hL
  · exact br_f (by rw [he]; exact nltN (Nat.le_refl _) (by omega)) hQ
theorem s7_thingsHad_now {th c : Nat → Int32} {nt : Nat} {Q : Int32 → Prop} (he : th 0 = nI nt) (hn : nt ≤ 6) (h : Q (hc c nt)) : wp_X7_thingsHad_now th c Q := by
  refine ⟨nt + 1, lpx (fun n a j => L_X7_thingsHad_now_4 th c Q n a (nI j)) (fun t a => if c (5 + t) = -4 then a else a + 1) Q nt (fun n a j hj hL => ?_) (fun n a hQ => ?_) nt 0 0 (Nat.zero_add _) h⟩
  · refine br_t (by rw [he]; exact ltN hj (by omega)) ?_
    rw [n5, cl (by omega)]
    refine ⟨inN (by omega) (by omega), br_c (fun k => ?_) (fun k => ?_)⟩
    · unfold B_X7_thingsHad_now_30; rw [nI_1]; simpa [k] using hL
    · unfold B_X7_thingsHad_now_30; rw [nI_1]; simpa [k] using hL
  · exact br_f (by rw [he]; exact nltN (Nat.le_refl _) (by omega)) hQ
theorem s7_thingsHad_tried {th c : Nat → Int32} {nt : Nat} {Q : Int32 → Prop} (he : th 0 = nI nt) (hn : nt ≤ 6) (h : Q (hc c nt)) : wp_X7_thingsHad_tried th c Q := by
  refine ⟨nt + 1, lpx (fun n a j => L_X7_thingsHad_tried_4 th c Q n a (nI j)) (fun t a => if c (5 + t) = -4 then a else a + 1) Q nt (fun n a j hj hL => ?_) (fun n a hQ => ?_) nt 0 0 (Nat.zero_add _) h⟩
  · refine br_t (by rw [he]; exact ltN hj (by omega)) ?_
    rw [n5, cl (by omega)]
    refine ⟨inN (by omega) (by omega), br_c (fun k => ?_) (fun k => ?_)⟩
    · unfold B_X7_thingsHad_tried_30; rw [nI_1]; simpa [k] using hL
    · unfold B_X7_thingsHad_tried_30; rw [nI_1]; simpa [k] using hL
  · exact br_f (by rw [he]; exact nltN (Nat.le_refl _) (by omega)) hQ
/-- bitCount of what is had is how many things are had -/
theorem s_ownedThings {c : Nat → Int32} {Q : Int32 → Prop} (h : Q (hc c 6)) : wp_X3_ownedThings c Q := by
  refine s_ownedSet ?_
  unfold wp_J6_bitCount_0f7a4
  refine sb_at (y := hc c 6) ?_ h
  unfold ov hc
  simp only [lp]
  by_cases h0 : c (5 + 0) = -4 <;> by_cases h1 : c (5 + (0 + 1)) = -4 <;> by_cases h2 : c (5 + (0 + 1 + 1)) = -4 <;> by_cases h3 : c (5 + (0 + 1 + 1 + 1)) = -4 <;> by_cases h4 : c (5 + (0 + 1 + 1 + 1 + 1)) = -4 <;> by_cases h5 : c (5 + (0 + 1 + 1 + 1 + 1 + 1)) = -4 <;> simp only [h0, h1, h2, h3, h4, h5, if_true, if_false] <;> decide +kernel
theorem s_has_t {x : Int32} {t : Nat} {Q : Int32 → Prop} (ht : t < 32) (hb : bt x t = true) (h : Q 1) : wp_X7_has x (nI t) Q := br_t ((bit1_1 x ht).mpr hb) h
theorem s_has_f {x : Int32} {t : Nat} {Q : Int32 → Prop} (ht : t < 32) (hb : bt x t = false) (h : Q 0) : wp_X7_has x (nI t) Q := br_f (fun e => by rw [(bit1_1 x ht).mp e] at hb; cases hb) h
theorem s7_worthOf {th kd wt lk : Nat → Int32} {nt p : Nat} {x2 : Int32} {Q : Int32 → Prop} (he : th 0 = nI nt) (hn : nt ≤ 6) (hp : p < 5) (hk : ∀ t, t < nt → ∃ k, k ≤ 3 ∧ kd t = nI k) (h : Q (wv kd wt (fun t => lk (6 * p + t)) nt (bt x2))) : wp_X7_worthOf th kd wt lk (nI p) x2 Q := by
  obtain ⟨g, hg1, hg2⟩ := cntk_le kd (bt x2) 0 nt
  have hlt : ∀ j, j < nt → nI j < th 0 := fun j hj => by rw [he]; exact ltN hj (by omega)
  have hnl : ¬ nI nt < th 0 := by rw [he]; exact nltN (Nat.le_refl _) (by omega)
  have second : ∃ n, L_X7_worthOf_88 th kd wt lk (nI p) x2 (cntk kd (bt x2) 0 nt) (cntk kd (bt x2) 3 nt) Q n 0 0 := by
    refine ⟨nt + 1, lpx (fun n a j => L_X7_worthOf_88 th kd wt lk (nI p) x2 (cntk kd (bt x2) 0 nt) (cntk kd (bt x2) 3 nt) Q n a (nI j)) (fun t s => if bt x2 t = true then s + (lk (6 * p + t) + ownw kd wt (cntk kd (bt x2) 0 nt) (cntk kd (bt x2) 3 nt) t) else s) Q nt (fun n a j hj hL => ?_) (fun n a hQ => ?_) nt 0 0 (Nat.zero_add _) h⟩
    · refine br_t (hlt j hj) ?_
      cases hb : bt x2 j with
      | false =>
        refine s_has_f (by omega) hb (br_t rfl ?_)
        rw [nI_1]; simpa [hb] using hL
      | true =>
        refine s_has_t (by omega) hb (br_f (by decide) ?_)
        have hi : vp_in (nI j) 12 := inN (by omega) (by omega)
        obtain ⟨k, hk1, hk2⟩ := hk j hj
        rw [cl (by omega)]
        simp only [B_X7_worthOf_134, B_X7_worthOf_138, B_X7_worthOf_139, B_X7_worthOf_168, B_X7_worthOf_172, B_X7_worthOf_173, B_X7_worthOf_221]
        rw [m6, nI_add, cl (by omega), cl (by omega), nI_1]
        have hi2 : vp_in (nI (6 * p + j)) 60 := inN (by omega) (by omega)
        simp only [hb, if_true] at hL
        have hz : ∀ y : Int32, (lk (6 * p + j) + y = lk (6 * p + j) + ownw kd wt (cntk kd (bt x2) 0 nt) (cntk kd (bt x2) 3 nt) j) → L_X7_worthOf_88 th kd wt lk (nI p) x2 (cntk kd (bt x2) 0 nt) (cntk kd (bt x2) 3 nt) Q n (a + (lk (6 * p + j) + y)) (nI (j + 1)) := fun y e => by rw [e]; exact hL
        unfold ownw at hz
        have c01 : ¬ (0 : Int32) = 1 := by decide
        have c02 : ¬ (0 : Int32) = 2 := by decide
        have c03 : ¬ (0 : Int32) = 3 := by decide
        have c10 : ¬ (1 : Int32) = 0 := by decide
        have c12 : ¬ (1 : Int32) = 2 := by decide
        have c13 : ¬ (1 : Int32) = 3 := by decide
        have c20 : ¬ (2 : Int32) = 0 := by decide
        have c21 : ¬ (2 : Int32) = 1 := by decide
        have c23 : ¬ (2 : Int32) = 3 := by decide
        have c30 : ¬ (3 : Int32) = 0 := by decide
        have c31 : ¬ (3 : Int32) = 1 := by decide
        have c32 : ¬ (3 : Int32) = 2 := by decide
        rcases (show k = 0 ∨ k = 1 ∨ k = 2 ∨ k = 3 by omega) with rfl | rfl | rfl | rfl
        · have e : kd j = 0 := hk2
          rw [e] at hz ⊢
          simp only [c01, c02, c03, if_true, not_false_eq_true, forall_const, false_implies, true_and, and_true, not_true_eq_false, hi, hi2, true_implies] at hz ⊢
          exact ⟨fun c => absurd c c10, fun _ => hz _ rfl⟩
        · have e : kd j = 1 := hk2
          rw [e] at hz ⊢
          simp only [c10, c12, c13, if_true, if_false, not_false_eq_true, forall_const, false_implies, true_and, and_true, not_true_eq_false, hi, hi2, true_implies] at hz ⊢
          exact hz _ rfl
        · have e : kd j = 2 := hk2
          rw [e, hg2] at hz ⊢
          rw [hg2] at *
          simp only [c20, c21, c23, if_true, if_false, not_false_eq_true, forall_const, false_implies, true_and, and_true, not_true_eq_false, hi, hi2, true_implies] at hz ⊢
          by_cases h0 : g = 0
          · subst h0
            have q1 : nI 0 = 0 := rfl
            have q2 : ¬ (0 : Int32) < nI 0 := by decide
            have q3 : ¬ (0 : Int32) < 0 := by decide
            simp only [q1, q3, if_false, forall_const, true_implies, not_true_eq_false, false_implies, and_true] at hz ⊢
            exact ⟨fun c => absurd c c10, fun _ => hz _ rfl⟩
          · have q1 : ¬ nI g = 0 := nI_ne0 (by omega) (by omega)
            have q2 : (0 : Int32) < nI g := ltN (a := 0) (by omega) (by omega)
            simp only [q1, q2, if_true, forall_const, true_implies, not_false_eq_true, false_implies, true_and] at hz ⊢
            exact hz _ rfl
        · have e : kd j = 3 := hk2
          rw [e] at hz ⊢
          simp only [c30, c31, c32, if_true, if_false, not_false_eq_true, forall_const, false_implies, true_and, and_true, not_true_eq_false, hi, hi2, true_implies] at hz ⊢
          exact br_c (fun c => by simp only [c, if_true] at hz; exact ⟨fun c => absurd c c10, fun _ => hz _ rfl⟩) (fun c => by simp only [c, if_false] at hz; exact hz _ rfl)
    · exact br_f hnl hQ
  refine ⟨nt + 1, lpx (fun n (a : Int32 × Int32) j => L_X7_worthOf_11 th kd wt lk (nI p) x2 0 Q n a.1 a.2 (nI j)) (fun t q => ((if bt x2 t = true ∧ kd t = 0 then q.1 + 1 else q.1), (if bt x2 t = true ∧ kd t = 3 then q.2 + 1 else q.2))) (fun q => ∃ n, L_X7_worthOf_88 th kd wt lk (nI p) x2 q.1 q.2 Q n 0 0) nt (fun n a j hj hL => ?_) (fun n a hQ => ?_) nt 0 (0, 0) (Nat.zero_add _) ?_⟩
  · refine br_t (hlt j hj) ?_
    have hi : vp_in (nI j) 12 := inN (by omega) (by omega)
    simp only [B_X7_worthOf_46, B_X7_worthOf_47, B_X7_worthOf_75, B_X7_worthOf_76]
    rw [nI_1, cl (by omega)]
    cases hb : bt x2 j with
    | false =>
      refine s_has_f (by omega) hb (br_t rfl (s_has_f (by omega) hb (br_t rfl ?_)))
      simpa [hb] using hL
    | true =>
      refine s_has_t (by omega) hb (br_f (by decide) ⟨hi, br_c (fun c => ?_) (fun c => ?_)⟩)
      · refine s_has_t (by omega) hb (br_f (by decide) ⟨hi, br_c (fun c2 => ?_) (fun c2 => ?_)⟩)
        · exact absurd (c.symm.trans c2) (by decide)
        · simpa [hb, c, c2] using hL
      · refine s_has_t (by omega) hb (br_f (by decide) ⟨hi, br_c (fun c2 => ?_) (fun c2 => ?_)⟩)
        · simpa [hb, c, c2] using hL
        · simpa [hb, c, c2] using hL
  · exact br_f hnl hQ
  · rw [lp_pair (fun t (a : Int32) => if bt x2 t = true ∧ kd t = 0 then a + 1 else a) (fun t (a : Int32) => if bt x2 t = true ∧ kd t = 3 then a + 1 else a)]
    exact second
