/-! mean -/
def pop (s : Nat) : Nat := s % 2 + s / 2 % 2 + s / 4 % 2 + s / 8 % 2 + s / 16 % 2 + s / 32 % 2
theorem pop_add : ∀ m, m < 6 → ∀ s, s < 2 ^ m → pop (2 ^ m + s) = pop s + 1 := by decide +kernel
theorem pop_le : ∀ m, m < 7 → ∀ s, s < 2 ^ m → pop s ≤ m := by decide +kernel
theorem bc0 : ∀ s, s < 64 → wp_J6_bitCount_0f7a4 (nI s) (fun r => r = nI (pop s)) := by
  unfold wp_J6_bitCount_0f7a4
  decide +kernel
theorem s_bitCount {s : Nat} {Q : Int32 → Prop} (hs : s < 64) (h : Q (nI (pop s))) : wp_J6_bitCount_0f7a4 (nI s) Q := by
  have e := bc0 s hs
  unfold wp_J6_bitCount_0f7a4 at e ⊢
  rw [e]
  exact h
theorem bo0 : ∀ s, s < 64 → lp (fun j (a : Int32) => a + ((nI s >>> (nI j &&& 31)) &&& 1)) 0 8 0 = nI (pop s) := by decide +kernel
theorem s7_bitsOf {s : Nat} {Q : Int32 → Prop} (hs : s < 64) (h : Q (nI (pop s))) : wp_X7_bitsOf (nI s) Q := by
  refine ⟨9, lpx (fun n a j => L_X7_bitsOf_4 (nI s) Q n a (nI j)) (fun j a => a + ((nI s >>> (nI j &&& 31)) &&& 1)) Q 8 (fun n a j hj hL => ?_) (fun n a hQ => ?_) 8 0 0 rfl ?_⟩
  · refine br_t (ltN (b := 8) hj (by omega)) ?_
    rw [nI_1]; exact hL
  · exact br_f (nltN (b := 8) (Nat.le_refl _) (by omega)) hQ
  · rw [bo0 s hs]; exact h
theorem shl1 : ∀ m, m < 7 → (1 : Int32) <<< (nI m &&& 31) = nI (2 ^ m) := by decide +kernel
theorem pow64 : ∀ m, m < 7 → 2 ^ m ≤ 64 := by decide
theorem fb_sm_mulr (f : Nat → Nat) (c : Nat) : ∀ n, fb_sm (fun k => f k * c) n = fb_sm f n * c
  | 0 => (Nat.zero_mul c).symm
  | n + 1 => by rw [fb_sm_succ, fb_sm_succ, fb_sm_mulr f c n, Nat.add_mul]
theorem FL_succ (n m : Nat) : FL n (m + 1) = FL n m * (n - m) := rfl
/-- each way to draw m tickets, by which of them are one's own -/
theorem vand (v u : Nat) : ∀ m, m < 7 → fb_sm (fun s => FL v (pop s) * FL u (m - pop s)) (2 ^ m) = FL (v + u) m := by
  intro m
  induction m with
  | zero => intro _; rfl
  | succ m ih =>
    intro hm
    have i1 := ih (by omega)
    rw [show (2 : Nat) ^ (m + 1) = 2 ^ m + 2 ^ m by rw [Nat.pow_succ]; omega, fb_sm_split]
    rw [fb_sm_cong (f := fun k => FL v (pop (2 ^ m + k)) * FL u (m + 1 - pop (2 ^ m + k))) (g := fun s => FL v (pop s + 1) * FL u (m - pop s)) (fun s hs => by
      rw [pop_add m (by omega) s hs, show m + 1 - (pop s + 1) = m - pop s by omega])]
    rw [← fb_sm_add]
    rw [fb_sm_cong (g := fun s => (FL v (pop s) * FL u (m - pop s)) * (v + u - m)) (fun s hs => by
      have hp := pop_le m (by omega) s hs
      rw [show m + 1 - pop s = (m - pop s) + 1 by omega, FL_succ, FL_succ]
      rcases Nat.lt_or_ge v (pop s) with q | q
      · rw [FL_zero q]; simp
      · rcases Nat.lt_or_ge u (m - pop s) with q2 | q2
        · rw [FL_zero q2]; simp
        · rw [show v + u - m = (u - (m - pop s)) + (v - pop s) by omega, Nat.mul_add]
          congr 1
          · rw [Nat.mul_assoc]
          · simp only [Nat.mul_assoc, Nat.mul_comm, Nat.mul_left_comm])]
    rw [fb_sm_mulr, i1]
    rfl
/-- what a set of things is worth is small -/
theorem W1_bd {np nt p : Nat} {tk kd wt lk : Nat → Int32} (hP : PR np nt tk kd wt lk) (hp : p < np) (b : Nat → Bool) : -360 ≤ (W1 kd wt lk nt p b).toInt ∧ (W1 kd wt lk nt p b).toInt ≤ 360 := by
  obtain ⟨h1, h2, h3, h4, h5, h6, h7, h8⟩ := hP
  unfold W1 wv
  dsimp only
  have := lp_inv (fun t (s : Int32) => if b t = true then s + (lk (6 * p + t) + ownw kd wt (cntk kd b 0 nt) (cntk kd b 3 nt) t) else s) (fun j a => -(60 * (j : Int)) ≤ a.toInt ∧ a.toInt ≤ 60 * (j : Int)) nt 0 0 (by decide) (fun i a _ hi hI => by
    have hc : ((i + 1 : Nat) : Int) = (i : Int) + 1 := rfl
    by_cases hb : b i = true
    · rw [if_pos hb]
      obtain ⟨l, hl, el⟩ := h8 (6 * p + i) (by omega)
      obtain ⟨w, hw, ew⟩ := h7 i (by omega)
      have el2 : (lk (6 * p + i)).toInt = (l : Int) := by rw [el]; exact nI_toInt (by omega)
      have ew2 : (wt i).toInt = (w : Int) := by rw [ew]; exact nI_toInt (by omega)
      have en2 : (-(wt i)).toInt = -(w : Int) := by rw [fb_negI (by omega), ew2]
      have e0 : (0 : Int32).toInt = 0 := by decide
      have ho : -30 ≤ (ownw kd wt (cntk kd b 0 nt) (cntk kd b 3 nt) i).toInt ∧ (ownw kd wt (cntk kd b 0 nt) (cntk kd b 3 nt) i).toInt ≤ 30 := by
        unfold ownw
        split
        · omega
        · split
          · omega
          · split
            · split <;> omega
            · split <;> omega
      have e1 : (lk (6 * p + i) + ownw kd wt (cntk kd b 0 nt) (cntk kd b 3 nt) i).toInt = (lk (6 * p + i)).toInt + (ownw kd wt (cntk kd b 0 nt) (cntk kd b 3 nt) i).toInt := fb_addI (by omega) (by omega)
      have e2 : (a + (lk (6 * p + i) + ownw kd wt (cntk kd b 0 nt) (cntk kd b 3 nt) i)).toInt = a.toInt + (lk (6 * p + i) + ownw kd wt (cntk kd b 0 nt) (cntk kd b 3 nt) i).toInt := fb_addI (by omega) (by omega)
      omega
    · rw [if_neg hb]; omega)
  rw [Nat.zero_add] at this
  omega
theorem lift1000 {w : Int32} (h1 : -360 ≤ w.toInt) (h2 : w.toInt ≤ 360) : ∃ n, 640 ≤ n ∧ n ≤ 1360 ∧ w + 1000 = nI n ∧ Int32.toInt64 w + 1000 = lN n := by
  have e1 : (1000 : Int32).toInt = 1000 := by decide
  have e2 : (1000 : Int64).toInt = 1000 := by decide
  refine ⟨(w.toInt + 1000).toNat, by omega, by omega, ?_, ?_⟩
  · apply Int32.toInt_inj.mp
    rw [fb_addI (by omega) (by omega), nI_toInt (by omega), e1]
    omega
  · apply Int64.toInt_inj.mp
    rw [Int64.toInt_add, Int32.toInt_toInt64, pk_lT (by omega), e2]
    have hb : (w.toInt + 1000).bmod (2 ^ 64) = w.toInt + 1000 := Int.bmod_eq_of_le (by omega) (by omega)
    rw [hb]
    omega
section Mean
variable {np nt : Nat} {tk kd wt lk pe th la ki wo li nw now : Nat → Int32} {x1 x2 : Int32} {Z : Int64 → Int64 → Prop}
theorem e_mean (hP : PR np nt tk kd wt lk) (hM : MR np nt tk kd wt lk pe th la ki wo li) (hS : Sd np nt nw) (hR : RS nw now) (hZ : ∀ r, Z r r) : wp_X6_mean nw kd wt lk (nI np) (nI nt) x1 x2 (fun r1 => wp_X7_mean pe th ki wo li now x1 x2 (fun r2 => Z r1 r2)) := by
  have h5 := hP.2.1
  have h6 := hP.2.2.1
  rcases ofN x1 np (by omega) with ⟨p, hp, e⟩ | hx
  · rw [e]
    refine s_isPerson_t hp (by omega) (br_f (by decide) ?_)
    have k7 : ∀ {Q : Int32 → Prop}, Q 1 → wp_X7_isPerson pe (nI p) Q := fun h => s7_isPerson_t hM.1 hp (by omega) h
    refine s_isPart (fun hx3 => br_f (by decide) ?_) (fun hx3 => br_t rfl (k7 (br_f (by decide) (part_in (fun q => absurd q hx3) (fun _ => br_t rfl (hZ _))))))
    have kpt : ∀ {Q : Int32 → Prop}, Q 1 → wp_X7_in x2 0 1 Q := fun h => part_in (fun _ => h) (fun q => absurd hx3 q)
    obtain ⟨T, v, hv9, hvT, hT, eT, ev⟩ := own_tk hS h5 hp
    obtain ⟨k, hk1, hk2⟩ := hS.2.2.2.1
    have hm11 : now 11 = nI k := by rw [hR.1 11 (by omega)]; exact hk2
    have hmT : hat now = nI T := by rw [hat_congr (c := now) (d := nw) (fun t ht => hR.1 t (by omega))]; exact eT
    have hmv : now p = nI v := by rw [hR.1 p (by omega)]; exact ev
    have hd : dr nt k 6 T ≤ 6 ∧ dr nt k 6 T ≤ T := by unfold dr; omega
    generalize hm : dr nt k 6 T = m at hd
    have hF := FL45 hT hd.1
    have hpos := FL_pos hd.2
    have hm64 := pow64 m (by omega)
    -- what it has then, by the set s of the draws that it wins
    have hw : ∀ s, ∃ n, 640 ≤ n ∧ n ≤ 1360 ∧ W1 kd wt lk nt p (bt (sv nw (nI p) 6 ||| (nI s <<< (nI k &&& 31)))) + 1000 = nI n ∧ Int32.toInt64 (W1 kd wt lk nt p (bt (sv nw (nI p) 6 ||| (nI s <<< (nI k &&& 31))))) + 1000 = lN n := fun s => by
      obtain ⟨b1, b2⟩ := W1_bd hP hp (bt (sv nw (nI p) 6 ||| (nI s <<< (nI k &&& 31))))
      exact lift1000 b1 b2
    obtain ⟨Wn, hWn⟩ := Classical.axiomOfChoice hw
    generalize hG : (fun s => FL v (pop s) * FL (T - v) (m - pop s)) = G
    have hGs : ∀ s, G s = FL v (pop s) * FL (T - v) (m - pop s) := fun s => by rw [← hG]
    have hsum : fb_sm G (2 ^ m) = FL T m := by rw [← hG, vand v (T - v) m (by omega), show v + (T - v) = T by omega]
    have hUle : fb_sm (fun s => G s * Wn s) (2 ^ m) ≤ FL T m * 1360 := by
      rw [← hsum, ← fb_sm_mulr]
      exact fb_sm_le (fun s _ => Nat.mul_le_mul_left _ (hWn s).2.1)
    -- both sums
    have cl1 : ∀ (Q : Int64 → Prop), (∀ a : Int64, 1000 * lN (FL T m) + a = lN (fb_sm (fun s => G s * Wn s) (2 ^ m)) → Q a) → wp_X6_worthOverWays nw kd wt lk (nI nt) (nI p) (nI T) (nI m) Q := by
      intro Q hQ
      refine s_ticketsOf (by omega) (s_setOf ?_)
      rw [ev]
      have key : ∀ (n j : Nat) (a : Int64), j + n = 2 ^ m → 1000 * lN (fb_sm G j) + a = lN (fb_sm (fun s => G s * Wn s) j) → L_X6_worthOverWays_26 nw kd wt lk (nI nt) (nI p) (nI T) (nI m) (nI v) (sv nw (nI p) 6) Q (n + 1) a (nI j) := by
        intro n
        induction n with
        | zero =>
          intro j a hj ha
          rw [show j = 2 ^ m by omega] at ha ⊢
          refine br_f (by rw [shl1 m (by omega)]; exact nltN (Nat.le_refl _) (by omega)) (hQ a ?_)
          rw [← hsum]; exact ha
        | succ n ih =>
          intro j a hj ha
          have hjp := pop_le m (by omega) j (by omega)
          refine br_t (by rw [shl1 m (by omega)]; exact ltN (by omega) (by omega)) (s_bitCount (by omega) (s_falling (by omega) (by omega) ?_))
          rw [pk_sub hvT, pk_sub hjp]
          refine s_falling (by omega) (by omega) ?_
          unfold wp_X3_next
          rw [hk2]
          refine s_w hP hp (fun _ _ => rfl) ?_
          rw [nI_1, lN_mul, ← hGs j]
          refine ih (j + 1) _ (by omega) ?_
          rw [fb_sm_succ, fb_sm_succ, ← lN_add, ← lN_add, ← lN_mul (G j) (Wn j), ← (hWn j).2.2.2, ← ha]
          rw [Int64.mul_add, Int64.mul_add, Int64.mul_comm (lN (G j)) 1000]
          ac_rfl
      exact ⟨2 ^ m + 1, key (2 ^ m) 0 0 (Nat.zero_add _) rfl⟩
    refine s_tickets ?_
    rw [eT]
    refine s_drawsAhead (n := 6) hk1 h6 hk2 (by omega) (by omega) ?_
    rw [hm]
    refine s_falling (by omega) (by omega) (cl1 _ (fun a ha => ?_))
    rw [ha]
    refine s_lowest (by omega) hpos (by omega) ?_
    refine k7 (br_f (by decide) (kpt (br_f (by decide) (s7_hatOf ?_))))
    rw [hmT, n0, cl (by omega), hmv]
    refine ⟨inN (by omega) (by omega), s7_drawn (n := 6) hk1 h6 hM.2.1 hm11 (by omega) (by omega) ?_⟩
    rw [hm]
    refine s7_rows (by omega) (by omega) ?_
    have key : ∀ (n j : Nat), j + n = 2 ^ m → L_X7_mean_62 pe th ki wo li now (nI p) x2 (nI T) (nI v) (nI m) (lN (FL T m)) (fun r2 => Z (lN (low (fb_sm (fun s => G s * Wn s) (2 ^ m)) (FL T m) x2)) r2) (n + 1) (lN (fb_sm (fun s => G s * Wn s) j)) (nI j) := by
      intro n
      induction n with
      | zero =>
        intro j hj
        rw [show j = 2 ^ m by omega]
        refine br_f (by rw [shl1 m (by omega)]; exact nltN (Nat.le_refl _) (by omega)) (s7_common (by omega) (by omega) ?_)
        obtain ⟨g0, g1⟩ := gcd_lt (x := fb_sm (fun s => G s * Wn s) (2 ^ m)) hpos (by omega)
        have hne : ¬ lN (Nat.gcd (fb_sm (fun s => G s * Wn s) (2 ^ m)) (FL T m)) = 0 := fun q => by have := (pk_lEQ (b := 0) (by omega) (by omega)).mp q; omega
        unfold low
        refine br_c (fun c3 => ⟨hne, ?_⟩) (fun c3 => ⟨hne, ?_⟩)
        · rw [if_pos c3, pk_lDiv (by omega) (by omega) (by omega)]; exact hZ _
        · rw [if_neg c3, pk_lDiv (by omega) (by omega) (by omega)]; exact hZ _
      | succ n ih =>
        intro j hj
        have hjp := pop_le m (by omega) j (by omega)
        refine br_t (by rw [shl1 m (by omega)]; exact ltN (by omega) (by omega)) (s7_bitsOf (by omega) (s7_rows (by omega) (by omega) (s7_bitsOf (by omega) ?_)))
        rw [pk_sub hvT, pk_sub hjp]
        refine s7_rows (by omega) (by omega) (s7_hadBy_now hM.2.1 h6 ?_)
        rw [← sv_both hp hP hS hR, hm11]
        refine s7_w hP hM hp (fun _ _ => rfl) ?_
        rw [(hWn j).2.2.1, nI_l (by have := (hWn j).2.1; omega), nI_1, lN_mul, ← hGs j, lN_mul, lN_add, ← fb_sm_succ (fun s => G s * Wn s)]
        exact ih (j + 1) (by omega)
    exact ⟨2 ^ m + 1, key (2 ^ m) 0 (Nat.zero_add _)⟩
  · exact s_isPerson_f hx (by omega) (br_t rfl (s7_isPerson_f hM.1 hx (by omega) (br_t rfl (hZ _))))
end Mean
