/-! share -/
def SS (kd wt lk : Nat → Int32) (np nt : Nat) (nw : Nat → Int32) (c : Nat) : Int := wsum kd wt lk nt np (dig (Oc nw) np nt c) (al nw)
def dd (np : Nat) (nw : Nat → Int32) (c : Nat) : Nat → Nat := fun t => if Oc nw t = true then dig (Oc nw) np 6 c t else 0
section Share
variable {np nt : Nat} {tk kd wt lk pe th la ki wo li nw now : Nat → Int32}
theorem Oc_hi (hS : Sd np nt nw) : ∀ t, nt ≤ t → t < 6 → Oc nw t = false := fun t h1 h2 => by
  rcases hS.2.2.1 t h2 with h | ⟨h, -⟩
  · exact decide_eq_false (fun z => z h)
  · omega
theorem Mc_bd (hP : PR np nt tk kd wt lk) : 0 < Mc (Oc nw) np nt ∧ Mc (Oc nw) np nt ≤ 15625 := by
  have h0 := hP.1
  have h5 := hP.2.1
  have h6 := hP.2.2.1
  have hc := fa_cnt_le (Oc nw) nt
  rw [Mc_pow]
  refine ⟨Nat.pow_pos (by omega), ?_⟩
  have a1 : np ^ fa_cnt (Oc nw) nt ≤ 5 ^ fa_cnt (Oc nw) nt := Nat.pow_le_pow_left h5 _
  have a2 : 5 ^ fa_cnt (Oc nw) nt ≤ 5 ^ 6 := Nat.pow_le_pow_right (by decide) (by omega)
  exact Nat.le_trans a1 a2
theorem hb_dig (hP : PR np nt tk kd wt lk) {t' : Nat → Int32} {c : Nat} (h1 : ∀ t, t < nt → Oc nw t = true → t' (5 + t) = nI (dig (Oc nw) np nt c t)) (h2 : ∀ t, t < 6 → Oc nw t = false → t' (5 + t) = -4) : ∀ p, p < np → ∀ t, t < nt → hb t' p t = pre (al nw) (dig (Oc nw) np nt c) p t := fun p hp t ht => by
  have h0 := hP.1
  have h5 := hP.2.1
  have h6 := hP.2.2.1
  have e : bt (nI (al nw)) t = Oc nw t := al_bt nw (by omega)
  have hl := dig_lt (O := Oc nw) h0 nt c t
  unfold hb pre
  rw [e]
  cases ho : Oc nw t with
  | true =>
    rw [h1 t ht ho]
    by_cases q : dig (Oc nw) np nt c t = p
    · rw [q, decide_eq_true rfl, decide_eq_true rfl]; rfl
    · rw [decide_eq_false (neN q (by omega) (by omega)), decide_eq_false q]; rfl
  | false =>
    rw [h2 t (by omega) ho, decide_eq_false (fun z => nI_m4 (a := p) (by omega) z.symm)]; rfl
theorem s7_share {x1 : Int32} {tr : Nat → Int32} {Q : Int32 → (Nat → Int32) → Prop} (hP : PR np nt tk kd wt lk) (hM : MR np nt tk kd wt lk pe th la ki wo li) (hS : Sd np nt nw) (hR : RS nw now) (h : ∀ c0 (x4 : Int32) (t' : Nat → Int32), c0 < Mc (Oc nw) np nt → (∀ c', c' < Mc (Oc nw) np nt → SS kd wt lk np nt nw c' ≤ SS kd wt lk np nt nw c0) → (∀ c', c' < c0 → SS kd wt lk np nt nw c' < SS kd wt lk np nt nw c0) → x4.toInt = SS kd wt lk np nt nw c0 → (∀ t, t < nt → Oc nw t = true → t' (5 + t) = nI (dig (Oc nw) np nt c0 t)) → (∀ t, t < 6 → Oc nw t = false → t' (5 + t) = -4) → ((x1 = (-1) → Q (x4 + 1000) t') ∧ (¬ x1 = (-1) → vp_in (5 + x1) 14 ∧ (Q (t' (Int32.toNatClampNeg (5 + x1))) t')))) : B_X7_share_15 pe th ki wo li now tr x1 Q := by
  have h0 := hP.1
  have h5 := hP.2.1
  have h6 := hP.2.2.1
  have hO : ∀ t, t < nt → Oc nw t = Oc now t := fun t ht => by unfold Oc; rw [hR.1 (5 + t) (by omega)]
  have hH : hc now nt = nI (fa_cnt (Oc nw) nt) := by rw [hc_congr (c := now) (d := nw) (fun t ht => hR.1 (5 + t) (by omega))]; exact hc_cnt nw nt
  have hcl := fa_cnt_le (Oc nw) nt
  obtain ⟨hMp, hMb⟩ := Mc_bd (nw := nw) hP
  have keep : ∀ {tr t' : Nat → Int32}, (∀ t, t < 6 → Oc nw t = false → tr (5 + t) = -4) → (∀ i, (∀ t, t < nt → Oc nw t = true → i ≠ 5 + t) → t' i = tr i) → ∀ t, t < 6 → Oc nw t = false → t' (5 + t) = -4 := fun a b t ht ho => by
    rw [b (5 + t) (fun u hu hou e => by
      have : u = t := by omega
      rw [this, ho] at hou
      cases hou)]
    exact a t ht ho
  have rest : wp_X7_take now tr (fun m_tried_28 => ∃ n30 : Nat, L_X7_share_58 pe th ki wo li now x1 (nI (Mc (Oc nw) np nt)) Q n30 m_tried_28 0 0 0) := by
    refine s7_take (fun t0 ht0 => ⟨Mc (Oc nw) np nt + 1, lpr (fun n (a : (Nat → Int32) × Int32 × Int32) j => L_X7_share_58 pe th ki wo li now x1 (nI (Mc (Oc nw) np nt)) Q n a.1 a.2.1 a.2.2 (nI j)) (fun c a => (∀ t, t < 6 → Oc nw t = false → a.1 (5 + t) = -4) ∧ (c = 0 ∨ ∃ c0, c0 < c ∧ a.2.1 = nI c0 ∧ a.2.2.toInt = SS kd wt lk np nt nw c0 ∧ (∀ c', c' < c → SS kd wt lk np nt nw c' ≤ SS kd wt lk np nt nw c0) ∧ (∀ c', c' < c0 → SS kd wt lk np nt nw c' < SS kd wt lk np nt nw c0))) (Mc (Oc nw) np nt) (fun n a c hc hI hn2 => ?_) (fun n a hI => ?_) (Mc (Oc nw) np nt) 0 (t0, 0, 0) (Nat.zero_add _) ⟨fun t ht ho => ?_, Or.inl rfl⟩⟩)
    · refine br_t (ltN hc (by omega)) (s7_dealBy hP hM hO (by omega) (fun t' a1 a2 => s7_worthOfAll_tried hP hM ?_))
      have hk := keep hI.1 a2
      have hw : (WA kd wt lk np nt t').toInt = SS kd wt lk np nt nw c := WA_int hP (hb_dig hP a1 hk)
      simp only [B_X7_share_92]
      rw [nI_1]
      rcases hI.2 with z | ⟨c0, z1, z2, z3, z4, z5⟩
      · refine br_t (by rw [z]; rfl) (hn2 (t', nI c, WA kd wt lk np nt t') ⟨hk, Or.inr ⟨c, by omega, rfl, hw, fun c' hc' => ?_, fun c' hc' => by omega⟩⟩)
        rw [show c' = c by omega]; omega
      · refine br_f (nI_ne0 (by omega) (by omega)) (br_c (fun q => hn2 (t', nI c, WA kd wt lk np nt t') ⟨hk, Or.inr ⟨c, by omega, rfl, hw, fun c' hc' => ?_, fun c' hc' => ?_⟩⟩) (fun q => hn2 (t', a.2.1, a.2.2) ⟨hk, Or.inr ⟨c0, by omega, z2, z3, fun c' hc' => ?_, z5⟩⟩))
        · rw [fa_lt, z3, hw] at q
          by_cases e : c' = c
          · rw [e]; omega
          · have := z4 c' (by omega); omega
        · rw [fa_lt, z3, hw] at q
          have := z4 c' hc'; omega
        · rw [fa_lt, z3, hw] at q
          by_cases e : c' = c
          · rw [e]; omega
          · exact z4 c' (by omega)
    · refine br_f (nltN (Nat.le_refl _) (by omega)) ?_
      rcases hI.2 with z | ⟨c0, z1, z2, z3, z4, z5⟩
      · omega
      · rw [z2]
        exact s7_dealBy hP hM hO (by omega) (fun t' a1 a2 => h c0 a.2.2 t' z1 z4 z5 z3 a1 (keep hI.1 a2))
    · dsimp only
      rw [ht0 (5 + t) (by omega), hR.1 (5 + t) (by omega)]
      by_cases e : nw (5 + t) = -4
      · exact e
      · have : Oc nw t = true := decide_eq_true e
        rw [this] at ho; cases ho
  have key : ∀ m j, j + m = fa_cnt (Oc nw) nt → L_X7_share_19 pe th ki wo li now tr x1 Q (m + 1) (nI (np ^ j)) (nI j) := by
    intro m
    induction m with
    | zero =>
      intro j hj
      refine s7_thingsHad_now hM.2.1 h6 ?_
      rw [hH, show j = fa_cnt (Oc nw) nt by omega]
      refine br_f (nltN (Nat.le_refl _) (by omega)) ?_
      rw [← Mc_pow]
      exact rest
    | succ m ih =>
      intro j hj
      refine s7_thingsHad_now hM.2.1 h6 ?_
      rw [hH]
      refine br_t (ltN (by omega) (by omega)) ?_
      rw [hM.1, pk_mul, ← Nat.pow_succ, nI_1]
      exact ih (j + 1) (by omega)
  exact ⟨_, key (fa_cnt (Oc nw) nt) 0 (Nat.zero_add _)⟩
theorem Kc_congr {d d' : Nat → Nat} (h : ∀ t, t < 6 → d t = d' t) : Kc d = Kc d' := by
  unfold Kc
  rw [h 0 (by omega), h 1 (by omega), h 2 (by omega), h 3 (by omega), h 4 (by omega), h 5 (by omega)]
theorem dd_lt (hP : PR np nt tk kd wt lk) (c : Nat) : ∀ t, t < 6 → dd np nw c t < 8 := fun t ht => by
  have h0 := hP.1
  have h5 := hP.2.1
  have := dig_lt (O := Oc nw) h0 6 c t
  unfold dd
  split <;> omega
theorem dd_ud (hP : PR np nt tk kd wt lk) (hS : Sd np nt nw) (c : Nat) : Kc (ud nt (al nw) (dig (Oc nw) np nt c) np) = Kc (dd np nw c) := Kc_congr (fun t ht => by
  have h0 := hP.1
  have e : bt (nI (al nw)) t = Oc nw t := al_bt nw ht
  unfold ud dd
  rw [e]
  by_cases ho : Oc nw t = true
  · have hn : t < nt := by
      rcases Nat.lt_or_ge t nt with z | z
      · exact z
      · rw [Oc_hi hS t z ht] at ho; cases ho
    rw [if_pos ⟨ho, hn, dig_lt h0 nt c t⟩, if_pos ho, dig_up (Oc_hi hS) t 6 hP.2.2.1 (by omega)]
  · rw [if_neg (fun z => ho z.1), if_neg ho])
theorem share_val {v : Int32} {c0 : Nat} (hP : PR np nt tk kd wt lk) (hS : Sd np nt nw) (hv : BI (Gf kd wt lk nt) np (al nw) v.toInt) (h1 : c0 < Mc (Oc nw) np nt) (h2 : ∀ c', c' < Mc (Oc nw) np nt → SS kd wt lk np nt nw c' ≤ SS kd wt lk np nt nw c0) (h3 : ∀ c', c' < c0 → SS kd wt lk np nt nw c' < SS kd wt lk np nt nw c0) : v.toInt = SS kd wt lk np nt nw c0 * 262144 - ((Kc (dd np nw c0) : Nat) : Int) := by
  have h0 := hP.1
  have h5 := hP.2.1
  have h6 := hP.2.2.1
  have hG := Gf_congr (kd := kd) (wt := wt) (lk := lk) h6
  have sp : ∀ c, vv (Gf kd wt lk nt) np (dig (Oc nw) np nt c) (al nw) = SS kd wt lk np nt nw c * 262144 - ((Kc (dd np nw c) : Nat) : Int) := fun c => by rw [vv_split, dd_ud hP hS]; rfl
  have en : ∀ c, Kc (dd np nw c) = enc (Oc nw) np 6 c := fun c => by rw [enc_dsum, dsum_6]; rfl
  have kl : ∀ c, Kc (dd np nw c) < 262144 := fun c => Kc_lt (dd_lt hP c)
  have a1 := hv.1 (dig (Oc nw) np nt c0) (fun t _ _ => dig_lt h0 nt c0 t)
  rw [sp] at a1
  obtain ⟨f, hf, ef⟩ := hv.2
  have bo : ∀ t, t < 6 → bt (nI (al nw)) t = Oc nw t := fun t ht => al_bt nw ht
  obtain ⟨c, hc, hd⟩ := dig_all (O := Oc nw) h0 nt f (fun t ht ho => hf t (by omega) (by rw [bo t (by omega)]; exact ho))
  have e1 : vv (Gf kd wt lk nt) np f (al nw) = vv (Gf kd wt lk nt) np (dig (Oc nw) np nt c) (al nw) := vv_congr hG np (fun q hq t ht => by
    unfold pre
    rw [bo t ht]
    cases ho : Oc nw t with
    | false => rfl
    | true =>
      have hn : t < nt := by
        rcases Nat.lt_or_ge t nt with z | z
        · exact z
        · rw [Oc_hi hS t z ht] at ho; cases ho
      rw [hd t hn ho])
  rw [e1, sp] at ef
  have b1 := h2 c hc
  have k0 := kl c0
  have k1 := kl c
  by_cases e : SS kd wt lk np nt nw c = SS kd wt lk np nt nw c0
  · have hge : c0 ≤ c := by
      rcases Nat.lt_or_ge c c0 with z | z
      · have := h3 c z; omega
      · exact z
    have hk : Kc (dd np nw c0) ≤ Kc (dd np nw c) := by
      by_cases ec : c0 = c
      · rw [ec]; exact Nat.le_refl _
      · rw [en, en]
        exact Nat.le_of_lt (enc_lt h0 (by omega) 6 c0 c (by omega) (by rw [Mc_up (Oc_hi hS) 6 h6 (by omega)]; exact hc))
    rw [e] at ef
    omega
  · omega
theorem share_sum {v : Int32} {S : Int} {C : Nat} (hS1 : -1800 ≤ S) (hS2 : S ≤ 1800) (hC : C < 262144) (hv : v.toInt = S * 262144 - (C : Int)) : (((v + 262144) - 1) >>> ((18 : Int32) &&& 31)).toInt = S := by
  have e0 : (262144 : Int32).toInt = 262144 := by decide
  have e1 : (1 : Int32).toInt = 1 := by decide
  have a1 : (v + 262144).toInt = v.toInt + 262144 := by rw [fb_addI (by omega) (by omega), e0]
  have a2 : ((v + 262144) - 1).toInt = v.toInt + 262144 - 1 := by rw [fb_subI (by omega) (by omega), a1, e1]
  have a3 := shrI (k := 18) (by omega) ((v + 262144) - 1)
  rw [show ((2 ^ 18 : Nat) : Int) = 262144 from rfl, a2, hv] at a3
  have a4 : (S * 262144 - (C : Int) + 262144 - 1) / 262144 = S := by omega
  rw [a4] at a3
  exact a3
theorem e_share {ga be ti : Nat → Int32} {x1 : Int32} {Z : Int32 → Int32 → (Nat → Int32) → (Nat → Int32) → (Nat → Int32) → Prop} (hP : PR np nt tk kd wt lk) (hM : MR np nt tk kd wt lk pe th la ki wo li) (hS : Sd np nt nw) (hR : RS nw now) (hZ : ∀ r g b t, Z r r g b t) : wp_X6_share nw ga be kd wt lk (nI np) (nI nt) x1 (fun r1 g b => wp_X7_share pe th ki wo li now ti x1 (fun r2 t => Z r1 r2 g b t)) := by
  have h0 := hP.1
  have h5 := hP.2.1
  have h6 := hP.2.2.1
  have hw : ∀ c, -1800 ≤ SS kd wt lk np nt nw c ∧ SS kd wt lk np nt nw c ≤ 1800 := fun c => by
    have := wsum_bd hP (dig (Oc nw) np nt c) (al nw) np (Nat.le_refl _)
    unfold SS
    omega
  have hall : al nw < 64 := mk6_lt _
  by_cases em : x1 = -1
  · refine br_t em (br_t em (s_ownedSet ?_))
    rw [al_ov]
    refine s_bestSharing hP hall (fun v g b hv => ?_)
    unfold wp_X0_sumIn
    refine br_t em (s7_share hP hM hS hR (fun c0 x4 t' a1 a2 a3 a4 a5 a6 => br_t em ?_))
    have hval := share_val hP hS hv a1 a2 a3
    have hsum := share_sum (hw c0).1 (hw c0).2 (Kc_lt (dd_lt hP c0)) hval
    have e : ((v + 262144) - 1) >>> ((18 : Int32) &&& 31) = x4 := Int32.toInt_inj.mp (by rw [hsum, a4])
    rw [e, Int32.add_comm]
    exact hZ _ _ _ _
  · refine br_f em ?_
    rcases ofN x1 nt (by omega) with ⟨t, ht, et⟩ | hx
    · rw [et] at em ⊢
      have k7 : ∀ {r : Int32} {g b : Nat → Int32}, (∀ c0 (x4 : Int32) (t' : Nat → Int32), c0 < Mc (Oc nw) np nt → (∀ c', c' < Mc (Oc nw) np nt → SS kd wt lk np nt nw c' ≤ SS kd wt lk np nt nw c0) → (∀ c', c' < c0 → SS kd wt lk np nt nw c' < SS kd wt lk np nt nw c0) → (∀ t, t < nt → Oc nw t = true → t' (5 + t) = nI (dig (Oc nw) np nt c0 t)) → (∀ t, t < 6 → Oc nw t = false → t' (5 + t) = -4) → Z r (t' (5 + t)) g b t') → wp_X7_share pe th ki wo li now ti (nI t) (fun r2 t => Z r r2 g b t) := fun hh => by
        refine br_f em (s7_isThing_t hM.2.1 ht (by omega) (br_f (by decide) (s7_share hP hM hS hR (fun c0 x4 t' a1 a2 a3 a4 a5 a6 => br_f em ?_))))
        rw [n5, cl (by omega)]
        exact ⟨inN (by omega) (by omega), hh c0 x4 t' a1 a2 a3 a5 a6⟩
      refine s_isThing_t ht (by omega) (br_f (by decide) (br_f em (s_ownerOf (by omega) (br_c (fun c4 => k7 (fun c0 x4 t' a1 a2 a3 a5 a6 => ?_)) (fun c4 => s_ownedSet ?_)))))
      · rw [a6 t (by omega) (decide_eq_false (fun z => z c4))]; exact hZ _ _ _ _
      · rw [al_ov]
        refine s_bestSharing hP hall (fun v g b hv => ?_)
        unfold wp_X0_sumIn wp_X0_placeOf
        refine k7 (fun c0 x4 t' a1 a2 a3 a5 a6 => ?_)
        have ho : Oc nw t = true := decide_eq_true c4
        have hval := share_val hP hS hv a1 a2 a3
        have hC := Kc_lt (dd_lt (nw := nw) hP c0)
        have hsum := share_sum (hw c0).1 (hw c0).2 hC hval
        have hw0 := hw c0
        have b1 := shlI (w := ((v + 262144) - 1) >>> ((18 : Int32) &&& 31)) (by omega) (by omega)
        have b2 : ((((v + 262144) - 1) >>> ((18 : Int32) &&& 31)) <<< ((18 : Int32) &&& 31)) - v = nI (Kc (dd np nw c0)) := Int32.toInt_inj.mp (by
          rw [fb_subI (by omega) (by omega), b1, hsum, hval, nI_toInt (by omega)]
          omega)
        have b3 : nI (Kc (dd np nw c0)) >>> (nI (3 * (5 - t)) &&& 31) = nI (Kc (dd np nw c0) / 2 ^ (3 * (5 - t))) := Int32.toInt_inj.mp (by
          have hd : Kc (dd np nw c0) / 2 ^ (3 * (5 - t)) ≤ Kc (dd np nw c0) := Nat.div_le_self _ _
          rw [shrI (by omega), nI_toInt (by omega), nI_toInt (by omega)]
          rfl)
        rw [b2, pcn t (by omega), b3, show (7 : Int32) = nI (2 ^ 3 - 1) from rfl, fa_mask, Kc_dig (dd_lt hP c0) (by omega), a5 t ht ho]
        have e : dd np nw c0 t = dig (Oc nw) np nt c0 t := by
          unfold dd
          rw [if_pos ho, dig_up (Oc_hi hS) t 6 h6 (by omega)]
        rw [e]
        exact hZ _ _ _ _
    · exact s_isThing_f hx (by omega) (br_t rfl (br_f em (s7_isThing_f hM.2.1 hx (by omega) (br_t rfl (hZ _ _ _ _)))))
end Share
