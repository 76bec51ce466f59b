/-! keep, back, count, note, forget, write, wipe -/
section Keep
variable {np nt : Nat} {tk kd wt lk pe th la ki wo li nw now : Nat → Int32}
theorem e_keep {kk : Nat} {rows mrows : Nat → Int32} {Z : Int32 → Int32 → (Nat → Int32) → Int32 → (Nat → Int32) → Int32 → Prop} (hn : nt ≤ 6) (hk : kk ≤ 2) (hS : Sd np nt nw) (hR : RS nw now) (hW : Rw np nt kk rows mrows) (hZ : ∀ r rows' mrows' k, k ≤ 2 → Rw np nt k rows' mrows' → Z r r rows' (nI k) mrows' (nI k)) : wp_X6_keep nw rows 2 (nI kk) (fun r1 c s => wp_X7_keep now mrows (nI kk) (fun r2 m q => Z r1 r2 c s m q)) := by
  by_cases h2 : kk < 2
  · refine br_t (ltN (b := 2) h2 (by omega)) (br_t rfl ?_)
    refine br_t (ltN (b := 2) h2 (by omega)) (br_t rfl ?_)
    unfold B_X4_push_38
    rw [m14', nI_1, cl (by omega), cpy_put]
    refine ⟨⟨by decide, nI_pos (by omega), by decide, by decide, ?_⟩, ?_⟩
    · rw [cl (by omega), show Int32.toNatClampNeg 14 = 14 from rfl]; omega
    · refine br_f (neN (b := 2) (by omega) (by omega) (by omega)) ⟨15, lpx (fun n a j => L_X7_keep_13 now (nI kk) (fun r2 m q => Z (nI (kk + 1)) r2 (fb_put rows nw (14 * kk) 14) (nI (kk + 1)) m q) n a (nI j)) (fun j q => upd q (14 * kk + j) (now j)) (fun q => Z (nI (kk + 1)) (nI (kk + 1)) (fb_put rows nw (14 * kk) 14) (nI (kk + 1)) q (nI (kk + 1))) 14 (fun n a j hj hL => ?_) (fun n a hQ => ?_) 14 0 mrows rfl ?_⟩
      · refine br_t (ltN (b := 14) hj (by omega)) ?_
        rw [m14, nI_add, nI_1, cl (by omega), cl (by omega)]
        exact ⟨inN (by omega) (by omega), inN (by omega) (by omega), hL⟩
      · refine br_f (nltN (b := 14) (Nat.le_refl _) (by omega)) ?_
        rw [nI_1]; exact hQ
      · rw [lp_put]
        exact hZ _ _ _ (kk + 1) (by omega) (Rw_put hn hW hS hR)
  · have e : kk = 2 := by omega
    subst e
    exact br_f (by decide) (br_f (by decide) (br_t rfl (hZ _ _ _ 2 (by omega) hW)))
theorem s7_back {k : Nat} {r c : Nat → Int32} {y : Int32} {Q : Int32 → (Nat → Int32) → Int32 → Int32 → Prop} (hk : k < 2) (h : ∀ q, (∀ i, i < 14 → q i = row r k i) → Q (nI k) q 0 (nI k)) : wp_X7_back c y r (nI (k + 1)) Q := by
  refine br_f (nI_ne0 (by omega) (by omega)) ?_
  rw [nI_pred]
  refine ⟨15, lpx (fun n a j => L_X7_back_22 y r (nI k) Q n a (nI j)) (fun j q => upd q j (r (14 * k + j))) (fun q => Q (nI k) q 0 (nI k)) 14 (fun n a j hj hL => ?_) (fun n a hQ => ?_) 14 0 c rfl ?_⟩
  · refine br_t (ltN (b := 14) hj (by omega)) ?_
    rw [m14, nI_add, nI_1, cl (by omega), cl (by omega)]
    exact ⟨inN (by omega) (by omega), inN (by omega) (by omega), hL⟩
  · exact br_f (nltN (b := 14) (Nat.le_refl _) (by omega)) hQ
  · have e := lp_put (row r k) 0 14 c
    simp only [Nat.zero_add] at e
    rw [show (fun j (q : Nat → Int32) => upd q j (r (14 * k + j))) = (fun j q => upd q j (row r k j)) from rfl, e]
    exact h _ (fun i hi => by rw [fb_put_in (by omega) (by omega), Nat.sub_zero])
theorem e_back {kk kp : Nat} {rows mrows pr mb : Nat → Int32} {Z : Int32 → Int32 → (Nat → Int32) → Int32 → Int32 → (Nat → Int32) → Int32 → Int32 → Prop} (hn : nt ≤ 6) (hk : kk ≤ 2) (hkp : kp ≤ 8) (hS : Sd np nt nw) (hR : RS nw now) (hW : Rw np nt kk rows mrows) (hV : Rw np nt kp pr mb) (hZ : ∀ r c m k j, k ≤ 2 → j ≤ 8 → Sd np nt c → RS c m → Rw np nt k rows mrows → Rw np nt j pr mb → Z r r c (nI j) (nI k) m (nI j) (nI k)) : wp_X6_back nw (nI kp) rows (nI kk) (fun r1 c s q => wp_X7_back now (nI kp) mrows (nI kk) (fun r2 m s2 q2 => Z r1 r2 c s q m s2 q2)) := by
  cases kk with
  | zero => exact s_pop_0 (br_t rfl (br_t rfl (hZ _ _ _ 0 kp (by omega) hkp hS hR hW hV)))
  | succ k =>
    refine s_pop (N := 28) (by omega) (by omega) (br_f (by decide) ?_)
    unfold wp_X4_clear
    refine s7_back (by omega) (fun q hq => ?_)
    obtain ⟨a, b⟩ := hW k (by omega)
    exact hZ _ _ _ k 0 (by omega) (by omega) (Sd_congr (cpy_row _ _ _) hn a) (RS_congr (cpy_row _ _ _) hq b) (fun j hj => hW j (by omega)) (fun j hj => absurd hj (by omega))
theorem e_count {x1 kt kp kk kn : Int32} {Z : Int32 → Int32 → Prop} (hP : PR np nt tk kd wt lk) (hM : MR np nt tk kd wt lk pe th la ki wo li) (hS : Sd np nt nw) (hR : RS nw now) (hZ : ∀ r, Z r r) : wp_X6_count kt nw kp kk kn kd wt lk (nI np) (nI nt) x1 (fun r1 => wp_X7_count kt pe th ki wo li now kp kk kn x1 (fun r2 => Z r1 r2)) := by
  have h5 := hP.2.1
  have h6 := hP.2.2.1
  have e11 := hR.1 11 (by omega)
  refine br_c (fun c => br_t c (by rw [hM.1]; exact hZ _)) (fun c0 => br_c (fun c => br_f c0 (br_t c (by rw [hM.2.1]; exact hZ _))) (fun c1 => br_c (fun c => s_tickets (br_f c0 (br_f c1 (br_t c (s7_hatOf ?_))))) (fun c2 => br_c (fun c => ?_) (fun c3 => br_c (fun c => s_ownedThings (br_f c0 (br_f c1 (br_f c2 (br_f c3 (br_t c (s7_thingsHad_now hM.2.1 h6 ?_))))))) (fun c4 => br_c (fun c => s_worthOfAll_now hP (br_f c0 (br_f c1 (br_f c2 (br_f c3 (br_f c4 (br_t c (s7_worthOfAll_now hP hM ?_)))))))) (fun c5 => br_c (fun c => br_f c0 (br_f c1 (br_f c2 (br_f c3 (br_f c4 (br_f c5 (br_t c (hZ _)))))))) (fun c6 => br_c (fun c => br_f c0 (br_f c1 (br_f c2 (br_f c3 (br_f c4 (br_f c5 (br_f c6 (br_t c (hZ _))))))))) (fun c7 => br_c (fun c => br_f c0 (br_f c1 (br_f c2 (br_f c3 (br_f c4 (br_f c5 (br_f c6 (br_f c7 (br_t c (hZ _)))))))))) (fun c8 => br_c (fun c => br_f c0 (br_f c1 (br_f c2 (br_f c3 (br_f c4 (br_f c5 (br_f c6 (br_f c7 (br_f c8 (br_t c (hZ _))))))))))) (fun c9 => br_f c0 (br_f c1 (br_f c2 (br_f c3 (br_f c4 (br_f c5 (br_f c6 (br_f c7 (br_f c8 (br_f c9 (hZ _))))))))))))))))))))
  · rw [hat_congr (c := now) (d := nw) (fun t ht => hR.1 t (by omega))]; exact hZ _
  · exact br_c (fun q => br_f c0 (br_f c1 (br_f c2 (br_t c (br_t (by rw [hM.2.1, e11]; exact q) (by rw [e11]; exact hZ _)))))) (fun q => br_f c0 (br_f c1 (br_f c2 (br_t c (br_f (by rw [hM.2.1, e11]; exact q) (hZ _))))))
  · rw [hc_congr (c := now) (d := nw) (fun t ht => hR.1 (5 + t) (by omega)), ← hc_6 h6 (c := nw) (fun t h1 h2 => by
      rcases hS.2.2.1 t h2 with h | ⟨h, -⟩
      · exact h
      · omega)]
    exact hZ _
  · rw [Int32.add_comm, WA_congr h6 (c := now) (d := nw) (fun t ht => hR.1 (5 + t) (by omega))]; exact hZ _
/-- the text: as many letters, the same ones -/
def TX (k : Nat) (le tx : Nat → Int32) : Prop := k ≤ 200 ∧ ∀ j, j < k → ∃ v, 32 ≤ v ∧ v ≤ 126 ∧ le j = nI v ∧ tx j = nI v
theorem nar_c : ∀ v, v < 127 → vp_nar .char ((Int32.toUInt32 (nI v) % 65536).toInt32) = nI v := by decide +kernel
theorem nar_b : ∀ v, v < 127 → vp_nar .byte ((Int32.toInt8 (nI v)).toInt32) = nI v := by decide +kernel
theorem TX_push {k v : Nat} {le tx : Nat → Int32} (h : TX k le tx) (hk : k < 200) (h1 : 32 ≤ v) (h2 : v ≤ 126) : TX (k + 1) (upd le k (nI v)) (upd tx k (nI v)) := by
  refine ⟨by omega, fun j hj => ?_⟩
  by_cases e : j = k
  · subst e; exact ⟨v, h1, h2, pk_us, pk_us⟩
  · rw [pk_un e, pk_un e]; exact h.2 j (by omega)
theorem e_write {k : Nat} {x : Int32} {le tx : Nat → Int32} {Z : Int32 → Int32 → (Nat → Int32) → Int32 → (Nat → Int32) → Int32 → Prop} (hT : TX k le tx) (hZ : ∀ r j le' tx', TX j le' tx' → Z r r le' (nI j) tx' (nI j)) : wp_X6_write le (nI k) x (fun r1 a b => wp_X7_write tx (nI k) x (fun r2 c d => Z r1 r2 a b c d)) := by
  have hk := hT.1
  refine br_c (fun c => br_t c (br_t rfl (hZ _ _ _ _ hT))) (fun c => br_c (fun c2 => br_f c (br_t c2 (br_t rfl (hZ _ _ _ _ hT)))) (fun c2 => ?_))
  have h0 : ¬ x < 0 := by
    intro q
    apply c
    rw [fa_lt] at q ⊢
    have e1 : (0 : Int32).toInt = 0 := by decide
    have e2 : (32 : Int32).toInt = 32 := by decide
    omega
  obtain ⟨v, hv, rfl⟩ := nI_of2 (M := 126) (n := 126) (by decide) h0 (Int32.not_lt.mp c2)
  have hv2 : 32 ≤ v := by
    rcases Nat.lt_or_ge v 32 with q | q
    · exact absurd (ltN (b := 32) q (by omega)) c
    · exact q
  by_cases h : k < 200
  · refine br_t (ltN (b := 200) h (by omega)) ⟨inN h (by omega), br_f (by decide) ?_⟩
    refine br_f c (br_f c2 (br_f (by decide) (br_f (neN (b := 200) (by omega) (by omega) (by omega)) ⟨inN h (by omega), ?_⟩)))
    rw [cl (by omega), nar_c v (by omega), nar_b v (by omega), nI_1]
    exact hZ _ _ _ _ (TX_push hT h hv2 hv)
  · have e : k = 200 := by omega
    subst e
    exact br_f (by decide) (br_t rfl (br_f c (br_f c2 (br_f (by decide) (br_t rfl (hZ _ _ _ _ hT))))))
end Keep
