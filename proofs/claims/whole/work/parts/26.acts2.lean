/-! refuse, buy, hand, swap, give -/
def rC (c : Nat → Int32) (k : Nat) : Nat → Int32 := upd (upd (upd (upd c (5 + k) (-4)) 11 (nI k)) 12 (c 12 ||| (1 <<< (nI k &&& 31)))) 13 (-4)
def rM (m : Nat → Int32) (k : Nat) : Nat → Int32 := upd (upd (upd (upd m 11 (nI k)) (5 + k) (-4)) 13 (m 13 ||| (1 <<< (nI k &&& 31)))) 12 0
theorem Sd_ref {np nt k : Nat} {c : Nat → Int32} (hn : nt ≤ 6) (hS : Sd np nt c) (hk : k < nt) : Sd np nt (rC c k) := by
  obtain ⟨h1, h2, h3, h4, h5⟩ := hS
  refine ⟨fun p hp => ?_, fun p hp1 hp2 => ?_, fun t ht => ?_, ⟨k, by omega, ?_⟩, Or.inl ?_⟩
  · unfold rC; rw [pk_un (by omega), pk_un (by omega), pk_un (by omega), pk_un (by omega)]; exact h1 p hp
  · unfold rC; rw [pk_un (by omega), pk_un (by omega), pk_un (by omega), pk_un (by omega)]; exact h2 p hp1 hp2
  · unfold rC
    rw [pk_un (by omega), pk_un (by omega), pk_un (by omega)]
    by_cases e : t = k
    · rw [e, pk_us]; exact Or.inl rfl
    · rw [pk_un (by omega)]; exact h3 t ht
  · unfold rC; rw [pk_un (by omega), pk_un (by omega), pk_us]
  · unfold rC; rw [pk_us]
theorem RS_ref {c m : Nat → Int32} {k : Nat} (hR : RS c m) (hk : k < 6) : RS (rC c k) (rM m k) := by
  obtain ⟨h1, h2, h3⟩ := hR
  refine ⟨fun i hi => ?_, ?_, ?_⟩
  · unfold rC rM
    rw [pk_un (show i ≠ 13 by omega)]
    by_cases e : i = 11
    · rw [e, pk_un (show (11 : Nat) ≠ 12 by omega), pk_un (show (11 : Nat) ≠ 13 by omega), pk_un (show (11 : Nat) ≠ 5 + k by omega), pk_us, pk_un (show (11 : Nat) ≠ 12 by omega), pk_us]
    · rw [pk_un (show i ≠ 12 by omega), pk_un (show i ≠ 13 by omega), pk_un (show i ≠ 12 by omega), pk_un e]
      by_cases e2 : i = 5 + k
      · rw [e2, pk_us, pk_us]
      · rw [pk_un e2, pk_un e2, pk_un e]; exact h1 i hi
  · unfold rC rM
    rw [pk_un (show (13 : Nat) ≠ 12 by omega), pk_us, pk_un (show (12 : Nat) ≠ 13 by omega), pk_us, h2]
  · unfold rC rM
    rw [pk_us, pk_us, if_pos rfl]
/-- tickets change -/
def bC (c : Nat → Int32) (p v : Nat) : Nat → Int32 := upd c p (nI v)
theorem Sd_tk {np nt p v : Nat} {c : Nat → Int32} (hn : nt ≤ 6) (hnp : np ≤ 5) (hS : Sd np nt c) (hp : p < np) (hv : v ≤ 9) : Sd np nt (bC c p v) := by
  obtain ⟨h1, h2, h3, h4, h5⟩ := hS
  unfold bC
  refine ⟨fun q hq => ?_, fun q hq1 hq2 => ?_, fun t ht => ?_, ?_, ?_⟩
  · by_cases e : q = p
    · rw [e, pk_us]; exact ⟨v, hv, rfl⟩
    · rw [pk_un e]; exact h1 q hq
  · rw [pk_un (by omega)]; exact h2 q hq1 hq2
  · rw [pk_un (by omega)]; exact h3 t ht
  · rw [pk_un (by omega)]; exact h4
  · rw [pk_un (show (11 : Nat) ≠ p by omega), pk_un (show (13 : Nat) ≠ p by omega)]; exact h5
theorem RS_tk {c m : Nat → Int32} {p v : Nat} (hR : RS c m) (hp : p < 5) : RS (bC c p v) (bC m p v) := by
  obtain ⟨h1, h2, h3⟩ := hR
  unfold bC
  refine ⟨fun i hi => ?_, ?_, ?_⟩
  · by_cases e : i = p
    · rw [e, pk_us, pk_us]
    · rw [pk_un e, pk_un e]; exact h1 i hi
  · rw [pk_un (show (13 : Nat) ≠ p by omega), pk_un (show (12 : Nat) ≠ p by omega)]; exact h2
  · rw [pk_un (show (12 : Nat) ≠ p by omega), pk_un (show (13 : Nat) ≠ p by omega)]; exact h3
/-- a thing passes -/
def pC (c : Nat → Int32) (t : Nat) (x : Int32) : Nat → Int32 := if c 13 = nI t then upd (upd c (5 + t) x) 13 (-4) else upd c (5 + t) x
def tM (m : Nat → Int32) (t : Nat) : Nat → Int32 := upd m 12 (if nI t = m 11 - 1 then 0 else m 12)
theorem pC_13 (c : Nat → Int32) {t : Nat} (ht : t < 6) (x : Int32) : pC c t x 13 = if c 13 = nI t then -4 else c 13 := by
  unfold pC
  by_cases h : c 13 = nI t
  · rw [if_pos h, if_pos h, pk_us]
  · rw [if_neg h, if_neg h, pk_un (by omega)]
theorem pC_lo (c : Nat → Int32) {t i : Nat} (ht : t < 6) (hi : i < 13) (x : Int32) : pC c t x i = upd c (5 + t) x i := by
  unfold pC
  by_cases h : c 13 = nI t
  · rw [if_pos h, pk_un (by omega)]
  · rw [if_neg h]
theorem Sd_pass {np nt t p : Nat} {c : Nat → Int32} (hn : nt ≤ 6) (hnp : np ≤ 5) (hS : Sd np nt c) (ht : t < nt) (hp : p < np) : Sd np nt (pC c t (nI p)) := by
  obtain ⟨h1, h2, h3, h4, h5⟩ := hS
  refine ⟨fun q hq => ?_, fun q hq1 hq2 => ?_, fun u hu => ?_, ?_, ?_⟩
  · rw [pC_lo c (by omega) (by omega), pk_un (by omega)]; exact h1 q hq
  · rw [pC_lo c (by omega) (by omega), pk_un (by omega)]; exact h2 q hq1 hq2
  · rw [pC_lo c (by omega) (by omega)]
    by_cases e : u = t
    · rw [e, pk_us]; exact Or.inr ⟨ht, p, hp, rfl⟩
    · rw [pk_un (by omega)]; exact h3 u hu
  · rw [pC_lo c (by omega) (by omega), pk_un (by omega)]; exact h4
  · rw [pC_lo c (i := 11) (by omega) (by omega), pk_un (show (11 : Nat) ≠ 5 + t by omega), pC_13 c (t := t) (by omega)]
    by_cases h : c 13 = nI t
    · rw [if_pos h]; exact Or.inl rfl
    · rw [if_neg h]; exact h5
theorem RS_pass {np nt t : Nat} {c m : Nat → Int32} {x : Int32} (hn : nt ≤ 6) (hS : Sd np nt c) (hR : RS c m) (ht : t < nt) : RS (pC c t x) (tM (upd m (5 + t) x) t) := by
  obtain ⟨h1, h2, h3⟩ := hR
  refine ⟨fun i hi => ?_, ?_, ?_⟩
  · rw [pC_lo c (by omega) (by omega)]
    unfold tM
    rw [pk_un (by omega)]
    by_cases e : i = 5 + t
    · rw [e, pk_us, pk_us]
    · rw [pk_un e, pk_un e]; exact h1 i hi
  · rw [pC_lo c (by omega) (by omega)]
    unfold tM
    rw [pk_un (by omega), pk_un (by omega), pk_un (by omega)]; exact h2
  · rw [pC_13 c (by omega)]
    unfold tM
    rw [pk_us, pk_un (show (11 : Nat) ≠ 5 + t by omega), pk_un (show (12 : Nat) ≠ 5 + t by omega), h1 11 (by omega), h3]
    rcases hS.2.2.2.2 with h | ⟨k, hk1, hk2, hk3⟩
    · rw [h]
      have e : ¬ (-4 : Int32) = nI t := fun q => nI_m4 (a := t) (by omega) q.symm
      rw [if_neg e]
      simp
    · rw [hk2, hk3, nI_pred]
      have e4 : ¬ nI k = -4 := nI_m4 (by omega)
      by_cases e : nI t = nI k
      · rw [if_pos e, if_pos e.symm, if_pos rfl]
      · rw [if_neg e, if_neg (fun (q : nI k = nI t) => e q.symm), if_neg e4]
theorem s_pass {c : Nat → Int32} {t : Nat} {x : Int32} {Q : (Nat → Int32) → Prop} (ht : t < 6) (hx : ¬ c (5 + t) = x) (h : Q (pC c t x)) : wp_X3_pass c (nI t) x Q := by
  refine s_ownerOf ht (br_f hx ?_)
  rw [n5, cl (by omega), pk_un (show (13 : Nat) ≠ 5 + t by omega)]
  refine ⟨inN (by omega) (by omega), ?_⟩
  unfold pC at h
  exact br_c (fun q => by rw [if_pos q] at h; exact h) (fun q => by rw [if_neg q] at h; exact h)
theorem s_touch {c : Nat → Int32} {t : Nat} {Q : (Nat → Int32) → Prop} (h : Q (tM c t)) : wp_X7_touch c (nI t) Q := by
  have e12 : Int32.toNatClampNeg 12 = 12 := rfl
  unfold wp_X7_touch B_X7_touch_21
  rw [e12]
  unfold tM at h
  exact br_c (fun q => ⟨vpc rfl, by rw [if_pos q] at h; exact h⟩) (fun q => ⟨vpc rfl, by rw [if_neg q] at h; exact h⟩)
theorem tM_upd (m : Nat → Int32) (t u : Nat) (hu : u < 6) (a : Int32) : tM (upd m (5 + u) a) t = upd (tM m t) (5 + u) a := by
  unfold tM
  rw [pk_un (show (11 : Nat) ≠ 5 + u by omega), pk_un (show (12 : Nat) ≠ 5 + u by omega)]
  exact fa_upd_swap m (by omega) a _
section Acts2
variable {np nt kp : Nat} {tk kd wt lk pe th la ki wo li nw now rows mrows : Nat → Int32} {x1 x2 : Int32} {Z : Int32 → Int32 → (Nat → Int32) → (Nat → Int32) → Int32 → (Nat → Int32) → (Nat → Int32) → Int32 → Prop}
theorem pushK8 {k : Nat} (h : k ≤ 8) : pushK k 8 ≤ 8 := by unfold pushK; split <;> omega
theorem e_refuse (hn : nt ≤ 6) (hS : Sd np nt nw) (hR : RS nw now) (hk : kp ≤ 8) (hW : Rw np nt kp rows mrows) (hZ : ∀ r c rs k m mr, k ≤ 8 → Sd np nt c → RS c m → Rw np nt k rs mr → Z r r c rs (nI k) m mr (nI k)) : wp_X6_refuse nw rows 8 (nI kp) (fun r1 c rs s => wp_X7_refuse now mrows (nI kp) (fun r2 m mr q => Z r1 r2 c rs s m mr q)) := by
  unfold wp_X6_refuse wp_X3_refusable
  rcases can_both hS hR hn with ⟨a1, a2⟩ | ⟨j, a0, a1, a2, a3, a4⟩
  · exact br_t a2 (br_t a1 (hZ _ _ _ _ _ _ hk hS hR hW))
  · rw [a4]
    refine br_f (nI_m4 (by omega)) (s_push hk ?_)
    unfold wp_X3_putBack
    rw [n5, cl (by omega)]
    refine ⟨inN (by omega) (by omega), ?_⟩
    refine br_f (by rw [a1]; decide) (s7_know hk ?_)
    rw [a2, nI_pred, n5, cl (by omega), pk_un (show (12 : Nat) ≠ 11 by omega), pk_un (show (12 : Nat) ≠ 5 + j by omega), pk_un (show (13 : Nat) ≠ 5 + j by omega), pk_un (show (13 : Nat) ≠ 11 by omega)]
    exact ⟨inN (by omega) (by omega), hZ _ _ _ _ _ _ (pushK8 hk) (Sd_ref hn hS a0) (RS_ref hR (by omega)) (Rw_push hn hk hW hS hR)⟩
theorem e_buy (hP : PR np nt tk kd wt lk) (hM : MR np nt tk kd wt lk pe th la ki wo li) (hS : Sd np nt nw) (hR : RS nw now) (hk : kp ≤ 8) (hW : Rw np nt kp rows mrows) (hZ : ∀ r c rs k m mr, k ≤ 8 → Sd np nt c → RS c m → Rw np nt k rs mr → Z r r c rs (nI k) m mr (nI k)) : wp_X6_buy nw rows 8 (nI kp) (nI np) x1 x2 (fun r1 c rs s => wp_X7_buy pe now mrows (nI kp) x1 x2 (fun r2 m mr q => Z r1 r2 c rs s m mr q)) := by
  have h5 := hP.2.1
  have h6 := hP.2.2.1
  have same : ∀ r, Z r r nw rows (nI kp) now mrows (nI kp) := fun r => hZ _ _ _ _ _ _ hk hS hR hW
  rcases ofN x1 np (by omega) with ⟨p, hp, e⟩ | hx
  · rw [e]
    refine s_isPerson_t hp (by omega) (br_f (by decide) ?_)
    have k7 : ∀ {Q : Int32 → Prop}, Q 1 → wp_X7_isPerson pe (nI p) Q := fun h => s7_isPerson_t hM.1 hp (by omega) h
    refine br_c (fun c => k7 (br_f (by decide) (br_t c (br_t rfl (same _))))) (fun c => br_c (fun c2 => k7 (br_f (by decide) (br_f c (br_t c2 (br_t rfl (same _)))))) (fun c2 => ?_))
    have h0 : ¬ x2 < 0 := by
      intro q
      apply c
      rw [fa_lt] at q ⊢
      have e1 : (0 : Int32).toInt = 0 := by decide
      have e2 : (1 : Int32).toInt = 1 := by decide
      omega
    obtain ⟨y, hy, ey⟩ := nI_of2 (M := 9) (n := 9) (by decide) h0 (Int32.not_lt.mp c2)
    obtain ⟨v, hv, ev⟩ := hS.1 p (by omega)
    have evm : now p = nI v := by rw [hR.1 p (by omega)]; exact ev
    refine s_ticketsOf (by omega) ?_
    have kin : ∀ {Q : Int32 → Prop}, Q 1 → wp_X7_in x2 1 9 Q := fun h => br_f c (br_f c2 h)
    by_cases hf : 9 < v + y
    · have t1 : 9 < nw p + x2 := by rw [ev, ey, nI_add]; exact ltN (a := 9) hf (by omega)
      refine br_t t1 (k7 (br_f (by decide) (kin (br_f (by decide) ?_))))
      rw [n0, cl (by omega)]
      exact ⟨inN (by omega) (by omega), br_t (by rw [hR.1 p (by omega)]; exact t1) (same _)⟩
    · have t1 : ¬ 9 < nw p + x2 := by rw [ev, ey, nI_add]; exact nltN (b := v + y) (a := 9) (by omega) (by omega)
      refine br_f t1 (s_push hk ?_)
      unfold wp_X3_addTickets
      rw [cl (by omega)]
      refine ⟨inN (by omega) (by omega), inN (by omega) (by omega), s_ticketsOf (by omega) (k7 (br_f (by decide) (kin (br_f (by decide) ?_))))⟩
      rw [n0, cl (by omega)]
      refine ⟨inN (by omega) (by omega), br_f (by rw [hR.1 p (by omega)]; exact t1) (s7_know hk ⟨inN (by omega) (by omega), inN (by omega) (by omega), inN (by omega) (by omega), ?_⟩)⟩
      rw [pk_us, pk_us, ev, evm, ey, nI_add]
      exact hZ _ _ _ _ _ _ (pushK8 hk) (Sd_tk h6 h5 hS hp (by omega)) (RS_tk hR (by omega)) (Rw_push h6 hk hW hS hR)
  · exact s_isPerson_f hx (by omega) (br_t rfl (s7_isPerson_f hM.1 hx (by omega) (br_t rfl (same _))))
theorem e_hand (hP : PR np nt tk kd wt lk) (hM : MR np nt tk kd wt lk pe th la ki wo li) (hS : Sd np nt nw) (hR : RS nw now) (hk : kp ≤ 8) (hW : Rw np nt kp rows mrows) (hZ : ∀ r c rs k m mr, k ≤ 8 → Sd np nt c → RS c m → Rw np nt k rs mr → Z r r c rs (nI k) m mr (nI k)) : wp_X6_hand nw rows 8 (nI kp) (nI np) x1 x2 (fun r1 c rs s => wp_X7_hand pe now mrows (nI kp) x1 x2 (fun r2 m mr q => Z r1 r2 c rs s m mr q)) := by
  have h5 := hP.2.1
  have h6 := hP.2.2.1
  have same : ∀ r, Z r r nw rows (nI kp) now mrows (nI kp) := fun r => hZ _ _ _ _ _ _ hk hS hR hW
  rcases ofN x1 np (by omega) with ⟨p, hp, e⟩ | hx
  · rw [e]
    refine s_isPerson_t hp (by omega) (br_f (by decide) ?_)
    have k7 : ∀ {Q : Int32 → Prop}, Q 1 → wp_X7_isPerson pe (nI p) Q := fun h => s7_isPerson_t hM.1 hp (by omega) h
    rcases ofN x2 np (by omega) with ⟨q, hq, e2⟩ | hx2
    · rw [e2]
      refine s_isPerson_t hq (by omega) (br_f (by decide) ?_)
      have k8 : ∀ {Q : Int32 → Prop}, Q 1 → wp_X7_isPerson pe (nI q) Q := fun h => s7_isPerson_t hM.1 hq (by omega) h
      refine br_c (fun c => k7 (br_f (by decide) (k8 (br_f (by decide) (br_t c (same _)))))) (fun c => s_ticketsOf (by omega) ?_)
      have hpq : p ≠ q := fun z => c (by rw [z])
      obtain ⟨v, hv, ev⟩ := hS.1 p (by omega)
      obtain ⟨u, hu, eu⟩ := hS.1 q (by omega)
      have evm : now p = nI v := by rw [hR.1 p (by omega)]; exact ev
      have eum : now q = nI u := by rw [hR.1 q (by omega)]; exact eu
      by_cases hv0 : v = 0
      · refine br_t (by rw [ev, hv0]; rfl) (k7 (br_f (by decide) (k8 (br_f (by decide) (br_f c ?_)))))
        rw [n0, cl (by omega)]
        exact ⟨inN (by omega) (by omega), br_t (by rw [evm, hv0]; rfl) (same _)⟩
      · refine br_f (by rw [ev]; exact nI_ne0 (by omega) (by omega)) (s_ticketsOf (by omega) ?_)
        by_cases hu9 : u < 9
        · refine br_t (by rw [eu]; exact ltN (b := 9) hu9 (by omega)) (s_push hk ?_)
          unfold wp_X3_addTickets
          rw [cl (by omega), cl (by omega)]
          refine ⟨inN (by omega) (by omega), inN (by omega) (by omega), inN (by omega) (by omega), inN (by omega) (by omega), s_ticketsOf (by omega) (k7 (br_f (by decide) (k8 (br_f (by decide) (br_f c ?_)))))⟩
          rw [n0, n0, cl (by omega), cl (by omega)]
          refine ⟨inN (by omega) (by omega), br_f (by rw [evm]; exact nI_ne0 (by omega) (by omega)) ⟨inN (by omega) (by omega), br_f (by rw [eum]; exact neN (b := 9) (by omega) (by omega) (by omega)) (s7_know hk ⟨inN (by omega) (by omega), inN (by omega) (by omega), inN (by omega) (by omega), inN (by omega) (by omega), inN (by omega) (by omega), ?_⟩)⟩⟩
          rw [pk_us, pk_us, pk_un (show q ≠ p by omega), pk_un (show q ≠ p by omega), ev, evm, eu, eum]
          have ea : nI v + (-1) = nI (v - 1) := sb_m1 (by omega)
          have eb : nI v - 1 = nI (v - 1) := nI_m1 (by omega)
          rw [ea, eb, nI_1]
          exact hZ _ _ _ _ _ _ (pushK8 hk) (Sd_tk h6 h5 (Sd_tk h6 h5 hS hp (by omega)) hq (by omega)) (RS_tk (RS_tk hR (by omega)) (by omega)) (Rw_push h6 hk hW hS hR)
        · have e9 : u = 9 := by omega
          refine br_f (by rw [eu, e9]; decide) (k7 (br_f (by decide) (k8 (br_f (by decide) (br_f c ?_)))))
          rw [n0, n0, cl (by omega), cl (by omega)]
          exact ⟨inN (by omega) (by omega), br_f (by rw [evm]; exact nI_ne0 (by omega) (by omega)) ⟨inN (by omega) (by omega), br_t (by rw [eum, e9]; rfl) (same _)⟩⟩
    · exact s_isPerson_f hx2 (by omega) (br_t rfl (k7 (br_f (by decide) (s7_isPerson_f hM.1 hx2 (by omega) (br_t rfl (same _))))))
  · exact s_isPerson_f hx (by omega) (br_t rfl (s7_isPerson_f hM.1 hx (by omega) (br_t rfl (same _))))
theorem e_give (hP : PR np nt tk kd wt lk) (hM : MR np nt tk kd wt lk pe th la ki wo li) (hS : Sd np nt nw) (hR : RS nw now) (hk : kp ≤ 8) (hW : Rw np nt kp rows mrows) (hZ : ∀ r c rs k m mr, k ≤ 8 → Sd np nt c → RS c m → Rw np nt k rs mr → Z r r c rs (nI k) m mr (nI k)) : wp_X6_give nw rows 8 (nI kp) (nI np) (nI nt) x1 x2 (fun r1 c rs s => wp_X7_give pe th now mrows (nI kp) x1 x2 (fun r2 m mr q => Z r1 r2 c rs s m mr q)) := by
  have h5 := hP.2.1
  have h6 := hP.2.2.1
  have same : ∀ r, Z r r nw rows (nI kp) now mrows (nI kp) := fun r => hZ _ _ _ _ _ _ hk hS hR hW
  rcases ofN x1 nt (by omega) with ⟨t, ht, e⟩ | hx
  · rw [e]
    refine s_isThing_t ht (by omega) (br_f (by decide) ?_)
    have k7 : ∀ {Q : Int32 → Prop}, Q 1 → wp_X7_isThing th (nI t) Q := fun h => s7_isThing_t hM.2.1 ht (by omega) h
    rcases ofN x2 np (by omega) with ⟨p, hp, e2⟩ | hx2
    · rw [e2]
      refine s_isPerson_t hp (by omega) (br_f (by decide) (s_ownerOf (by omega) ?_))
      have k8 : ∀ {Q : Int32 → Prop}, Q 1 → wp_X7_isPerson pe (nI p) Q := fun h => s7_isPerson_t hM.1 hp (by omega) h
      have em : now (5 + t) = nw (5 + t) := hR.1 (5 + t) (by omega)
      refine br_c (fun c => k7 (br_f (by decide) (k8 (br_f (by decide) ?_)))) (fun c => br_c (fun c2 => k7 (br_f (by decide) (k8 (br_f (by decide) ?_)))) (fun c2 => s_push hk (s_pass (by omega) c2 (k7 (br_f (by decide) (k8 (br_f (by decide) ?_)))))))
      · rw [n5, cl (by omega), em]; exact ⟨inN (by omega) (by omega), br_t c (same _)⟩
      · rw [n5, cl (by omega), em]; exact ⟨inN (by omega) (by omega), br_f c (br_t c2 (same _))⟩
      · rw [n5, cl (by omega), em]
        exact ⟨inN (by omega) (by omega), br_f c (br_f c2 (s7_know hk ⟨inN (by omega) (by omega), s_touch (hZ _ _ _ _ _ _ (pushK8 hk) (Sd_pass h6 h5 hS ht hp) (RS_pass h6 hS hR ht) (Rw_push h6 hk hW hS hR))⟩))⟩
    · exact s_isPerson_f hx2 (by omega) (br_t rfl (k7 (br_f (by decide) (s7_isPerson_f hM.1 hx2 (by omega) (br_t rfl (same _))))))
  · exact s_isThing_f hx (by omega) (br_t rfl (s7_isThing_f hM.2.1 hx (by omega) (br_t rfl (same _))))
theorem e_swap (hP : PR np nt tk kd wt lk) (hM : MR np nt tk kd wt lk pe th la ki wo li) (hS : Sd np nt nw) (hR : RS nw now) (hk : kp ≤ 8) (hW : Rw np nt kp rows mrows) (hZ : ∀ r c rs k m mr, k ≤ 8 → Sd np nt c → RS c m → Rw np nt k rs mr → Z r r c rs (nI k) m mr (nI k)) : wp_X6_swap nw rows 8 (nI kp) (nI nt) x1 x2 (fun r1 c rs s => wp_X7_swap th now mrows (nI kp) x1 x2 (fun r2 m mr q => Z r1 r2 c rs s m mr q)) := by
  have h5 := hP.2.1
  have h6 := hP.2.2.1
  have same : ∀ r, Z r r nw rows (nI kp) now mrows (nI kp) := fun r => hZ _ _ _ _ _ _ hk hS hR hW
  rcases ofN x1 nt (by omega) with ⟨t, ht, e⟩ | hx
  · rw [e]
    refine s_isThing_t ht (by omega) (br_f (by decide) ?_)
    have k7 : ∀ {Q : Int32 → Prop}, Q 1 → wp_X7_isThing th (nI t) Q := fun h => s7_isThing_t hM.2.1 ht (by omega) h
    rcases ofN x2 nt (by omega) with ⟨u, hu, e2⟩ | hx2
    · rw [e2]
      refine s_isThing_t hu (by omega) (br_f (by decide) ?_)
      have k8 : ∀ {Q : Int32 → Prop}, Q 1 → wp_X7_isThing th (nI u) Q := fun h => s7_isThing_t hM.2.1 hu (by omega) h
      have em : now (5 + t) = nw (5 + t) := hR.1 (5 + t) (by omega)
      have en : now (5 + u) = nw (5 + u) := hR.1 (5 + u) (by omega)
      refine br_c (fun c => k7 (br_f (by decide) (k8 (br_f (by decide) (br_t c (same _)))))) (fun c => s_ownerOf (by omega) (s_ownerOf (by omega) ?_))
      have htu : t ≠ u := fun z => c (by rw [z])
      have k9 : ∀ {r : Int32} {C : Nat → Int32} {RR : Nat → Int32} {S : Int32}, ((nw (5 + t) = -4 → Z r (-2) C RR S now mrows (nI kp)) ∧ (¬ nw (5 + t) = -4 → (nw (5 + u) = -4 → Z r (-2) C RR S now mrows (nI kp)) ∧ (¬ nw (5 + u) = -4 → (nw (5 + t) = nw (5 + u) → Z r (-2) C RR S now mrows (nI kp)) ∧ (¬ nw (5 + t) = nw (5 + u) → Z r (nw (5 + u)) C RR S (tM (tM (upd (upd now (5 + t) (nw (5 + u))) (5 + u) (nw (5 + t))) t) u) (pushR kp mrows now) (nI (pushK kp 8)))))) → wp_X7_swap th now mrows (nI kp) (nI t) (nI u) (fun r2 m mr q => Z r r2 C RR S m mr q) := by
        intro r C RR S h
        refine k7 (br_f (by decide) (k8 (br_f (by decide) (br_f c ?_))))
        rw [n5, n5, cl (by omega), cl (by omega), em, en]
        exact ⟨inN (by omega) (by omega), inN (by omega) (by omega), br_c (fun a => h.1 a) (fun a => br_c (fun b => (h.2 a).1 b) (fun b => br_c (fun d => ((h.2 a).2 b).1 d) (fun d => s7_know hk ⟨inN (by omega) (by omega), inN (by omega) (by omega), s_touch (s_touch (((h.2 a).2 b).2 d))⟩)))⟩
      refine br_c (fun a => k9 (br_t a (same _))) (fun a => br_c (fun b => k9 (br_f a (br_t b (same _)))) (fun b => br_c (fun d => k9 (br_f a (br_f b (br_t d (same _))))) (fun d => s_push hk (s_pass (by omega) d ?_))))
      rcases hS.2.2.1 t (by omega) with z | ⟨-, p, hp, ep⟩
      · exact absurd z a
      · rcases hS.2.2.1 u (by omega) with z | ⟨-, q, hq, eq⟩
        · exact absurd z b
        · have hne : ¬ pC nw t (nw (5 + u)) (5 + u) = nw (5 + t) := by
            rw [pC_lo nw (by omega) (by omega), pk_un (by omega)]
            exact fun z => d z.symm
          refine s_pass (by omega) hne (k9 (br_f a (br_f b (br_f d ?_))))
          rw [tM_upd _ t u (by omega)]
          have S1 : Sd np nt (pC nw t (nw (5 + u))) := by rw [eq]; exact Sd_pass h6 h5 hS ht hq
          have R1 : RS (pC nw t (nw (5 + u))) (tM (upd now (5 + t) (nw (5 + u))) t) := RS_pass h6 hS hR ht
          have S2 : Sd np nt (pC (pC nw t (nw (5 + u))) u (nw (5 + t))) := by rw [ep]; exact Sd_pass h6 h5 S1 hu hp
          exact hZ _ _ _ _ _ _ (pushK8 hk) S2 (RS_pass h6 S1 R1 hu) (Rw_push h6 hk hW hS hR)
    · exact s_isThing_f hx2 (by omega) (br_t rfl (k7 (br_f (by decide) (s7_isThing_f hM.2.1 hx2 (by omega) (br_t rfl (same _))))))
  · exact s_isThing_f hx (by omega) (br_t rfl (s7_isThing_f hM.2.1 hx (by omega) (br_t rfl (same _))))
end Acts2
