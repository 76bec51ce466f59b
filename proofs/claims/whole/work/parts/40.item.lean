/-! one item of the text, in both -/
def PZ (np nt : Nat) (tk kd wt lk : Nat → Int32) : Prop := np ≤ 5 ∧ nt ≤ 6 ∧ (∀ p, p < 5 → ∃ v, v ≤ 9 ∧ tk p = nI v) ∧ (∀ p, np ≤ p → p < 5 → tk p = 0) ∧ (∀ t, t < nt → ∃ k, k ≤ 3 ∧ kd t = nI k) ∧ (∀ t, t < nt → ∃ v, v ≤ 30 ∧ wt t = nI v) ∧ (∀ k, k < 30 → ∃ v, v ≤ 30 ∧ lk k = nI v)
/-- the reference's draft -/
def DM (np nt : Nat) (tk kd wt lk pe th la ki wo li : Nat → Int32) : Prop := pe 1 = nI np ∧ th 1 = nI nt ∧ (∀ p, p < np → la (5 + p) = tk p) ∧ (∀ t, t < nt → ki (6 + t) = kd t) ∧ (∀ t, t < nt → wo (6 + t) = wt t) ∧ (∀ k, k < 30 → li (30 + k) = lk k)
/-- what is laid stays -/
def FX (pe th la ki wo li pe' th' la' ki' wo' li' : Nat → Int32) : Prop := pe' 0 = pe 0 ∧ th' 0 = th 0 ∧ (∀ p, p < 5 → la' p = la p) ∧ (∀ t, t < 6 → ki' t = ki t) ∧ (∀ t, t < 6 → wo' t = wo t) ∧ (∀ k, k < 30 → li' k = li k)
theorem FX_refl (pe th la ki wo li : Nat → Int32) : FX pe th la ki wo li pe th la ki wo li := ⟨rfl, rfl, fun _ _ => rfl, fun _ _ => rfl, fun _ _ => rfl, fun _ _ => rfl⟩
theorem FX_trans {pe th la ki wo li pe' th' la' ki' wo' li' pe2 th2 la2 ki2 wo2 li2 : Nat → Int32} (h : FX pe th la ki wo li pe' th' la' ki' wo' li') (g : FX pe' th' la' ki' wo' li' pe2 th2 la2 ki2 wo2 li2) : FX pe th la ki wo li pe2 th2 la2 ki2 wo2 li2 := by
  obtain ⟨h1, h2, h3, h4, h5, h6⟩ := h
  obtain ⟨g1, g2, g3, g4, g5, g6⟩ := g
  exact ⟨g1.trans h1, g2.trans h2, fun p hp => (g3 p hp).trans (h3 p hp), fun t ht => (g4 t ht).trans (h4 t ht), fun t ht => (g5 t ht).trans (h5 t ht), fun k hk => (g6 k hk).trans (h6 k hk)⟩
theorem FX_pers {pe th la ki wo li : Nat → Int32} {x r : Int32} {n : Nat} : FX pe th la ki wo li (upd pe 1 x) th (upd la (5 + n) r) ki wo li := ⟨by rw [pk_un (by omega)], rfl, fun p hp => by rw [pk_un (by omega)], fun _ _ => rfl, fun _ _ => rfl, fun _ _ => rfl⟩
theorem FX_thing {pe th la ki wo li : Nat → Int32} {x r y : Int32} {n : Nat} : FX pe th la ki wo li pe (upd th 1 x) la (upd ki (6 + n) r) (upd wo (6 + n) y) li := ⟨rfl, by rw [pk_un (by omega)], fun _ _ => rfl, fun t ht => by rw [pk_un (by omega)], fun t ht => by rw [pk_un (by omega)], fun _ _ => rfl⟩
theorem FX_like {pe th la ki wo li : Nat → Int32} {r : Int32} {n : Nat} : FX pe th la ki wo li pe th la ki wo (upd li (30 + n) r) := ⟨rfl, rfl, fun _ _ => rfl, fun _ _ => rfl, fun _ _ => rfl, fun k hk => by rw [pk_un (by omega)]⟩
/-- the item is at fault -/
def IFa (k : Nat) (le tx : Nat → Int32) (a np nt : Nat) (tk kd wt lk : Nat → Int32) : Prop := (∀ nums (Q : Int32 → (Nat → Int32) → Int32 → (Nat → Int32) → (Nat → Int32) → (Nat → Int32) → (Nat → Int32) → Int32 → Int32 → Prop), (∀ nums' at' tk' kd' wt' lk' p' t', Q 0 nums' at' tk' kd' wt' lk' p' t') → wp_X5_tellItem le nums (nI k) (nI a) tk kd wt lk (nI np) (nI nt) Q) ∧ (∀ pe th la ki wo li (Q : (Nat → Int32) → (Nat → Int32) → (Nat → Int32) → (Nat → Int32) → (Nat → Int32) → (Nat → Int32) → Int32 → Int32 → Prop), DM np nt tk kd wt lk pe th la ki wo li → (∀ pe' th' la' ki' wo' li' at', FX pe th la ki wo li pe' th' la' ki' wo' li' → Q pe' th' la' ki' wo' li' at' 1) → wp_X7_readItem tx (nI k) pe th la ki wo li (nI a) 0 Q)
/-- the item is as it should be -/
def ISo (k : Nat) (le tx : Nat → Int32) (a np nt : Nat) (tk kd wt lk : Nat → Int32) : Prop := ∃ a' np' nt' tk' kd' wt' lk', a < a' ∧ a' ≤ k ∧ PZ np' nt' tk' kd' wt' lk' ∧ (∀ nums (Q : Int32 → (Nat → Int32) → Int32 → (Nat → Int32) → (Nat → Int32) → (Nat → Int32) → (Nat → Int32) → Int32 → Int32 → Prop), (∀ nums', Q 1 nums' (nI a') tk' kd' wt' lk' (nI np') (nI nt')) → wp_X5_tellItem le nums (nI k) (nI a) tk kd wt lk (nI np) (nI nt) Q) ∧ (∀ pe th la ki wo li (Q : (Nat → Int32) → (Nat → Int32) → (Nat → Int32) → (Nat → Int32) → (Nat → Int32) → (Nat → Int32) → Int32 → Int32 → Prop), DM np nt tk kd wt lk pe th la ki wo li → (∀ pe' th' la' ki' wo' li', DM np' nt' tk' kd' wt' lk' pe' th' la' ki' wo' li' → FX pe th la ki wo li pe' th' la' ki' wo' li' → Q pe' th' la' ki' wo' li' (nI a') 0) → wp_X7_readItem tx (nI k) pe th la ki wo li (nI a) 0 Q)
section Item
variable {k a np nt : Nat} {v : Nat → Nat} {le tx tk kd wt lk : Nat → Int32}
theorem bad_num {hi : Int32} {b h : Nat} {Q : Int32 → Int32 → Int32 → Prop} (hT : TV k v le tx) (hb : b < 500) (hh : h < 1000) (ehi : hi = nI h - 1) (h0 : ∀ r c, c ≤ b + 2 → Q r (nI c) 1) : wp_X7_number tx (nI k) (nI b) 1 0 hi Q := s7_number hT hb hh ehi (fun x c z => absurd z (by decide)) (fun _ => h0)
theorem bad_due {b s : Nat} {Q : Int32 → Int32 → Prop} (hT : TV k v le tx) (hb : b < 600) (hs : s < 1000) (h0 : Q (nI (b + 1)) 1) : wp_X7_due tx (nI k) (nI b) 1 (nI s) Q := s7_due hT hb hs (fun z => absurd z (by decide)) (fun _ => h0)
theorem itemP (hT : TV k v le tx) (ha : a < k) (hZ : PZ np nt tk kd wt lk) (hv : v a = 112) : IFa k le tx a np nt tk kd wt lk ∨ ISo k le tx a np nt tk kd wt lk := by
  have hk := hT.1
  have z5 := hZ.1
  by_cases hok : np < 5 ∧ ∃ x c, Rd v k (a + 1) 59 x c ∧ x < 10
  · right
    obtain ⟨hp, x, c, hR, hx⟩ := hok
    obtain ⟨l1, l2, l3⟩ := Rd_lt hR
    obtain ⟨q1, q2, q3, q4, q5, q6, q7⟩ := hZ
    refine ⟨c, np + 1, nt, upd tk np (nI x), kd, wt, lk, by omega, l2, ⟨by omega, q2, fun p hp => ?_, fun p h1 h2 => ?_, q5, q6, q7⟩, fun nums Q h => s_next hT (by omega) (fun _ => ?_) (fun z => absurd ha z), fun pe th la ki wo li Q hD h => s7_here hT (by omega) (fun _ => ?_) (fun z => absurd ha z)⟩
    · by_cases e : p = np
      · rw [e, pk_us]; exact ⟨x, by omega, rfl⟩
      · rw [pk_un e]; exact q3 p hp
    · rw [pk_un (by omega)]; exact q4 p (by omega) h2
    · rw [hv]
      refine br_f (by decide) (br_t rfl (s_read1 hT (by omega) (fun x' c' hR' => br_f (by decide) ?_) (fun z => absurd hR (z x c))))
      obtain ⟨e1, e2⟩ := Rd_one hR hR'
      rw [e1, e2, pk_us]
      refine br_t (ltN (b := 5) hp (by omega)) (br_f (nltN (a := 9) (by omega) (by omega)) ⟨inN (by omega) (by omega), br_f (by decide) ?_⟩)
      rw [cl (by omega), nI_1]
      exact h _
    · obtain ⟨d1, d2, d3, d4, d5, d6⟩ := hD
      rw [hv, nI_1]
      refine br_f (by decide) (br_t rfl (br_f (by rw [d1]; exact neN (b := 5) (by omega) (by omega) (by omega)) ?_))
      rw [d1, n5, cl (by omega), nI_1]
      refine s7_rd (h := 10) (s := 59) (Z := fun r b w => Q (upd pe 1 (nI (np + 1))) th (upd la (5 + np) r) ki wo li b w) hT (by omega) (by omega) (by omega) (by decide) (fun r b w hd => ⟨inN (by omega) (by omega), hd⟩) (fun x' c' _ hR' _ => ?_) (fun z => absurd ⟨rfl, x, c, hR, hx⟩ z)
      obtain ⟨e1, e2⟩ := Rd_one hR hR'
      rw [e1, e2]
      refine h _ _ _ _ _ _ ⟨pk_us, d2, fun p hp => ?_, d4, d5, d6⟩ FX_pers
      by_cases e : p = np
      · rw [e, pk_us, pk_us]
      · rw [pk_un (by omega), pk_un e]; exact d3 p (by omega)
  · left
    refine ⟨fun nums Q h => s_next hT (by omega) (fun _ => ?_) (fun z => absurd ha z), fun pe th la ki wo li Q hD h => s7_here hT (by omega) (fun _ => ?_) (fun z => absurd ha z)⟩
    · rw [hv]
      refine br_f (by decide) (br_t rfl (s_read1 hT (by omega) (fun x' c' hR' => br_f (by decide) ?_) (fun z nums' at' => br_t rfl (h _ _ _ _ _ _ _ _))))
      have l3 := (Rd_lt hR').2.2
      rw [pk_us]
      by_cases hp : np < 5
      · refine br_t (ltN (b := 5) hp (by omega)) (br_t (ltN (a := 9) ?_ (by omega)) (br_t rfl (h _ _ _ _ _ _ _ _)))
        rcases Nat.lt_or_ge 9 x' with q | q
        · exact q
        · exact absurd ⟨hp, x', c', hR', by omega⟩ hok
      · exact br_f (nltN (b := 5) (by omega) (by omega)) (br_t rfl (h _ _ _ _ _ _ _ _))
    · obtain ⟨d1, d2, d3, d4, d5, d6⟩ := hD
      rw [hv, nI_1]
      refine br_f (by decide) (br_t rfl ?_)
      by_cases hp : np < 5
      · refine br_f (by rw [d1]; exact neN (b := 5) (by omega) (by omega) (by omega)) ?_
        rw [d1, n5, cl (by omega), nI_1]
        refine s7_rd (h := 10) (s := 59) (Z := fun r b w => Q (upd pe 1 (nI (np + 1))) th (upd la (5 + np) r) ki wo li b w) hT (by omega) (by omega) (by omega) (by decide) (fun r b w hd => ⟨inN (by omega) (by omega), hd⟩) (fun x' c' _ hR' hx' => absurd ⟨hp, x', c', hR', hx'⟩ hok) (fun z r c hc => h _ _ _ _ _ _ _ FX_pers)
      · refine br_t (by rw [d1, show np = 5 by omega]; rfl) (bad_due (s := 59) hT (by omega) (by omega) (h _ _ _ _ _ _ _ (FX_refl _ _ _ _ _ _)))
theorem itemT (hT : TV k v le tx) (ha : a < k) (hZ : PZ np nt tk kd wt lk) (hv : v a = 116) : IFa k le tx a np nt tk kd wt lk ∨ ISo k le tx a np nt tk kd wt lk := by
  have hk := hT.1
  have z6 := hZ.2.1
  have u0 : ∀ (nums : Nat → Int32) (x y : Int32), upd (upd nums 0 x) 1 y 0 = x := fun nums x y => by rw [pk_un (by omega), pk_us]
  by_cases hok : nt < 6 ∧ ∃ x c y d, Rd v k (a + 1) 44 x c ∧ x < 4 ∧ Rd v k c 59 y d ∧ y < 31
  · right
    obtain ⟨hn, x, c, y, d, hR, hx, hS, hy⟩ := hok
    obtain ⟨l1, l2, l3⟩ := Rd_lt hR
    obtain ⟨m1, m2, m3⟩ := Rd_lt hS
    obtain ⟨q1, q2, q3, q4, q5, q6, q7⟩ := hZ
    refine ⟨d, np, nt + 1, tk, upd kd nt (nI x), upd wt nt (nI y), lk, by omega, m2, ⟨q1, by omega, q3, q4, fun t ht => ?_, fun t ht => ?_, q7⟩, fun nums Q h => s_next hT (by omega) (fun _ => ?_) (fun z => absurd ha z), fun pe th la ki wo li Q hD h => s7_here hT (by omega) (fun _ => ?_) (fun z => absurd ha z)⟩
    · by_cases e : t = nt
      · rw [e, pk_us]; exact ⟨x, by omega, rfl⟩
      · rw [pk_un e]; exact q5 t (by omega)
    · by_cases e : t = nt
      · rw [e, pk_us]; exact ⟨y, by omega, rfl⟩
      · rw [pk_un e]; exact q6 t (by omega)
    · rw [hv]
      refine br_f (by decide) (br_f (by decide) (br_t rfl (s_read2 hT (by omega) (fun x' c' y' d' hR' hS' => br_f (by decide) ?_) (fun z => absurd hS (z x c y d hR)))))
      obtain ⟨e1, e2⟩ := Rd_one hR hR'
      rw [e2] at hS'
      obtain ⟨e3, e4⟩ := Rd_one hS hS'
      rw [e1, e3, e4, u0, pk_us]
      have hin : vp_in (nI nt) 6 := inN (by omega) (by omega)
      refine br_t (ltN (b := 6) hn (by omega)) (br_f (nltN (a := 3) (by omega) (by omega)) (br_f (nltN (a := 30) (by omega) (by omega)) ⟨hin, hin, br_f (by decide) ?_⟩))
      rw [cl (by omega), nI_1]
      exact h _
    · obtain ⟨d1, d2, d3, d4, d5, d6⟩ := hD
      rw [hv, nI_1]
      refine br_f (by decide) (br_f (by decide) (br_t rfl (br_f (by rw [d2]; exact neN (b := 6) (by omega) (by omega) (by omega)) ?_)))
      rw [d2, n6, cl (by omega), nI_1]
      have hin : vp_in (nI (6 + nt)) 12 := inN (by omega) (by omega)
      refine s7_rd (h := 4) (s := 44) (Z := fun r b w => wp_X7_number tx (nI k) b w 0 30 (fun r13 at2 w2 => vp_in (nI (6 + nt)) 12 ∧ B_X7_readItem_78 tx (nI k) pe (upd th 1 (nI (nt + 1))) la (upd ki (6 + nt) r) (upd wo (6 + nt) r13) li at2 w2 Q)) hT (by omega) (by omega) (by omega) (by decide) (fun r b w hd => ⟨hin, hd⟩) (fun x' c' _ hR' _ => ?_) (fun z => absurd ⟨rfl, x, c, hR, hx⟩ z)
      obtain ⟨e1, e2⟩ := Rd_one hR hR'
      rw [e1, e2]
      refine s7_rd (h := 31) (s := 59) (Z := fun r b w => Q pe (upd th 1 (nI (nt + 1))) la (upd ki (6 + nt) (nI x)) (upd wo (6 + nt) r) li b w) hT (by omega) (by omega) (by omega) (by decide) (fun r b w hd => ⟨hin, hd⟩) (fun y' d' _ hS' _ => ?_) (fun z => absurd ⟨rfl, y, d, hS, hy⟩ z)
      obtain ⟨e3, e4⟩ := Rd_one hS hS'
      rw [e3, e4]
      refine h _ _ _ _ _ _ ⟨d1, pk_us, d3, fun t ht => ?_, fun t ht => ?_, d6⟩ FX_thing
      · by_cases e : t = nt
        · rw [e, pk_us, pk_us]
        · rw [pk_un (by omega), pk_un e]; exact d4 t (by omega)
      · by_cases e : t = nt
        · rw [e, pk_us, pk_us]
        · rw [pk_un (by omega), pk_un e]; exact d5 t (by omega)
  · left
    refine ⟨fun nums Q h => s_next hT (by omega) (fun _ => ?_) (fun z => absurd ha z), fun pe th la ki wo li Q hD h => s7_here hT (by omega) (fun _ => ?_) (fun z => absurd ha z)⟩
    · rw [hv]
      refine br_f (by decide) (br_f (by decide) (br_t rfl (s_read2 hT (by omega) (fun x' c' y' d' hR' hS' => br_f (by decide) ?_) (fun z nums' at' => br_t rfl (h _ _ _ _ _ _ _ _)))))
      have l3 := (Rd_lt hR').2.2
      have m3 := (Rd_lt hS').2.2
      rw [u0, pk_us]
      by_cases hn : nt < 6
      · refine br_t (ltN (b := 6) hn (by omega)) ?_
        by_cases hx : x' < 4
        · refine br_f (nltN (a := 3) (by omega) (by omega)) (br_t (ltN (a := 30) ?_ (by omega)) (br_t rfl (h _ _ _ _ _ _ _ _)))
          rcases Nat.lt_or_ge 30 y' with q | q
          · exact q
          · exact absurd ⟨hn, x', c', y', d', hR', hx, hS', by omega⟩ hok
        · exact br_t (ltN (a := 3) (by omega) (by omega)) (br_t rfl (h _ _ _ _ _ _ _ _))
      · exact br_f (nltN (b := 6) (by omega) (by omega)) (br_t rfl (h _ _ _ _ _ _ _ _))
    · obtain ⟨d1, d2, d3, d4, d5, d6⟩ := hD
      rw [hv, nI_1]
      refine br_f (by decide) (br_f (by decide) (br_t rfl ?_))
      by_cases hn : nt < 6
      · refine br_f (by rw [d2]; exact neN (b := 6) (by omega) (by omega) (by omega)) ?_
        rw [d2, n6, cl (by omega), nI_1]
        have hin : vp_in (nI (6 + nt)) 12 := inN (by omega) (by omega)
        refine s7_rd (h := 4) (s := 44) (Z := fun r b w => wp_X7_number tx (nI k) b w 0 30 (fun r13 at2 w2 => vp_in (nI (6 + nt)) 12 ∧ B_X7_readItem_78 tx (nI k) pe (upd th 1 (nI (nt + 1))) la (upd ki (6 + nt) r) (upd wo (6 + nt) r13) li at2 w2 Q)) hT (by omega) (by omega) (by omega) (by decide) (fun r b w hd => ⟨hin, hd⟩) (fun x' c' _ hR' hx' => ?_) (fun z r c hc => bad_num (h := 31) hT (by omega) (by omega) (by decide) (fun r2 c2 hc2 => ⟨hin, bad_due (s := 59) hT (by omega) (by omega) (h _ _ _ _ _ _ _ FX_thing)⟩))
        have l2 := (Rd_lt hR').2.1
        exact s7_rd (h := 31) (s := 59) (Z := fun r b w => Q pe (upd th 1 (nI (nt + 1))) la (upd ki (6 + nt) (nI x')) (upd wo (6 + nt) r) li b w) hT (by omega) (by omega) (by omega) (by decide) (fun r b w hd => ⟨hin, hd⟩) (fun y' d' _ hS' hy' => absurd ⟨hn, x', c', y', d', hR', hx', hS', hy'⟩ hok) (fun z r c hc => h _ _ _ _ _ _ _ FX_thing)
      · refine br_t (by rw [d2, show nt = 6 by omega]; rfl) (bad_due (s := 59) hT (by omega) (by omega) (h _ _ _ _ _ _ _ (FX_refl _ _ _ _ _ _)))
theorem itemX (hT : TV k v le tx) (ha : a < k) (h1 : v a ≠ 108) (h2 : v a ≠ 112) (h3 : v a ≠ 116) : IFa k le tx a np nt tk kd wt lk := by
  have hk := hT.1
  have hv := hT.2 a ha
  have c1 : ¬ nI (v a) = 108 := neN (b := 108) h1 (by omega) (by omega)
  have c2 : ¬ nI (v a) = 112 := neN (b := 112) h2 (by omega) (by omega)
  have c3 : ¬ nI (v a) = 116 := neN (b := 116) h3 (by omega) (by omega)
  refine ⟨fun nums Q h => s_next hT (by omega) (fun _ => br_f c1 (br_f c2 (br_f c3 (h _ _ _ _ _ _ _ _)))) (fun z => absurd ha z), fun pe th la ki wo li Q hD h => s7_here hT (by omega) (fun _ => br_f c1 (br_f c2 (br_f c3 ?_))) (fun z => absurd ha z)⟩
  rw [nI_1]
  exact bad_due (s := 59) hT (by omega) (by omega) (h _ _ _ _ _ _ _ (FX_refl _ _ _ _ _ _))
theorem itemL (hT : TV k v le tx) (ha : a < k) (hZ : PZ np nt tk kd wt lk) (hv : v a = 108) : IFa k le tx a np nt tk kd wt lk ∨ ISo k le tx a np nt tk kd wt lk := by
  have hk := hT.1
  have z5 := hZ.1
  have z6 := hZ.2.1
  have u0 : ∀ (nums : Nat → Int32) (x y z : Int32), upd (upd (upd nums 0 x) 1 y) 2 z 0 = x := fun nums x y z => by rw [pk_un (by omega), pk_un (by omega), pk_us]
  have u1 : ∀ (nums : Nat → Int32) (x y z : Int32), upd (upd (upd nums 0 x) 1 y) 2 z 1 = y := fun nums x y z => by rw [pk_un (by omega), pk_us]
  by_cases hok : ∃ x c y d z e, Rd v k (a + 1) 44 x c ∧ x < np ∧ Rd v k c 44 y d ∧ y < nt ∧ Rd v k d 59 z e ∧ z < 31
  · right
    obtain ⟨x, c, y, d, z, e, hR, hx, hS, hy, hU, hz⟩ := hok
    obtain ⟨l1, l2, l3⟩ := Rd_lt hR
    obtain ⟨m1, m2, m3⟩ := Rd_lt hS
    obtain ⟨o1, o2, o3⟩ := Rd_lt hU
    obtain ⟨q1, q2, q3, q4, q5, q6, q7⟩ := hZ
    refine ⟨e, np, nt, tk, kd, wt, upd lk (6 * x + y) (nI z), by omega, o2, ⟨q1, q2, q3, q4, q5, q6, fun j hj => ?_⟩, fun nums Q h => s_next hT (by omega) (fun _ => ?_) (fun q => absurd ha q), fun pe th la ki wo li Q hD h => s7_here hT (by omega) (fun _ => ?_) (fun q => absurd ha q)⟩
    · by_cases e1 : j = 6 * x + y
      · rw [e1, pk_us]; exact ⟨z, by omega, rfl⟩
      · rw [pk_un e1]; exact q7 j hj
    · rw [hv]
      refine br_t rfl (s_read3 hT (by omega) (fun x' c' y' d' z' e' hR' hS' hU' => br_f (by decide) ?_) (fun q => absurd hU (q x c y d z e hR hS)))
      obtain ⟨e1, e2⟩ := Rd_one hR hR'
      rw [e2] at hS'
      obtain ⟨e3, e4⟩ := Rd_one hS hS'
      rw [e4] at hU'
      obtain ⟨e5, e6⟩ := Rd_one hU hU'
      rw [e1, e3, e5, e6, u0, u1, pk_us]
      refine s_isPerson_t hx (by omega) (br_f (by decide) (s_isThing_t hy (by omega) (br_f (by decide) (br_f (nltN (a := 30) (by omega) (by omega)) ?_))))
      rw [m6', nI_add, cl (by omega)]
      exact ⟨inN (by omega) (by omega), br_f (by decide) (h _)⟩
    · obtain ⟨d1, d2, d3, d4, d5, d6⟩ := hD
      rw [hv, nI_1]
      refine br_t rfl ?_
      unfold wp_X7_readLike
      refine s7_rd (h := np) (s := 44) (Z := fun r b w => wp_X7_number tx (nI k) b w 0 ((th 1) - 1) (fun r9 at10 w11 => wp_X7_due tx (nI k) at10 w11 44 (fun at14 w15 => wp_X7_number tx (nI k) at14 w15 0 30 (fun r17 at18 w19 => (w19 = 0 → vp_in ((30 + (6 * r)) + r9) 60 ∧ (B_X7_readItem_78 tx (nI k) pe th la ki wo (upd li (Int32.toNatClampNeg ((30 + (6 * r)) + r9)) r17) at18 w19 Q)) ∧ (¬ w19 = 0 → B_X7_readItem_78 tx (nI k) pe th la ki wo li at18 w19 Q))))) hT (by omega) (by omega) (by omega) (by rw [d1]) (fun r b w hd => hd) (fun x' c' _ hR' _ => ?_) (fun q => absurd ⟨rfl, x, c, hR, hx⟩ q)
      obtain ⟨e1, e2⟩ := Rd_one hR hR'
      rw [e1, e2]
      refine s7_rd (h := nt) (s := 44) (Z := fun r9 at14 w15 => wp_X7_number tx (nI k) at14 w15 0 30 (fun r17 at18 w19 => (w19 = 0 → vp_in ((30 + (6 * nI x)) + r9) 60 ∧ (B_X7_readItem_78 tx (nI k) pe th la ki wo (upd li (Int32.toNatClampNeg ((30 + (6 * nI x)) + r9)) r17) at18 w19 Q)) ∧ (¬ w19 = 0 → B_X7_readItem_78 tx (nI k) pe th la ki wo li at18 w19 Q))) hT (by omega) (by omega) (by omega) (by rw [d2]) (fun r b w hd => hd) (fun y' d' _ hS' _ => ?_) (fun q => absurd ⟨rfl, y, d, hS, hy⟩ q)
      obtain ⟨e3, e4⟩ := Rd_one hS hS'
      rw [e3, e4, m6, n30, nI_add, cl (by omega)]
      obtain ⟨b, g1, g2, g3, g4⟩ := hU
      have hb : b < 300 := by omega
      refine s7_number (h := 31) hT (by omega) (by omega) (by decide) (fun z' b' _ hN _ => ?_) (fun q => absurd ⟨rfl, z, b, g1, hz⟩ q)
      obtain ⟨e5, e6⟩ := Nm_one g1 hN
      rw [e5, e6]
      refine br_t rfl ⟨inN (by omega) (by omega), s7_due (s := 59) hT (by omega) (by omega) (fun _ _ _ => ?_) (fun q => absurd ⟨rfl, g2, g3⟩ q)⟩
      rw [← g4]
      rw [show 30 + 6 * x + y = 30 + (6 * x + y) by omega]
      refine h _ _ _ _ _ _ ⟨d1, d2, d3, d4, d5, fun j hj => ?_⟩ FX_like
      by_cases ej : j = 6 * x + y
      · rw [ej, pk_us, pk_us]
      · rw [pk_un (by omega), pk_un ej]; exact d6 j hj
  · left
    refine ⟨fun nums Q h => s_next hT (by omega) (fun _ => ?_) (fun q => absurd ha q), fun pe th la ki wo li Q hD h => s7_here hT (by omega) (fun _ => ?_) (fun q => absurd ha q)⟩
    · rw [hv]
      refine br_t rfl (s_read3 hT (by omega) (fun x' c' y' d' z' e' hR' hS' hU' => br_f (by decide) ?_) (fun q nums' at' => br_t rfl (h _ _ _ _ _ _ _ _)))
      have l3 := (Rd_lt hR').2.2
      have m3 := (Rd_lt hS').2.2
      have o3 := (Rd_lt hU').2.2
      rw [u0, u1, pk_us]
      by_cases hx : x' < np
      · refine s_isPerson_t hx (by omega) (br_f (by decide) ?_)
        by_cases hy : y' < nt
        · refine s_isThing_t hy (by omega) (br_f (by decide) (br_t (ltN (a := 30) ?_ (by omega)) (br_t rfl (h _ _ _ _ _ _ _ _))))
          rcases Nat.lt_or_ge 30 z' with q | q
          · exact q
          · exact absurd ⟨x', c', y', d', z', e', hR', hx, hS', hy, hU', by omega⟩ hok
        · exact s_isThing_f (fun j hj q => by have := (nI_eq (by omega) (by omega)).mp q; omega) (by omega) (br_t rfl (br_t rfl (h _ _ _ _ _ _ _ _)))
      · exact s_isPerson_f (fun j hj q => by have := (nI_eq (by omega) (by omega)).mp q; omega) (by omega) (br_t rfl (br_t rfl (h _ _ _ _ _ _ _ _)))
    · obtain ⟨d1, d2, d3, d4, d5, d6⟩ := hD
      rw [hv, nI_1]
      refine br_t rfl ?_
      unfold wp_X7_readLike
      have last : ∀ (r r9 : Int32) (b : Nat), b < 300 → wp_X7_number tx (nI k) (nI b) 1 0 30 (fun r17 at18 w19 => (w19 = 0 → vp_in ((30 + (6 * r)) + r9) 60 ∧ (B_X7_readItem_78 tx (nI k) pe th la ki wo (upd li (Int32.toNatClampNeg ((30 + (6 * r)) + r9)) r17) at18 w19 Q)) ∧ (¬ w19 = 0 → B_X7_readItem_78 tx (nI k) pe th la ki wo li at18 w19 Q)) := fun r r9 b hb => bad_num (h := 31) hT (by omega) (by omega) (by decide) (fun r2 c2 hc2 => br_f (by decide) (bad_due (s := 59) hT (by omega) (by omega) (h _ _ _ _ _ _ _ (FX_refl _ _ _ _ _ _))))
      refine s7_rd (h := np) (s := 44) (Z := fun r b w => wp_X7_number tx (nI k) b w 0 ((th 1) - 1) (fun r9 at10 w11 => wp_X7_due tx (nI k) at10 w11 44 (fun at14 w15 => wp_X7_number tx (nI k) at14 w15 0 30 (fun r17 at18 w19 => (w19 = 0 → vp_in ((30 + (6 * r)) + r9) 60 ∧ (B_X7_readItem_78 tx (nI k) pe th la ki wo (upd li (Int32.toNatClampNeg ((30 + (6 * r)) + r9)) r17) at18 w19 Q)) ∧ (¬ w19 = 0 → B_X7_readItem_78 tx (nI k) pe th la ki wo li at18 w19 Q))))) hT (by omega) (by omega) (by omega) (by rw [d1]) (fun r b w hd => hd) (fun x' c' _ hR' hx' => ?_) (fun q r c hc => bad_num (h := nt) hT (by omega) (by omega) (by rw [d2]) (fun r2 c2 hc2 => bad_due (s := 44) hT (by omega) (by omega) (last _ _ _ (by omega))))
      obtain ⟨l1, l2, l3⟩ := Rd_lt hR'
      refine s7_rd (h := nt) (s := 44) (Z := fun r9 at14 w15 => wp_X7_number tx (nI k) at14 w15 0 30 (fun r17 at18 w19 => (w19 = 0 → vp_in ((30 + (6 * nI x')) + r9) 60 ∧ (B_X7_readItem_78 tx (nI k) pe th la ki wo (upd li (Int32.toNatClampNeg ((30 + (6 * nI x')) + r9)) r17) at18 w19 Q)) ∧ (¬ w19 = 0 → B_X7_readItem_78 tx (nI k) pe th la ki wo li at18 w19 Q))) hT (by omega) (by omega) (by omega) (by rw [d2]) (fun r b w hd => hd) (fun y' d' _ hS' hy' => ?_) (fun q r c hc => last _ _ _ (by omega))
      obtain ⟨m1, m2, m3⟩ := Rd_lt hS'
      rw [m6, n30, nI_add, cl (by omega)]
      refine s7_number (h := 31) hT (by omega) (by omega) (by decide) (fun z' b' _ hN hz' => ?_) (fun q r b hb => br_f (by decide) (bad_due (s := 59) hT (by omega) (by omega) (h _ _ _ _ _ _ _ (FX_refl _ _ _ _ _ _))))
      have hb' : b' ≤ d' + 2 := by
        rcases hN.2 with ⟨-, -, q⟩ | ⟨-, -, q⟩ <;> omega
      refine br_t rfl ⟨inN (by omega) (by omega), s7_due (s := 59) hT (by omega) (by omega) (fun _ q1 q2 => absurd ⟨x', c', y', d', z', b' + 1, hR', hx', hS', hy', ⟨b', hN, q1, q2, rfl⟩, hz'⟩ hok) (fun q => ?_)⟩
      rw [show 30 + 6 * x' + y' = 30 + (6 * x' + y') by omega]
      exact h _ _ _ _ _ _ _ FX_like
theorem item (hT : TV k v le tx) (ha : a < k) (hZ : PZ np nt tk kd wt lk) : IFa k le tx a np nt tk kd wt lk ∨ ISo k le tx a np nt tk kd wt lk := by
  by_cases h1 : v a = 108
  · exact itemL hT ha hZ h1
  · by_cases h2 : v a = 112
    · exact itemP hT ha hZ h2
    · by_cases h3 : v a = 116
      · exact itemT hT ha hZ h3
      · exact Or.inl (itemX hT ha h1 h2 h3)
end Item
