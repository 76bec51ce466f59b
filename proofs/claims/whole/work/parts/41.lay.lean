/-! the whole text: fault, lay -/
theorem MR_FX {np nt : Nat} {tk kd wt lk pe th la ki wo li pe' th' la' ki' wo' li' : Nat → Int32} (hn : nt ≤ 6) (hM : MR np nt tk kd wt lk pe th la ki wo li) (h : FX pe th la ki wo li pe' th' la' ki' wo' li') : MR np nt tk kd wt lk pe' th' la' ki' wo' li' := by
  obtain ⟨h1, h2, h3, h4, h5, h6⟩ := h
  obtain ⟨m1, m2, m3, m4, m5, m6⟩ := hM
  exact ⟨h1.trans m1, h2.trans m2, fun p hp => (h3 p hp).trans (m3 p hp), fun t ht => (h4 t (by omega)).trans (m4 t ht), fun t ht => (h5 t (by omega)).trans (m5 t ht), fun k hk => (h6 k hk).trans (m6 k hk)⟩
section Tell
variable {k : Nat} {v : Nat → Nat} {le tx : Nat → Int32}
theorem tellAll (hT : TV k v le tx) : ∀ n a items np nt tk kd wt lk, k - a < n → items ≤ a → a ≤ k → PZ np nt tk kd wt lk → (∃ a0, a0 < k ∧ (∀ nums (Q : Int32 → (Nat → Int32) → Int32 → (Nat → Int32) → (Nat → Int32) → (Nat → Int32) → (Nat → Int32) → Int32 → Int32 → Prop), (∀ nums' at' tk' kd' wt' lk' p' t', Q (nI a0) nums' at' tk' kd' wt' lk' p' t') → L_X5_tell_11 le (nI k) Q n nums (nI a) tk kd wt lk (nI np) (nI nt) (nI items)) ∧ (∀ pe th la ki wo li (Q : Int32 → (Nat → Int32) → (Nat → Int32) → (Nat → Int32) → (Nat → Int32) → (Nat → Int32) → (Nat → Int32) → Int32 → Int32 → Prop), DM np nt tk kd wt lk pe th la ki wo li → (∀ pe' th' la' ki' wo' li' at' w', FX pe th la ki wo li pe' th' la' ki' wo' li' → Q (nI a0) pe' th' la' ki' wo' li' at' w') → L_X7_read_9 tx (nI k) Q n pe th la ki wo li (nI a) 0)) ∨ (∃ np' nt' tk' kd' wt' lk', PZ np' nt' tk' kd' wt' lk' ∧ (∀ nums (Q : Int32 → (Nat → Int32) → Int32 → (Nat → Int32) → (Nat → Int32) → (Nat → Int32) → (Nat → Int32) → Int32 → Int32 → Prop), (∀ nums' at', Q (-4) nums' at' tk' kd' wt' lk' (nI np') (nI nt')) → L_X5_tell_11 le (nI k) Q n nums (nI a) tk kd wt lk (nI np) (nI nt) (nI items)) ∧ (∀ pe th la ki wo li (Q : Int32 → (Nat → Int32) → (Nat → Int32) → (Nat → Int32) → (Nat → Int32) → (Nat → Int32) → (Nat → Int32) → Int32 → Int32 → Prop), DM np nt tk kd wt lk pe th la ki wo li → (∀ pe' th' la' ki' wo' li' at' w', DM np' nt' tk' kd' wt' lk' pe' th' la' ki' wo' li' → FX pe th la ki wo li pe' th' la' ki' wo' li' → Q (-4) pe' th' la' ki' wo' li' at' w') → L_X7_read_9 tx (nI k) Q n pe th la ki wo li (nI a) 0)) := by
  have hk := hT.1
  intro n
  induction n with
  | zero => intro a items np nt tk kd wt lk h; omega
  | succ n ih =>
    intro a items np nt tk kd wt lk h1 h2 h3 hZ
    by_cases ha : a < k
    · rcases item hT ha hZ with hF | ⟨a', np', nt', tk', kd', wt', lk', b1, b2, b3, b4, b5⟩
      · refine Or.inl ⟨a, ha, fun nums Q h => br_t (ltN (b := 200) (by omega) (by omega)) (br_t (ltN ha (by omega)) (hF.1 _ _ (fun _ _ _ _ _ _ _ _ => br_t rfl (h _ _ _ _ _ _ _ _)))), fun pe th la ki wo li Q hD h => br_t (ltN ha (by omega)) (hF.2 _ _ _ _ _ _ _ hD (fun _ _ _ _ _ _ _ hX => br_f (by decide) (h _ _ _ _ _ _ _ _ hX)))⟩
      · rcases ih a' (items + 1) np' nt' tk' kd' wt' lk' (by omega) (by omega) b2 b3 with ⟨a0, c0, c1, c2⟩ | ⟨np2, nt2, tk2, kd2, wt2, lk2, c0, c1, c2⟩
        · refine Or.inl ⟨a0, c0, fun nums Q h => br_t (ltN (b := 200) (by omega) (by omega)) (br_t (ltN ha (by omega)) (b4 _ _ (fun nums' => br_f (by decide) ?_))), fun pe th la ki wo li Q hD h => br_t (ltN ha (by omega)) (b5 _ _ _ _ _ _ _ hD (fun _ _ _ _ _ _ hD' hX => br_t rfl (c2 _ _ _ _ _ _ Q hD' (fun _ _ _ _ _ _ _ _ hX' => h _ _ _ _ _ _ _ _ (FX_trans hX hX')))))⟩
          rw [nI_1]; exact c1 _ Q h
        · refine Or.inr ⟨np2, nt2, tk2, kd2, wt2, lk2, c0, fun nums Q h => br_t (ltN (b := 200) (by omega) (by omega)) (br_t (ltN ha (by omega)) (b4 _ _ (fun nums' => br_f (by decide) ?_))), fun pe th la ki wo li Q hD h => br_t (ltN ha (by omega)) (b5 _ _ _ _ _ _ _ hD (fun _ _ _ _ _ _ hD' hX => br_t rfl (c2 _ _ _ _ _ _ Q hD' (fun _ _ _ _ _ _ _ _ hE hX' => h _ _ _ _ _ _ _ _ hE (FX_trans hX hX')))))⟩
          rw [nI_1]; exact c1 _ Q h
    · have e : a = k := by omega
      rw [e]
      exact Or.inr ⟨np, nt, tk, kd, wt, lk, hZ, fun nums Q h => br_c (fun _ => br_f (nltN (Nat.le_refl _) (by omega)) (h _ _)) (fun _ => h _ _), fun pe th la ki wo li Q hD h => br_f (nltN (Nat.le_refl _) (by omega)) (h _ _ _ _ _ _ _ _ hD (FX_refl _ _ _ _ _ _))⟩
theorem s7_begin {pe th li : Nat → Int32} {w : Int32} {Q : (Nat → Int32) → (Nat → Int32) → (Nat → Int32) → Int32 → Prop} (h : ∀ li', (∀ i, i < 30 → li' (30 + i) = 0) → (∀ i, i < 30 → li' i = li i) → Q (upd pe 1 0) (upd th 1 0) li' 0) : wp_X7_begin pe th li w Q := by
  refine ⟨31, lpr (fun n a j => L_X7_begin_21 (upd pe 1 0) (upd th 1 0) 0 Q n a (nI j)) (fun j a => (∀ i, i < j → a (30 + i) = 0) ∧ (∀ i, i < 30 → a i = li i)) 30 (fun n a j hj hI hn2 => ?_) (fun n a hI => ?_) 30 0 li rfl ⟨fun i hi => absurd hi (by omega), fun _ _ => rfl⟩⟩
  · refine br_t (ltN (b := 30) hj (by omega)) ?_
    rw [n30, cl (by omega), nI_1]
    refine ⟨inN (by omega) (by omega), hn2 _ ⟨fun i hi => ?_, fun i hi => ?_⟩⟩
    · by_cases e : i = j
      · rw [e, pk_us]
      · rw [pk_un (by omega)]; exact hI.1 i (by omega)
    · rw [pk_un (by omega)]; exact hI.2 i hi
  · exact br_f (nltN (b := 30) (Nat.le_refl _) (by omega)) (h a hI.1 hI.2)
theorem e_tell (hX : TX k le tx) (tk kd wt lk : Nat → Int32) : (∃ a0, a0 < k ∧ (∀ nums at0 p t (Q : Int32 → (Nat → Int32) → Int32 → (Nat → Int32) → (Nat → Int32) → (Nat → Int32) → (Nat → Int32) → Int32 → Int32 → Prop), (∀ nums' at' tk' kd' wt' lk' p' t', Q (nI a0) nums' at' tk' kd' wt' lk' p' t') → wp_X5_tell le nums (nI k) at0 tk kd wt lk p t Q) ∧ (∀ pe th la ki wo li at0 w (Q : Int32 → (Nat → Int32) → (Nat → Int32) → (Nat → Int32) → (Nat → Int32) → (Nat → Int32) → (Nat → Int32) → Int32 → Int32 → Prop), (∀ pe' th' la' ki' wo' li' at' w', FX pe th la ki wo li pe' th' la' ki' wo' li' → Q (nI a0) pe' th' la' ki' wo' li' at' w') → wp_X7_read tx (nI k) pe th la ki wo li at0 w Q)) ∨ (∃ np' nt' tk' kd' wt' lk', PZ np' nt' tk' kd' wt' lk' ∧ (∀ nums at0 p t (Q : Int32 → (Nat → Int32) → Int32 → (Nat → Int32) → (Nat → Int32) → (Nat → Int32) → (Nat → Int32) → Int32 → Int32 → Prop), (∀ nums' at', Q (-4) nums' at' tk' kd' wt' lk' (nI np') (nI nt')) → wp_X5_tell le nums (nI k) at0 tk kd wt lk p t Q) ∧ (∀ pe th la ki wo li at0 w (Q : Int32 → (Nat → Int32) → (Nat → Int32) → (Nat → Int32) → (Nat → Int32) → (Nat → Int32) → (Nat → Int32) → Int32 → Int32 → Prop), (∀ pe' th' la' ki' wo' li' at' w', DM np' nt' tk' kd' wt' lk' pe' th' la' ki' wo' li' → FX pe th la ki wo li pe' th' la' ki' wo' li' → Q (-4) pe' th' la' ki' wo' li' at' w') → wp_X7_read tx (nI k) pe th la ki wo li at0 w Q)) := by
  obtain ⟨v, hT⟩ := TX_TV hX
  have cz : ∀ {p t : Int32} {Q : (Nat → Int32) → (Nat → Int32) → Int32 → Int32 → Prop}, Q (fun j => if j < 5 then 0 else tk j) (fun j => if j < 30 then 0 else lk j) 0 0 → wp_X2_clear tk lk p t Q := fun h => by
    refine s_fill (by omega) (fun g h1 h2 => s_fill (by omega) (fun g' h3 h4 => ?_))
    have e1 : g = (fun j => if j < 5 then 0 else tk j) := funext fun j => by
      by_cases hj : j < 5
      · rw [h1 j hj, if_pos hj]
      · rw [h2 j (by omega), if_neg hj]
    have e2 : g' = (fun j => if j < 30 then 0 else lk j) := funext fun j => by
      by_cases hj : j < 30
      · rw [h3 j hj, if_pos hj]
      · rw [h4 j (by omega), if_neg hj]
    rw [e1, e2]; exact h
  have hZ : PZ 0 0 (fun j => if j < 5 then 0 else tk j) kd wt (fun j => if j < 30 then 0 else lk j) := ⟨by omega, by omega, fun p hp => ⟨0, by omega, if_pos hp⟩, fun p _ hp => if_pos hp, fun t ht => absurd ht (by omega), fun t ht => absurd ht (by omega), fun j hj => ⟨0, by omega, if_pos hj⟩⟩
  have hD : ∀ pe th la ki wo li' : Nat → Int32, (∀ i, i < 30 → li' (30 + i) = 0) → DM 0 0 (fun j => if j < 5 then 0 else tk j) kd wt (fun j => if j < 30 then 0 else lk j) (upd pe 1 0) (upd th 1 0) la ki wo li' := fun pe th la ki wo li' hl => ⟨pk_us, pk_us, fun p hp => absurd hp (by omega), fun t ht => absurd ht (by omega), fun t ht => absurd ht (by omega), fun j hj => by rw [hl j hj]; exact (if_pos hj).symm⟩
  have hF : ∀ pe th la ki wo li li' : Nat → Int32, (∀ i, i < 30 → li' i = li i) → FX pe th la ki wo li (upd pe 1 0) (upd th 1 0) la ki wo li' := fun pe th la ki wo li li' hl => ⟨by rw [pk_un (by omega)], by rw [pk_un (by omega)], fun _ _ => rfl, fun _ _ => rfl, fun _ _ => rfl, hl⟩
  rcases tellAll hT (k + 1) 0 0 0 0 _ kd wt _ (by omega) (by omega) (by omega) hZ with ⟨a0, c0, c1, c2⟩ | ⟨np2, nt2, tk2, kd2, wt2, lk2, c0, c1, c2⟩
  · exact Or.inl ⟨a0, c0, fun nums at0 p t Q h => cz ⟨k + 1, c1 nums Q h⟩, fun pe th la ki wo li at0 w Q h => s7_begin (fun li' l1 l2 => ⟨k + 1, c2 _ _ _ _ _ _ Q (hD _ _ _ _ _ _ l1) (fun _ _ _ _ _ _ _ _ hX' => h _ _ _ _ _ _ _ _ (FX_trans (hF _ _ _ _ _ _ _ l2) hX'))⟩)⟩
  · exact Or.inr ⟨np2, nt2, tk2, kd2, wt2, lk2, c0, fun nums at0 p t Q h => cz ⟨k + 1, c1 nums Q h⟩, fun pe th la ki wo li at0 w Q h => s7_begin (fun li' l1 l2 => ⟨k + 1, c2 _ _ _ _ _ _ Q (hD _ _ _ _ _ _ l1) (fun _ _ _ _ _ _ _ _ hE hX' => h _ _ _ _ _ _ _ _ hE (FX_trans (hF _ _ _ _ _ _ _ l2) hX'))⟩)⟩
theorem e_fault {np nt : Nat} {tk kd wt lk pe th la ki wo li nums stk skd swt slk : Nat → Int32} {at0 sp st mat mw : Int32} {Z : Int32 → Int32 → (Nat → Int32) → Int32 → (Nat → Int32) → (Nat → Int32) → (Nat → Int32) → (Nat → Int32) → Int32 → Int32 → (Nat → Int32) → (Nat → Int32) → (Nat → Int32) → (Nat → Int32) → (Nat → Int32) → (Nat → Int32) → Int32 → Int32 → Prop} (hX : TX k le tx) (hP : PR np nt tk kd wt lk) (hM : MR np nt tk kd wt lk pe th la ki wo li) (hZ : ∀ r nums' at' tk' kd' wt' lk' p' t' pe' th' la' ki' wo' li' ma' w', MR np nt tk kd wt lk pe' th' la' ki' wo' li' → Z r r nums' at' tk' kd' wt' lk' p' t' pe' th' la' ki' wo' li' ma' w') : wp_X6_fault le nums (nI k) at0 stk skd swt slk sp st (fun r1 nums' at' tk' kd' wt' lk' p' t' => wp_X7_fault tx (nI k) pe th la ki wo li mat mw (fun r2 pe' th' la' ki' wo' li' ma' w' => Z r1 r2 nums' at' tk' kd' wt' lk' p' t' pe' th' la' ki' wo' li' ma' w')) := by
  have h6 := hP.2.2.1
  rcases e_tell hX stk skd swt slk with ⟨a0, c0, c1, c2⟩ | ⟨np2, nt2, tk2, kd2, wt2, lk2, c0, c1, c2⟩
  · exact c1 _ _ _ _ _ (fun _ _ _ _ _ _ _ _ => c2 _ _ _ _ _ _ _ _ _ (fun _ _ _ _ _ _ _ _ hF => hZ _ _ _ _ _ _ _ _ _ _ _ _ _ _ _ _ _ (MR_FX h6 hM hF)))
  · exact c1 _ _ _ _ _ (fun _ _ => c2 _ _ _ _ _ _ _ _ _ (fun _ _ _ _ _ _ _ _ _ hF => hZ _ _ _ _ _ _ _ _ _ _ _ _ _ _ _ _ _ (MR_FX h6 hM hF)))
theorem s_start {c tk : Nat → Int32} {Q : (Nat → Int32) → Prop} (h : ∀ c' : Nat → Int32, (∀ p, p < 5 → c' p = tk p) → (∀ t, t < 6 → c' (5 + t) = -4) → c' 11 = 0 → c' 12 = 0 → c' 13 = -4 → Q c') : wp_X3_start c tk Q := by
  refine ⟨6, lpr (fun n a j => L_X3_start_2 tk Q n a (nI j)) (fun j a => ∀ i, i < j → a i = tk i) 5 (fun n a j hj hI hn2 => ?_) (fun n a hI => ?_) 5 0 c rfl (fun i hi => absurd hi (by omega))⟩
  · refine br_t (ltN (b := 5) hj (by omega)) ⟨inN (by omega) (by omega), inN (by omega) (by omega), ?_⟩
    rw [cl (by omega), nI_1]
    refine hn2 _ (fun i hi => ?_)
    by_cases e : i = j
    · rw [e, pk_us]
    · rw [pk_un e]; exact hI i (by omega)
  · refine br_f (by decide) ⟨7, lpr (fun n a j => L_X3_start_27 tk Q n a (nI j)) (fun j a => (∀ i, i < 5 → a i = tk i) ∧ (∀ i, i < j → a (5 + i) = -4)) 6 (fun n a j hj hI hn2 => ?_) (fun n a hI => ?_) 6 0 a rfl ⟨hI, fun i hi => absurd hi (by omega)⟩⟩
    · refine br_t (ltN (b := 6) hj (by omega)) ?_
      rw [n5, cl (by omega), nI_1]
      refine ⟨inN (by omega) (by omega), hn2 _ ⟨fun i hi => ?_, fun i hi => ?_⟩⟩
      · rw [pk_un (by omega)]; exact hI.1 i hi
      · by_cases e : i = j
        · rw [e, pk_us]
        · rw [pk_un (by omega)]; exact hI.2 i (by omega)
    · refine br_f (by decide) (h _ (fun p hp => ?_) (fun t ht => ?_) ?_ ?_ pk_us)
      · rw [pk_un (by omega), pk_un (by omega), pk_un (by omega)]; exact hI.1 p hp
      · rw [pk_un (by omega), pk_un (by omega), pk_un (by omega)]; exact hI.2 t ht
      · rw [pk_un (by omega), pk_un (by omega), pk_us]
      · rw [pk_un (by omega), pk_us]
theorem s7_takeDraft {np nt : Nat} {tk kd wt lk pe th la ki wo li now : Nat → Int32} {x y z : Int32} {Q : (Nat → Int32) → (Nat → Int32) → (Nat → Int32) → (Nat → Int32) → (Nat → Int32) → (Nat → Int32) → (Nat → Int32) → Int32 → Int32 → Int32 → Prop} (hZ : PZ np nt tk kd wt lk) (hD : DM np nt tk kd wt lk pe th la ki wo li) (h : ∀ pe' th' la' ki' wo' li' now', MR np nt tk kd wt lk pe' th' la' ki' wo' li' → (∀ p, p < 5 → now' p = tk p) → (∀ t, t < 6 → now' (5 + t) = -4) → now' 11 = 0 → now' 12 = 0 → now' 13 = 0 → Q pe' th' la' ki' wo' li' now' 0 0 0) : wp_X7_takeDraft pe th la ki wo li now x y z Q := by
  obtain ⟨d1, d2, d3, d4, d5, d6⟩ := hD
  obtain ⟨q1, q2, q3, q4, q5, q6, q7⟩ := hZ
  have e0 : upd pe 0 (pe 1) 0 = nI np := by rw [pk_us]; exact d1
  have e1 : upd th 0 (th 1) 0 = nI nt := by rw [pk_us]; exact d2
  refine ⟨6, lpr (fun n (a : (Nat → Int32) × (Nat → Int32)) j => L_X7_takeDraft_26 (upd pe 0 (pe 1)) (upd th 0 (th 1)) ki wo li x y z Q n a.1 a.2 (nI j)) (fun j a => (∀ i, i < j → a.1 i = tk i) ∧ (∀ i, i < np → a.1 (5 + i) = tk i) ∧ (∀ i, i < j → a.2 i = tk i)) 5 (fun n a j hj hI hn2 => ?_) (fun n a hI => ?_) 5 0 (la, now) rfl ⟨fun i hi => absurd hi (by omega), d3, fun i hi => absurd hi (by omega)⟩⟩
  · refine br_t (ltN (b := 5) hj (by omega)) ?_
    have put : ∀ s : Int32, s = tk j → L_X7_takeDraft_26 (upd pe 0 (pe 1)) (upd th 0 (th 1)) ki wo li x y z Q n (upd a.1 j s) (upd a.2 j s) (nI (j + 1)) := fun s hs => by
      refine hn2 (upd a.1 j s, upd a.2 j s) ⟨fun i hi => ?_, fun i hi => ?_, fun i hi => ?_⟩
      · by_cases e : i = j
        · rw [e]; exact pk_us.trans hs
        · exact (pk_un e).trans (hI.1 i (by omega))
      · exact (pk_un (by omega)).trans (hI.2.1 i hi)
      · by_cases e : i = j
        · rw [e]; exact pk_us.trans hs
        · exact (pk_un e).trans (hI.2.2 i (by omega))
    simp only [B_X7_takeDraft_58]
    rw [e0, n5, n0, cl (by omega), cl (by omega), nI_1, pk_us, pk_us]
    have hin : vp_in (nI j) 10 := inN (by omega) (by omega)
    by_cases hp : j < np
    · exact br_t (ltN hp (by omega)) ⟨inN (by omega) (by omega), hin, hin, inN (by omega) (by omega), put _ (hI.2.1 j hp)⟩
    · exact br_f (nltN (by omega) (by omega)) ⟨hin, hin, inN (by omega) (by omega), put _ (q4 j (by omega) hj).symm⟩
  · refine br_f (by decide) ⟨7, lpr (fun n (b : (Nat → Int32) × (Nat → Int32) × (Nat → Int32)) j => L_X7_takeDraft_81 (upd pe 0 (pe 1)) (upd th 0 (th 1)) a.1 li x y z Q n b.1 b.2.1 b.2.2 (nI j)) (fun j b => (∀ i, i < j → i < nt → b.1 i = kd i) ∧ (∀ i, i < nt → b.1 (6 + i) = kd i) ∧ (∀ i, i < j → i < nt → b.2.1 i = wt i) ∧ (∀ i, i < nt → b.2.1 (6 + i) = wt i) ∧ (∀ i, i < 5 → b.2.2 i = tk i) ∧ (∀ i, i < j → b.2.2 (5 + i) = -4)) 6 (fun n b j hj hb hn2 => ?_) (fun n b hb => ?_) 6 0 (ki, wo, a.2) rfl ⟨fun i hi => absurd hi (by omega), d4, fun i hi => absurd hi (by omega), d5, hI.2.2, fun i hi => absurd hi (by omega)⟩⟩
    · obtain ⟨b1, b2, b3, b4, b5, b6⟩ := hb
      refine br_t (ltN (b := 6) hj (by omega)) ?_
      rw [n6, n5, cl (by omega), cl (by omega), cl (by omega), nI_1]
      refine ⟨inN (by omega) (by omega), inN (by omega) (by omega), inN (by omega) (by omega), inN (by omega) (by omega), inN (by omega) (by omega), hn2 (upd b.1 j (b.1 (6 + j)), upd b.2.1 j (b.2.1 (6 + j)), upd b.2.2 (5 + j) (-4)) ⟨fun i h1 h2 => ?_, fun i hi => (pk_un (by omega)).trans (b2 i hi), fun i h1 h2 => ?_, fun i hi => (pk_un (by omega)).trans (b4 i hi), fun i hi => (pk_un (by omega)).trans (b5 i hi), fun i hi => ?_⟩⟩
      · by_cases e : i = j
        · rw [e]; exact pk_us.trans (b2 j (by omega))
        · exact (pk_un e).trans (b1 i (by omega) h2)
      · by_cases e : i = j
        · rw [e]; exact pk_us.trans (b4 j (by omega))
        · exact (pk_un e).trans (b3 i (by omega) h2)
      · by_cases e : i = j
        · rw [e]; exact pk_us
        · exact (pk_un (by omega)).trans (b6 i (by omega))
    · obtain ⟨b1, b2, b3, b4, b5, b6⟩ := hb
      refine br_f (by decide) ⟨31, lpr (fun n c j => L_X7_takeDraft_135 (upd pe 0 (pe 1)) (upd th 0 (th 1)) a.1 b.1 b.2.1 b.2.2 x y z Q n c (nI j)) (fun j c => (∀ i, i < j → c i = lk i) ∧ (∀ i, i < 30 → c (30 + i) = lk i)) 30 (fun n c j hj hc hn2 => ?_) (fun n c hc => ?_) 30 0 li rfl ⟨fun i hi => absurd hi (by omega), d6⟩⟩
      · refine br_t (ltN (b := 30) hj (by omega)) ?_
        rw [n30, cl (by omega), cl (by omega), nI_1]
        refine ⟨inN (by omega) (by omega), inN (by omega) (by omega), hn2 _ ⟨fun i hi => ?_, fun i hi => (pk_un (by omega)).trans (hc.2 i hi)⟩⟩
        by_cases e : i = j
        · rw [e, pk_us]; exact hc.2 j hj
        · rw [pk_un e]; exact hc.1 i (by omega)
      · refine br_f (by decide) (h _ _ _ _ _ _ _ ⟨e0, e1, fun p hp => hI.1 p hp, fun t ht => b1 t (by omega) ht, fun t ht => b3 t (by omega) ht, fun j hj => hc.1 j hj⟩ (fun p hp => ?_) (fun t ht => ?_) ?_ ?_ pk_us)
        · rw [pk_un (by omega), pk_un (by omega), pk_un (by omega)]; exact b5 p hp
        · rw [pk_un (by omega), pk_un (by omega), pk_un (by omega)]; exact b6 t ht
        · rw [pk_un (by omega), pk_un (by omega), pk_us]
        · rw [pk_un (by omega), pk_us]
/-- both stands at the start -/
theorem start_both {np nt : Nat} {tk kd wt lk c m : Nat → Int32} (hZ : PZ np nt tk kd wt lk) (c1 : ∀ p, p < 5 → c p = tk p) (c2 : ∀ t, t < 6 → c (5 + t) = -4) (c3 : c 11 = 0) (c4 : c 12 = 0) (c5 : c 13 = -4) (m1 : ∀ p, p < 5 → m p = tk p) (m2 : ∀ t, t < 6 → m (5 + t) = -4) (m3 : m 11 = 0) (m4 : m 12 = 0) (m5 : m 13 = 0) : Sd np nt c ∧ RS c m := by
  obtain ⟨q1, q2, q3, q4, q5, q6, q7⟩ := hZ
  refine ⟨⟨fun p hp => by rw [c1 p hp]; exact q3 p hp, fun p h1 h2 => by rw [c1 p h2]; exact q4 p h1 h2, fun t ht => Or.inl (c2 t ht), ⟨0, by omega, c3⟩, Or.inl c5⟩, fun i hi => ?_, by rw [m5, c4], by rw [m4, c5, if_pos rfl]⟩
  by_cases h5 : i < 5
  · rw [m1 i h5, c1 i h5]
  · by_cases h11 : i = 11
    · rw [h11, m3, c3]
    · obtain ⟨t, et⟩ : ∃ t, i = 5 + t := ⟨i - 5, by omega⟩
      rw [et, m2 t (by omega), c2 t (by omega)]
theorem e_lay {np nt : Nat} {tk kd wt lk pe th la ki wo li nw now dn no nums stk skd swt slk : Nat → Int32} {at0 sp st mat mw x y z zx zy zz : Int32} {Z : Int32 → Int32 → (Nat → Int32) → Int32 → (Nat → Int32) → Int32 → Int32 → (Nat → Int32) → Int32 → (Nat → Int32) → (Nat → Int32) → (Nat → Int32) → (Nat → Int32) → Int32 → Int32 → Nat → Nat → (Nat → Int32) → (Nat → Int32) → (Nat → Int32) → (Nat → Int32) → (Nat → Int32) → (Nat → Int32) → Int32 → Int32 → (Nat → Int32) → Int32 → Int32 → Int32 → Prop} (hX : TX k le tx) (hP : PR np nt tk kd wt lk) (hM : MR np nt tk kd wt lk pe th la ki wo li) (hN : ∀ nums' at' tk' kd' wt' lk' p' t' pe' th' la' ki' wo' li' ma' w', MR np nt tk kd wt lk pe' th' la' ki' wo' li' → Z (-2) (-2) nums' at' nw x y dn z tk' kd' wt' lk' p' t' 18 24 pe' th' la' ki' wo' li' ma' w' now zx zy zz) (hY : ∀ np' nt' nums' at' nw' dn' tk' kd' wt' lk' pe' th' la' ki' wo' li' ma' w' now', PR np' nt' tk' kd' wt' lk' → MR np' nt' tk' kd' wt' lk' pe' th' la' ki' wo' li' → Sd np' nt' nw' → RS nw' now' → NT np' 0 dn' no → Z (nI np') (nI np') nums' at' nw' 0 0 dn' 0 tk' kd' wt' lk' (nI np') (nI nt') 24 18 pe' th' la' ki' wo' li' ma' w' now' 0 0 0) : wp_X6_lay le nums (nI k) at0 nw x y dn z stk skd swt slk sp st (fun r1 nums' at' nw' x' y' dn' z' tk' kd' wt' lk' p' t' i j => wp_X7_lay tx (nI k) pe th la ki wo li mat mw now zx zy zz (fun r2 pe' th' la' ki' wo' li' ma' w' now' zx' zy' zz' => Z r1 r2 nums' at' nw' x' y' dn' z' tk' kd' wt' lk' p' t' i j pe' th' la' ki' wo' li' ma' w' now' zx' zy' zz')) := by
  have h6 := hP.2.2.1
  have hk := hX.1
  rcases e_tell hX stk skd swt slk with ⟨a0, c0, c1, c2⟩ | ⟨np2, nt2, tk2, kd2, wt2, lk2, c0, c1, c2⟩
  · have n4 : ¬ nI a0 = -4 := nI_m4 (by omega)
    exact c1 _ _ _ _ _ (fun _ _ _ _ _ _ _ _ => br_f n4 (c2 _ _ _ _ _ _ _ _ _ (fun _ _ _ _ _ _ _ _ hF => br_f n4 (hN _ _ _ _ _ _ _ _ _ _ _ _ _ _ _ _ (MR_FX h6 hM hF)))))
  · refine c1 _ _ _ _ _ (fun _ _ => br_t rfl ?_)
    have q1 := c0.1
    by_cases h0 : np2 = 0
    · refine br_t (by rw [h0]; rfl) (c2 _ _ _ _ _ _ _ _ _ (fun _ _ _ _ _ _ _ _ hD hF => br_t rfl (br_t (by rw [hD.1, h0]; rfl) (hN _ _ _ _ _ _ _ _ _ _ _ _ _ _ _ _ (MR_FX h6 hM hF)))))
    · refine br_f (nI_ne0 (by omega) (by omega)) (s_start (fun c s1 s2 s3 s4 s5 => ?_))
      unfold wp_X4_clear wp_X1_clear
      refine s_fill (by omega) (fun g g1 g2 => c2 _ _ _ _ _ _ _ _ _ (fun pe' th' la' ki' wo' li' ma' w' hD hF => br_t rfl (br_f (by rw [hD.1]; exact nI_ne0 (by omega) (by omega)) (s7_takeDraft c0 hD (fun pe2 th2 la2 ki2 wo2 li2 now2 hM2 t1 t2 t3 t4 t5 => ?_)))))
      obtain ⟨hS, hR⟩ := start_both c0 s1 s2 s3 s4 s5 t1 t2 t3 t4 t5
      rw [hM2.1]
      exact hY np2 nt2 _ _ _ _ _ _ _ _ _ _ _ _ _ _ _ _ _ ⟨by omega, c0⟩ hM2 hS hR ⟨by omega, fun j hj => absurd hj (by omega), fun p hp => g1 p hp⟩
end Tell
