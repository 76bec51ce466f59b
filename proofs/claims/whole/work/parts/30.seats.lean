/-! seats -/
theorem lp_succ {α : Type} (f : Nat → α → α) (j : Nat) (a : α) : lp f 0 (j + 1) a = f j (lp f 0 j a) := by rw [lp_app f j 1, Nat.zero_add]; rfl
def seS (tk : Nat → Int32) (np : Nat) : Nat → (Nat → Int64) × Int64
  | 0 => (fun _ => 0, 1)
  | k + 1 => (fun p => Int32.toInt64 (tk p) * ((seS tk np k).2 - (seS tk np k).1 p), lp (fun p a => a + Int32.toInt64 (tk p) * ((seS tk np k).2 - (seS tk np k).1 p)) 0 np 0)
section Seats
variable {np nt : Nat} {tk kd wt lk pe th la ki wo li : Nat → Int32} {x1 : Int32}
/-- a row grows by one, in the class -/
theorem c68 {x x4 : Int32} {Q : Int64 → (Nat → Int64) → Prop} {k54 : (Nat → Int64) → Int64 → Int32 → Prop} (h5 : np ≤ 5) (k : Nat) (hk : ∀ rows, (∀ p, p < np → rows p = (seS tk np (k + 1)).1 p) → k54 rows (seS tk np (k + 1)).2 (x4 + 1)) : ∀ (m j : Nat) (rows : Nat → Int64), j + m = np → (∀ p, p < j → rows p = (seS tk np (k + 1)).1 p) → (∀ p, j ≤ p → p < np → rows p = (seS tk np k).1 p) → L_X2_rowsOf_68 tk (nI np) x x4 (seS tk np k).2 Q k54 (m + 1) rows (lp (fun p a => a + (seS tk np (k + 1)).1 p) 0 j 0) (nI j) := by
  intro m
  induction m with
  | zero =>
    intro j rows hj h1 h2
    rw [show j = np by omega]
    exact br_f (nltN (Nat.le_refl _) (by omega)) (hk rows (fun p hp => h1 p (by omega)))
  | succ m ih =>
    intro j rows hj h1 h2
    have hi : vp_in (nI j) 5 := inN (by omega) (by omega)
    refine br_t (ltN (by omega) (by omega)) ⟨hi, hi, hi, hi, ?_⟩
    rw [cl (by omega), pk_uLs, nI_1, h2 j (Nat.le_refl _) (by omega)]
    have e := lp_succ (fun p (a : Int64) => a + (seS tk np (k + 1)).1 p) j 0
    have i1 := ih (j + 1) (vp_updL rows j ((seS tk np (k + 1)).1 j)) (by omega) (fun p hp => by
      by_cases ep : p = j
      · rw [ep, pk_uLs]
      · rw [pk_uLn ep]; exact h1 p (by omega)) (fun p hp1 hp2 => by rw [pk_uLn (by omega)]; exact h2 p (by omega) hp2)
    rw [e] at i1
    exact i1
theorem s_rowsOf {rows : Nat → Int64} {Q : Int64 → (Nat → Int64) → Prop} {M : Nat} (h5 : np ≤ 5) (hM : M ≤ 8) (h : ∀ r, Q (seS tk np M).2 r) : wp_X2_rowsOf tk rows (nI np) (nI M) Q := by
  by_cases h0 : M = 0
  · rw [h0] at h ⊢; exact br_t rfl (h _)
  · refine br_f (nI_ne0 (by omega) (by omega)) ?_
    have outer : ∀ (m k : Nat) (rows : Nat → Int64), k + m = M → (∀ p, p < np → rows p = (seS tk np k).1 p) → L_X2_rowsOf_54 tk (nI np) (nI M) Q (m + 1) rows (seS tk np k).2 (nI k) := by
      intro m
      induction m with
      | zero => intro k rows hk hr; rw [show k = M by omega]; exact br_f (nltN (Nat.le_refl _) (by omega)) (h _)
      | succ m ih =>
        intro k rows hk hr
        refine br_t (ltN (by omega) (by omega)) ⟨np + 1, c68 h5 k (fun r2 h2 => ?_) np 0 rows (Nat.zero_add _) (fun p hp => absurd hp (by omega)) (fun p _ hp => hr p hp)⟩
        rw [nI_1]
        exact ih (k + 1) r2 (by omega) h2
    have e1 : ∀ p, (seS tk np 1).1 p = Int32.toInt64 (tk p) := fun p => by
      show Int32.toInt64 (tk p) * ((1 : Int64) - 0) = _
      rw [show (1 : Int64) - 0 = 1 from rfl, Int64.mul_one]
    have first : ∀ (m j : Nat) (rows : Nat → Int64), j + m = np → (∀ p, p < j → rows p = (seS tk np 1).1 p) → L_X2_rowsOf_11 tk (nI np) (nI M) Q (m + 1) rows (lp (fun p a => a + (seS tk np 1).1 p) 0 j 0) (nI j) := by
      intro m
      induction m with
      | zero =>
        intro j rows hj h1
        rw [show j = np by omega]
        refine br_f (nltN (Nat.le_refl _) (by omega)) ⟨(M - 1) + 1, outer (M - 1) 1 rows (by omega) (fun p hp => h1 p (by omega))⟩
      | succ m ih =>
        intro j rows hj h1
        have hi : vp_in (nI j) 5 := inN (by omega) (by omega)
        refine br_t (ltN (by omega) (by omega)) ⟨hi, hi, hi, ?_⟩
        rw [cl (by omega), pk_uLs, nI_1, ← e1 j]
        have e := lp_succ (fun p (a : Int64) => a + (seS tk np 1).1 p) j 0
        have i1 := ih (j + 1) (vp_updL rows j ((seS tk np 1).1 j)) (by omega) (fun p hp => by
          by_cases ep : p = j
          · rw [ep, pk_uLs]
          · rw [pk_uLn ep]; exact h1 p (by omega))
        rw [e] at i1
        exact i1
    exact ⟨np + 1, first np 0 rows (Nat.zero_add _) (fun p hp => absurd hp (by omega))⟩
theorem m54 {x4 : Int32} {ends : Nat → Int64} {x : Int32} {Q : Int64 → (Nat → Int64) → (Nat → Int64) → Prop} {k42 : (Nat → Int64) → (Nat → Int64) → Int64 → Int32 → Prop} (h5 : np ≤ 5) (hpe : pe 0 = nI np) (hla : ∀ p, p < 5 → la p = tk p) (k : Nat) (he : ∀ p, p < np → ends p = (seS tk np k).1 p) (hk : ∀ a b, (∀ p, p < np → a p = (seS tk np (k + 1)).1 p) → k42 a b (seS tk np (k + 1)).2 (x4 + 1)) : ∀ (m j : Nat) (go : Nat → Int64), j + m = np → (∀ p, p < j → go p = (seS tk np (k + 1)).1 p) → L_X7_seats_54 pe la ends x (seS tk np k).2 x4 Q k42 (m + 1) go (lp (fun p a => a + (seS tk np (k + 1)).1 p) 0 j 0) (nI j) := by
  intro m
  induction m with
  | zero =>
    intro j go hj h1
    rw [show j = np by omega]
    refine br_f (by rw [hpe]; exact nltN (Nat.le_refl _) (by omega)) ?_
    have inner : ∀ (m2 j2 : Nat) (en : Nat → Int64), j2 + m2 = np → (∀ p, p < j2 → en p = (seS tk np (k + 1)).1 p) → L_X7_seats_111 pe la go x x4 (lp (fun p a => a + (seS tk np (k + 1)).1 p) 0 np 0) Q k42 (m2 + 1) en (nI j2) := by
      intro m2
      induction m2 with
      | zero =>
        intro j2 en hj2 h2
        rw [show j2 = np by omega]
        exact br_f (by rw [hpe]; exact nltN (Nat.le_refl _) (by omega)) (hk en go (fun p hp => h2 p (by omega)))
      | succ m2 ih2 =>
        intro j2 en hj2 h2
        have hi : vp_in (nI j2) 5 := inN (by omega) (by omega)
        refine br_t (by rw [hpe]; exact ltN (by omega) (by omega)) ⟨hi, hi, ?_⟩
        rw [cl (by omega), nI_1]
        exact ih2 (j2 + 1) _ (by omega) (fun p hp => by
          by_cases ep : p = j2
          · rw [ep, pk_uLs]; exact h1 j2 (by omega)
          · rw [pk_uLn ep]; exact h2 p (by omega))
    exact ⟨np + 1, inner np 0 ends (Nat.zero_add _) (fun p hp => absurd hp (by omega))⟩
  | succ m ih =>
    intro j go hj h1
    have hi : vp_in (nI j) 5 := inN (by omega) (by omega)
    refine br_t (by rw [hpe]; exact ltN (by omega) (by omega)) ⟨inN (by omega) (by omega), hi, hi, hi, ?_⟩
    rw [cl (by omega), pk_uLs, nI_1, he j (by omega), hla j (by omega)]
    have e := lp_succ (fun p (a : Int64) => a + (seS tk np (k + 1)).1 p) j 0
    have i1 := ih (j + 1) (vp_updL go j ((seS tk np (k + 1)).1 j)) (by omega) (fun p hp => by
      by_cases ep : p = j
      · rw [ep, pk_uLs]
      · rw [pk_uLn ep]; exact h1 p (by omega))
    rw [e] at i1
    exact i1
theorem e_seats {rows ends goOn : Nat → Int64} {Z : Int64 → Int64 → (Nat → Int64) → (Nat → Int64) → (Nat → Int64) → Prop} (hP : PR np nt tk kd wt lk) (hM : MR np nt tk kd wt lk pe th la ki wo li) (hZ : ∀ r a b c, Z r r a b c) : wp_X6_seats tk rows (nI np) x1 (fun r1 a => wp_X7_seats pe la ends goOn x1 (fun r2 b c => Z r1 r2 a b c)) := by
  have h5 := hP.2.1
  refine br_c (fun c => br_t c (br_t rfl (hZ _ _ _ _))) (fun c => br_c (fun c2 => br_f c (br_t c2 (br_t rfl (hZ _ _ _ _)))) (fun c2 => ?_))
  obtain ⟨M, hM1, eM⟩ := nI_of2 (M := 8) (n := 8) (by decide) c (Int32.not_lt.mp c2)
  rw [eM] at c c2 ⊢
  refine s_rowsOf h5 hM1 (fun r => br_f c (br_f c2 (br_f (by decide) ?_)))
  have outer : ∀ (m k : Nat) (en go : Nat → Int64), k + m = M → (∀ p, p < np → en p = (seS tk np k).1 p) → L_X7_seats_42 pe la (nI M) (fun r2 b c => Z (seS tk np M).2 r2 r b c) (m + 1) en go (seS tk np k).2 (nI k) := by
    intro m
    induction m with
    | zero => intro k en go hk he; rw [show k = M by omega]; exact br_f (nltN (Nat.le_refl _) (by omega)) (hZ _ _ _ _)
    | succ m ih =>
      intro k en go hk he
      refine br_t (ltN (by omega) (by omega)) ⟨np + 1, m54 h5 hM.1 hM.2.2.1 k he (fun a b h1 => ?_) np 0 go (Nat.zero_add _) (fun p hp => absurd hp (by omega))⟩
      rw [nI_1]
      exact ih (k + 1) a b (by omega) h1
  have zero : ∀ (m j : Nat) (en : Nat → Int64), j + m = 5 → (∀ p, p < j → en p = 0) → L_X7_seats_19 pe la goOn (nI M) 1 (fun r2 b c => Z (seS tk np M).2 r2 r b c) (m + 1) en (nI j) := by
    intro m
    induction m with
    | zero =>
      intro j en hj h1
      rw [show j = 5 by omega]
      exact br_f (by decide) ⟨M + 1, outer M 0 en goOn (Nat.zero_add _) (fun p hp => h1 p (by omega))⟩
    | succ m ih =>
      intro j en hj h1
      refine br_t (ltN (b := 5) (by omega) (by omega)) ⟨inN (by omega) (by omega), ?_⟩
      rw [cl (by omega), nI_1]
      exact ih (j + 1) _ (by omega) (fun p hp => by
        by_cases ep : p = j
        · rw [ep, pk_uLs]
        · rw [pk_uLn ep]; exact h1 p (by omega))
  exact ⟨6, zero 5 0 ends rfl (fun p hp => absurd hp (by omega))⟩
end Seats
