/-! the text: numbers with their signs -/
def Fig (v : Nat → Nat) (k a : Nat) : Prop := a < k ∧ 48 ≤ v a ∧ v a ≤ 57
def TV (k : Nat) (v : Nat → Nat) (le tx : Nat → Int32) : Prop := k ≤ 200 ∧ ∀ j, j < k → 32 ≤ v j ∧ v j ≤ 126 ∧ le j = nI (v j) ∧ tx j = nI (v j)
theorem TX_TV {k : Nat} {le tx : Nat → Int32} (h : TX k le tx) : ∃ v, TV k v le tx := by
  have : ∀ j, ∃ u, j < k → 32 ≤ u ∧ u ≤ 126 ∧ le j = nI u ∧ tx j = nI u := fun j => by
    by_cases hj : j < k
    · obtain ⟨u, a, b, c, d⟩ := h.2 j hj; exact ⟨u, fun _ => ⟨a, b, c, d⟩⟩
    · exact ⟨0, fun z => absurd z hj⟩
  exact ⟨fun j => Classical.choose (this j), h.1, fun j hj => Classical.choose_spec (this j) hj⟩
/-- a number at a: it is x, and ends ahead of b -/
def Nm (v : Nat → Nat) (k a x b : Nat) : Prop := Fig v k a ∧ ((Fig v k (a + 1) ∧ x = 10 * (v a - 48) + (v (a + 1) - 48) ∧ b = a + 2) ∨ (¬ Fig v k (a + 1) ∧ x = v a - 48 ∧ b = a + 1))
/-- a number at a with the sign s behind it: it is x, and ends ahead of c -/
def Rd (v : Nat → Nat) (k a s x c : Nat) : Prop := ∃ b, Nm v k a x b ∧ b < k ∧ v b = s ∧ c = b + 1
theorem Nm_one {v : Nat → Nat} {k a x b x' b' : Nat} (h : Nm v k a x b) (h' : Nm v k a x' b') : x' = x ∧ b' = b := by
  rcases h.2 with ⟨f, e1, e2⟩ | ⟨f, e1, e2⟩
  · rcases h'.2 with ⟨g, e3, e4⟩ | ⟨g, e3, e4⟩
    · exact ⟨by rw [e1, e3], by rw [e2, e4]⟩
    · exact absurd f g
  · rcases h'.2 with ⟨g, e3, e4⟩ | ⟨g, e3, e4⟩
    · exact absurd g f
    · exact ⟨by rw [e1, e3], by rw [e2, e4]⟩
theorem Rd_one {v : Nat → Nat} {k a s x c x' c' : Nat} (h : Rd v k a s x c) (h' : Rd v k a s x' c') : x' = x ∧ c' = c := by
  obtain ⟨b, h1, h2, h3, h4⟩ := h
  obtain ⟨b', g1, g2, g3, g4⟩ := h'
  obtain ⟨e1, e2⟩ := Nm_one h1 g1
  exact ⟨e1, by rw [g4, h4, e2]⟩
theorem Rd_lt {v : Nat → Nat} {k a s x c : Nat} (h : Rd v k a s x c) : a < c ∧ c ≤ k ∧ x ≤ 99 := by
  obtain ⟨b, h1, h2, h3, h4⟩ := h
  obtain ⟨f, h5⟩ := h1
  have := f.2
  rcases h5 with ⟨g, e1, e2⟩ | ⟨g, e1, e2⟩
  · have := g.2; omega
  · omega
section Text
variable {k : Nat} {v : Nat → Nat} {le tx : Nat → Int32}
theorem s_fig {a : Nat} {Q : Int32 → Prop} (hT : TV k v le tx) (h1 : Fig v k a → Q 1) (h0 : ¬ Fig v k a → Q 0) (ha : a < 1000) : wp_X5_isFigure le (nI k) (nI a) Q := by
  have h2 := hT.1
  by_cases hk : a < k
  · obtain ⟨v1, v2, e1, e2⟩ := hT.2 a hk
    have hin : vp_in (nI a) 200 := inN (by omega) (by omega)
    refine br_t (ltN hk (by omega)) ⟨hin, ?_⟩
    rw [cl (by omega), e1]
    by_cases c1 : v a < 48
    · exact br_t (ltN (b := 48) c1 (by omega)) (h0 (fun z => by have := z.2.1; omega))
    · refine br_f (nltN (b := 48) (by omega) (by omega)) ⟨hin, ?_⟩
      by_cases c2 : 57 < v a
      · exact br_t (ltN (a := 57) c2 (by omega)) (h0 (fun z => by have := z.2.2; omega))
      · exact br_f (nltN (a := 57) (by omega) (by omega)) (h1 ⟨hk, by omega, by omega⟩)
  · exact br_f (nltN (by omega) (by omega)) (h0 (fun z => hk z.1))
theorem s_next {a : Nat} {Q : Int32 → Int32 → Prop} (hT : TV k v le tx) (ha : a < 1000) (h1 : a < k → Q (nI (v a)) (nI (a + 1))) (h0 : ¬ a < k → Q 0 (nI a)) : wp_X5_nextLetter le (nI k) (nI a) Q := by
  have h2 := hT.1
  by_cases hk : a < k
  · obtain ⟨v1, v2, e1, e2⟩ := hT.2 a hk
    refine br_t (ltN hk (by omega)) ⟨inN (by omega) (by omega), ?_⟩
    rw [cl (by omega), e1, nI_1]
    exact h1 hk
  · exact br_f (nltN (by omega) (by omega)) (h0 hk)
theorem fig_val {a : Nat} (h : Fig v k a) : nI (v a) - 48 = nI (v a - 48) := pk_sub (b := 48) h.2.1
theorem s_rdStep {n a i many : Nat} {nums : Nat → Int32} {Q : Int32 → (Nat → Int32) → Int32 → Prop} (hT : TV k v le tx) (ha : a < 500) (hi : i < many) (hm : many ≤ 3) (h1 : ∀ x c, Rd v k a (if i + 1 < many then 44 else 59) x c → L_X5_readNumbers_2 le (nI k) (nI many) Q n (upd nums i (nI x)) (nI c) (nI (i + 1))) (h0 : (∀ x c, ¬ Rd v k a (if i + 1 < many then 44 else 59) x c) → ∀ nums' at', Q 0 nums' at') : L_X5_readNumbers_2 le (nI k) (nI many) Q (n + 1) nums (nI a) (nI i) := by
  have h2 := hT.1
  have tail : ∀ x b, Nm v k a x b → b < 600 → B_X5_readNumbers_53 le nums (nI k) (nI b) (nI many) (nI i) (nI x) Q (L_X5_readNumbers_2 le (nI k) (nI many) Q n) := by
    intro x b hN hb
    have no : ¬ (b < k ∧ v b = (if i + 1 < many then 44 else 59)) → ∀ nums' at', Q 0 nums' at' := fun hn => h0 (fun x' c' hR => by
      obtain ⟨b', g1, g2, g3, g4⟩ := hR
      obtain ⟨e1, e2⟩ := Nm_one hN g1
      rw [e2] at g2 g3
      exact hn ⟨g2, g3⟩)
    refine ⟨inN (by omega) (by omega), s_next hT (by omega) (fun hbk => ?_) (fun hbk => ?_)⟩
    · obtain ⟨v1, v2, -, -⟩ := hT.2 b hbk
      simp only [B_X5_readNumbers_78]
      rw [cl (by omega), nI_m1 (by omega), nI_1]
      by_cases hl : i + 1 < many
      · rw [if_pos hl] at h1 no
        refine br_t (ltN (by omega) (by omega)) ?_
        by_cases e : v b = 44
        · exact br_t (by rw [e]; rfl) (h1 x (b + 1) ⟨b, hN, hbk, e, rfl⟩)
        · exact br_f (neN (b := 44) e (by omega) (by omega)) (no (fun z => e z.2) _ _)
      · rw [if_neg hl] at h1 no
        refine br_f (nltN (by omega) (by omega)) ?_
        by_cases e : v b = 59
        · exact br_t (by rw [e]; rfl) (h1 x (b + 1) ⟨b, hN, hbk, e, rfl⟩)
        · exact br_f (neN (b := 59) e (by omega) (by omega)) (no (fun z => e z.2) _ _)
    · simp only [B_X5_readNumbers_78]
      exact br_c (fun _ => br_f (by decide) (no (fun z => hbk z.1) _ _)) (fun _ => br_f (by decide) (no (fun z => hbk z.1) _ _))
  refine br_t (ltN hi (by omega)) (br_t (ltN (b := 3) (by omega) (by omega)) (s_fig hT (fun hF => br_f (by decide) (s_next hT (by omega) (fun hk => ?_) (fun hk => absurd hF.1 hk))) (fun hF => br_t rfl (h0 (fun x c hR => ?_) _ _)) (by omega)))
  · refine s_fig hT (fun hG => br_f (by decide) (s_next hT (by omega) (fun hk2 => ?_) (fun hk2 => absurd hG.1 hk2))) (fun hG => br_t rfl ?_) (by omega)
    · rw [fig_val hF, show (10 : Int32) = nI 10 from rfl, pk_mul, nI_add, show (48 : Int32) = nI 48 from rfl, pk_sub (by have := hG.2; omega)]
      refine tail _ _ ⟨hF, Or.inl ⟨hG, ?_, rfl⟩⟩ (by omega)
      have := hG.2; omega
    · rw [fig_val hF]
      exact tail _ _ ⟨hF, Or.inr ⟨hG, rfl, rfl⟩⟩ (by omega)
  · obtain ⟨b, h3, -⟩ := hR
    exact hF h3.1
theorem s_read1 {a : Nat} {nums : Nat → Int32} {Q : Int32 → (Nat → Int32) → Int32 → Prop} (hT : TV k v le tx) (ha : a < 400) (h1 : ∀ x c, Rd v k a 59 x c → Q 1 (upd nums 0 (nI x)) (nI c)) (h0 : (∀ x c, ¬ Rd v k a 59 x c) → ∀ nums' at', Q 0 nums' at') : wp_X5_readNumbers le nums (nI k) (nI a) 1 Q := by
  refine ⟨2, s_rdStep (i := 0) (many := 1) hT (by omega) (by omega) (by omega) (fun x c hR => ?_) (fun hN => h0 hN)⟩
  exact br_f (by decide) (h1 x c hR)
theorem s_read2 {a : Nat} {nums : Nat → Int32} {Q : Int32 → (Nat → Int32) → Int32 → Prop} (hT : TV k v le tx) (ha : a < 400) (h1 : ∀ x c y d, Rd v k a 44 x c → Rd v k c 59 y d → Q 1 (upd (upd nums 0 (nI x)) 1 (nI y)) (nI d)) (h0 : (∀ x c y d, Rd v k a 44 x c → ¬ Rd v k c 59 y d) → ∀ nums' at', Q 0 nums' at') : wp_X5_readNumbers le nums (nI k) (nI a) 2 Q := by
  have h2 := hT.1
  refine ⟨3, s_rdStep (i := 0) (many := 2) hT (by omega) (by omega) (by omega) (fun x c hR => ?_) (fun hN => h0 (fun x c y d hR => absurd hR (hN x c)))⟩
  have := Rd_lt hR
  refine s_rdStep (i := 1) (many := 2) hT (by omega) (by omega) (by omega) (fun y d hS => ?_) (fun hN => h0 (fun x' c' y d hR' => ?_))
  · exact br_f (by decide) (h1 x c y d hR hS)
  · obtain ⟨e1, e2⟩ := Rd_one hR hR'
    rw [e2]; exact hN y d
theorem s_read3 {a : Nat} {nums : Nat → Int32} {Q : Int32 → (Nat → Int32) → Int32 → Prop} (hT : TV k v le tx) (ha : a < 400) (h1 : ∀ x c y d z e, Rd v k a 44 x c → Rd v k c 44 y d → Rd v k d 59 z e → Q 1 (upd (upd (upd nums 0 (nI x)) 1 (nI y)) 2 (nI z)) (nI e)) (h0 : (∀ x c y d z e, Rd v k a 44 x c → Rd v k c 44 y d → ¬ Rd v k d 59 z e) → ∀ nums' at', Q 0 nums' at') : wp_X5_readNumbers le nums (nI k) (nI a) 3 Q := by
  have h2 := hT.1
  refine ⟨4, s_rdStep (i := 0) (many := 3) hT (by omega) (by omega) (by omega) (fun x c hR => ?_) (fun hN => h0 (fun x c y d z e hR => absurd hR (hN x c)))⟩
  have := Rd_lt hR
  refine s_rdStep (i := 1) (many := 3) hT (by omega) (by omega) (by omega) (fun y d hS => ?_) (fun hN => h0 (fun x' c' y d z e hR' hS' => ?_))
  · have := Rd_lt hS
    refine s_rdStep (i := 2) (many := 3) hT (by omega) (by omega) (by omega) (fun z e hU => ?_) (fun hN => h0 (fun x' c' y' d' z e hR' hS' => ?_))
    · exact br_f (by decide) (h1 x c y d z e hR hS hU)
    · obtain ⟨e1, e2⟩ := Rd_one hR hR'
      rw [e2] at hS'
      obtain ⟨e3, e4⟩ := Rd_one hS hS'
      rw [e4]; exact hN z e
  · obtain ⟨e1, e2⟩ := Rd_one hR hR'
    rw [e2] at hS'
    exact absurd hS' (hN y d)
/-! the reference's way -/
theorem s7_here {a : Nat} {Q : Int32 → Prop} (hT : TV k v le tx) (ha : a < 1000) (h1 : a < k → Q (nI (v a))) (h0 : ¬ a < k → Q (-4)) : wp_X7_here tx (nI k) (nI a) Q := by
  have h2 := hT.1
  by_cases hk : a < k
  · obtain ⟨v1, v2, e1, e2⟩ := hT.2 a hk
    refine br_t (ltN hk (by omega)) ⟨inN (by omega) (by omega), ?_⟩
    rw [cl (by omega), e2]
    exact h1 hk
  · exact br_f (nltN (by omega) (by omega)) (h0 hk)
theorem s7_fig {a : Nat} {Q : Int32 → Prop} (hT : TV k v le tx) (ha : a < 1000) (h1 : Fig v k a → Q 1) (h0 : ¬ Fig v k a → Q 0) : wp_X7_isFigure tx (nI k) (nI a) Q := by
  refine s7_here hT ha (fun hk => ?_) (fun hk => br_t (by decide) ⟨zb0, h0 (fun z => hk z.1)⟩)
  obtain ⟨v1, v2, -, -⟩ := hT.2 a hk
  by_cases c1 : v a < 48
  · exact br_t (ltN (b := 48) c1 (by omega)) ⟨zb0, h0 (fun z => by have := z.2.1; omega)⟩
  · refine br_f (nltN (b := 48) (by omega) (by omega)) ?_
    by_cases c2 : 57 < v a
    · exact br_t (ltN (a := 57) c2 (by omega)) ⟨zb0, h0 (fun z => by have := z.2.2; omega)⟩
    · exact br_f (nltN (a := 57) (by omega) (by omega)) ⟨zb1, h1 ⟨hk, by omega, by omega⟩⟩
theorem num_end {w : Int32} {b x h : Nat} {Q : Int32 → Int32 → Int32 → Prop} (hx : x < 1000) (hh : h < 1000) (h1 : w = 0 → x < h → Q (nI x) (nI b) 0) (h0 : ¬ (w = 0 ∧ x < h) → ∀ r, Q r (nI b) 1) : B_X7_number_58 tx (nI k) (nI b) w 0 (nI h - 1) (nI x) Q := by
  simp only [B_X7_number_58, B_X7_number_79, B_X7_number_84]
  by_cases hl : x < h
  · exact s_in_t hl (by omega) (br_c (fun c => br_f (by decide) ⟨zf0, br_f (by decide) (h1 c hl)⟩) (fun c => ⟨zf1, br_f (by decide) (h0 (fun z => c z.1) _)⟩))
  · refine s_in_f (fun j hj e => ?_) (by omega) (br_c (fun c => br_t rfl ⟨zf1, br_t rfl (h0 (fun z => hl z.2) _)⟩) (fun c => ⟨zf1, br_t rfl (h0 (fun z => hl z.2) _)⟩))
    have := (nI_eq (by omega) (by omega)).mp e
    omega
theorem num_none {w : Int32} {b h : Nat} {Q : Int32 → Int32 → Int32 → Prop} (hh : h < 1000) (h0 : ∀ r, Q r (nI b) 1) : B_X7_number_58 tx (nI k) (nI b) w 0 (nI h - 1) (-4) Q := by
  simp only [B_X7_number_58, B_X7_number_79, B_X7_number_84]
  exact s_in_f (fun j hj e => nI_m4 (by omega) e.symm) (by omega) (br_c (fun c => br_t rfl ⟨zf1, br_t rfl (h0 _)⟩) (fun c => ⟨zf1, br_t rfl (h0 _)⟩))
theorem s7_number {w hi : Int32} {a h : Nat} {Q : Int32 → Int32 → Int32 → Prop} (hT : TV k v le tx) (ha : a < 500) (hh : h < 1000) (ehi : hi = nI h - 1) (h1 : ∀ x b, w = 0 → Nm v k a x b → x < h → Q (nI x) (nI b) 0) (h0 : ¬ (w = 0 ∧ ∃ x b, Nm v k a x b ∧ x < h) → ∀ r b, b ≤ a + 2 → Q r (nI b) 1) : wp_X7_number tx (nI k) (nI a) w 0 hi Q := by
  rw [ehi]
  have fin : ∀ x b, Nm v k a x b → x < 1000 → b ≤ a + 2 → B_X7_number_58 tx (nI k) (nI b) w 0 (nI h - 1) (nI x) Q := fun x b hN hx hb => num_end hx hh (fun c hl => h1 x b c hN hl) (fun c r => h0 (fun z => by
    obtain ⟨z1, x', b', z2, z3⟩ := z
    obtain ⟨e1, e2⟩ := Nm_one hN z2
    exact c ⟨z1, by omega⟩) r b hb)
  refine ⟨3, br_t (by decide) (s7_fig hT (by omega) (fun hF => br_f (by decide) (br_t rfl ?_)) (fun hF => br_t rfl (num_none hh (fun r => h0 (fun z => ?_) r a (by omega)))))⟩
  · refine s7_here hT (by omega) (fun hk => ?_) (fun hk => absurd hF.1 hk)
    have hv := hF.2
    rw [n0, fig_val hF, nI_1]
    refine br_t (by decide) (s7_fig hT (by omega) (fun hG => br_f (by decide) (br_f (nI_m4 (by omega)) ?_)) (fun hG => br_t rfl (fin _ _ ⟨hF, Or.inr ⟨hG, rfl, rfl⟩⟩ (by omega) (by omega))))
    refine s7_here hT (by omega) (fun hk2 => ?_) (fun hk2 => absurd hG.1 hk2)
    have hu := hG.2
    rw [show (10 : Int32) = nI 10 from rfl, pk_mul, nI_add, show (48 : Int32) = nI 48 from rfl, pk_sub (by omega), nI_1]
    refine br_f (by decide) (fin _ _ ⟨hF, Or.inl ⟨hG, by omega, rfl⟩⟩ (by omega) (by omega))
  · obtain ⟨z1, x', b', z2, z3⟩ := z
    exact hF z2.1
theorem s7_due {w : Int32} {b s : Nat} {Q : Int32 → Int32 → Prop} (hT : TV k v le tx) (hb : b < 600) (hs : s < 1000) (h1 : w = 0 → b < k → v b = s → Q (nI (b + 1)) 0) (h0 : ¬ (w = 0 ∧ b < k ∧ v b = s) → Q (nI (b + 1)) 1) : wp_X7_due tx (nI k) (nI b) w (nI s) Q := by
  simp only [wp_X7_due, B_X7_due_16, B_X7_due_21]
  rw [nI_1]
  refine br_c (fun c => s7_here hT (by omega) (fun hk => ?_) (fun hk => br_f (fun z => nI_m4 (by omega) z.symm) ⟨zf1, h0 (fun z => hk z.2.1)⟩)) (fun c => ⟨zf1, h0 (fun z => c z.1)⟩)
  obtain ⟨v1, v2, -, -⟩ := hT.2 b hk
  by_cases e : v b = s
  · exact br_t (by rw [e]) ⟨zf0, h1 c hk e⟩
  · exact br_f (neN e (by omega) (by omega)) ⟨zf1, h0 (fun z => e z.2.2)⟩
/-- a number and its sign -/
theorem s7_rd {w hi : Int32} {a h s : Nat} {Z G : Int32 → Int32 → Int32 → Prop} (hT : TV k v le tx) (ha : a < 500) (hh : h < 1000) (hs : s < 1000) (ehi : hi = nI h - 1) (hG : ∀ r b w, wp_X7_due tx (nI k) b w (nI s) (fun b' w' => Z r b' w') → G r b w) (h1 : ∀ x c, w = 0 → Rd v k a s x c → x < h → Z (nI x) (nI c) 0) (h0 : ¬ (w = 0 ∧ ∃ x c, Rd v k a s x c ∧ x < h) → ∀ r c, c ≤ a + 3 → Z r (nI c) 1) : wp_X7_number tx (nI k) (nI a) w 0 hi G := by
  refine s7_number hT ha hh ehi (fun x b c hN hl => hG _ _ _ ?_) (fun hn r b hb => hG _ _ _ ?_)
  · have hb : b ≤ a + 2 := by
      rcases hN.2 with ⟨-, -, e⟩ | ⟨-, -, e⟩ <;> omega
    refine s7_due hT (by omega) hs (fun _ hk e => h1 x (b + 1) c ⟨b, hN, hk, e, rfl⟩ hl) (fun hn => h0 (fun z => ?_) _ _ (by omega))
    obtain ⟨z1, x', c', ⟨b', g1, g2, g3, g4⟩, z3⟩ := z
    obtain ⟨e1, e2⟩ := Nm_one hN g1
    rw [e2] at g2 g3
    exact hn ⟨rfl, g2, g3⟩
  · refine s7_due hT (by omega) hs (fun z => absurd z (by decide)) (fun _ => h0 (fun z => ?_) _ _ (by omega))
    obtain ⟨z1, x', c', ⟨b', g1, g2, g3, g4⟩, z3⟩ := z
    exact hn ⟨z1, x', b', g1, z3⟩
end Text
