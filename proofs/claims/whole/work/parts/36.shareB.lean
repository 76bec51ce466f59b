/-! sharing out: the class's way, person by person -/
def Kx (b : Nat → Bool) : Nat := 32768 * (b 0).toNat + 4096 * (b 1).toNat + 512 * (b 2).toNat + 64 * (b 3).toNat + 8 * (b 4).toNat + (b 5).toNat
def KP (j : Nat) (b : Nat → Bool) : Nat := Kx (fun t => b t && decide (t < j))
theorem KP_succ {j : Nat} (hj : j < 6) (b : Nat → Bool) : KP (j + 1) b = KP j b + (if b j = true then 8 ^ (5 - j) else 0) := by
  rcases six hj with e | e | e | e | e | e
  · rw [e]; cases hb : b 0 <;> simp [KP, Kx, hb]
  · rw [e]; cases hb : b 1 <;> simp [KP, Kx, hb]
  · rw [e]; cases hb : b 2 <;> simp [KP, Kx, hb]
  · rw [e]; cases hb : b 3 <;> simp [KP, Kx, hb]
  · rw [e]; cases hb : b 4 <;> simp [KP, Kx, hb]
  · rw [e]; cases hb : b 5 <;> simp [KP, Kx, hb]
theorem KP_le (j : Nat) (b : Nat → Bool) : KP j b ≤ 37449 := by
  have h : ∀ c : Bool, c.toNat ≤ 1 := by decide
  unfold KP Kx
  have h0 := h (b 0 && decide (0 < j))
  have h1 := h (b 1 && decide (1 < j))
  have h2 := h (b 2 && decide (2 < j))
  have h3 := h (b 3 && decide (3 < j))
  have h4 := h (b 4 && decide (4 < j))
  have h5 := h (b 5 && decide (5 < j))
  dsimp only
  omega
theorem KP_congr {j : Nat} {b b' : Nat → Bool} (h : ∀ t, t < 6 → b t = b' t) : KP j b = KP j b' := by
  unfold KP Kx
  dsimp only
  rw [h 0 (by omega), h 1 (by omega), h 2 (by omega), h 3 (by omega), h 4 (by omega), h 5 (by omega)]
def Gf (kd wt lk : Nat → Int32) (nt q : Nat) (b : Nat → Bool) : Int := (W1 kd wt lk nt q b).toInt * 262144 - ((q * KP nt b : Nat) : Int)
section ShareC
variable {np nt : Nat} {tk kd wt lk pe th la ki wo li nw now : Nat → Int32}
theorem Gf_congr (hn : nt ≤ 6) : ∀ q b b', (∀ t, t < 6 → b t = b' t) → Gf kd wt lk nt q b = Gf kd wt lk nt q b' := fun q b b' h => by
  unfold Gf
  rw [W1_congr (b := b) (b' := b') (fun t ht => h t (by omega)), KP_congr h]
theorem Gf_bd (hP : PR np nt tk kd wt lk) : ∀ q, q < np → ∀ b, -100000000 ≤ Gf kd wt lk nt q b ∧ Gf kd wt lk nt q b ≤ 100000000 := fun q hq b => by
  have h1 := W1_bd hP hq b
  have h5 := hP.2.1
  have h2 : q * KP nt b ≤ 4 * 37449 := Nat.mul_le_mul (by omega) (KP_le nt b)
  unfold Gf
  omega
theorem Gf_0 (q : Nat) : Gf kd wt lk nt q (bt (nI 0)) = 0 := by
  have h : ∀ t, bt (nI 0) t = false := fun t => b_0 t
  have e1 : W1 kd wt lk nt q (bt (nI 0)) = 0 := by
    unfold W1 wv
    exact lp_id _ nt 0 0 (fun i a _ _ => by rw [h i]; rfl)
  have e2 : KP nt (bt (nI 0)) = 0 := by
    unfold KP Kx
    dsimp only
    rw [h 0, h 1, h 2, h 3, h 4, h 5]
    rfl
  unfold Gf
  rw [e1, e2]
  rfl
theorem s_tellGains {g : Nat → Int32} {p all : Nat} {Q : (Nat → Int32) → Prop} (hP : PR np nt tk kd wt lk) (hp : p < np) (ha : all < 64) (h : ∀ g' : Nat → Int32, (∀ s, s ≤ all → (g' s).toInt = Gf kd wt lk nt p (bt (nI s))) → Q g') : wp_X0_tellGains g kd wt lk (nI nt) (nI p) (nI all) Q := by
  have h5 := hP.2.1
  have h6 := hP.2.2.1
  refine ⟨all + 1 + 1, lpr (fun n a j => L_X0_tellGains_3 kd wt lk (nI nt) (nI p) (nI all) Q n a (nI j)) (fun j a => ∀ s, s < j → (a s).toInt = Gf kd wt lk nt p (bt (nI s))) (all + 1) (fun n a s hj hI hn2 => ?_) (fun n a hI => ?_) (all + 1) 0 _ (Nat.zero_add _) (fun i hi => absurd hi (by omega))⟩
  · refine br_f (nltN (by omega) (by omega)) ⟨nt + 1, lpr (fun n' c j => L_X0_tellGains_15 a kd wt lk (nI nt) (nI p) (nI all) (nI s) Q (L_X0_tellGains_3 kd wt lk (nI nt) (nI p) (nI all) Q n) n' c (nI j)) (fun j c => c = nI (p * KP j (bt (nI s)))) nt (fun n' c j hj hc hn3 => ?_) (fun n' c hc => ?_) nt 0 0 (Nat.zero_add _) ?_⟩
    · refine br_t (ltN hj (by omega)) ?_
      unfold wp_X0_placeOf
      rw [bit1 _ (by omega), nI_1]
      refine hn3 _ ?_
      rw [KP_succ (by omega), hc]
      cases hb : bt (nI s) j with
      | true => rw [if_pos rfl, if_pos rfl, Int32.one_mul, pcs j (by omega) p (by omega), nI_add, Nat.mul_add]
      | false =>
        have e0 : (0 : Int32) <<< (((3 : Int32) * (5 - nI j)) &&& 31) = 0 := by
          have := pcs j (by omega) 0 (by omega)
          rw [Nat.zero_mul] at this
          exact this
        rw [if_neg (by decide), if_neg (by decide), Int32.zero_mul, e0, Int32.add_zero, Nat.add_zero]
    · refine br_f (nltN (Nat.le_refl _) (by omega)) (s_w hP hp (b := bt (nI s)) (fun _ _ => rfl) ⟨inN (by omega) (by omega), ?_⟩)
      rw [cl (by omega), nI_1]
      refine hn2 _ (fun s' hs' => ?_)
      by_cases e : s' = s
      · rw [e, pk_us, hc]
        have h1 := W1_bd hP hp (bt (nI s))
        have h2 : p * KP nt (bt (nI s)) ≤ 4 * 37449 := Nat.mul_le_mul (by omega) (KP_le nt _)
        have e1 := shlI (w := W1 kd wt lk nt p (bt (nI s))) (by omega) (by omega)
        have e2 : (nI (p * KP nt (bt (nI s)))).toInt = ((p * KP nt (bt (nI s)) : Nat) : Int) := nI_toInt (by omega)
        rw [fb_subI (by omega) (by omega), e1, e2]
        rfl
      · rw [pk_un e]; exact hI s' (by omega)
    · have e : KP 0 (bt (nI s)) = 0 := by unfold KP Kx; simp
      rw [e]; rfl
  · exact br_t (ltN (by omega) (by omega)) (h a (fun s hs => hI s (by omega)))
theorem s_bestWith {g b : Nat → Int32} {s : Nat} {gv bv : Nat → Int} {Q : Int32 → Prop} (hs : s < 64) (hg : ∀ r, r ≤ s → (g r).toInt = gv r ∧ -100000000 ≤ gv r ∧ gv r ≤ 100000000) (hb : ∀ r, r &&& s = r → (b r).toInt = bv r ∧ -500000000 ≤ bv r ∧ bv r ≤ 500000000) (h0 : gv 0 = 0) (h : ∀ m : Int32, (∀ r, r &&& s = r → gv r + bv (s ^^^ r) ≤ m.toInt) → (∃ r, r &&& s = r ∧ gv r + bv (s ^^^ r) = m.toInt) → Q m) : wp_X0_bestWith g b (nI s) Q := by
  have key : ∀ n a (m : Int32), a < n → a &&& s = a → (∀ r, r &&& s = r → a < r → gv r + bv (s ^^^ r) ≤ m.toInt) → bv s ≤ m.toInt → (∃ r, r &&& s = r ∧ gv r + bv (s ^^^ r) = m.toInt) → L_X0_bestWith_9 g b (nI s) Q n m (nI a) := by
    intro n
    induction n with
    | zero => intro a m han; omega
    | succ n ih =>
      intro a m han ha h1 h2 h3
      have hal : a ≤ s := by
        have : a &&& s ≤ s := Nat.and_le_right
        omega
      by_cases a0 : a = 0
      · rw [a0]
        refine br_f (by decide) (h m (fun r hr => ?_) h3)
        by_cases r0 : r = 0
        · rw [r0, Nat.xor_zero, h0]; omega
        · exact h1 r hr (by omega)
      · obtain ⟨x1, x2, x3⟩ := sb_xor s hs a (by omega) ha
        obtain ⟨y1, y2⟩ := sb_next1 s hs a (by omega) ha (by omega)
        refine br_t (ltN (a := 0) (by omega) (by omega)) ⟨inN (by omega) (by omega), ?_⟩
        rw [fb_xorI, cl (by omega), cl (by omega), nI_m1 (by omega), fa_and]
        refine ⟨inN (by omega) (by omega), ?_⟩
        obtain ⟨g1, g2, g3⟩ := hg a hal
        obtain ⟨b1, b2, b3⟩ := hb (s ^^^ a) x1
        have ev : (g a + b (s ^^^ a)).toInt = gv a + bv (s ^^^ a) := by rw [fb_addI (by omega) (by omega), g1, b1]
        by_cases hc : m < g a + b (s ^^^ a)
        · rw [if_pos hc]
          rw [fa_lt] at hc
          refine ih _ _ (by omega) y1 (fun r hr hlt => ?_) (by omega) ⟨a, ha, ev.symm⟩
          by_cases e : r = a
          · rw [e]; omega
          · have := sb_next2 s hs a (by omega) ha r
            have : a < r := by
              rcases Nat.lt_or_ge r a with z | z
              · have := this z hr; omega
              · omega
            have := h1 r hr this
            omega
        · rw [if_neg hc]
          rw [fa_lt] at hc
          refine ih _ _ (by omega) y1 (fun r hr hlt => ?_) (by omega) h3
          by_cases e : r = a
          · rw [e]; omega
          · have := sb_next2 s hs a (by omega) ha r
            have : a < r := by
              rcases Nat.lt_or_ge r a with z | z
              · have := this z hr; omega
              · omega
            exact h1 r hr this
  have hss : s &&& s = s := Nat.and_self s
  have hz : 0 &&& s = 0 := Nat.zero_and s
  have e0 := (hb s hss).1
  refine ⟨inN (by omega) (by omega), s + 1, ?_⟩
  rw [cl (by omega)]
  refine key (s + 1) s _ (by omega) hss (fun r hr hlt => ?_) (by omega) ⟨0, hz, ?_⟩
  · have : r &&& s ≤ s := Nat.and_le_right
    omega
  · rw [Nat.xor_zero, h0]; omega
theorem am1 (x : Int32) : x + (-1) = x - 1 := (Int32.sub_eq_add_neg x 1).symm
theorem s_fillBest {g b : Nat → Int32} {n all : Nat} {Q : Int32 → (Nat → Int32) → (Nat → Int32) → Prop} {k2 : (Nat → Int32) → (Nat → Int32) → Int32 → Prop} (hP : PR np nt tk kd wt lk) (hn : n < np) (ha : all < 64) (hg : ∀ s, s ≤ all → (g s).toInt = Gf kd wt lk nt n (bt (nI s))) (hb : n = 0 ∨ ∀ s, s &&& all = s → BI (Gf kd wt lk nt) n s (b s).toInt) (h : ∀ b' : Nat → Int32, (∀ s, s &&& all = s → BI (Gf kd wt lk nt) (n + 1) s (b' s).toInt) → k2 g b' (nI n + 1)) : ∃ n20 : Nat, L_X0_bestSharing_20 g kd wt lk (nI np) (nI nt) (nI all) (nI n) Q k2 n20 b (nI all) := by
  have h5 := hP.2.1
  have h6 := hP.2.2.1
  have hG := Gf_congr (kd := kd) (wt := wt) (lk := lk) h6
  have hB := Gf_bd hP
  have le : ∀ s, s &&& all = s → s ≤ all := fun s hs => by
    have : s &&& all ≤ all := Nat.and_le_right
    omega
  have key : ∀ N (b : Nat → Int32), N ≤ all + 1 → (∀ s, s &&& all = s → (s < N → n = 0 ∨ BI (Gf kd wt lk nt) n s (b s).toInt) ∧ (N ≤ s → BI (Gf kd wt lk nt) (n + 1) s (b s).toInt)) → L_X0_bestSharing_20 g kd wt lk (nI np) (nI nt) (nI all) (nI n) Q k2 (N + 1) b (nI N - 1) := by
    intro N
    induction N with
    | zero => intro b _ H; exact br_t (by decide) (h b (fun s hs => (H s hs).2 (by omega)))
    | succ N ih =>
      intro b hN H
      rw [nI_pred]
      have put : ∀ y : Int32, N &&& all = N → BI (Gf kd wt lk nt) (n + 1) N y.toInt → L_X0_bestSharing_20 g kd wt lk (nI np) (nI nt) (nI all) (nI n) Q k2 (N + 1) (upd b N y) (nI N - 1) := fun y hNa hy => by
        refine ih (upd b N y) (by omega) (fun s hs => ⟨fun z => ?_, fun z => ?_⟩)
        · rw [pk_un (by omega)]; exact (H s hs).1 (by omega)
        · by_cases e : s = N
          · rw [e, pk_us]; exact hy
          · rw [pk_un e]; exact (H s hs).2 (by omega)
      refine br_f (nI_pos (by omega)) ?_
      rw [sb_not all ha N (by omega)]
      by_cases hNa : N &&& all = N
      · refine br_t hNa ?_
        by_cases n0 : n = 0
        · refine br_t (by rw [n0]; rfl) ⟨inN (by omega) (by omega), inN (by omega) (by omega), ?_⟩
          rw [cl (by omega), am1]
          refine put _ hNa ?_
          rw [hg N (by omega), n0]
          exact BI_1 hG N
        · refine br_f (nI_ne0 (by omega) (by omega)) ?_
          have old : ∀ r, r &&& N = r → BI (Gf kd wt lk nt) n r (b r).toInt := fun r hr => by
            have h1 := sb_tr hNa hr
            have h2 : r &&& N ≤ N := Nat.and_le_right
            rcases (H r h1).1 (by omega) with z | z
            · exact absurd z n0
            · exact z
          refine s_bestWith (gv := fun r => Gf kd wt lk nt n (bt (nI r))) (bv := fun r => (b r).toInt) (by omega) (fun r hr => ⟨hg r (by omega), hB n hn _⟩) (fun r hr => ⟨rfl, BI_bd hB (by omega) h5 (old r hr)⟩) (Gf_0 n) (fun m h1 h2 => ⟨inN (by omega) (by omega), ?_⟩)
          rw [cl (by omega), am1]
          refine put m hNa (BI_step hG (v := fun r => (b (N ^^^ r)).toInt) (by omega) (fun r hr => old _ ?_) h1 h2)
          have hrl : r ≤ N := by
            have : r &&& N ≤ N := Nat.and_le_right
            omega
          exact (sb_xor N (by omega) r (by omega) hr).1
      · refine br_f hNa ?_
        rw [am1]
        refine ih b (by omega) (fun s hs => ⟨fun z => (H s hs).1 (by omega), fun z => ?_⟩)
        by_cases e : s = N
        · rw [e] at hs; exact absurd hs hNa
        · exact (H s hs).2 (by omega)
  have := key (all + 1) b (Nat.le_refl _) (fun s hs => ⟨fun _ => hb.imp id (fun z => z s hs), fun z => absurd (le s hs) (by omega)⟩)
  rw [nI_pred] at this
  exact ⟨_, this⟩
theorem s_bestSharing {g b : Nat → Int32} {all : Nat} {Q : Int32 → (Nat → Int32) → (Nat → Int32) → Prop} (hP : PR np nt tk kd wt lk) (ha : all < 64) (h : ∀ (v : Int32) g' b', BI (Gf kd wt lk nt) np all v.toInt → Q v g' b') : wp_X0_bestSharing g b kd wt lk (nI np) (nI nt) (nI all) Q := by
  have h1 := hP.1
  have h5 := hP.2.1
  refine ⟨np + 1, lpr (fun n (a : (Nat → Int32) × (Nat → Int32)) j => L_X0_bestSharing_2 kd wt lk (nI np) (nI nt) (nI all) Q n a.1 a.2 (nI j)) (fun n a => n = 0 ∨ ∀ s, s &&& all = s → BI (Gf kd wt lk nt) n s (a.2 s).toInt) np (fun n a j hj hI hn2 => ?_) (fun n a hI => ?_) np 0 (g, b) (Nat.zero_add _) (Or.inl rfl)⟩
  · refine br_t (ltN hj (by omega)) (s_tellGains hP hj ha (fun g' hg => s_fillBest hP hj ha hg hI (fun b' hb => ?_)))
    rw [nI_1]
    exact hn2 (g', b') (Or.inr hb)
  · refine br_f (nltN (Nat.le_refl _) (by omega)) ⟨inN (by omega) (by omega), ?_⟩
    rw [cl (by omega)]
    rcases hI with z | z
    · omega
    · exact h _ _ _ (z all (Nat.and_self all))
end ShareC
