/-! stands laid by: push and know, pop and undo, keep and back -/
def row (r : Nat → Int32) (j : Nat) : Nat → Int32 := fun i => r (14 * j + i)
def Rw (np nt k : Nat) (rows mrows : Nat → Int32) : Prop := ∀ j, j < k → Sd np nt (row rows j) ∧ RS (row rows j) (row mrows j)
theorem Sd_congr {np nt : Nat} {c d : Nat → Int32} (h : ∀ i, i < 14 → d i = c i) (hn : nt ≤ 6) (hS : Sd np nt c) : Sd np nt d := by
  obtain ⟨h1, h2, h3, h4, h5⟩ := hS
  refine ⟨fun p hp => by rw [h p (by omega)]; exact h1 p hp, fun p hp1 hp2 => by rw [h p (by omega)]; exact h2 p hp1 hp2, fun t ht => by rw [h (5 + t) (by omega)]; exact h3 t ht, by rw [h 11 (by omega)]; exact h4, by rw [h 11 (by omega), h 13 (by omega)]; exact h5⟩
theorem RS_congr {c d m k : Nat → Int32} (h : ∀ i, i < 14 → d i = c i) (hm : ∀ i, i < 14 → k i = m i) (hR : RS c m) : RS d k := by
  obtain ⟨h1, h2, h3⟩ := hR
  exact ⟨fun i hi => by rw [h i (by omega), hm i (by omega)]; exact h1 i hi, by rw [h 12 (by omega), hm 13 (by omega)]; exact h2, by rw [h 13 (by omega), hm 12 (by omega)]; exact h3⟩
def pushK (k m : Nat) : Nat := if k < m then k + 1 else m
def shf (r : Nat → Int32) : Nat → Int32 := fun i => if i < 98 then r (14 + i) else r i
def pushR (k : Nat) (r c : Nat → Int32) : Nat → Int32 := if k < 8 then fb_put r c (14 * k) 14 else fb_put (shf r) c 98 14
theorem row_put_self {r c : Nat → Int32} {k : Nat} : ∀ i, i < 14 → row (fb_put r c (14 * k) 14) k i = c i := fun i hi => by
  unfold row; rw [fb_put_in (by omega) (by omega)]; congr 1; omega
theorem row_put_ne {r c : Nat → Int32} {k j : Nat} (h : j ≠ k) : ∀ i, i < 14 → row (fb_put r c (14 * k) 14) j i = row r j i := fun i hi => by
  unfold row; rw [fb_put_out (by omega)]
theorem Rw_put {np nt k : Nat} {rows mrows c m : Nat → Int32} (hn : nt ≤ 6) (h : Rw np nt k rows mrows) (hS : Sd np nt c) (hR : RS c m) : Rw np nt (k + 1) (fb_put rows c (14 * k) 14) (fb_put mrows m (14 * k) 14) := by
  intro j hj
  by_cases hjk : j = k
  · subst hjk
    exact ⟨Sd_congr row_put_self hn hS, RS_congr row_put_self row_put_self hR⟩
  · obtain ⟨a, b⟩ := h j (by omega)
    exact ⟨Sd_congr (row_put_ne hjk) hn a, RS_congr (row_put_ne hjk) (row_put_ne hjk) b⟩
theorem Rw_push {np nt k : Nat} {rows mrows c m : Nat → Int32} (hn : nt ≤ 6) (hk : k ≤ 8) (h : Rw np nt k rows mrows) (hS : Sd np nt c) (hR : RS c m) : Rw np nt (pushK k 8) (pushR k rows c) (pushR k mrows m) := by
  unfold pushK pushR
  by_cases h8 : k < 8
  · rw [if_pos h8, if_pos h8, if_pos h8]; exact Rw_put hn h hS hR
  · rw [if_neg h8, if_neg h8, if_neg h8]
    have e : k = 8 := by omega
    subst e
    have h7 : Rw np nt 7 (shf rows) (shf mrows) := by
      intro j hj
      obtain ⟨a, b⟩ := h (j + 1) (by omega)
      have e : ∀ r : Nat → Int32, ∀ i, i < 14 → row (shf r) j i = row r (j + 1) i := fun r i hi => by
        unfold row shf; rw [if_pos (by omega)]; congr 1; omega
      exact ⟨Sd_congr (e rows) hn a, RS_congr (e rows) (e mrows) b⟩
    exact Rw_put (k := 7) hn h7 hS hR
theorem cpy_put (c r : Nat → Int32) (a : Nat) : va_cpy c r 0 a 14 = fb_put r c a 14 := by
  funext k
  unfold va_cpy fb_put
  rw [Nat.zero_add]
theorem cpy_shf (r : Nat → Int32) : va_cpy r r 14 0 98 = shf r := by
  funext k
  unfold va_cpy shf
  by_cases h : k < 98
  · rw [if_pos (by omega), if_pos h, Nat.sub_zero]
  · rw [if_neg (by omega), if_neg h]
theorem lp_put (g : Nat → Int32) (a : Nat) : ∀ (m : Nat) (f : Nat → Int32), lp (fun j r => upd r (a + j) (g j)) 0 m f = fb_put f g a m := by
  intro m
  induction m with
  | zero => intro f; exact (fb_put_0 f g a).symm
  | succ m ih =>
    intro f
    rw [lp_app _ m 1, Nat.zero_add, ih]
    exact fb_put_succ f g a m
theorem lp_shf (r : Nat → Int32) : ∀ m, m ≤ 98 → lp (fun j (q : Nat → Int32) => upd q j (q (14 + j))) 0 m r = fun i => if i < m then r (14 + i) else r i := by
  intro m
  induction m with
  | zero => intro _; funext i; rw [if_neg (by omega)]; rfl
  | succ m ih =>
    intro hm
    rw [lp_app _ m 1, Nat.zero_add, ih (by omega)]
    funext i
    simp only [lp]
    by_cases h : i = m
    · subst h
      rw [pk_us, if_neg (by omega), if_pos (by omega)]
    · rw [pk_un h]
      by_cases h2 : i < m
      · rw [if_pos h2, if_pos (by omega)]
      · rw [if_neg h2, if_neg (by omega)]
theorem s_push {k : Nat} {r c : Nat → Int32} {Q : (Nat → Int32) → Int32 → Prop} (hk : k ≤ 8) (h : Q (pushR k r c) (nI (pushK k 8))) : wp_X4_push 112 r 8 (nI k) c Q := by
  unfold pushR pushK at h
  by_cases h8 : k < 8
  · rw [if_pos h8, if_pos h8] at h
    refine br_t (ltN (b := 8) h8 (by omega)) (br_t rfl ?_)
    unfold B_X4_push_38
    rw [m14', nI_1, cl (by omega), cpy_put]
    refine ⟨⟨by decide, nI_pos (by omega), by decide, by decide, ?_⟩, h⟩
    rw [cl (by omega), show Int32.toNatClampNeg 14 = 14 from rfl]; omega
  · rw [if_neg h8, if_neg h8] at h
    have e : k = 8 := by omega
    subst e
    refine br_f (by decide) (br_f (by decide) ⟨⟨by decide, by decide, by decide, by decide, by decide⟩, ?_⟩)
    have e1 : Int32.toNatClampNeg ((8 - 1) * 14) = 98 := by decide
    have e3 : ((8 : Int32) - 1) + 1 = nI 8 := by decide
    unfold B_X4_push_38
    rw [e1, e3, cpy_shf, cpy_put]
    exact ⟨⟨by decide, by decide, by decide, by decide, by decide⟩, h⟩
theorem s7_know48 {k : Nat} {r c : Nat → Int32} {Q : (Nat → Int32) → Int32 → Prop} (hk : k < 8) (h : Q (fb_put r c (14 * k) 14) (nI (k + 1))) : B_X7_know_48 c r (nI k) Q := by
  refine ⟨15, lpx (fun n a j => L_X7_know_50 c (nI k) Q n a (nI j)) (fun j q => upd q (14 * k + j) (c j)) (fun q => Q q (nI (k + 1))) 14 (fun n a j hj hL => ?_) (fun n a hQ => ?_) 14 0 r rfl ?_⟩
  · refine br_t (ltN (b := 14) hj (by omega)) ?_
    rw [m14, nI_add, nI_1, cl (by omega), cl (by omega)]
    exact ⟨inN (by omega) (by omega), inN (by omega) (by omega), hL⟩
  · refine br_f (nltN (b := 14) (Nat.le_refl _) (by omega)) ?_
    rw [nI_1]; exact hQ
  · rw [lp_put]; exact h
theorem s7_know {k : Nat} {r c : Nat → Int32} {Q : (Nat → Int32) → Int32 → Prop} (hk : k ≤ 8) (h : Q (pushR k r c) (nI (pushK k 8))) : wp_X7_know c r (nI k) Q := by
  unfold pushR pushK at h
  by_cases h8 : k < 8
  · rw [if_pos h8, if_pos h8] at h
    exact br_f (neN (b := 8) (by omega) (by omega) (by omega)) (s7_know48 h8 h)
  · rw [if_neg h8, if_neg h8] at h
    have e : k = 8 := by omega
    subst e
    refine br_t rfl ⟨99, lpx (fun n a j => L_X7_know_11 c (nI 8) Q n a (nI j)) (fun j (q : Nat → Int32) => upd q j (q (14 + j))) (fun q => B_X7_know_48 c q (nI 7) Q) 98 (fun n a j hj hL => ?_) (fun n a hQ => ?_) 98 0 r rfl ?_⟩
    · refine br_t (ltN (b := 98) hj (by omega)) ?_
      rw [show (14 : Int32) + nI j = nI (14 + j) from nI_add 14 j, nI_1, cl (by omega), cl (by omega)]
      exact ⟨inN (by omega) (by omega), inN (by omega) (by omega), hL⟩
    · exact br_f (nltN (b := 98) (Nat.le_refl _) (by omega)) hQ
    · rw [lp_shf r 98 (by omega)]
      exact s7_know48 (k := 7) (by omega) h
/-- taking the top off -/
theorem cpy_row (r c : Nat → Int32) (k : Nat) : ∀ i, i < 14 → va_cpy r c (14 * k) 0 14 i = row r k i := fun i hi => by
  unfold va_cpy row; rw [if_pos (by omega), Nat.sub_zero]
theorem s_pop_0 {N : Nat} {r c : Nat → Int32} {Q : Int32 → Int32 → (Nat → Int32) → Prop} (h : Q 0 0 c) : wp_X4_pop N r (nI 0) c Q := br_t rfl h
theorem s_pop {k N : Nat} {r c : Nat → Int32} {Q : Int32 → Int32 → (Nat → Int32) → Prop} (hN : 14 * (k + 1) ≤ N) (hNb : N < 2147483648) (h : Q 1 (nI k) (va_cpy r c (14 * k) 0 14)) : wp_X4_pop N r (nI (k + 1)) c Q := by
  refine br_f (nI_ne0 (by omega) (by omega)) ?_
  rw [nI_pred, m14', cl (by omega)]
  refine ⟨⟨nI_pos (by omega), by decide, by decide, ?_, by decide⟩, h⟩
  rw [cl (by omega), show Int32.toNatClampNeg 14 = 14 from rfl]; omega
theorem s7_undo {k : Nat} {r c : Nat → Int32} {Q : Int32 → (Nat → Int32) → Int32 → Prop} (hk : k < 8) (h : ∀ q, (∀ i, i < 14 → q i = row r k i) → Q (nI k) q (nI k)) : wp_X7_undo c r (nI (k + 1)) Q := by
  refine br_f (nI_ne0 (by omega) (by omega)) ?_
  rw [nI_pred]
  refine ⟨15, lpx (fun n a j => L_X7_undo_22 r (nI k) Q n a (nI j)) (fun j q => upd q j (r (14 * k + j))) (fun q => Q (nI k) q (nI k)) 14 (fun n a j hj hL => ?_) (fun n a hQ => ?_) 14 0 c rfl ?_⟩
  · refine br_t (ltN (b := 14) hj (by omega)) ?_
    rw [m14, nI_add, nI_1, cl (by omega), cl (by omega)]
    exact ⟨inN (by omega) (by omega), inN (by omega) (by omega), hL⟩
  · exact br_f (nltN (b := 14) (Nat.le_refl _) (by omega)) hQ
  · have e := lp_put (row r k) 0 14 c
    simp only [Nat.zero_add] at e
    rw [show (fun j (q : Nat → Int32) => upd q j (r (14 * k + j))) = (fun j q => upd q j (row r k j)) from rfl, e]
    exact h _ (fun i hi => by rw [fb_put_in (by omega) (by omega), Nat.sub_zero])
section Stacks
variable {np nt : Nat} {tk kd wt lk pe th la ki wo li nw now : Nat → Int32}
theorem e_undo {kp : Nat} {rows mrows : Nat → Int32} {Z : Int32 → Int32 → (Nat → Int32) → Int32 → (Nat → Int32) → Int32 → Prop} (hn : nt ≤ 6) (hk : kp ≤ 8) (hS : Sd np nt nw) (hR : RS nw now) (hW : Rw np nt kp rows mrows) (hZ : ∀ r c m k, k ≤ 8 → Sd np nt c → RS c m → Rw np nt k rows mrows → Z r r c (nI k) m (nI k)) : wp_X6_undo nw rows (nI kp) (fun r1 c s => wp_X7_undo now mrows (nI kp) (fun r2 m q => Z r1 r2 c s m q)) := by
  cases kp with
  | zero => exact s_pop_0 (br_t rfl (br_t rfl (hZ _ _ _ 0 (by omega) hS hR hW)))
  | succ k =>
    refine s_pop (N := 112) (by omega) (by omega) (br_f (by decide) (s7_undo (by omega) (fun q hq => ?_)))
    obtain ⟨a, b⟩ := hW k (by omega)
    exact hZ _ _ _ k (by omega) (Sd_congr (cpy_row _ _ _) hn a) (RS_congr (cpy_row _ _ _) hq b) (fun j hj => hW j (by omega))
end Stacks
