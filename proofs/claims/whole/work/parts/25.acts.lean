/-! the acts: draw, refuse, buy, hand, swap, give -/
/-- who holds the ticket of number v -/
def fnd (tv : Nat → Nat) : Nat → Nat → Nat → Option Nat
  | _, 0, _ => none
  | p, m + 1, v => if v < tv p then some p else fnd tv (p + 1) m (v - tv p)
def tsum (tv : Nat → Nat) : Nat → Nat → Nat
  | _, 0 => 0
  | p, m + 1 => tv p + tsum tv (p + 1) m
theorem fnd_none {tv : Nat → Nat} : ∀ (m p v : Nat), fnd tv p m v = none ↔ tsum tv p m ≤ v := by
  intro m
  induction m with
  | zero => intro p v; simp [fnd, tsum]
  | succ m ih =>
    intro p v
    unfold fnd tsum
    by_cases h : v < tv p
    · rw [if_pos h]; simp; omega
    · rw [if_neg h, ih]; omega
theorem fnd_some {tv : Nat → Nat} : ∀ (m p v q : Nat), fnd tv p m v = some q → p ≤ q ∧ q < p + m ∧ 0 < tv q := by
  intro m
  induction m with
  | zero => intro p v q h; simp [fnd] at h
  | succ m ih =>
    intro p v q h
    unfold fnd at h
    by_cases hv : v < tv p
    · rw [if_pos hv] at h; cases h; exact ⟨Nat.le_refl _, by omega, by omega⟩
    · rw [if_neg hv] at h
      obtain ⟨a, b, c⟩ := ih (p + 1) _ q h
      exact ⟨by omega, by omega, c⟩
theorem tsum_le {tv : Nat → Nat} (h : ∀ p, p < 5 → tv p ≤ 9) : ∀ (m p : Nat), p + m ≤ 5 → tsum tv p m ≤ 9 * m := by
  intro m
  induction m with
  | zero => intro p _; exact Nat.le_refl _
  | succ m ih => intro p hp; unfold tsum; have := ih (p + 1) (by omega); have := h p (by omega); omega
theorem hat_tsum {tv : Nat → Nat} {c : Nat → Int32} (h : ∀ p, p < 5 → c p = nI (tv p)) : hat c = nI (tsum tv 0 5) := by
  unfold hat
  simp only [lp, tsum]
  rw [h 0 (by omega), h (0 + 1) (by omega), h (0 + 1 + 1) (by omega), h (0 + 1 + 1 + 1) (by omega), h (0 + 1 + 1 + 1 + 1) (by omega), show (0 : Int32) = nI 0 from rfl, nI_add, nI_add, nI_add, nI_add, nI_add]
  congr 1
  omega
/-- the tickets as numbers -/
theorem tks {np nt : Nat} {c : Nat → Int32} (hS : Sd np nt c) : ∃ tv : Nat → Nat, (∀ p, p < 5 → tv p ≤ 9 ∧ c p = nI (tv p)) := by
  have : ∀ p, ∃ v, p < 5 → v ≤ 9 ∧ c p = nI v := fun p => by
    by_cases hp : p < 5
    · obtain ⟨v, a, b⟩ := hS.1 p hp; exact ⟨v, fun _ => ⟨a, b⟩⟩
    · exact ⟨0, fun h => absurd h hp⟩
  exact ⟨fun p => Classical.choose (this p), fun p hp => Classical.choose_spec (this p) hp⟩
theorem s_ticketHolder {tv : Nat → Nat} {c : Nat → Int32} {v : Nat} {Q : Int32 → Prop} (hc : ∀ p, p < 5 → tv p ≤ 9 ∧ c p = nI (tv p)) (hv : v < 2147483648) (h : ∀ r, (match fnd tv 0 5 v with | some q => r = nI q | none => r = -4) → Q r) : wp_X3_ticketHolder c (nI v) Q := by
  have key : ∀ (m p v : Nat), p + m = 5 → v < 2147483648 → (∀ r, (match fnd tv p m v with | some q => r = nI q | none => r = -4) → Q r) → L_X3_ticketHolder_4 c Q (m + 1) (nI v) (nI p) := by
    intro m
    induction m with
    | zero => intro p v hp hv h; have e : p = 5 := by omega
              subst e; exact br_f (by decide) (h _ rfl)
    | succ m ih =>
      intro p v hp hv h
      obtain ⟨h1, h2⟩ := hc p (by omega)
      refine br_t (ltN (b := 5) (by omega) (by omega)) (br_f (nI_pos hv) ⟨inN (by omega) (by omega), ?_⟩)
      rw [cl (by omega), h2]
      unfold fnd at h
      by_cases hlt : v < tv p
      · rw [if_pos hlt] at h
        exact br_t (ltN hlt (by omega)) (h _ rfl)
      · rw [if_neg hlt] at h
        refine br_f (nltN (by omega) hv) ⟨inN (by omega) (by omega), ?_⟩
        rw [nI_1, pk_sub (by omega)]
        exact ih (p + 1) _ (by omega) (by omega) h
  exact ⟨6, key 5 0 v rfl hv h⟩
theorem s_ticketHolder_neg {c : Nat → Int32} {x : Int32} {Q : Int32 → Prop} (hx : x < 0) (h : Q (-4)) : wp_X3_ticketHolder c x Q := ⟨1, br_t (by decide) (br_t hx h)⟩
/-- the stand behind a draw: the class's, the reference's -/
def dC (c : Nat → Int32) (q k : Nat) : Nat → Int32 := upd (upd (upd (upd c q (c q - 1)) (5 + k) (nI q)) 11 (nI (k + 1))) 13 (if bt (c 12) k then -4 else nI k)
def dM (m : Nat → Int32) (q k : Nat) : Nat → Int32 := upd (upd (upd (upd m q (m q - 1)) (5 + k) (nI q)) 12 (if bt (m 13) k then 0 else 1)) 11 (nI (k + 1))
theorem s_takeNext {c : Nat → Int32} {q k : Nat} {Q : (Nat → Int32) → Prop} (hq : q < 5) (hk : k < 6) (e : c 11 = nI k) (h : Q (dC c q k)) : wp_X3_takeNext c (nI q) Q := by
  unfold wp_X3_takeNext
  rw [e]
  refine br_f (nI_pos (by omega)) (br_t (ltN (b := 6) hk (by omega)) (br_f (nI_pos (by omega)) (br_t (ltN (b := 5) hq (by omega)) ⟨inN (by omega) (by omega), inN (by omega) (by omega), ?_⟩)))
  rw [n5, cl (by omega), cl (by omega), nI_1]
  refine ⟨inN (by omega) (by omega), ?_⟩
  rw [pk_un (show (12 : Nat) ≠ 11 by omega), pk_un (show (12 : Nat) ≠ 5 + k by omega), pk_un (show (12 : Nat) ≠ q by omega), bit1_0 _ (by omega)]
  unfold B_X3_takeNext_83
  unfold dC at h
  have e13 : Int32.toNatClampNeg 13 = 13 := rfl
  rw [e13]
  cases hb : bt (c 12) k with
  | false => refine br_t rfl ⟨vpc rfl, ?_⟩; simpa [hb] using h
  | true => refine br_f (by decide) ⟨vpc rfl, ?_⟩; simpa [hb] using h
theorem s7_drawOn {tv : Nat → Nat} {c : Nat → Int32} {v q k : Nat} {Q : Int32 → (Nat → Int32) → Prop} (hc : ∀ p, p < 5 → tv p ≤ 9 ∧ c p = nI (tv p)) (hv : v < 2147483648) (hf : fnd tv 0 5 v = some q) (hk : k < 6) (e : c 11 = nI k) (h : Q (nI q) (dM c q k)) : wp_X7_drawOn c (nI v) Q := by
  have key : ∀ (m p v : Nat), p + m = 5 → v < 2147483648 → fnd tv p m v = some q → L_X7_drawOn_4 c Q (m + 1) (nI p) (nI v) := by
    intro m
    induction m with
    | zero => intro p v hp hv h; simp [fnd] at h
    | succ m ih =>
      intro p v hp hv hf
      obtain ⟨h1, h2⟩ := hc p (by omega)
      unfold fnd at hf
      unfold L_X7_drawOn_4
      rw [n0, cl (by omega)]
      refine ⟨inN (by omega) (by omega), ?_⟩
      by_cases hlt : v < tv p
      · rw [if_pos hlt] at hf
        have eqp : q = p := (Option.some.inj hf).symm
        rw [eqp] at h
        refine br_t (by rw [h2]; exact ltN hlt (by omega)) ⟨inN (by omega) (by omega), inN (by omega) (by omega), ?_⟩
        have a11 : upd c p (c p - 1) 11 = nI k := by rw [pk_un (by omega)]; exact e
        rw [a11, n5, cl (by omega)]
        have b11 : upd (upd c p (c p - 1)) (5 + k) (nI p) 11 = nI k := by rw [pk_un (by omega)]; exact a11
        have b13 : upd (upd c p (c p - 1)) (5 + k) (nI p) 13 = c 13 := by rw [pk_un (by omega), pk_un (by omega)]
        rw [b11, b13]
        refine ⟨inN (by omega) (by omega), ?_⟩
        have e12 : Int32.toNatClampNeg 12 = 12 := rfl
        unfold B_X7_drawOn_67
        unfold dM at h
        rw [e12]
        have c11 : ∀ y, upd (upd (upd c p (c p - 1)) (5 + k) (nI p)) 12 y 11 = nI k := fun y => by rw [pk_un (by omega)]; exact b11
        rw [c11, c11, nI_1]
        cases hb : bt (c 13) k with
        | true => refine s_has_t (by omega) hb (br_f (by decide) ⟨vpc rfl, ?_⟩); simpa [hb] using h
        | false => refine s_has_f (by omega) hb (br_t rfl ⟨vpc rfl, ?_⟩); simpa [hb] using h
      · rw [if_neg hlt] at hf
        refine br_f (by rw [h2]; exact nltN (by omega) hv) ⟨inN (by omega) (by omega), ?_⟩
        rw [nI_1, h2, pk_sub (by omega)]
        exact ih (p + 1) _ (by omega) (by omega) hf
  exact ⟨6, key 5 0 v rfl hv hf⟩
theorem Sd_draw {np nt q k : Nat} {c : Nat → Int32} (hn : nt ≤ 6) (hnp : np ≤ 5) (hS : Sd np nt c) (hq : q < np) (hk : k < nt) (hp : ∃ v, v ≤ 8 ∧ c q = nI (v + 1)) : Sd np nt (dC c q k) := by
  obtain ⟨h1, h2, h3, h4, h5⟩ := hS
  obtain ⟨v, hv, ev⟩ := hp
  refine ⟨fun p hp => ?_, fun p hp1 hp2 => ?_, fun t ht => ?_, ⟨k + 1, by omega, ?_⟩, ?_⟩
  · unfold dC
    rw [pk_un (by omega), pk_un (by omega), pk_un (by omega)]
    by_cases e : p = q
    · subst e; rw [pk_us, ev, nI_pred]; exact ⟨v, by omega, rfl⟩
    · rw [pk_un e]; exact h1 p hp
  · unfold dC
    rw [pk_un (by omega), pk_un (by omega), pk_un (by omega), pk_un (by omega)]; exact h2 p hp1 hp2
  · unfold dC
    rw [pk_un (by omega), pk_un (by omega)]
    by_cases e : t = k
    · subst e; rw [pk_us]; exact Or.inr ⟨hk, q, hq, rfl⟩
    · rw [pk_un (by omega), pk_un (by omega)]; exact h3 t ht
  · unfold dC; rw [pk_un (by omega), pk_us]
  · have e13 : dC c q k 13 = if bt (c 12) k then -4 else nI k := by unfold dC; rw [pk_us]
    have e11 : dC c q k 11 = nI (k + 1) := by unfold dC; rw [pk_un (by omega), pk_us]
    rw [e13, e11]
    cases bt (c 12) k with
    | true => exact Or.inl rfl
    | false => exact Or.inr ⟨k, hk, rfl, rfl⟩
theorem RS_draw {c m : Nat → Int32} {q k : Nat} (hR : RS c m) (hq : q < 5) (hk : k < 6) : RS (dC c q k) (dM m q k) := by
  obtain ⟨h1, h2, h3⟩ := hR
  refine ⟨fun i hi => ?_, ?_, ?_⟩
  · unfold dC dM
    rw [pk_un (show i ≠ 13 by omega)]
    by_cases e : i = 11
    · subst e; rw [pk_us, pk_us]
    · rw [pk_un e, pk_un e, pk_un (show i ≠ 12 by omega)]
      by_cases e2 : i = 5 + k
      · subst e2; rw [pk_us, pk_us]
      · rw [pk_un e2, pk_un e2]
        by_cases e3 : i = q
        · subst e3; rw [pk_us, pk_us, h1 i (by omega)]
        · rw [pk_un e3, pk_un e3]; exact h1 i hi
  · unfold dC dM
    rw [pk_un (show (13 : Nat) ≠ 11 by omega), pk_un (show (13 : Nat) ≠ 12 by omega), pk_un (show (13 : Nat) ≠ 5 + k by omega), pk_un (show (13 : Nat) ≠ q by omega), pk_un (show (12 : Nat) ≠ 13 by omega), pk_un (show (12 : Nat) ≠ 11 by omega), pk_un (show (12 : Nat) ≠ 5 + k by omega), pk_un (show (12 : Nat) ≠ q by omega)]
    exact h2
  · unfold dC dM
    rw [pk_un (show (12 : Nat) ≠ 11 by omega), pk_us, pk_us, h2]
    cases bt (c 12) k with
    | true => rfl
    | false => simp [nI_m4 (a := k) (by omega)]
section Acts
variable {np nt kp : Nat} {tk kd wt lk pe th la ki wo li nw now rows mrows : Nat → Int32} {x1 x2 : Int32} {Z : Int32 → Int32 → (Nat → Int32) → (Nat → Int32) → Int32 → (Nat → Int32) → (Nat → Int32) → Int32 → Prop}
theorem e_draw (hP : PR np nt tk kd wt lk) (hM : MR np nt tk kd wt lk pe th la ki wo li) (hS : Sd np nt nw) (hR : RS nw now) (hk : kp ≤ 8) (hW : Rw np nt kp rows mrows) (hZ : ∀ r c rs k m mr, k ≤ 8 → Sd np nt c → RS c m → Rw np nt k rs mr → Z r r c rs (nI k) m mr (nI k)) : wp_X6_draw nw rows 8 (nI kp) (nI nt) x1 (fun r1 c rs s => wp_X7_draw th now mrows (nI kp) x1 (fun r2 m mr q => Z r1 r2 c rs s m mr q)) := by
  have h5 := hP.2.1
  have h6 := hP.2.2.1
  obtain ⟨tv, hc⟩ := tks hS
  have hcm : ∀ p, p < 5 → tv p ≤ 9 ∧ now p = nI (tv p) := fun p hp => by rw [hR.1 p (by omega)]; exact hc p hp
  have hh : hat now = nI (tsum tv 0 5) := hat_tsum (fun p hp => (hcm p hp).2)
  have hle := tsum_le (tv := tv) (fun p hp => (hc p hp).1) 5 0 (by omega)
  have same : Z (-1) (-1) nw rows (nI kp) now mrows (nI kp) := hZ _ _ _ _ _ _ hk hS hR hW
  by_cases hx : x1 < 0
  · refine s_ticketHolder_neg hx (br_t rfl (s7_hatOf ?_))
    rw [hh]
    exact s_in_f (fun j hj e => by rw [e] at hx; exact nI_pos (by omega) hx) (by omega) (br_t rfl same)
  · obtain ⟨v, hv, rfl⟩ := nI_of hx
    refine s_ticketHolder hc hv (fun r hr => ?_)
    cases hf : fnd tv 0 5 v with
    | none =>
      rw [hf] at hr
      have hr : r = -4 := hr
      subst hr
      have hge := (fnd_none 5 0 v).mp hf
      refine br_t rfl (s7_hatOf ?_)
      rw [hh]
      exact s_in_f (fun j hj e => by have := (nI_eq hv (by omega)).mp e; omega) (by omega) (br_t rfl same)
    | some q =>
      rw [hf] at hr
      have hr : r = nI q := hr
      subst hr
      obtain ⟨-, q5, q0⟩ := fnd_some 5 0 v q hf
      have hlt : v < tsum tv 0 5 := by
        rcases Nat.lt_or_ge v (tsum tv 0 5) with h | h
        · exact h
        · rw [(fnd_none 5 0 v).mpr h] at hf; cases hf
      have hqn : q < np := by
        rcases Nat.lt_or_ge q np with h | h
        · exact h
        · have e0 := hS.2.1 q h (by omega)
          rw [(hc q (by omega)).2] at e0
          have := (nI_eq (b := 0) (by have := (hc q (by omega)).1; omega) (by omega)).mp e0
          omega
      obtain ⟨k, hk1, hk2⟩ := hS.2.2.2.1
      have hm11 : now 11 = nI k := by rw [hR.1 11 (by omega)]; exact hk2
      have hin : ∀ {Q : Int32 → Prop}, Q 1 → wp_X7_in (nI v) 0 (nI (tsum tv 0 5) - 1) Q := fun h => s_in_t hlt (by omega) h
      refine br_f (nI_m4 (by omega)) ?_
      unfold wp_X3_next
      rw [hk2]
      by_cases hkn : k < nt
      · refine br_t (ltN hkn (by omega)) (s_push hk (s_takeNext (by omega) (by omega) hk2 (s7_hatOf ?_)))
        rw [hh]
        refine hin (br_f (by decide) (br_f (by rw [hm11, hM.2.1]; exact neN (by omega) (by omega) (by omega)) (s7_know hk (s7_drawOn hcm hv hf (by omega) hm11 ?_))))
        refine hZ _ _ _ _ _ _ ?_ (Sd_draw h6 h5 hS hqn hkn ⟨tv q - 1, by have := (hc q (by omega)).1; omega, by rw [(hc q (by omega)).2]; congr 1; omega⟩) (RS_draw hR (by omega) (by omega)) (Rw_push h6 hk hW hS hR)
        unfold pushK; split <;> omega
      · have e : k = nt := by omega
        subst e
        refine br_f (nltN (Nat.le_refl _) (by omega)) (s7_hatOf ?_)
        rw [hh]
        exact hin (br_f (by decide) (br_t (by rw [hm11, hM.2.1]) (hZ _ _ _ _ _ _ hk hS hR hW)))
end Acts
