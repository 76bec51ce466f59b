/-! sharing out: shifts, sets of six things as numbers -/
theorem shrI {k : Nat} (hk : k < 32) (x : Int32) : (x >>> (nI k &&& 31)).toInt = x.toInt / ((2 ^ k : Nat) : Int) := by
  have e : (x >>> (nI k &&& 31)).toInt = x.toInt >>> k := by
    show (x >>> (nI k &&& 31)).toBitVec.toInt = _
    rw [Int32.toBitVec_shiftRight]
    show (x.toBitVec.sshiftRight ((nI k &&& 31).toBitVec.smod 32).toNat).toInt = _
    rw [s_l k hk]
    exact BitVec.toInt_sshiftRight ..
  rw [e, Int.shiftRight_eq_div_pow]
theorem shl18a : ∀ i, i < 40 → ∀ j, j < 100 → ((nI (100 * i + j) - 2000) <<< ((18 : Int32) &&& 31)).toInt = (((100 * i + j : Nat) : Int) - 2000) * 262144 := by decide +kernel
theorem shl18 (n : Nat) (h : n < 4000) : ((nI n - 2000) <<< ((18 : Int32) &&& 31)).toInt = ((n : Int) - 2000) * 262144 := by
  have := shl18a (n / 100) (by omega) (n % 100) (by omega)
  rw [show 100 * (n / 100) + n % 100 = n by omega] at this
  exact this
theorem shlI {w : Int32} (h1 : -1800 ≤ w.toInt) (h2 : w.toInt ≤ 1800) : (w <<< ((18 : Int32) &&& 31)).toInt = w.toInt * 262144 := by
  have e0 : (2000 : Int32).toInt = 2000 := by decide
  have hn : (nI (w.toInt + 2000).toNat).toInt = w.toInt + 2000 := by rw [nI_toInt (by omega)]; omega
  have e : w = nI (w.toInt + 2000).toNat - 2000 := by
    apply Int32.toInt_inj.mp
    rw [fb_subI (by omega) (by omega), hn, e0]
    omega
  have h := shl18 (w.toInt + 2000).toNat (by omega)
  rw [← e] at h
  rw [h]
  omega
theorem pcs : ∀ t, t < 6 → ∀ p, p < 5 → nI p <<< (((3 : Int32) * (5 - nI t)) &&& 31) = nI (p * 8 ^ (5 - t)) := by decide +kernel
theorem pcn : ∀ t, t < 6 → (3 : Int32) * (5 - nI t) = nI (3 * (5 - t)) := by decide +kernel
theorem sb_next1 : ∀ s, s < 64 → ∀ a, a < 64 → a &&& s = a → 0 < a → ((a - 1) &&& s) &&& s = (a - 1) &&& s ∧ (a - 1) &&& s < a := by decide +kernel
theorem sb_next2 : ∀ s, s < 64 → ∀ a, a < 64 → a &&& s = a → ∀ r, r < a → r &&& s = r → r ≤ (a - 1) &&& s := by decide +kernel
theorem sb_not : ∀ a, a < 64 → ∀ s, s < 64 → (nI s &&& (nI a ^^^ (-1)) = 0 ↔ s &&& a = s) := by decide +kernel
theorem sb_bits : ∀ r, r < 64 → ∀ s, s < 64 → (∀ t, t < 6 → bt (nI r) t = true → bt (nI s) t = true) → r &&& s = r := by decide +kernel
theorem sb_xor : ∀ s, s < 64 → ∀ r, r < 64 → r &&& s = r → (s ^^^ r) &&& s = s ^^^ r ∧ s ^^^ r < 64 ∧ (0 < r → s ^^^ r < s) := by decide +kernel
theorem sb_hi : ∀ s, s < 64 → ∀ i, i < 32 → 6 ≤ i → bt (nI s) i = false := by decide +kernel
theorem sb_nt1 : ∀ m, m < 7 → ∀ a, a < 64 → (∀ t, t < 6 → m ≤ t → bt (nI a) t = false) → a < 2 ^ m := by decide +kernel
theorem sb_nt2 : ∀ m, m < 7 → ∀ a, a < 64 → a < 2 ^ m → ∀ t, t < 6 → m ≤ t → bt (nI a) t = false := by decide +kernel
theorem sb_tr {a s r : Nat} (h1 : s &&& a = s) (h2 : r &&& s = r) : r &&& a = r := by
  have e : r &&& a = (r &&& s) &&& a := by rw [h2]
  rw [e, Nat.and_assoc, h1, h2]
theorem sb_up {r s t : Nat} (h : r &&& s = r) (hb : bt (nI r) t = true) : bt (nI s) t = true := by
  rw [← h, ← fa_and, b_and] at hb
  simp at hb
  exact hb.2
theorem sb_x (s r t : Nat) : bt (nI (s ^^^ r)) t = (bt (nI s) t ^^ bt (nI r) t) := by rw [← fb_xorI, b_xor]
def mk6 (b : Nat → Bool) : Nat := (b 0).toNat + 2 * (b 1).toNat + 4 * (b 2).toNat + 8 * (b 3).toNat + 16 * (b 4).toNat + 32 * (b 5).toNat
theorem mk6_all : ∀ b0 b1 b2 b3 b4 b5 : Bool, bt (nI (b0.toNat + 2 * b1.toNat + 4 * b2.toNat + 8 * b3.toNat + 16 * b4.toNat + 32 * b5.toNat)) 0 = b0 ∧ bt (nI (b0.toNat + 2 * b1.toNat + 4 * b2.toNat + 8 * b3.toNat + 16 * b4.toNat + 32 * b5.toNat)) 1 = b1 ∧ bt (nI (b0.toNat + 2 * b1.toNat + 4 * b2.toNat + 8 * b3.toNat + 16 * b4.toNat + 32 * b5.toNat)) 2 = b2 ∧ bt (nI (b0.toNat + 2 * b1.toNat + 4 * b2.toNat + 8 * b3.toNat + 16 * b4.toNat + 32 * b5.toNat)) 3 = b3 ∧ bt (nI (b0.toNat + 2 * b1.toNat + 4 * b2.toNat + 8 * b3.toNat + 16 * b4.toNat + 32 * b5.toNat)) 4 = b4 ∧ bt (nI (b0.toNat + 2 * b1.toNat + 4 * b2.toNat + 8 * b3.toNat + 16 * b4.toNat + 32 * b5.toNat)) 5 = b5 ∧ b0.toNat + 2 * b1.toNat + 4 * b2.toNat + 8 * b3.toNat + 16 * b4.toNat + 32 * b5.toNat < 64 := by decide +kernel
theorem mk6_lt (b : Nat → Bool) : mk6 b < 64 := (mk6_all (b 0) (b 1) (b 2) (b 3) (b 4) (b 5)).2.2.2.2.2.2
theorem six {t : Nat} (h : t < 6) : t = 0 ∨ t = 1 ∨ t = 2 ∨ t = 3 ∨ t = 4 ∨ t = 5 := by omega
theorem mk6_bt (b : Nat → Bool) {t : Nat} (ht : t < 6) : bt (nI (mk6 b)) t = b t := by
  obtain ⟨h0, h1, h2, h3, h4, h5, -⟩ := mk6_all (b 0) (b 1) (b 2) (b 3) (b 4) (b 5)
  rcases six ht with e | e | e | e | e | e
  · rw [e]; exact h0
  · rw [e]; exact h1
  · rw [e]; exact h2
  · rw [e]; exact h3
  · rw [e]; exact h4
  · rw [e]; exact h5
/-- what of the set s goes to q -/
def pre (s : Nat) (f : Nat → Nat) (q : Nat) : Nat → Bool := fun t => bt (nI s) t && decide (f t = q)
def vv (G : Nat → (Nat → Bool) → Int) : Nat → (Nat → Nat) → Nat → Int
  | 0, _, _ => 0
  | n + 1, f, s => vv G n f s + G n (pre s f n)
section Best
variable {G : Nat → (Nat → Bool) → Int}
theorem vv_congr (hG : ∀ q b b', (∀ t, t < 6 → b t = b' t) → G q b = G q b') {f f' : Nat → Nat} {s s' : Nat} : ∀ n, (∀ q, q < n → ∀ t, t < 6 → pre s f q t = pre s' f' q t) → vv G n f s = vv G n f' s' := by
  intro n
  induction n with
  | zero => intro _; rfl
  | succ n ih =>
    intro h
    unfold vv
    rw [ih (fun q hq => h q (by omega)), hG n _ _ (h n (by omega))]
def BI (G : Nat → (Nat → Bool) → Int) (n s : Nat) (v : Int) : Prop := (∀ f : Nat → Nat, (∀ t, t < 6 → bt (nI s) t = true → f t < n) → vv G n f s ≤ v) ∧ ∃ f : Nat → Nat, (∀ t, t < 6 → bt (nI s) t = true → f t < n) ∧ vv G n f s = v
theorem BI_1 (hG : ∀ q b b', (∀ t, t < 6 → b t = b' t) → G q b = G q b') (s : Nat) : BI G 1 s (G 0 (bt (nI s))) := by
  have key : ∀ f : Nat → Nat, (∀ t, t < 6 → bt (nI s) t = true → f t < 1) → vv G 1 f s = G 0 (bt (nI s)) := by
    intro f hf
    unfold vv vv
    rw [Int.zero_add]
    refine hG 0 _ _ (fun t ht => ?_)
    unfold pre
    cases hb : bt (nI s) t with
    | false => rfl
    | true =>
      have := hf t ht hb
      rw [decide_eq_true (show f t = 0 by omega)]
      rfl
  exact ⟨fun f hf => Int.le_of_eq (key f hf), fun _ => 0, fun t _ _ => Nat.zero_lt_one, key _ (fun t _ _ => Nat.zero_lt_one)⟩
theorem BI_step (hG : ∀ q b b', (∀ t, t < 6 → b t = b' t) → G q b = G q b') {n s : Nat} {v : Nat → Int} {m : Int} (hs : s < 64) (h : ∀ r, r &&& s = r → BI G n (s ^^^ r) (v r)) (h1 : ∀ r, r &&& s = r → G n (bt (nI r)) + v r ≤ m) (h2 : ∃ r, r &&& s = r ∧ G n (bt (nI r)) + v r = m) : BI G (n + 1) s m := by
  constructor
  · intro f hf
    have hrl : mk6 (pre s f n) < 64 := mk6_lt _
    have hr : mk6 (pre s f n) &&& s = mk6 (pre s f n) := sb_bits _ hrl s hs (fun t ht hb => by
      rw [mk6_bt _ ht] at hb
      unfold pre at hb
      simp at hb
      exact hb.1)
    have e1 : vv G n f s = vv G n f (s ^^^ mk6 (pre s f n)) := vv_congr hG n (fun q hq t ht => by
      unfold pre
      rw [sb_x, mk6_bt _ ht]
      cases hb : bt (nI s) t with
      | false => rfl
      | true =>
        by_cases e : f t = n
        · have e2 : ¬ f t = q := by omega
          simp [e]
          omega
        · simp [e])
    have e2 : G n (pre s f n) = G n (bt (nI (mk6 (pre s f n)))) := hG n _ _ (fun t ht => (mk6_bt _ ht).symm)
    have a1 := (h _ hr).1 f (fun t ht hb => by
      rw [sb_x, mk6_bt _ ht] at hb
      unfold pre at hb
      cases hb2 : bt (nI s) t with
      | false => rw [hb2] at hb; simp at hb
      | true =>
        rw [hb2] at hb
        have := hf t ht hb2
        simp at hb
        omega)
    have a2 := h1 _ hr
    unfold vv
    rw [e1, e2]
    omega
  · obtain ⟨r, hr, hm⟩ := h2
    have hrl : r < 64 := by
      have : r &&& s ≤ s := Nat.and_le_right
      omega
    obtain ⟨f, hf, ef⟩ := (h r hr).2
    refine ⟨fun t => if bt (nI r) t = true then n else f t, fun t ht hb => ?_, ?_⟩
    · by_cases hb2 : bt (nI r) t = true
      · dsimp only; rw [if_pos hb2]; omega
      · dsimp only; rw [if_neg hb2]
        have := hf t ht (by rw [sb_x, hb]; simp at hb2; rw [hb2]; rfl)
        omega
    · have e1 : vv G n (fun t => if bt (nI r) t = true then n else f t) s = vv G n f (s ^^^ r) := vv_congr hG n (fun q hq t ht => by
        unfold pre
        rw [sb_x]
        cases hb2 : bt (nI r) t with
        | true =>
          have hb := sb_up hr hb2
          rw [hb]
          simp [hb2]
          omega
        | false => simp [hb2])
      have e2 : G n (pre s (fun t => if bt (nI r) t = true then n else f t) n) = G n (bt (nI r)) := hG n _ _ (fun t ht => by
        unfold pre
        cases hb2 : bt (nI r) t with
        | true => rw [sb_up hr hb2]; simp [hb2]
        | false =>
          cases hb : bt (nI s) t with
          | false => rfl
          | true =>
            have := hf t ht (by rw [sb_x, hb, hb2]; rfl)
            simp [hb2]
            omega)
      unfold vv
      rw [e1, e2, ef]
      omega
theorem vv_bd {np : Nat} (hB : ∀ q, q < np → ∀ b, -100000000 ≤ G q b ∧ G q b ≤ 100000000) (f : Nat → Nat) (s : Nat) : ∀ n, n ≤ np → -(100000000 * (n : Int)) ≤ vv G n f s ∧ vv G n f s ≤ 100000000 * (n : Int) := by
  intro n
  induction n with
  | zero => intro _; unfold vv; decide
  | succ n ih =>
    intro hn
    have a := ih (by omega)
    have b := hB n (by omega) (pre s f n)
    have hc : ((n + 1 : Nat) : Int) = (n : Int) + 1 := rfl
    unfold vv
    omega
theorem BI_bd {np n s : Nat} {v : Int} (hB : ∀ q, q < np → ∀ b, -100000000 ≤ G q b ∧ G q b ≤ 100000000) (hn : n ≤ np) (hp : np ≤ 5) (h : BI G n s v) : -500000000 ≤ v ∧ v ≤ 500000000 := by
  obtain ⟨f, -, e⟩ := h.2
  have := vv_bd hB f s n hn
  omega
end Best
