/-! THE FIRST PARISH: the class reads it out of its text, the reference tells it by calls -/
def tkF : Nat → Int32 := (upd (upd (upd (upd (upd (fun _ => 0) 0 (nI 3)) 1 (nI 1)) 2 (nI 5)) 3 (nI 0)) 4 (nI 2))
def kdF : Nat → Int32 := (upd (upd (upd (upd (upd (upd (fun _ => 0) 0 (nI 0)) 1 (nI 1)) 2 (nI 3)) 3 (nI 2)) 4 (nI 3)) 5 (nI 0))
def wtF : Nat → Int32 := (upd (upd (upd (upd (upd (upd (fun _ => 0) 0 (nI 12)) 1 (nI 8)) 2 (nI 10)) 3 (nI 6)) 4 (nI 7)) 5 (nI 3))
def lkF : Nat → Int32 := (upd (upd (upd (upd (upd (upd (fun _ => 0) 0 (nI 4)) 8 (nI 6)) 13 (nI 5)) 16 (nI 9)) 29 (nI 12)) 18 (nI 20))
theorem tkF_v : ∀ p, p < 5 → tkF p = nI ([3, 1, 5, 0, 2].getD p 0) ∧ [3, 1, 5, 0, 2].getD p 0 ≤ 9 := by decide +kernel
theorem kdF_v : ∀ p, p < 6 → kdF p = nI ([0, 1, 3, 2, 3, 0].getD p 0) ∧ [0, 1, 3, 2, 3, 0].getD p 0 ≤ 3 := by decide +kernel
theorem wtF_v : ∀ p, p < 6 → wtF p = nI ([12, 8, 10, 6, 7, 3].getD p 0) ∧ [12, 8, 10, 6, 7, 3].getD p 0 ≤ 30 := by decide +kernel
theorem lkF_v : ∀ p, p < 30 → lkF p = nI ([4, 0, 0, 0, 0, 0, 0, 0, 6, 0, 0, 0, 0, 5, 0, 0, 9, 0, 20, 0, 0, 0, 0, 0, 0, 0, 0, 0, 0, 12].getD p 0) ∧ [4, 0, 0, 0, 0, 0, 0, 0, 6, 0, 0, 0, 0, 5, 0, 0, 9, 0, 20, 0, 0, 0, 0, 0, 0, 0, 0, 0, 0, 12].getD p 0 ≤ 30 := by decide +kernel
theorem PZ_F : PZ 5 6 tkF kdF wtF lkF := ⟨by omega, by omega, fun p hp => ⟨_, (tkF_v p hp).2, (tkF_v p hp).1⟩, fun p h1 h2 => absurd h2 (by omega), fun t ht => ⟨_, (kdF_v t ht).2, (kdF_v t ht).1⟩, fun t ht => ⟨_, (wtF_v t ht).2, (wtF_v t ht).1⟩, fun t ht => ⟨_, (lkF_v t ht).2, (lkF_v t ht).1⟩⟩
section First
variable {k a np nt items n : Nat} {v : Nat → Nat} {le tx tk kd wt lk nums : Nat → Int32} {Q : Int32 → (Nat → Int32) → Int32 → (Nat → Int32) → (Nat → Int32) → (Nat → Int32) → (Nat → Int32) → Int32 → Int32 → Prop}
theorem rd_1 {a s x : Nat} (h : v a = 48 + x) (hx : x ≤ 9) (hs : v (a + 1) = s) (hn : s < 48 ∨ 57 < s) (hk : a + 1 < k) : Rd v k a s x (a + 2) := ⟨a + 1, ⟨⟨by omega, by omega, by omega⟩, Or.inr ⟨fun z => by have := z.2; omega, by omega, rfl⟩⟩, hk, hs, rfl⟩
theorem rd_2 {a s x y z : Nat} (h : v a = 48 + x) (hx : x ≤ 9) (h2 : v (a + 1) = 48 + y) (hy : y ≤ 9) (hs : v (a + 2) = s) (hk : a + 2 < k) (hz : z = 10 * x + y) : Rd v k a s z (a + 3) := ⟨a + 2, ⟨⟨by omega, by omega, by omega⟩, Or.inl ⟨⟨by omega, by omega, by omega⟩, by omega, rfl⟩⟩, hk, hs, rfl⟩
theorem fP {x c : Nat} (hT : TV k v le tx) (hi : items < 200) (ha : a < k) (hv : v a = 112) (hR : Rd v k (a + 1) 59 x c) (hx : x ≤ 9) (hp : np < 5) (h : ∀ nums', L_X5_tell_11 le (nI k) Q n nums' (nI c) (upd tk np (nI x)) kd wt lk (nI (np + 1)) (nI nt) (nI (items + 1))) : L_X5_tell_11 le (nI k) Q (n + 1) nums (nI a) tk kd wt lk (nI np) (nI nt) (nI items) := by
  have hk := hT.1
  refine br_t (ltN (b := 200) hi (by omega)) (br_t (ltN ha (by omega)) (s_next hT (by omega) (fun _ => ?_) (fun z => absurd ha z)))
  rw [hv]
  refine br_f (by decide) (br_t rfl (s_read1 hT (by omega) (fun x' c' hR' => br_f (by decide) ?_) (fun z => absurd hR (z x c))))
  obtain ⟨e1, e2⟩ := Rd_one hR hR'
  rw [e1, e2, pk_us]
  refine br_t (ltN (b := 5) hp (by omega)) (br_f (nltN (a := 9) (by omega) (by omega)) ⟨inN (by omega) (by omega), br_f (by decide) (br_f (by decide) ?_)⟩)
  rw [cl (by omega), nI_1, nI_1]
  exact h _
theorem fT {x c y d : Nat} (hT : TV k v le tx) (hi : items < 200) (ha : a < k) (hv : v a = 116) (hR : Rd v k (a + 1) 44 x c) (hS : Rd v k c 59 y d) (hx : x ≤ 3) (hy : y ≤ 30) (hn : nt < 6) (h : ∀ nums', L_X5_tell_11 le (nI k) Q n nums' (nI d) tk (upd kd nt (nI x)) (upd wt nt (nI y)) lk (nI np) (nI (nt + 1)) (nI (items + 1))) : L_X5_tell_11 le (nI k) Q (n + 1) nums (nI a) tk kd wt lk (nI np) (nI nt) (nI items) := by
  have hk := hT.1
  have u0 : ∀ (nums : Nat → Int32) (x y : Int32), upd (upd nums 0 x) 1 y 0 = x := fun nums x y => by rw [pk_un (by omega), pk_us]
  refine br_t (ltN (b := 200) hi (by omega)) (br_t (ltN ha (by omega)) (s_next hT (by omega) (fun _ => ?_) (fun z => absurd ha z)))
  rw [hv]
  refine br_f (by decide) (br_f (by decide) (br_t rfl (s_read2 hT (by omega) (fun x' c' y' d' hR' hS' => br_f (by decide) ?_) (fun z => absurd hS (z x c y d hR)))))
  obtain ⟨e1, e2⟩ := Rd_one hR hR'
  rw [e2] at hS'
  obtain ⟨e3, e4⟩ := Rd_one hS hS'
  rw [e1, e3, e4, u0, pk_us]
  have hin : vp_in (nI nt) 6 := inN (by omega) (by omega)
  refine br_t (ltN (b := 6) hn (by omega)) (br_f (nltN (a := 3) (by omega) (by omega)) (br_f (nltN (a := 30) (by omega) (by omega)) ⟨hin, hin, br_f (by decide) (br_f (by decide) ?_)⟩))
  rw [cl (by omega), nI_1, nI_1]
  exact h _
theorem fL {x c y d z e : Nat} (hT : TV k v le tx) (hi : items < 200) (ha : a < k) (hv : v a = 108) (hR : Rd v k (a + 1) 44 x c) (hS : Rd v k c 44 y d) (hU : Rd v k d 59 z e) (hx : x < np) (hy : y < nt) (hz : z ≤ 30) (hnp : np ≤ 5) (hnt : nt ≤ 6) (h : ∀ nums', L_X5_tell_11 le (nI k) Q n nums' (nI e) tk kd wt (upd lk (6 * x + y) (nI z)) (nI np) (nI nt) (nI (items + 1))) : L_X5_tell_11 le (nI k) Q (n + 1) nums (nI a) tk kd wt lk (nI np) (nI nt) (nI items) := by
  have hk := hT.1
  have u0 : ∀ (nums : Nat → Int32) (x y z : Int32), upd (upd (upd nums 0 x) 1 y) 2 z 0 = x := fun nums x y z => by rw [pk_un (by omega), pk_un (by omega), pk_us]
  have u1 : ∀ (nums : Nat → Int32) (x y z : Int32), upd (upd (upd nums 0 x) 1 y) 2 z 1 = y := fun nums x y z => by rw [pk_un (by omega), pk_us]
  refine br_t (ltN (b := 200) hi (by omega)) (br_t (ltN ha (by omega)) (s_next hT (by omega) (fun _ => ?_) (fun z => absurd ha z)))
  rw [hv]
  refine br_t rfl (s_read3 hT (by omega) (fun x' c' y' d' z' e' hR' hS' hU' => br_f (by decide) ?_) (fun q => absurd hU (q x c y d z e hR hS)))
  obtain ⟨e1, e2⟩ := Rd_one hR hR'
  rw [e2] at hS'
  obtain ⟨e3, e4⟩ := Rd_one hS hS'
  rw [e4] at hU'
  obtain ⟨e5, e6⟩ := Rd_one hU hU'
  rw [e1, e3, e5, e6, u0, u1, pk_us]
  refine s_isPerson_t hx (by omega) (br_f (by decide) (s_isThing_t hy (by omega) (br_f (by decide) (br_f (nltN (a := 30) (by omega) (by omega)) ?_))))
  rw [m6', nI_add, cl (by omega)]
  refine ⟨inN (by omega) (by omega), br_f (by decide) (br_f (by decide) ?_)⟩
  rw [nI_1]
  exact h _
theorem upd_cg {f g : Nat → Int32} {N i : Nat} {x : Int32} (h : ∀ j, j < N → f j = g j) : ∀ j, j < N → upd f i x j = upd g i x j := fun j hj => by
  by_cases e : j = i
  · rw [e, pk_us, pk_us]
  · rw [pk_un e, pk_un e, h j hj]
end First
def vF : Nat → Nat := fun j => sb.getD j 0
theorem x5_first {le nums : Nat → Int32} {at0 : Int32} {Q : Int32 → (Nat → Int32) → Int32 → (Nat → Int32) → (Nat → Int32) → (Nat → Int32) → (Nat → Int32) → Int32 → Int32 → Prop} (hle : ∀ j, j < 91 → le j = nI (sb.getD j 0)) (h : ∀ nums' at', Q (-4) nums' at' tkF kdF wtF lkF (nI 5) (nI 6)) : wp_X5_tell le nums (nI 91) at0 (fun _ => 0) (fun _ => 0) (fun _ => 0) (fun _ => 0) 0 0 Q := by
  have hT : TV 91 vF le le := ⟨by omega, fun j hj => ⟨(sb_rng j hj).1, (sb_rng j hj).2, hle j hj, hle j hj⟩⟩
  refine s_fill (by omega) (fun g h1 h2 => s_fill (by omega) (fun g' h3 h4 => ?_))
  have e1 : g = (fun _ => 0) := funext fun j => by
    by_cases hj : j < 5
    · exact h1 j hj
    · exact h2 j (by omega)
  have e2 : g' = (fun _ => 0) := funext fun j => by
    by_cases hj : j < 30
    · exact h3 j hj
    · exact h4 j (by omega)
  rw [e1, e2]
  refine ⟨18, ?_⟩
  show L_X5_tell_11 le (nI 91) Q 18 nums (nI 0) (fun _ => 0) (fun _ => 0) (fun _ => 0) (fun _ => 0) (nI 0) (nI 0) (nI 0)
  refine fP (np := 0) (nt := 0) (items := 0) (a := 0) hT (by omega) (by omega) (by decide) (rd_1 (a := 1) (x := 3) (s := 59) (by decide) (by omega) (by decide) (by omega) (by omega)) (by omega) (by omega) (fun n0 => ?_)
  refine fP (np := 1) (nt := 0) (items := 1) (a := 3) hT (by omega) (by omega) (by decide) (rd_1 (a := 4) (x := 1) (s := 59) (by decide) (by omega) (by decide) (by omega) (by omega)) (by omega) (by omega) (fun n1 => ?_)
  refine fP (np := 2) (nt := 0) (items := 2) (a := 6) hT (by omega) (by omega) (by decide) (rd_1 (a := 7) (x := 5) (s := 59) (by decide) (by omega) (by decide) (by omega) (by omega)) (by omega) (by omega) (fun n2 => ?_)
  refine fP (np := 3) (nt := 0) (items := 3) (a := 9) hT (by omega) (by omega) (by decide) (rd_1 (a := 10) (x := 0) (s := 59) (by decide) (by omega) (by decide) (by omega) (by omega)) (by omega) (by omega) (fun n3 => ?_)
  refine fP (np := 4) (nt := 0) (items := 4) (a := 12) hT (by omega) (by omega) (by decide) (rd_1 (a := 13) (x := 2) (s := 59) (by decide) (by omega) (by decide) (by omega) (by omega)) (by omega) (by omega) (fun n4 => ?_)
  refine fT (np := 5) (nt := 0) (items := 5) (a := 15) hT (by omega) (by omega) (by decide) (rd_1 (a := 16) (x := 0) (s := 44) (by decide) (by omega) (by decide) (by omega) (by omega)) (rd_2 (a := 18) (x := 1) (y := 2) (z := 12) (s := 59) (by decide) (by omega) (by decide) (by omega) (by decide) (by omega) rfl) (by omega) (by omega) (by omega) (fun n5 => ?_)
  refine fT (np := 5) (nt := 1) (items := 6) (a := 21) hT (by omega) (by omega) (by decide) (rd_1 (a := 22) (x := 1) (s := 44) (by decide) (by omega) (by decide) (by omega) (by omega)) (rd_1 (a := 24) (x := 8) (s := 59) (by decide) (by omega) (by decide) (by omega) (by omega)) (by omega) (by omega) (by omega) (fun n6 => ?_)
  refine fT (np := 5) (nt := 2) (items := 7) (a := 26) hT (by omega) (by omega) (by decide) (rd_1 (a := 27) (x := 3) (s := 44) (by decide) (by omega) (by decide) (by omega) (by omega)) (rd_2 (a := 29) (x := 1) (y := 0) (z := 10) (s := 59) (by decide) (by omega) (by decide) (by omega) (by decide) (by omega) rfl) (by omega) (by omega) (by omega) (fun n7 => ?_)
  refine fT (np := 5) (nt := 3) (items := 8) (a := 32) hT (by omega) (by omega) (by decide) (rd_1 (a := 33) (x := 2) (s := 44) (by decide) (by omega) (by decide) (by omega) (by omega)) (rd_1 (a := 35) (x := 6) (s := 59) (by decide) (by omega) (by decide) (by omega) (by omega)) (by omega) (by omega) (by omega) (fun n8 => ?_)
  refine fT (np := 5) (nt := 4) (items := 9) (a := 37) hT (by omega) (by omega) (by decide) (rd_1 (a := 38) (x := 3) (s := 44) (by decide) (by omega) (by decide) (by omega) (by omega)) (rd_1 (a := 40) (x := 7) (s := 59) (by decide) (by omega) (by decide) (by omega) (by omega)) (by omega) (by omega) (by omega) (fun n9 => ?_)
  refine fT (np := 5) (nt := 5) (items := 10) (a := 42) hT (by omega) (by omega) (by decide) (rd_1 (a := 43) (x := 0) (s := 44) (by decide) (by omega) (by decide) (by omega) (by omega)) (rd_1 (a := 45) (x := 3) (s := 59) (by decide) (by omega) (by decide) (by omega) (by omega)) (by omega) (by omega) (by omega) (fun n10 => ?_)
  refine fL (np := 5) (nt := 6) (items := 11) (a := 47) hT (by omega) (by omega) (by decide) (rd_1 (a := 48) (x := 0) (s := 44) (by decide) (by omega) (by decide) (by omega) (by omega)) (rd_1 (a := 50) (x := 0) (s := 44) (by decide) (by omega) (by decide) (by omega) (by omega)) (rd_1 (a := 52) (x := 4) (s := 59) (by decide) (by omega) (by decide) (by omega) (by omega)) (by omega) (by omega) (by omega) (by omega) (by omega) (fun n11 => ?_)
  refine fL (np := 5) (nt := 6) (items := 12) (a := 54) hT (by omega) (by omega) (by decide) (rd_1 (a := 55) (x := 1) (s := 44) (by decide) (by omega) (by decide) (by omega) (by omega)) (rd_1 (a := 57) (x := 2) (s := 44) (by decide) (by omega) (by decide) (by omega) (by omega)) (rd_1 (a := 59) (x := 6) (s := 59) (by decide) (by omega) (by decide) (by omega) (by omega)) (by omega) (by omega) (by omega) (by omega) (by omega) (fun n12 => ?_)
  refine fL (np := 5) (nt := 6) (items := 13) (a := 61) hT (by omega) (by omega) (by decide) (rd_1 (a := 62) (x := 2) (s := 44) (by decide) (by omega) (by decide) (by omega) (by omega)) (rd_1 (a := 64) (x := 1) (s := 44) (by decide) (by omega) (by decide) (by omega) (by omega)) (rd_1 (a := 66) (x := 5) (s := 59) (by decide) (by omega) (by decide) (by omega) (by omega)) (by omega) (by omega) (by omega) (by omega) (by omega) (fun n13 => ?_)
  refine fL (np := 5) (nt := 6) (items := 14) (a := 68) hT (by omega) (by omega) (by decide) (rd_1 (a := 69) (x := 2) (s := 44) (by decide) (by omega) (by decide) (by omega) (by omega)) (rd_1 (a := 71) (x := 4) (s := 44) (by decide) (by omega) (by decide) (by omega) (by omega)) (rd_1 (a := 73) (x := 9) (s := 59) (by decide) (by omega) (by decide) (by omega) (by omega)) (by omega) (by omega) (by omega) (by omega) (by omega) (fun n14 => ?_)
  refine fL (np := 5) (nt := 6) (items := 15) (a := 75) hT (by omega) (by omega) (by decide) (rd_1 (a := 76) (x := 4) (s := 44) (by decide) (by omega) (by decide) (by omega) (by omega)) (rd_1 (a := 78) (x := 5) (s := 44) (by decide) (by omega) (by decide) (by omega) (by omega)) (rd_2 (a := 80) (x := 1) (y := 2) (z := 12) (s := 59) (by decide) (by omega) (by decide) (by omega) (by decide) (by omega) rfl) (by omega) (by omega) (by omega) (by omega) (by omega) (fun n15 => ?_)
  refine fL (np := 5) (nt := 6) (items := 16) (a := 83) hT (by omega) (by omega) (by decide) (rd_1 (a := 84) (x := 3) (s := 44) (by decide) (by omega) (by decide) (by omega) (by omega)) (rd_1 (a := 86) (x := 0) (s := 44) (by decide) (by omega) (by decide) (by omega) (by omega)) (rd_2 (a := 88) (x := 2) (y := 0) (z := 20) (s := 59) (by decide) (by omega) (by decide) (by omega) (by decide) (by omega) rfl) (by omega) (by omega) (by omega) (by omega) (by omega) (fun n16 => ?_)
  exact br_t (ltN (a := 17) (b := 200) (by omega) (by omega)) (br_f (nltN (a := 91) (b := 91) (by omega) (by omega)) (h _ _))
theorem x7_first {Q : (Nat → Int32) → (Nat → Int32) → (Nat → Int32) → (Nat → Int32) → (Nat → Int32) → (Nat → Int32) → Int32 → Prop} (h : ∀ pe th la ki wo li, DM 5 6 tkF kdF wtF lkF pe th la ki wo li → Q pe th la ki wo li 0) : wp_X7_first (fun _ => 0) (fun _ => 0) (fun _ => 0) (fun _ => 0) (fun _ => 0) (fun _ => 0) 0 Q := by
  refine s7_begin (fun li' l1 l2 => ?_)
  have hz : ∀ j, j < 60 → li' j = (fun _ => (0 : Int32)) j := fun j hj => by
    by_cases q : j < 30
    · exact l2 j q
    · have := l1 (j - 30) (by omega)
      rw [show 30 + (j - 30) = j by omega] at this
      exact this
  refine ⟨by unfold vp_in; decide +kernel, ⟨by unfold vp_in; decide +kernel, ⟨by unfold vp_in; decide +kernel, ⟨by unfold vp_in; decide +kernel, ⟨by unfold vp_in; decide +kernel, ⟨by unfold vp_in; decide +kernel, by unfold vp_in; decide +kernel, ⟨by unfold vp_in; decide +kernel, by unfold vp_in; decide +kernel, ⟨by unfold vp_in; decide +kernel, by unfold vp_in; decide +kernel, ⟨by unfold vp_in; decide +kernel, by unfold vp_in; decide +kernel, ⟨by unfold vp_in; decide +kernel, by unfold vp_in; decide +kernel, ⟨by unfold vp_in; decide +kernel, by unfold vp_in; decide +kernel, ⟨by unfold vp_in; decide +kernel, ⟨by unfold vp_in; decide +kernel, ⟨by unfold vp_in; decide +kernel, ⟨by unfold vp_in; decide +kernel, ⟨by unfold vp_in; decide +kernel, ⟨by unfold vp_in; decide +kernel, ?_⟩⟩⟩⟩⟩⟩⟩⟩⟩⟩⟩⟩⟩⟩⟩⟩⟩
  refine h _ _ _ _ _ _ ⟨by decide +kernel, by decide +kernel, by decide +kernel, by decide +kernel, by decide +kernel, fun k hk => ?_⟩
  refine ((upd_cg (upd_cg (upd_cg (upd_cg (upd_cg (upd_cg hz)))))) (30 + k) (by omega)).trans ?_
  revert k
  decide +kernel
