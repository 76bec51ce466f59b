/-! ROWS OF THE LAW: its script, the two worlds side by side, its end -/
def ks6 : List Nat := [0, 1, 2, 3, 4, 5, 6, 7, 8, 9, 10, 11, 12, 13, 14, 15, 16, 17, 18, 19, 20, 21, 22, 23, 24, 25, 26, 27, 28, 29]
def ks7 : List Nat := [30, 31, 32, 33, 34, 35, 36, 37, 38, 39, 40, 41, 42, 43, 44]
theorem ks6_at : ∀ k, k < 30 → ks6.getD k 0 = k ∧ ks6[k]? = some k ∧ k ∉ ks7 := by decide +kernel
theorem ks7_at : ∀ k, k < 15 → ks7.getD k 0 = 30 + k ∧ ks7[k]? = some (30 + k) ∧ 30 + k ∉ ks6 := by decide +kernel
theorem ks6_in : ∀ k ∈ ks6, k < 30 := by decide +kernel
theorem ks7_in : ∀ k ∈ ks7, 30 ≤ k ∧ k < 45 := by decide +kernel
theorem rne_6 {e : va_E} (h : inE 30 e = true) : rne ks6 e = e := by
  cases e with
  | inl a => rfl
  | inr q =>
    have h1 : q.2.all (inV 30) = true := h
    rw [List.all_eq_true] at h1
    show Sum.inr (q.1, q.2.map (rn ks6)) = Sum.inr q
    have : q.2.map (rn ks6) = q.2.map id := List.map_congr_left (fun v hv => by
      have h2 := h1 v hv
      cases v with
      | ref k =>
        have h3 : Nat.ble (Nat.succ k) 30 = true := h2
        show Value.ref (ks6.getD k 0) = Value.ref k
        rw [(ks6_at k (Nat.le_of_ble_eq_true h3)).1]
      | _ => rfl)
    rw [this, List.map_id]
theorem rne_7 {e : va_E} (h : inE 15 e = true) : rne ks7 e = shE 30 e := by
  cases e with
  | inl a => rfl
  | inr q =>
    have h1 : q.2.all (inV 15) = true := h
    rw [List.all_eq_true] at h1
    show Sum.inr (q.1, q.2.map (rn ks7)) = Sum.inr (q.1, q.2.map (shV 30))
    have : q.2.map (rn ks7) = q.2.map (shV 30) := List.map_congr_left (fun v hv => by
      have h2 := h1 v hv
      cases v with
      | ref k =>
        have h3 : Nat.ble (Nat.succ k) 15 = true := h2
        show Value.ref (ks7.getD k 0) = Value.ref (30 + k)
        rw [(ks7_at k (Nat.le_of_ble_eq_true h3)).1]
      | _ => rfl)
    rw [this]
theorem nd6 {w : List va_E} (h : w.length = 30) : va_nd (ks6.take w.length) = true := by rw [h]; decide +kernel
theorem nd7 {w : List va_E} (h : w.length = 15) : va_nd (ks7.take w.length) = true := by rw [h]; decide +kernel
theorem wL_6 {w6 w7 : List va_E} {i : Nat} (h6 : w6.length = 30) (hi : i < 30) : (wL w6 w7)[i]? = w6[i]? := List.getElem?_append_left (by omega)
theorem wL_7 {w6 w7 : List va_E} {i : Nat} (h6 : w6.length = 30) : (wL w6 w7)[30 + i]? = (w7[i]?).map (shE 30) := by
  unfold wL
  rw [List.getElem?_append_right (by omega), h6, show 30 + i - 30 = i by omega, List.getElem?_map]
theorem sW_6 {w6 w7 : List va_E} (h6 : w6.length = 30) (a6 : w6.all (inE 30) = true) : subW (wL w6 w7) ks6 w6 := by
  unfold subW
  rw [List.all_eq_true] at a6
  apply List.ext_getElem?
  intro i
  rw [List.getElem?_map, List.getElem?_map, List.getElem?_take, h6]
  by_cases hi : i < 30
  · rw [if_pos hi, (ks6_at i hi).2.1]
    show _ = some ((wL w6 w7)[i]?)
    rw [wL_6 h6 hi]
    have he : w6[i]? = some w6[i] := List.getElem?_eq_getElem (by omega)
    rw [he]
    show some (some (rne ks6 w6[i])) = _
    rw [rne_6 (a6 _ (List.mem_of_getElem? he))]
  · rw [if_neg hi, List.getElem?_eq_none (by omega)]
    rfl
theorem sW_7 {w6 w7 w6' : List va_E} (h6 : w6.length = 30) (h7 : w7.length = 15) (a7 : w7.all (inE 15) = true) : subW (putR ks6 (wL w6 w7) ks6 w6') ks7 w7 := by
  unfold subW
  rw [List.all_eq_true] at a7
  apply List.ext_getElem?
  intro i
  rw [List.getElem?_map, List.getElem?_map, List.getElem?_take, h7]
  by_cases hi : i < 15
  · rw [if_pos hi, (ks7_at i hi).2.1]
    show _ = some ((putR ks6 (wL w6 w7) ks6 w6')[30 + i]?)
    rw [putR_out ks6 ks6 w6' _ _ (fun z => (ks7_at i hi).2.2 (List.mem_of_mem_take z)), wL_7 h6]
    have he : w7[i]? = some w7[i] := List.getElem?_eq_getElem (by omega)
    rw [he]
    show some (some (rne ks7 w7[i])) = some (some (shE 30 w7[i]))
    rw [rne_7 (a7 _ (List.mem_of_getElem? he))]
  · rw [if_neg hi, List.getElem?_eq_none (by omega)]
    rfl
theorem pR_67 {w6 w7 w6' w7' : List va_E} (h6 : w6.length = 30) (h7 : w7.length = 15) (e6 : w6'.length = 30) (e7 : w7'.length = 15) (a6 : w6'.all (inE 30) = true) (a7 : w7'.all (inE 15) = true) : putR ks7 (putR ks6 (wL w6 w7) ks6 w6') ks7 w7' = wL w6' w7' := by
  rw [List.all_eq_true] at a6 a7
  have l0 : (wL w6 w7).length = 45 := by unfold wL; rw [List.length_append, List.length_map]; omega
  have l1 : (wL w6' w7').length = 45 := by unfold wL; rw [List.length_append, List.length_map]; omega
  apply List.ext_getElem?
  intro j
  by_cases h30 : j < 30
  · have he : w6'[j]? = some w6'[j] := List.getElem?_eq_getElem (by omega)
    rw [putR_out ks7 ks7 w7' _ j (fun z => (ks6_at j h30).2.2 (List.mem_of_mem_take z)), putR_in ks6 ks6 w6' _ j j w6'[j] (nd6 e6) (ks6_at j h30).2.1 he (by omega), wL_6 e6 h30, he, rne_6 (a6 _ (List.mem_of_getElem? he))]
  · by_cases h45 : j < 45
    · obtain ⟨i, rfl⟩ : ∃ i, j = 30 + i := ⟨j - 30, by omega⟩
      have he : w7'[i]? = some w7'[i] := List.getElem?_eq_getElem (by omega)
      rw [putR_in ks7 ks7 w7' _ i (30 + i) w7'[i] (nd7 e7) (ks7_at i (by omega)).2.1 he (by rw [putR_len]; omega), wL_7 e6, he, rne_7 (a7 _ (List.mem_of_getElem? he))]
      rfl
    · rw [List.getElem?_eq_none (by rw [putR_len, putR_len]; omega), List.getElem?_eq_none (by omega)]
theorem IVs.len {g : Nat → ClassId} {w6 w7 : List va_E} (h : IVs g w6 w7) : w6.length = 30 ∧ w6.all (inE 30) = true ∧ w7.length = 15 ∧ w7.all (inE 15) = true := by
  rcases h with h | ⟨w6c, h1, h2, h3, h4⟩
  · exact ⟨h.len.1, h.len.2.1, h.len.2.2.1, h.len.2.2.2.1⟩
  · exact ⟨h1, h2, h4.len.2.2.1, h4.len.2.2.2.1⟩
theorem cmpL {L i : Nat} (hL : L ≤ 256) (hi : i < 1000) : nI L - 4 < nI i ↔ L < i + 4 := by
  have h4 : (4 : Int32).toInt = 4 := rfl
  have hs : (nI L - 4).toInt = (L : Int) - 4 := by
    rw [Int32.toInt_sub, nI_toInt (by omega), h4]
    exact Int.bmod_eq_of_le (by omega) (by omega)
  rw [Int32.lt_iff_toInt_lt, hs, nI_toInt (by omega)]
  omega
section GoLaw
variable {X : MC} {l : Launch} {D : va_G} {g : Nat → ClassId} {rm : Room} {cc : ByteArray} {nL : Nat} {own : String} {ad : Nat → Nat} {cu su pc : Nat} {lv : List (Nat × Value)} {st : List Value} {w : List va_E}
theorem gScrLd (hC : Cx X l D g rm cc nL own) {kb b L i : Nat} {sc : Nat → Int32} {x : Int32} (hX : va_X b L sc (xs X) (xs X).heap) (hbl : b < (xs X).heap.size) (hbA : ¬ xA X b) (hb : ad kb = b) (hx : x = nI i) (hi : i < L) (hL : L ≤ 256) (hd : decode cc pc = .ok (.iaload, 1)) (kk : Go X nL ad cu su (pc + 1) lv (.int (sc i) :: st) w) : Go X nL ad cu su pc lv (.int x :: .ref kb :: st) w := fun H locs ls hP hD hS hl => by
  subst hx
  have k1 := kk H locs ls hP hD hS hl
  show W (xp X) (xl X) (xe X) (xR X) (xs X) (xm X) (xa X) (xb X) (xh X) (xc X) H locs cu su (xQ X) (F0 (xm X) pc ls (.int (nI i) :: .ref (ad kb) :: cst ad st))
  rw [hb]
  refine va_sld hC.1 hC.2.1 hX hbl hbA hS (inN hi (by omega)) hd ?_
  rw [cl (by omega)]
  exact k1
theorem gScrLn (hC : Cx X l D g rm cc nL own) {kb b L : Nat} {sc : Nat → Int32} (hX : va_X b L sc (xs X) (xs X).heap) (hbl : b < (xs X).heap.size) (hbA : ¬ xA X b) (hb : ad kb = b) (hd : decode cc pc = .ok (.arraylength, 1)) (kk : Go X nL ad cu su (pc + 1) lv (.int (nI L) :: st) w) : Go X nL ad cu su pc lv (.ref kb :: st) w := fun H locs ls hP hD hS hl => by
  have k1 := kk H locs ls hP hD hS hl
  show W (xp X) (xl X) (xe X) (xR X) (xs X) (xm X) (xa X) (xb X) (xh X) (xc X) H locs cu su (xQ X) (F0 (xm X) pc ls (.ref (ad kb) :: cst ad st))
  rw [hb]
  exact va_slen hC.1 hC.2.1 hX hbl hbA hS hd k1
/-- the cells in another order -/
theorem gPerm (hC : Cx X l D g rm cc nL own) {ks : List Nat} {wc : List va_E} (hs : subW w ks wc) (hnd : va_nd (ks.take wc.length) = true) (hl : clv (adk ad ks) lv = clv ad lv) (hst : cst (adk ad ks) st = cst ad st) (kk : Go X nL (adk ad ks) cu su pc lv st wc) : Go X nL ad cu su pc lv st w := fun H locs ls hP hD hS hlv => by
  have k1 := kk H locs ls (subW_P hs hP) (subW_D hs hnd hD (fun i e he => by
    obtain ⟨k, h1, h2, h3, -⟩ := subW_at hs he
    have := hD.2 k _ (cw_at h2)
    show xA X (ad (ks.getD i 0))
    rw [h3]
    exact this)) hS (by rw [hl]; exact hlv)
  rw [hst] at k1
  exact k1
end GoLaw
/-- the law's standing: its frame, its script -/
def LX (X : MC) (l : Launch) (D : va_G) (g : Nat → ClassId) (b L : Nat) (sc : Nat → Int32) (cu su : Nat) : Prop := Cx X l D g room_1 cL_law 4 RL ∧ va_X b L sc (xs X) (xs X).heap ∧ b < (xs X).heap.size ∧ ¬ xA X b ∧ L ≤ 256 ∧ (cu ≤ room_1.cells ∧ su ≤ room_1.slots)
def NX (X : MC) (g : Nat → ClassId) (b cu su i : Nat) : Prop := ∀ (ad : Nat → Nat) (w6 w7 : List va_E), ad 45 = b → IV g w6 w7 → Go X 4 ad cu su 18 [(3, .int (nI i)), (2, .ref 30), (1, .ref 0), (0, .ref 45)] [] (wL w6 w7)
set_option maxRecDepth 100000 in
set_option maxHeartbeats 4000000 in
theorem t_901 {X : MC} {l : Launch} {D : va_G} {g : Nat → ClassId} {b L cu su i : Nat} {sc : Nat → Int32} {ad : Nat → Nat} {w6 w7 w6' w7' : List va_E} (hX : LX X l D g b L sc cu su) (hb : ad 45 = b) (hN : NX X g b cu su (i + 4)) (h6 : w6.length = 30) (h7 : w7.length = 15) (hI : IVs g w6' w7') : Go X 4 ad cu su 901 [(3, .int (nI i)), (2, .ref 30), (1, .ref 0), (0, .ref 45)] [] (putR ks7 (putR ks6 (wL w6 w7) ks6 w6') ks7 w7') := by
  obtain ⟨l1, l2, l3, l4⟩ := hI.len
  refine gW (pR_67 h6 h7 l1 l3 l2 l4) (gIinc hX.1 4 [(3, .int (nI (i + 4))), (2, .ref 30), (1, .ref 0), (0, .ref 45)] dL_law_901 rfl rfl (Nat.le_of_ble_eq_true rfl) (by rw [show nI i + 4 = nI (i + 4) from nI_add i 4]; rfl) (gGoto hX.1 18 dL_law_904 rfl ?_))
  rcases hI with hI | ⟨w6c, -, -, hs, hI⟩
  · exact hN ad w6' w7' hb hI
  · have lc := hI.len
    have ll : (wL w6c w7').length = 45 := by unfold wL; rw [List.length_append, List.length_map]; omega
    exact gPerm hX.1 hs (by rw [ll]; decide +kernel) rfl rfl (hN (adk ad pk45) w6c w7' hb hI)
