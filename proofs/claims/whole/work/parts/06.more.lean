/-! Math.max, Math.min, System.arraycopy in the light judgement -/
/-- the copy is in range -/
def cpOK (sp dp n : Int32) (n0 n1 : Nat) : Prop := ¬ sp < 0 ∧ ¬ dp < 0 ∧ ¬ n < 0 ∧ sp.toNatClampNeg + n.toNatClampNeg ≤ n0 ∧ dp.toNatClampNeg + n.toNatClampNeg ≤ n1
/-- a boolean answer, a boolean field -/
def zb (r : Int32) : Prop := narrow .boolean (.int r) = .int r
def zf (r : Int32) : Prop := narrow .boolean (.int r) = .int r ∧ fits .boolean (.int r) = true
theorem zb_if (c : Prop) [Decidable c] : zb (if c then 1 else 0) := by by_cases h : c <;> simp [h, zb] <;> rfl
theorem zf_if (c : Prop) [Decidable c] : zf (if c then 1 else 0) := by by_cases h : c <;> simp [h, zf] <;> exact ⟨rfl, rfl⟩
theorem vpc {i : Int32} {n : Nat} (h : decide (¬ (i < 0 ∨ n ≤ i.toNatClampNeg)) = true) : vp_in i n := (of_decide_eq_true h : ¬ (i < 0 ∨ n ≤ i.toNatClampNeg))
section GoMore
variable {X : MC} {l : Launch} {D : va_G} {g : Nat → ClassId} {rm : Room} {cc : ByteArray} {nL : Nat} {own : String} {ad : Nat → Nat} {cu su pc : Nat} {lv : List (Nat × Value)} {st : List Value} {w : List va_E}
set_option maxRecDepth 100000 in
theorem gMax (hC : Cx X l D g rm cc nL own) {x y : Int32} {ix : Nat} (hd : decode cc pc = .ok (.invokestatic ix, 3)) (hlk : Cond.methodLink own ix yJ9_max_7cf53 ∈ gw) (hrm : 1 ≤ rm.frames ∧ (st.map fun v => v.category).sum + 13 ≤ rm.locals) (hcu : cu ≤ rm.cells ∧ su ≤ rm.slots) (kk : Go X nL ad cu su (pc + 3) lv (.int (if x < y then y else x) :: st) w) : Go X nL ad cu su pc lv (.int y :: .int x :: st) w := fun H locs ls hP hD hS hl => by
  have hRR : xR X = rm := hC.2.2.2.2.2.2.2.2.2
  exact va_mmax hC.1 hC.2.1 (hC.2.2.1.trans hl.1.symm) hC.2.2.2.1 (hC.2.2.2.2.1 _ hlk) (hC.2.2.2.2.1 _ ms_J9_max_7cf53.1) (hC.2.2.2.2.1 _ ms_J9_max_7cf53.2.1) (hC.2.2.2.2.1 _ ms_J9_max_7cf53.2.2.1) (by rw [hRR]; exact hrm.1) (by show ((cst ad st).map fun v => v.category).sum + 13 ≤ _; rw [cat_cst, hRR]; exact hrm.2) (by rw [hRR]; exact hcu.1) (by rw [hRR]; exact hcu.2) hd (kk H locs ls hP hD hS hl)
set_option maxRecDepth 100000 in
theorem gMin (hC : Cx X l D g rm cc nL own) {x y : Int32} {ix : Nat} (hd : decode cc pc = .ok (.invokestatic ix, 3)) (hlk : Cond.methodLink own ix yJ9_min_7cf53 ∈ gw) (hrm : 1 ≤ rm.frames ∧ (st.map fun v => v.category).sum + 13 ≤ rm.locals) (hcu : cu ≤ rm.cells ∧ su ≤ rm.slots) (kk : Go X nL ad cu su (pc + 3) lv (.int (if y < x then y else x) :: st) w) : Go X nL ad cu su pc lv (.int y :: .int x :: st) w := fun H locs ls hP hD hS hl => by
  have hRR : xR X = rm := hC.2.2.2.2.2.2.2.2.2
  exact va_mmin hC.1 hC.2.1 (hC.2.2.1.trans hl.1.symm) hC.2.2.2.1 (hC.2.2.2.2.1 _ hlk) (hC.2.2.2.2.1 _ ms_J9_min_7cf53.1) (hC.2.2.2.2.1 _ ms_J9_min_7cf53.2.1) (hC.2.2.2.2.1 _ ms_J9_min_7cf53.2.2.1) (by rw [hRR]; exact hrm.1) (by show ((cst ad st).map fun v => v.category).sum + 13 ≤ _; rw [cat_cst, hRR]; exact hrm.2) (by rw [hRR]; exact hcu.1) (by rw [hRR]; exact hcu.2) hd (kk H locs ls hP hD hS hl)
set_option maxRecDepth 100000 in
theorem cpN : Cond.native arraycopyName ∈ gw := gw_at 423 rfl rfl
set_option maxRecDepth 100000 in
theorem cpS : Cond.static arraycopyName ∈ gw := gw_at 422 rfl rfl
set_option maxRecDepth 100000 in
theorem cpI : Cond.initialized "java/lang/System" ∈ gw := gw_at 60 rfl rfl
set_option maxRecDepth 100000 in
theorem ml_cp_X4 : Cond.methodLink RX4 32 arraycopyName ∈ gw := gw_at 421 rfl rfl
set_option maxRecDepth 100000 in
theorem ml_cp_X3 : Cond.methodLink RX3 20 arraycopyName ∈ gw := gw_at 660 rfl rfl
theorem gCopy (hC : Cx X l D g rm cc nL own) {sp dp n : Int32} {ix q0 q1 n0 n1 : Nat} {f h : Nat → Int32} (hd : decode cc pc = .ok (.invokestatic ix, 3)) (hlk : Cond.methodLink own ix arraycopyName ∈ gw) (hw0 : w[q0]? = some (.inl (g 0, n0, .inl f))) (hw1 : w[q1]? = some (.inl (g 0, n1, .inl h))) (hok : cpOK sp dp n n0 n1) (hrm : 1 ≤ rm.frames ∧ (st.map fun v => v.category).sum + (nativeFrameWords "java/lang/System" "arraycopy" 5 + 11) ≤ rm.locals)
    (kk : Go X nL ad cu su (pc + 3) lv st (w.set q1 (.inl (g 0, n1, .inl (va_cpy f h sp.toNatClampNeg dp.toNatClampNeg n.toNatClampNeg))))) : Go X nL ad cu su pc lv (.int n :: .int dp :: .ref q1 :: .int sp :: .ref q0 :: st) w := fun H locs ls hP hD hS hl => by
  have hRR : xR X = rm := hC.2.2.2.2.2.2.2.2.2
  obtain ⟨c1, c2, c3, c4, c5⟩ := hok
  refine va_copyi hC.1 hC.2.1 (hC.2.2.1.trans hl.1.symm) hC.2.2.2.1 (hC.2.2.2.2.1 _ hlk) (hC.2.2.2.2.1 _ cpN) (hC.2.2.2.2.1 _ cpS) (hC.2.2.2.2.1 _ cpI) (by rw [hC.2.2.2.2.2.2.2.2.1]; exact hC.2.2.2.2.2.1.1 : va_K (xD X) vwCl (tysG g) (xs X)) hP hD hS q0 q1 0 0 (cw_at hw0) (cw_at hw1) rfl rfl rfl c1 c2 c3 c4 c5 (fun _ _ => rfl) (by rw [hRR]; exact hrm.1) (by show ((cst ad st).map fun v => v.category).sum + _ ≤ _; rw [cat_cst, hRR]; exact hrm.2) hd (fun H1 locs1 hP1 hD1 hS1 => ?_)
  have e := cw_set ad w q1 (.inl (g 0, n1, .inl (va_cpy f h sp.toNatClampNeg dp.toNatClampNeg n.toNatClampNeg)))
  exact kk H1 locs1 ls (by rw [e]; exact hP1) (by rw [e]; exact hD1) hS1 hl
/-- behind a call whose cells are all the caller's, in the same places -/
theorem gTail0 (hC : Cx X l D g rm cc nL own) {H : Heap} {locs : List Loc} {ls : Array Slot} {Qy : Option Value → List va_E → Prop} {st0 : List Value} {a : Array Value} (hD : va_D (xA X) (cw ad w)) (hS : va_S (xA X) (xs X).heap H locs) (hl : lv_has ls nL (clv ad lv))
    (hrun : va_Run (xp X) (xl X) (xe X) (xR X) (xs X) (xm X) (xa X) (xb X) (xh X) (xc X) H locs cu su 0 0 (F0 (xm X) pc ls st0) (cst ad st) (QX D (va_A (cw ad w) H.size) ad w.length Qy a) (va_A (cw ad w) H.size))
    (kk : ∀ (ov : Option Value) (w2 : List va_E), Qy ov w2 → w2.length = w.length → Go X nL ad cu su (pc + 3) lv (ov.toList ++ st) w2) :
    W (xp X) (xl X) (xe X) (xR X) (xs X) (xm X) (xa X) (xb X) (xh X) (xc X) H locs cu su (xQ X) (F0 (xm X) pc ls st0) := by
  intro T hT XX
  obtain ⟨v, st₀, t, T', L, h0, X', hL, e1, e2, ⟨⟨ov, w2, hv, hQ, hlen, hP1⟩, hz, hk⟩, stp⟩ := hrun T hT XX
  cases hv
  rw [h0] at hz hk
  have hfree : ∀ q, va_A (cw ad w) H.size q → xA X q := fun q h => by
    rcases h with ⟨i, e, h⟩ | h
    · exact hD.2 i _ h
    · exact hC.2.2.2.2.2.2.1 q (Nat.le_trans hS.1 h)
  have hDD : xD X = D := hC.2.2.2.2.2.2.2.2.1
  rw [← hDD] at hP1
  have hS' : va_S (xA X) (xs X).heap t.heap (locs ++ L) := ⟨Nat.le_trans hS.1 hz, fun q h1 h2 => by rw [hk q (Nat.lt_of_lt_of_le h1 hS.1) (fun z => h2 (hfree q z))]; exact hS.2.1 q h1 h2, fun q hq => by
      rcases List.mem_append.mp hq with h | h
      · exact hS.2.2 q h
      · exact hfree _ (hL q h)⟩
  obtain ⟨t2, a1, b1⟩ := kk ov w2 hQ hlen t.heap (locs ++ L) ls hP1 (va_D_cw hD hlen) hS' hl T' e1 X'
  refine ⟨t2, stp t2 ?_, b1⟩
  have es : (ov.map (cz ad)).toList ++ cst ad st = cst ad (ov.toList ++ st) := by
    cases ov with
    | none => rfl
    | some v => rfl
  show Steps _ _ _ (T'.setTop { method := xm X, pc := pc + 3, locals := ls, stack := (ov.map (cz ad)).toList ++ cst ad st, locked := none }) t2
  rw [es]
  exact a1
theorem gCallW (hC : Cx X l D g rm cc nL own) {y : MethodName} {ccy : ByteArray} {mLy n ix ci : Nat} {rety : Option FieldType} {rmy : Room} {av : List Value} {Qy : Option Value → List va_E → Prop} {fs : List Value} {T : u_T} {N : Nat} {st0 : List Value} (hcu : cu ≤ rm.cells ∧ su ≤ rm.slots)
    (hd : decode cc pc = .ok (.invokevirtual ix, 3)) (hlk : Cond.methodLink own ix y ∈ gw) (hy : MVok y ccy mLy rety n) (hrm : RMok rmy mLy rm) (hn : av.length = n) (hst : st0 = av.reverse ++ .ref 0 :: st) (hcat : (st.map fun v => v.category).sum ≤ 8) (hrc : w[0]? = some (.inr (ci, fs))) (hcl : vwCl[ci]? = some (y.cls, T, N))
    (hM : CT l D g y ccy mLy rety rmy (.ref 0 :: av) w Qy) (kk : ∀ (ov : Option Value) (w2 : List va_E), Qy ov w2 → w2.length = w.length → Go X nL ad cu su (pc + 3) lv (ov.toList ++ st) w2) : Go X nL ad cu su pc lv st0 w := fun H locs ls hP hD hS hl => by
  obtain ⟨m1, m2, m3, m4, m5, m6⟩ := hy
  obtain ⟨r1, r2, r3, r4⟩ := hrm
  have hts := hC.2.2.2.2.1
  have hl' : xl X = l := hC.2.2.2.2.2.2.2.1
  have hDD : xD X = D := hC.2.2.2.2.2.2.2.2.1
  have hRR : xR X = rm := hC.2.2.2.2.2.2.2.2.2
  have hM1 := hM ad H.size
  rw [← hl'] at hM1
  have hsz : ls.size = nL := hl.1
  refine gTail0 hC (a := (Value.ref (ad 0) :: av.map (cz ad)).toArray) hD hS hl ?_ kk
  have cw1 : CallW (xR X) (xs X) (xa X) own y.cls ix y ccy mLy rety (Cond.code y ccy mLy rety :: gw) rmy 0 0 n := by
    refine ⟨callB_of n hts (gw_in m4) rfl r1 r2 (hts _ m3) (hts _ hlk) ⟨m5.1, m5.2, m6⟩ (by rw [hRR]; exact ⟨r3, r4⟩), hts _ m1, hts _ m2⟩
  have hKs : KK (xD X) g (xs X) := by rw [hDD]; exact hC.2.2.2.2.2.1
  have := va_runV (l := xl X) (e := xe X) (R := xR X) (below := xb X) (meth := xh X) (H := H) (locs := locs) (cells := cu) (slots := su) (C := y.cls) (b := ad 0) (As := av.map (cz ad)) (rest := cst ad st) (g := F0 (xm X) pc ls (cst ad st0)) (nL := nL) (Ts := gw) ⟨hC.1, hC.2.1, hC.2.2.1, hC.2.2.2.1, hts⟩ hM1 cw1
    ⟨PX.blind, va_recv hKs.1 hP hcl (cw_at hrc), fun U hU hW => ⟨rfl, by rw [hU], by rw [hU, ← hDD]; exact hP, by rw [← hDD]; exact hKs.warm hW, hD.weaken (fun _ _ _ _ => trivial)⟩⟩ rfl (by rw [List.length_map]; exact hn) hsz ?_ (lv_room (by rw [cat_cst]; exact hcat)) hd (by rw [hRR]; exact hcu)
  · exact this
  · show cst ad st0 = _
    rw [hst]
    unfold cst
    rw [List.map_append, List.map_reverse, List.map_cons]
    rfl
theorem gCallWpI (hC : Cx X l D g rm cc nL own) {y : MethodName} {ccy : ByteArray} {mLy n ix ci : Nat} {rety : Option FieldType} {rmy : Room} {av : List Value} {Q : Int32 → Prop} {st0 : List Value} {fs : List Value} {T : u_T} {N : Nat} (hM : CT l D g y ccy mLy rety rmy (.ref 0 :: av) w (QpI w Q)) (hcu : cu ≤ rm.cells ∧ su ≤ rm.slots)
    (hd : decode cc pc = .ok (.invokevirtual ix, 3)) (hlk : Cond.methodLink own ix y ∈ gw) (hy : MVok y ccy mLy rety n) (hrm : RMok rmy mLy rm) (hn : av.length = n) (hst : st0 = av.reverse ++ .ref 0 :: st) (hcat : (st.map fun v => v.category).sum ≤ 8) (hrc : w[0]? = some (.inr (ci, fs))) (hcl : vwCl[ci]? = some (y.cls, T, N))
    (kk : ∀ r : Int32, Q r → Go X nL ad cu su (pc + 3) lv (.int r :: st) w) : Go X nL ad cu su pc lv st0 w :=
  gCallW hC hcu hd hlk hy hrm hn hst hcat hrc hcl hM (fun ov wc2 hq hlen => by
    obtain ⟨rfl, r, rfl, hQ⟩ := hq
    exact kk r hQ)
theorem gCallWpL (hC : Cx X l D g rm cc nL own) {y : MethodName} {ccy : ByteArray} {mLy n ix ci : Nat} {rety : Option FieldType} {rmy : Room} {av : List Value} {Q : Int64 → Prop} {st0 : List Value} {fs : List Value} {T : u_T} {N : Nat} (hM : CT l D g y ccy mLy rety rmy (.ref 0 :: av) w (QpL w Q)) (hcu : cu ≤ rm.cells ∧ su ≤ rm.slots)
    (hd : decode cc pc = .ok (.invokevirtual ix, 3)) (hlk : Cond.methodLink own ix y ∈ gw) (hy : MVok y ccy mLy rety n) (hrm : RMok rmy mLy rm) (hn : av.length = n) (hst : st0 = av.reverse ++ .ref 0 :: st) (hcat : (st.map fun v => v.category).sum ≤ 8) (hrc : w[0]? = some (.inr (ci, fs))) (hcl : vwCl[ci]? = some (y.cls, T, N))
    (kk : ∀ r : Int64, Q r → Go X nL ad cu su (pc + 3) lv (.long r :: st) w) : Go X nL ad cu su pc lv st0 w :=
  gCallW hC hcu hd hlk hy hrm hn hst hcat hrc hcl hM (fun ov wc2 hq hlen => by
    obtain ⟨rfl, r, rfl, hQ⟩ := hq
    exact kk r hQ)
theorem gCallWmI (hC : Cx X l D g rm cc nL own) {y : MethodName} {ccy : ByteArray} {mLy n ix ci : Nat} {rety : Option FieldType} {rmy : Room} {av : List Value} {Q : Int32 → List va_E → Prop} {st0 : List Value} {fs : List Value} {T : u_T} {N : Nat} (hM : CT l D g y ccy mLy rety rmy (.ref 0 :: av) w (QmI Q)) (hcu : cu ≤ rm.cells ∧ su ≤ rm.slots)
    (hd : decode cc pc = .ok (.invokevirtual ix, 3)) (hlk : Cond.methodLink own ix y ∈ gw) (hy : MVok y ccy mLy rety n) (hrm : RMok rmy mLy rm) (hn : av.length = n) (hst : st0 = av.reverse ++ .ref 0 :: st) (hcat : (st.map fun v => v.category).sum ≤ 8) (hrc : w[0]? = some (.inr (ci, fs))) (hcl : vwCl[ci]? = some (y.cls, T, N))
    (kk : ∀ (r : Int32) (wc2 : List va_E), Q r wc2 → wc2.length = w.length → Go X nL ad cu su (pc + 3) lv (.int r :: st) wc2) : Go X nL ad cu su pc lv st0 w :=
  gCallW hC hcu hd hlk hy hrm hn hst hcat hrc hcl hM (fun ov wc2 hq hlen => by
    obtain ⟨r, rfl, hQ⟩ := hq
    exact kk r wc2 hQ hlen)
theorem gCallWmL (hC : Cx X l D g rm cc nL own) {y : MethodName} {ccy : ByteArray} {mLy n ix ci : Nat} {rety : Option FieldType} {rmy : Room} {av : List Value} {Q : Int64 → List va_E → Prop} {st0 : List Value} {fs : List Value} {T : u_T} {N : Nat} (hM : CT l D g y ccy mLy rety rmy (.ref 0 :: av) w (QmL Q)) (hcu : cu ≤ rm.cells ∧ su ≤ rm.slots)
    (hd : decode cc pc = .ok (.invokevirtual ix, 3)) (hlk : Cond.methodLink own ix y ∈ gw) (hy : MVok y ccy mLy rety n) (hrm : RMok rmy mLy rm) (hn : av.length = n) (hst : st0 = av.reverse ++ .ref 0 :: st) (hcat : (st.map fun v => v.category).sum ≤ 8) (hrc : w[0]? = some (.inr (ci, fs))) (hcl : vwCl[ci]? = some (y.cls, T, N))
    (kk : ∀ (r : Int64) (wc2 : List va_E), Q r wc2 → wc2.length = w.length → Go X nL ad cu su (pc + 3) lv (.long r :: st) wc2) : Go X nL ad cu su pc lv st0 w :=
  gCallW hC hcu hd hlk hy hrm hn hst hcat hrc hcl hM (fun ov wc2 hq hlen => by
    obtain ⟨r, rfl, hQ⟩ := hq
    exact kk r wc2 hQ hlen)
theorem gCallWmV (hC : Cx X l D g rm cc nL own) {y : MethodName} {ccy : ByteArray} {mLy n ix ci : Nat} {rety : Option FieldType} {rmy : Room} {av : List Value} {Q : List va_E → Prop} {st0 : List Value} {fs : List Value} {T : u_T} {N : Nat} (hM : CT l D g y ccy mLy rety rmy (.ref 0 :: av) w (QmV Q)) (hcu : cu ≤ rm.cells ∧ su ≤ rm.slots)
    (hd : decode cc pc = .ok (.invokevirtual ix, 3)) (hlk : Cond.methodLink own ix y ∈ gw) (hy : MVok y ccy mLy rety n) (hrm : RMok rmy mLy rm) (hn : av.length = n) (hst : st0 = av.reverse ++ .ref 0 :: st) (hcat : (st.map fun v => v.category).sum ≤ 8) (hrc : w[0]? = some (.inr (ci, fs))) (hcl : vwCl[ci]? = some (y.cls, T, N))
    (kk : ∀ (wc2 : List va_E), Q wc2 → wc2.length = w.length → Go X nL ad cu su (pc + 3) lv st wc2) : Go X nL ad cu su pc lv st0 w :=
  gCallW hC hcu hd hlk hy hrm hn hst hcat hrc hcl hM (fun ov wc2 hq hlen => by
    obtain ⟨rfl, hQ⟩ := hq
    exact kk wc2 hQ hlen)
end GoMore
