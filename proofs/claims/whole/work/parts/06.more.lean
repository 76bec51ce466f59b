/-! Math.max, Math.min, System.arraycopy in the light judgement -/
/-- the copy is in range -/
def cpOK (sp dp n : Int32) (n0 n1 : Nat) : Prop := ¬ sp < 0 ∧ ¬ dp < 0 ∧ ¬ n < 0 ∧ sp.toNatClampNeg + n.toNatClampNeg ≤ n0 ∧ dp.toNatClampNeg + n.toNatClampNeg ≤ n1
/-- a boolean answer, a boolean field -/
def zb (r : Int32) : Prop := narrow .boolean (.int r) = .int r
def zf (r : Int32) : Prop := narrow .boolean (.int r) = .int r ∧ fits .boolean (.int r) = true
theorem zb_if (c : Prop) [Decidable c] : zb (if c then 1 else 0) := by by_cases h : c <;> simp [h, zb] <;> rfl
theorem zf_if (c : Prop) [Decidable c] : zf (if c then 1 else 0) := by by_cases h : c <;> simp [h, zf] <;> exact ⟨rfl, rfl⟩
theorem vpc {i : Int32} {n : Nat} (h : decide (¬ (i < 0 ∨ n ≤ i.toNatClampNeg)) = true) : vp_in i n := (of_decide_eq_true h : ¬ (i < 0 ∨ n ≤ i.toNatClampNeg))
section GoMore
variable {X : MC} {l : Launch} {D : va_G} {g : Nat → ClassId} {rm : Room} {cc : ByteArray} {nL : Nat} {own : String} {ad : Nat → Nat} {cu su pc : Nat} {lv : List (Nat × Value)} {st : List Value} {w : List va_E}
set_option maxRecDepth 100000 in
theorem gMax (hC : Cx X l D g rm cc nL own) {x y : Int32} {ix : Nat} (hd : decode cc pc = .ok (.invokestatic ix, 3)) (hlk : Cond.methodLink own ix yJ9_max_7cf53 ∈ gw) (hrm : 1 ≤ rm.frames ∧ (st.map fun v => v.category).sum + 13 ≤ rm.locals) (hcu : cu ≤ rm.cells ∧ su ≤ rm.slots) (kk : Go X nL ad cu su (pc + 3) lv (.int (if x < y then y else x) :: st) w) : Go X nL ad cu su pc lv (.int y :: .int x :: st) w := fun H locs ls hP hD hS hl => by
  have hRR : xR X = rm := hC.2.2.2.2.2.2.2.2.2
  exact va_mmax hC.1 hC.2.1 (hC.2.2.1.trans hl.1.symm) hC.2.2.2.1 (hC.2.2.2.2.1 _ hlk) (hC.2.2.2.2.1 _ ms_J9_max_7cf53.1) (hC.2.2.2.2.1 _ ms_J9_max_7cf53.2.1) (hC.2.2.2.2.1 _ ms_J9_max_7cf53.2.2.1) (by rw [hRR]; exact hrm.1) (by show ((cst ad st).map fun v => v.category).sum + 13 ≤ _; rw [cat_cst, hRR]; exact hrm.2) (by rw [hRR]; exact hcu.1) (by rw [hRR]; exact hcu.2) hd (kk H locs ls hP hD hS hl)
set_option maxRecDepth 100000 in
theorem gMin (hC : Cx X l D g rm cc nL own) {x y : Int32} {ix : Nat} (hd : decode cc pc = .ok (.invokestatic ix, 3)) (hlk : Cond.methodLink own ix yJ9_min_7cf53 ∈ gw) (hrm : 1 ≤ rm.frames ∧ (st.map fun v => v.category).sum + 13 ≤ rm.locals) (hcu : cu ≤ rm.cells ∧ su ≤ rm.slots) (kk : Go X nL ad cu su (pc + 3) lv (.int (if y < x then y else x) :: st) w) : Go X nL ad cu su pc lv (.int y :: .int x :: st) w := fun H locs ls hP hD hS hl => by
  have hRR : xR X = rm := hC.2.2.2.2.2.2.2.2.2
  exact va_mmin hC.1 hC.2.1 (hC.2.2.1.trans hl.1.symm) hC.2.2.2.1 (hC.2.2.2.2.1 _ hlk) (hC.2.2.2.2.1 _ ms_J9_min_7cf53.1) (hC.2.2.2.2.1 _ ms_J9_min_7cf53.2.1) (hC.2.2.2.2.1 _ ms_J9_min_7cf53.2.2.1) (by rw [hRR]; exact hrm.1) (by show ((cst ad st).map fun v => v.category).sum + 13 ≤ _; rw [cat_cst, hRR]; exact hrm.2) (by rw [hRR]; exact hcu.1) (by rw [hRR]; exact hcu.2) hd (kk H locs ls hP hD hS hl)
set_option maxRecDepth 100000 in
theorem cpN : Cond.native arraycopyName ∈ gw := gw_at 423 rfl rfl
set_option maxRecDepth 100000 in
theorem cpS : Cond.static arraycopyName ∈ gw := gw_at 422 rfl rfl
set_option maxRecDepth 100000 in
theorem cpI : Cond.initialized "java/lang/System" ∈ gw := gw_at 60 rfl rfl
set_option maxRecDepth 100000 in
theorem ml_cp_X4 : Cond.methodLink RX4 32 arraycopyName ∈ gw := gw_at 421 rfl rfl
set_option maxRecDepth 100000 in
theorem ml_cp_X3 : Cond.methodLink RX3 20 arraycopyName ∈ gw := gw_at 660 rfl rfl
theorem gCopy (hC : Cx X l D g rm cc nL own) {sp dp n : Int32} {ix q0 q1 n0 n1 : Nat} {f h : Nat → Int32} (hd : decode cc pc = .ok (.invokestatic ix, 3)) (hlk : Cond.methodLink own ix arraycopyName ∈ gw) (hw0 : w[q0]? = some (.inl (g 0, n0, .inl f))) (hw1 : w[q1]? = some (.inl (g 0, n1, .inl h))) (hok : cpOK sp dp n n0 n1) (hrm : 1 ≤ rm.frames ∧ (st.map fun v => v.category).sum + (nativeFrameWords "java/lang/System" "arraycopy" 5 + 11) ≤ rm.locals)
    (kk : Go X nL ad cu su (pc + 3) lv st (w.set q1 (.inl (g 0, n1, .inl (va_cpy f h sp.toNatClampNeg dp.toNatClampNeg n.toNatClampNeg))))) : Go X nL ad cu su pc lv (.int n :: .int dp :: .ref q1 :: .int sp :: .ref q0 :: st) w := fun H locs ls hP hD hS hl => by
  have hRR : xR X = rm := hC.2.2.2.2.2.2.2.2.2
  obtain ⟨c1, c2, c3, c4, c5⟩ := hok
  refine va_copyi hC.1 hC.2.1 (hC.2.2.1.trans hl.1.symm) hC.2.2.2.1 (hC.2.2.2.2.1 _ hlk) (hC.2.2.2.2.1 _ cpN) (hC.2.2.2.2.1 _ cpS) (hC.2.2.2.2.1 _ cpI) (by rw [hC.2.2.2.2.2.2.2.2.1]; exact hC.2.2.2.2.2.1.1 : va_K (xD X) vwCl (tysG g) (xs X)) hP hD hS q0 q1 0 0 (cw_at hw0) (cw_at hw1) rfl rfl rfl c1 c2 c3 c4 c5 (fun _ _ => rfl) (by rw [hRR]; exact hrm.1) (by show ((cst ad st).map fun v => v.category).sum + _ ≤ _; rw [cat_cst, hRR]; exact hrm.2) hd (fun H1 locs1 hP1 hD1 hS1 => ?_)
  have e := cw_set ad w q1 (.inl (g 0, n1, .inl (va_cpy f h sp.toNatClampNeg dp.toNatClampNeg n.toNatClampNeg)))
  exact kk H1 locs1 ls (by rw [e]; exact hP1) (by rw [e]; exact hD1) hS1 hl
end GoMore
