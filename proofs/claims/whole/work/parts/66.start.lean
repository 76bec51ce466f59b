/-! THE START: classes, array classes, nest words, the string constant, out of what the Statement gives -/
set_option maxRecDepth 100000 in
theorem nwF_tbl : ∀ q ∈ nwF, Cond.fieldLinkNest q.1 q.2.1 q.2.2.1 q.2.2.2.1 q.2.2.2.2.1 q.2.2.2.2.2 ∈ lw_tbl := List.forall_mem_cons.mpr ⟨List.mem_of_getElem? (i := 79) rfl, List.forall_mem_cons.mpr ⟨List.mem_of_getElem? (i := 99) rfl, List.forall_mem_cons.mpr ⟨List.mem_of_getElem? (i := 115) rfl, List.forall_mem_cons.mpr ⟨List.mem_of_getElem? (i := 131) rfl, List.forall_mem_cons.mpr ⟨List.mem_of_getElem? (i := 160) rfl, List.forall_mem_cons.mpr ⟨List.mem_of_getElem? (i := 161) rfl, List.forall_mem_cons.mpr ⟨List.mem_of_getElem? (i := 162) rfl, List.forall_mem_cons.mpr ⟨List.mem_of_getElem? (i := 164) rfl, List.forall_mem_cons.mpr ⟨List.mem_of_getElem? (i := 166) rfl, List.forall_mem_cons.mpr ⟨List.mem_of_getElem? (i := 170) rfl, List.forall_mem_cons.mpr ⟨List.mem_of_getElem? (i := 171) rfl, List.forall_mem_cons.mpr ⟨List.mem_of_getElem? (i := 172) rfl, List.forall_mem_cons.mpr ⟨List.mem_of_getElem? (i := 174) rfl, fun _ h => absurd h List.not_mem_nil⟩⟩⟩⟩⟩⟩⟩⟩⟩⟩⟩⟩⟩
set_option maxRecDepth 100000 in
theorem nwM_tbl : ∀ q ∈ nwM, Cond.methodLinkNest q.1 q.2.1 q.2.2.1 q.2.2.2 ∈ lw_tbl := List.forall_mem_cons.mpr ⟨List.mem_of_getElem? (i := 72) rfl, List.forall_mem_cons.mpr ⟨List.mem_of_getElem? (i := 94) rfl, List.forall_mem_cons.mpr ⟨List.mem_of_getElem? (i := 125) rfl, List.forall_mem_cons.mpr ⟨List.mem_of_getElem? (i := 139) rfl, List.forall_mem_cons.mpr ⟨List.mem_of_getElem? (i := 155) rfl, fun _ h => absurd h List.not_mem_nil⟩⟩⟩⟩⟩
set_option maxRecDepth 100000 in
theorem is_X0 : Cond.instantiable RX0 3 ∈ gw := gw_at 138 rfl rfl
set_option maxRecDepth 100000 in
theorem is_X1 : Cond.instantiable RX1 2 ∈ gw := gw_at 124 rfl rfl
set_option maxRecDepth 100000 in
theorem is_X2 : Cond.instantiable RX2 7 ∈ gw := gw_at 154 rfl rfl
set_option maxRecDepth 100000 in
theorem is_X3 : Cond.instantiable RX3 1 ∈ gw := gw_at 93 rfl rfl
set_option maxRecDepth 100000 in
theorem is_X4 : Cond.instantiable RX4 3 ∈ gw := gw_at 104 rfl rfl
set_option maxRecDepth 100000 in
theorem is_X5 : Cond.instantiable RX5 4 ∈ gw := gw_at 71 rfl rfl
set_option maxRecDepth 100000 in
theorem is_X6 : Cond.instantiable RX6 9 ∈ gw := gw_at 63 rfl rfl
set_option maxRecDepth 100000 in
theorem is_X7 : Cond.instantiable RX7 20 ∈ gw := gw_at 704 rfl rfl
set_option maxRecDepth 100000 in
theorem ls_cs : Cond.laysStatic "java/lang/String" "COMPACT_STRINGS" "Z" ∈ lw_tbl := List.mem_of_getElem? (i := 201) rfl
set_option maxRecDepth 100000 in
theorem ls_sf : Cond.laysStatic "jdk/internal/util/Preconditions" "SIOOBE_FORMATTER" "Ljava/util/function/BiFunction;" ∈ lw_tbl := List.mem_of_getElem? (i := 217) rfl
set_option maxRecDepth 100000 in
theorem in_st : Cond.initialized "java/lang/String" ∈ lw_tbl := List.mem_of_getElem? (i := 54) rfl
set_option maxRecDepth 100000 in
theorem in_pc : Cond.initialized "jdk/internal/util/Preconditions" ∈ lw_tbl := List.mem_of_getElem? (i := 56) rfl
set_option maxRecDepth 100000 in
theorem sr_62 : Cond.stringRef RX6 62 "p3;p1;p5;p0;p2;t0,12;t1,8;t3,10;t2,6;t3,7;t0,3;l0,0,4;l1,2,6;l2,1,5;l2,4,9;l4,5,12;l3,0,20;" ∈ lw_tbl := List.mem_of_getElem? (i := 191) rfl
theorem gw_tbl {x : Cond} (h : x ∈ gw) : x ∈ lw_tbl := (List.mem_filter.mp h).1
theorem st_arr {s : State} {args : Array Value} {ty : FieldType} (h : (Cond.arrayClass ty).before args s = true) : ∃ cA : ClassId, s.vm.findClass ("[" ++ ty.toString) = some cA ∧ ArrOfT s cA ty := by
  obtain ⟨cA, kA, comp, h1, h2, h3⟩ := Cond.arrayClass_spec (args := args) (first := s) (o := none) (s := s) (idx := []) h
  exact ⟨cA, h1, fun n z => ⟨fun k h => (by cases h), kA, h2, comp, h3⟩⟩
set_option maxHeartbeats 4000000 in
theorem start_KK {s : State} {args : Array Value} (hts : ∀ w ∈ lw_tbl, w.before args s = true) : ∃ (D : va_G) (g : Nat → ClassId), KK D g s := by
  have htg : ∀ w ∈ gw, w.before args s = true := fun w hw => hts w (gw_tbl hw)
  obtain ⟨c0, i0, k0⟩ := u_known (C := RX0) (T := TX0) (N := 3) (n := 3) htg inG_X0 (htg _ is_X0)
  obtain ⟨c1, i1, k1⟩ := u_known (C := RX1) (T := TX1) (N := 2) (n := 2) htg inG_X1 (htg _ is_X1)
  obtain ⟨c2, i2, k2⟩ := u_known (C := RX2) (T := TX2) (N := 7) (n := 7) htg inG_X2 (htg _ is_X2)
  obtain ⟨c3, i3, k3⟩ := u_known (C := RX3) (T := TX3) (N := 1) (n := 1) htg inG_X3 (htg _ is_X3)
  obtain ⟨c4, i4, k4⟩ := u_known (C := RX4) (T := TX4) (N := 3) (n := 3) htg inG_X4 (htg _ is_X4)
  obtain ⟨c5, i5, k5⟩ := u_known (C := RX5) (T := TX5) (N := 4) (n := 4) htg inG_X5 (htg _ is_X5)
  obtain ⟨c6, i6, k6⟩ := u_known (C := RX6) (T := TX6) (N := 9) (n := 9) htg inG_X6 (htg _ is_X6)
  obtain ⟨c7, i7, k7⟩ := u_known (C := RX7) (T := TX7) (N := 20) (n := 20) htg inG_X7 (htg _ is_X7)
  obtain ⟨a0, f0, r0⟩ := st_arr (htg _ ac_int)
  obtain ⟨a1, f1, r1⟩ := st_arr (htg _ ac_char)
  obtain ⟨a2, f2, r2⟩ := st_arr (htg _ ac_byte)
  obtain ⟨a3, f3, r3⟩ := st_arr (htg _ ac_long)
  refine ⟨(fun k => [c0, c1, c2, c3, c4, c5, c6, c7].getD k c0, fun k => [i0, i1, i2, i3, i4, i5, i6, i7].getD k i0), fun k => [a0, a1, a2, a3].getD k a0, ⟨fun k q hq => ?_, fun k q hq => ?_⟩, fun q hq => va_Nw.of rfl (hts _ (nwF_tbl q hq)), fun q hq => va_Nw.of rfl (hts _ (nwM_tbl q hq))⟩
  · match k, hq with
    | 0, hq => cases hq; exact k0
    | 1, hq => cases hq; exact k1
    | 2, hq => cases hq; exact k2
    | 3, hq => cases hq; exact k3
    | 4, hq => cases hq; exact k4
    | 5, hq => cases hq; exact k5
    | 6, hq => cases hq; exact k6
    | 7, hq => cases hq; exact k7
    | k + 8, hq => simp [vwCl] at hq
  · match k, hq with
    | 0, hq => cases hq; exact ⟨r0, f0⟩
    | 1, hq => cases hq; exact ⟨r1, f1⟩
    | 2, hq => cases hq; exact ⟨r2, f2⟩
    | 3, hq => cases hq; exact ⟨r3, f3⟩
    | k + 4, hq => simp [tysG] at hq
def tmV : Term := .field (.string "ParishRaffle" 62) "java/lang/String" "value" "[B"
theorem gv_el : ∀ j, j < 91 → (flatC (Jvm.Cond.and given_1 narrow_1))[13 + j]? = some (Cond.eq (.elem tmV (.int (Int32.ofNat j))) (.int (nI (sb.getD j 0)))) := by decide +kernel
theorem start_SP {s : State} {args : Array Value} (hts : ∀ w ∈ lw_tbl, w.before args s = true) (hgv : (Jvm.Cond.and given_1 narrow_1).before args s = true) : ∃ b v : Nat, SP b v (fun q => s.heap.size ≤ q) s s.heap ∧ ∃ tx, vk_R RX6 62 tx b s := by
  have hs := flat_of_before _ hgv
  have hA : ∀ a : Nat, a < s.heap.size → ¬ s.heap.size ≤ a := fun a h => by omega
  have hcs : (Cond.eq (.static "java/lang/String" "COMPACT_STRINGS" "Z") (.int 1)).before args s = true := hs _ (List.mem_of_getElem? (i := 4) (by decide +kernel))
  have hsf : (Cond.isRef (.static "jdk/internal/util/Preconditions" "SIOOBE_FORMATTER" "Ljava/util/function/BiFunction;")).before args s = true := hs _ (List.mem_of_getElem? (i := 5) (by decide +kernel))
  have hex : (Cond.exactly (.string "ParishRaffle" 62) "java/lang/String").before args s = true := hs _ (List.mem_of_getElem? (i := 9) (by decide +kernel))
  have hco : (Cond.eq (.field (.string "ParishRaffle" 62) "java/lang/String" "coder" "B") (.int 0)).before args s = true := hs _ (List.mem_of_getElem? (i := 10) (by decide +kernel))
  have har : (Cond.arrayOf tmV .byte).before args s = true := hs _ (List.mem_of_getElem? (i := 11) (by decide +kernel))
  have hle : (Cond.eq (.length tmV) (.int (Int32.ofNat 91))).before args s = true := hs _ (List.mem_of_getElem? (i := 12) (by decide +kernel))
  obtain ⟨a, c, cA, kA, q1, q2, q3, q4, q5, q6, -⟩ := Cond.exactly_spec (args := args) (first := s) (o := none) (s := s) (idx := []) (t := .string "ParishRaffle" 62) (cls := "java/lang/String") hex
  obtain ⟨t, ht, hT⟩ := va_Tof (f := fun j => .int (nI (sb.getD j 0))) (A := fun q => s.heap.size ≤ q) (N := 91) (by omega) har (va_eqt hle) (fun j hj => va_eqt (hs _ (List.mem_of_getElem? (gv_el j hj)))) hA
  exact ⟨a, t, ⟨⟨cA, q3, q5, by rw [q6]; exact q2, hA a (Array.getElem?_eq_some_iff.mp q3).1⟩, vk_OFof q1 (va_eqt hco) hA, vk_OFof q1 ht hA, hT, va_Zof (hts _ ls_cs) (hts _ in_st) (va_eqi hcs) hA, va_Zqof (hts _ ls_sf) (hts _ in_pc) hsf hA⟩, _, vk_R.of (A := args) (hts _ sr_62) q1⟩
