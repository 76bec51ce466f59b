/-! THE STRING CONSTANT: the JDK's length and charAt over it. The string is at the dangling place 0, its bytes at 1. -/
def sb : List Nat := [112, 51, 59, 112, 49, 59, 112, 53, 59, 112, 48, 59, 112, 50, 59, 116, 48, 44, 49, 50, 59, 116, 49, 44, 56, 59, 116, 51, 44, 49, 48, 59, 116, 50, 44, 54, 59, 116, 51, 44, 55, 59, 116, 48, 44, 51, 59, 108, 48, 44, 48, 44, 52, 59, 108, 49, 44, 50, 44, 54, 59, 108, 50, 44, 49, 44, 53, 59, 108, 50, 44, 52, 44, 57, 59, 108, 52, 44, 53, 44, 49, 50, 59, 108, 51, 44, 48, 44, 50, 48, 59]
theorem sb_len : sb.length = 91 := by decide
theorem sb_rng : ∀ j, j < 91 → 32 ≤ sb.getD j 0 ∧ sb.getD j 0 ≤ 126 := by decide +kernel
def SP (b v : Nat) (A : Nat → Prop) (U : State) (H : Heap) : Prop := va_O "java/lang/String" b A U H ∧ va_OF "java/lang/String" "coder" "B" (.int 0) b A U H ∧ va_OF "java/lang/String" "value" "[B" (.ref v) b A U H ∧ va_T .byte v 91 (fun j => .int (nI (sb.getD j 0))) A U H ∧ va_Z "java/lang/String" "COMPACT_STRINGS" "Z" (.int 1) A U H ∧ va_Zq "jdk/internal/util/Preconditions" "SIOOBE_FORMATTER" "Ljava/util/function/BiFunction;" A U H
theorem SP.kept {b v : Nat} {A : Nat → Prop} {U : State} {H H1 : Heap} (h : SP b v A U H) (hq : ∀ a : Nat, a < H.size → ¬ A a → H1[a]? = H[a]?) : SP b v A U H1 := by
  obtain ⟨h1, h2, h3, h4, h5, h6⟩ := h
  exact ⟨h1.kept hq, h2.kept hq, h3.kept hq, h4.kept hq, h5.kept hq, h6.imp (fun z => z.kept hq) (fun ⟨t, z⟩ => ⟨t, z.kept hq⟩)⟩
theorem SP.narrow {b v : Nat} {A B : Nat → Prop} {U : State} {H : Heap} (h : SP b v A U H) (hAB : ∀ q, B q → A q) : SP b v B U H := by
  obtain ⟨h1, h2, h3, h4, h5, h6⟩ := h
  exact ⟨h1.narrow hAB, h2.narrow hAB, h3.narrow hAB, h4.narrow hAB, h5.narrow hAB, h6.imp (fun z => z.narrow hAB) (fun ⟨t, z⟩ => ⟨t, z.narrow hAB⟩)⟩
theorem SP.moved {b v : Nat} {A : Nat → Prop} {u U : State} {H : Heap} (hvm : u.vm.Alike U.vm) (h : SP b v A u H) : SP b v A U H := by
  obtain ⟨h1, h2, h3, h4, h5, h6⟩ := h
  exact ⟨h1.moved hvm, h2.moved hvm, h3.moved hvm, h4.moved hvm, h5.moved hvm, h6.imp (fun z => z.moved hvm) (fun ⟨t, z⟩ => ⟨t, z.moved hvm⟩)⟩
def PS (D : va_G) (g : Nat → ClassId) (ad : Nat → Nat) (sz : Nat) (av : List Value) : Array Value → State → Prop := va_Pc (av.map (cz ad)) (fun U => U.heap.size = sz ∧ KK D g U ∧ SP (ad 0) (ad 1) (fun q => sz ≤ q) U U.heap)
theorem PS.blind {D : va_G} {g : Nat → ClassId} {ad : Nat → Nat} {sz : Nat} {av : List Value} : FrameBlind (PS D g ad sz av) := fun a U fr mk q => by
  obtain ⟨h0, h1, h2, h3⟩ := q
  exact ⟨h0, h1, h2.same rfl, SP.moved (u := U) (U := U.calling fr mk a) (Vm.Alike.refl U.vm) h3⟩
def QS (A0 : Nat → Prop) (ov : Option Value) : Array Value → State → Outcome → State → Prop := fun _ st oc t => oc = .returned ov ∧ va_F A0 st t
/-- a contract over the string: what it answers -/
def CS (l : Launch) (D : va_G) (g : Nat → ClassId) (y : MethodName) (cc : ByteArray) (maxL : Nat) (ret : Option FieldType) (rm : Room) (av : List Value) (r : Option Value) : Prop :=
  ∀ (ad : Nat → Nat) (sz : Nat), Met l y (Cond.code y cc maxL ret :: gw) rm (PS D g ad sz av) (QS (fun q => sz ≤ q) r) 0 0 (fun q => sz ≤ q)
def CrS (X : MC) (ret : Option FieldType) (r : Option Value) : Prop :=
  xQ X = MQ (xb X) (QS (xA X) r) (xa X) (xs X) 0 0 (xA X) ∧ (xh X).sig.returnType = ret ∧ (xh X).locks = false
theorem CS.of {l : Launch} {D : va_G} {g : Nat → ClassId} {y : MethodName} {cc : ByteArray} {maxL : Nat} {ret : Option FieldType} {rm : Room} {av : List Value} {r : Option Value} {own : String} (hy : plainName y.cls = true) (ho : y.cls = own) (hsl : (lg_sl av).length ≤ maxL) (lv0 : List (Nat × Value)) (hlv : lv_args 0 av = lv0)
    (body : ∀ (X : MC) (ad : Nat → Nat), Cx X l D g rm cc maxL own → SP (ad 0) (ad 1) (xA X) (xs X) (xs X).heap → CrS X ret r → Go X maxL ad 0 0 0 lv0 [] []) : CS l D g y cc maxL ret rm av r := by
  intro ad sz
  refine Met.ofW (cc := cc) (maxL := maxL) (ret := ret) hy rfl ?_
  intro p e s m args below meth c s₁ B hml hv
  obtain ⟨rfl, hsz, hK, hSP⟩ := hv
  subst hsz
  have hts := atoms_spec (ws := Cond.code y cc maxL ret :: gw) B.pre
  have hl := lv_entry (av.map (cz ad)) (n := maxL) (by rw [lg_sl_cz]; exact hsl)
  rw [lg_entry_eq]
  rw [lv_args_cz, hlv] at hl
  exact body (p, l, e, rm, s, m, (av.map (cz ad)).toArray, below, meth, c, D, (fun q => s.heap.size ≤ q), MQ below (QS (fun q => s.heap.size ≤ q) r) (av.map (cz ad)).toArray s 0 0 (fun q => s.heap.size ≤ q)) ad
    ⟨B.exec, B.bytes, hml, by rw [← ho]; exact findClass_of_methodNamed B.named, fun x hx => hts x (List.mem_cons_of_mem _ hx), hK, fun q hq => hq, rfl, rfl, rfl⟩ hSP ⟨rfl, B.returns, B.notSynchronized⟩ s.heap [] _ (fun k q h => by simp [cw] at h) ⟨fun i j p q h => by simp [cw] at h, fun k q h => by simp [cw] at h⟩ va_S.rf hl
section GoStr
variable {X : MC} {l : Launch} {D : va_G} {g : Nat → ClassId} {rm : Room} {cc : ByteArray} {nL : Nat} {own : String} {ad : Nat → Nat} {cu su pc : Nat} {lv : List (Nat × Value)} {st : List Value} {w : List va_E}
theorem gSret (hC : Cx X l D g rm cc nL own) {ty : FieldType} {v : Int32} (hr : CrS X (some ty) (some (.int v))) (hn : narrow ty (.int v) = .int v) (hd : decode cc pc = .ok (.ireturn, 1)) : Go X nL ad 0 0 pc lv [.int v] w := fun H locs ls hP hD hS hl => by
  rw [hr.1]
  exact W.zret hC.1 hC.2.1 hr.2.1 hn (fun t ht hW => ⟨rfl, hS.F ht⟩) hS.2.2 hd hr.2.2
theorem gSvret (hC : Cx X l D g rm cc nL own) (hr : CrS X none none) (hd : decode cc pc = .ok (.return_, 1)) : Go X nL ad 0 0 pc lv [] w := fun H locs ls hP hD hS hl => by
  rw [hr.1]
  exact W.vret hC.1 hC.2.1 hr.2.1 (fun t ht hW => ⟨rfl, hS.F ht⟩) hS.2.2 hd hr.2.2
theorem gSgetC (hC : Cx X l D g rm cc nL own) {kb kv ix : Nat} (hSP : SP (ad kb) (ad kv) (xA X) (xs X) (xs X).heap) (hlk : Cond.fieldLink own ix "java/lang/String" "coder" "B" ∈ gw) (hd : decode cc pc = .ok (.getfield ix, 3)) (kk : Go X nL ad cu su (pc + 3) lv (.int 0 :: st) w) : Go X nL ad cu su pc lv (.ref kb :: st) w := fun H locs ls hP hD hS hl =>
  vk_getf hC.1 hC.2.1 hSP.2.1 hS hC.2.2.2.1 (hC.2.2.2.2.1 _ hlk) (fun _ h => h) hd (kk H locs ls hP hD hS hl)
theorem gSgetV (hC : Cx X l D g rm cc nL own) {kb kv ix : Nat} (hSP : SP (ad kb) (ad kv) (xA X) (xs X) (xs X).heap) (hlk : Cond.fieldLink own ix "java/lang/String" "value" "[B" ∈ gw) (hd : decode cc pc = .ok (.getfield ix, 3)) (kk : Go X nL ad cu su (pc + 3) lv (.ref kv :: st) w) : Go X nL ad cu su pc lv (.ref kb :: st) w := fun H locs ls hP hD hS hl =>
  vk_getf hC.1 hC.2.1 hSP.2.2.1 hS hC.2.2.2.1 (hC.2.2.2.2.1 _ hlk) (fun _ h => h) hd (kk H locs ls hP hD hS hl)
theorem gSlen (hC : Cx X l D g rm cc nL own) {kb kv : Nat} (hSP : SP (ad kb) (ad kv) (xA X) (xs X) (xs X).heap) (hd : decode cc pc = .ok (.arraylength, 1)) (kk : Go X nL ad cu su (pc + 1) lv (.int 91 :: st) w) : Go X nL ad cu su pc lv (.ref kv :: st) w := fun H locs ls hP hD hS hl =>
  va_tlen hC.1 hC.2.1 hSP.2.2.2.1 hS rfl hd (kk H locs ls hP hD hS hl)
theorem gSld (hC : Cx X l D g rm cc nL own) {kb kv i : Nat} (hSP : SP (ad kb) (ad kv) (xA X) (xs X) (xs X).heap) (hi : i < 91) (hd : decode cc pc = .ok (.baload, 1)) (kk : Go X nL ad cu su (pc + 1) lv (.int (nI (sb.getD i 0)) :: st) w) : Go X nL ad cu su pc lv (.int (nI i) :: .ref kv :: st) w := fun H locs ls hP hD hS hl =>
  va_tb hC.1 hC.2.1 hSP.2.2.2.1 hS (inN hi (by omega)) (v := .int (nI (sb.getD i 0))) (by show Value.int (nI (sb.getD (Int32.toNatClampNeg (nI i)) 0)) = _; rw [cl (by omega)]) hd (kk H locs ls hP hD hS hl)
theorem gScomp (hC : Cx X l D g rm cc nL own) {kb kv ix : Nat} (hSP : SP (ad kb) (ad kv) (xA X) (xs X) (xs X).heap) (hlk : Cond.fieldLink own ix "java/lang/String" "COMPACT_STRINGS" "Z" ∈ gw) (hd : decode cc pc = .ok (.getstatic ix, 3)) (kk : Go X nL ad cu su (pc + 3) lv (.int 1 :: st) w) : Go X nL ad cu su pc lv st w := fun H locs ls hP hD hS hl =>
  va_gets hC.1 hC.2.1 hSP.2.2.2.2.1 hS hC.2.2.2.1 (hC.2.2.2.2.1 _ hlk) (fun _ h => h) hd (kk H locs ls hP hD hS hl)
/-- the formatter: null, or something at a place that nothing else is at -/
theorem gSform (hC : Cx X l D g rm cc nL own) {kb kv ix n : Nat} (hSP : SP (ad kb) (ad kv) (xA X) (xs X) (xs X).heap) (hlk : Cond.fieldLink own ix "jdk/internal/util/Preconditions" "SIOOBE_FORMATTER" "Ljava/util/function/BiFunction;" ∈ gw) (hd : decode cc pc = .ok (.getstatic ix, 3)) (hn : w.length ≤ n) (hfw : w.all (frE n (n + 1)) = true) (hfl : lv.all (fun q => frV n (n + 1) q.2) = true) (hfs : st.all (frV n (n + 1)) = true) (kk : ∀ (ad' : Nat → Nat) (v : Value), v = .null ∨ v = .ref n → Go X nL ad' cu su (pc + 3) lv (v :: st) w) : Go X nL ad cu su pc lv st w := fun H locs ls hP hD hS hl => by
  rcases hSP.2.2.2.2.2 with z | ⟨t, z⟩
  · exact va_gets hC.1 hC.2.1 z hS hC.2.2.2.1 (hC.2.2.2.2.1 _ hlk) (fun _ h => h) hd (kk ad .null (Or.inl rfl) H locs ls hP hD hS hl)
  · refine va_gets hC.1 hC.2.1 z hS hC.2.2.2.1 (hC.2.2.2.2.1 _ hlk) (fun _ h => h) hd ?_
    have := kk (adr ad n 1 (fun _ => t)) (.ref n) (Or.inr rfl) H locs ls (by rw [cw_fr hfw hn]; exact hP) (by rw [cw_fr hfw hn]; exact hD) hS (by rw [clv_fr hfl]; exact hl)
    have es : cst (adr ad n 1 (fun _ => t)) (.ref n :: st) = .ref t :: cst ad st := by
      show Value.ref (adr ad n 1 (fun _ => t) n) :: cst (adr ad n 1 (fun _ => t)) st = _
      rw [cst_fr hfs]
      have e1 : adr ad n 1 (fun _ => t) n = t := if_pos ⟨Nat.le_refl _, by omega⟩
      rw [e1]
    rw [es] at this
    exact this
/-- behind a call over the string: all is as it was -/
theorem gTailS (hC : Cx X l D g rm cc nL own) {H : Heap} {locs : List Loc} {ls : Array Slot} {r : Option Value} {st0 : List Value} {aa : Array Value} (hr : r.map (cz ad) = r) (hP : va_P (xD X) vwCl (cw ad w) H) (hD : va_D (xA X) (cw ad w)) (hS : va_S (xA X) (xs X).heap H locs) (hl : lv_has ls nL (clv ad lv))
    (hrun : va_Run (xp X) (xl X) (xe X) (xR X) (xs X) (xm X) (xa X) (xb X) (xh X) (xc X) H locs cu su 0 0 (F0 (xm X) pc ls st0) (cst ad st) (QS (fun q => H.size ≤ q) r aa) (fun q => H.size ≤ q))
    (kk : Go X nL ad cu su (pc + 3) lv (r.toList ++ st) w) :
    W (xp X) (xl X) (xe X) (xR X) (xs X) (xm X) (xa X) (xb X) (xh X) (xc X) H locs cu su (xQ X) (F0 (xm X) pc ls st0) := by
  intro T hT XX
  obtain ⟨v, st₀, t, T', L, h0, X', hL, e1, e2, ⟨hv, hz, hk⟩, stp⟩ := hrun T hT XX
  cases hv
  rw [h0] at hz hk
  have hfree : ∀ q, H.size ≤ q → xA X q := fun q hq => hC.2.2.2.2.2.2.1 q (Nat.le_trans hS.1 hq)
  have hkk : ∀ q, q < H.size → t.heap[q]? = H[q]? := fun q hq => hk q hq (by omega)
  have hS' : va_S (xA X) (xs X).heap t.heap (locs ++ L) := ⟨Nat.le_trans hS.1 hz, fun q h1 h2 => by rw [hkk q (Nat.lt_of_lt_of_le h1 hS.1)]; exact hS.2.1 q h1 h2, fun q hq => by
      rcases List.mem_append.mp hq with h | h
      · exact hS.2.2 q h
      · exact hfree _ (hL q h)⟩
  obtain ⟨t2, a1, b1⟩ := kk t.heap (locs ++ L) ls (fun k q hq => (hP k q hq).kept (hkk q.1 (hP k q hq).lt)) hD hS' hl T' e1 X'
  refine ⟨t2, stp t2 ?_, b1⟩
  have es : r.toList ++ cst ad st = cst ad (r.toList ++ st) := by
    cases r with
    | none => rfl
    | some v => show v :: cst ad st = cz ad v :: cst ad st; rw [Option.some.inj hr]
  rw [es]
  exact a1
theorem gCallT (hC : Cx X l D g rm cc nL own) {y : MethodName} {ccy : ByteArray} {mLy n ix kb : Nat} {rety : Option FieldType} {rmy : Room} {av : List Value} {r : Option Value} {st0 : List Value} (hSP : SP (ad kb) (ad (kb + 1)) (xA X) (xs X) (xs X).heap) (hM : CS l D g y ccy mLy rety rmy (.ref 0 :: av) r) (hcu : cu ≤ rm.cells ∧ su ≤ rm.slots)
    (hd : decode cc pc = .ok (.invokevirtual ix, 3)) (hlk : Cond.methodLink own ix y ∈ gw) (hy : MVok y ccy mLy rety n) (hyc : y.cls = "java/lang/String") (hrm : RMok rmy mLy rm) (hn : av.length = n) (hr : ∀ ad' : Nat → Nat, r.map (cz ad') = r) (hst : st0 = (av.map (shV kb)).reverse ++ .ref kb :: st) (hcat : (st.map fun v => v.category).sum ≤ 8)
    (kk : Go X nL ad cu su (pc + 3) lv (r.toList ++ st) w) : Go X nL ad cu su pc lv st0 w := fun H locs ls hP hD hS hl => by
  obtain ⟨m1, m2, m3, m4, m5, m6⟩ := hy
  obtain ⟨r1, r2, r3, r4⟩ := hrm
  have hts := hC.2.2.2.2.1
  have hl' : xl X = l := hC.2.2.2.2.2.2.2.1
  have hDD : xD X = D := hC.2.2.2.2.2.2.2.2.1
  have hRR : xR X = rm := hC.2.2.2.2.2.2.2.2.2
  have hM1 := hM (fun i => ad (kb + i)) H.size
  rw [← hl'] at hM1
  have hsz : ls.size = nL := hl.1
  have hKs : KK (xD X) g (xs X) := by rw [hDD]; exact hC.2.2.2.2.2.1
  have hSPc : SP (ad kb) (ad (kb + 1)) (fun q => H.size ≤ q) (xs X) H := (hSP.kept hS.2.1).narrow (fun q hq => hC.2.2.2.2.2.2.1 q (Nat.le_trans hS.1 hq))
  have cw1 : CallW (xR X) (xs X) (xa X) own y.cls ix y ccy mLy rety (Cond.code y ccy mLy rety :: gw) rmy 0 0 n := by
    refine ⟨callB_of n hts (gw_in m4) rfl r1 r2 (hts _ m3) (hts _ hlk) ⟨m5.1, m5.2, m6⟩ (by rw [hRR]; exact ⟨r3, r4⟩), hts _ m1, hts _ m2⟩
  have ecz : av.map (cz (fun i => ad (kb + i))) = (av.map (shV kb)).map (cz ad) := by
    rw [List.map_map]
    exact List.map_congr_left (fun v _ => by cases v <;> rfl)
  obtain ⟨cell, q1, q2, q3, -⟩ := hSPc.1
  refine gTailS (aa := (Value.ref (ad kb) :: av.map (cz (fun i => ad (kb + i)))).toArray) hC (hr ad) hP hD hS hl ?_ kk
  refine va_runV (l := xl X) (e := xe X) (R := xR X) (below := xb X) (meth := xh X) (H := H) (locs := locs) (cells := cu) (slots := su) (C := y.cls) (b := ad kb) (As := av.map (cz (fun i => ad (kb + i)))) (rest := cst ad st) (g := F0 (xm X) pc ls (cst ad st0)) (nL := nL) (Ts := gw) ⟨hC.1, hC.2.1, hC.2.2.1, hC.2.2.2.1, hts⟩ hM1 cw1
    ⟨PS.blind, ⟨cell, q1, q2, by rw [hyc]; exact q3⟩, fun U hU hW => ⟨rfl, by rw [hU], by rw [← hDD]; exact hKs.warm hW, by rw [hU]; exact hSPc.moved hW.alike⟩⟩ rfl (by rw [List.length_map]; exact hn) hsz ?_ (lv_room (by rw [cat_cst]; exact hcat)) hd (by rw [hRR]; exact hcu)
  show cst ad st0 = _
  rw [hst, ecz]
  unfold cst
  rw [List.map_append, List.map_reverse]
  rfl
theorem gCallTS (hC : Cx X l D g rm cc nL own) {y : MethodName} {ccy : ByteArray} {mLy n ix kb : Nat} {rety : Option FieldType} {rmy : Room} {av : List Value} {r : Option Value} {st0 : List Value} (hSP : SP (ad kb) (ad (kb + 1)) (xA X) (xs X) (xs X).heap) (hM : CS l D g y ccy mLy rety rmy av r) (hcu : cu ≤ rm.cells ∧ su ≤ rm.slots)
    (hd : decode cc pc = .ok (.invokestatic ix, 3)) (hlk : Cond.methodLink own ix y ∈ gw) (hy : MSok y ccy mLy rety n) (hrm : RMok rmy mLy rm) (hn : av.length = n) (hr : ∀ ad' : Nat → Nat, r.map (cz ad') = r) (hst : st0 = (av.map (shV kb)).reverse ++ st) (hcat : (st.map fun v => v.category).sum ≤ 8)
    (kk : Go X nL ad cu su (pc + 3) lv (r.toList ++ st) w) : Go X nL ad cu su pc lv st0 w := fun H locs ls hP hD hS hl => by
  obtain ⟨m1, m3, m4, m5, m6⟩ := hy
  obtain ⟨r1, r2, r3, r4⟩ := hrm
  have hts := hC.2.2.2.2.1
  have hl' : xl X = l := hC.2.2.2.2.2.2.2.1
  have hDD : xD X = D := hC.2.2.2.2.2.2.2.2.1
  have hRR : xR X = rm := hC.2.2.2.2.2.2.2.2.2
  have hM1 := hM (fun i => ad (kb + i)) H.size
  rw [← hl'] at hM1
  have hsz : ls.size = nL := hl.1
  have hKs : KK (xD X) g (xs X) := by rw [hDD]; exact hC.2.2.2.2.2.1
  have hSPc : SP (ad kb) (ad (kb + 1)) (fun q => H.size ≤ q) (xs X) H := (hSP.kept hS.2.1).narrow (fun q hq => hC.2.2.2.2.2.2.1 q (Nat.le_trans hS.1 hq))
  have ecz : av.map (cz (fun i => ad (kb + i))) = (av.map (shV kb)).map (cz ad) := by
    rw [List.map_map]
    exact List.map_congr_left (fun v _ => by cases v <;> rfl)
  refine gTailS (aa := (av.map (cz (fun i => ad (kb + i)))).toArray) hC (hr ad) hP hD hS hl ?_ kk
  refine va_runS (l := xl X) (e := xe X) (R := xR X) (below := xb X) (meth := xh X) (H := H) (locs := locs) (cells := cu) (slots := su) (As := av.map (cz (fun i => ad (kb + i)))) (rest := cst ad st) (g := F0 (xm X) pc ls (cst ad st0)) (nL := nL) (Ts := gw) ⟨hC.1, hC.2.1, hC.2.2.1, hC.2.2.2.1, hts⟩ hM1 ⟨callB_of n hts (gw_in m4) rfl r1 r2 (hts _ m3) (hts _ hlk) ⟨m5.1, m5.2, m6⟩ (by rw [hRR]; exact ⟨r3, r4⟩), hts _ m1⟩
    ⟨PS.blind, fun U hU hW => ⟨rfl, by rw [hU], by rw [← hDD]; exact hKs.warm hW, by rw [hU]; exact hSPc.moved hW.alike⟩⟩ rfl (by rw [List.length_map]; exact hn) hsz ?_ (lv_room (by rw [cat_cst]; exact hcat)) hd (by rw [hRR]; exact hcu)
  show cst ad st0 = _
  rw [hst, ecz]
  unfold cst
  rw [List.map_append, List.map_reverse]
end GoStr
