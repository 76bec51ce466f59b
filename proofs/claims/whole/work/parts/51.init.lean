/-! CONSTRUCTORS: their contracts and calls -/
def shV (k : Nat) : Value → Value
  | .ref i => .ref (k + i)
  | v => v
def shE (k : Nat) : va_E → va_E
  | .inl a => .inl a
  | .inr q => .inr (q.1, q.2.map (shV k))
theorem cz_sh {ad adc : Nat → Nat} {k n : Nat} {v : Value} (h : ∀ i, i < n → ad (k + i) = adc i) (hv : inV n v = true) : cz ad (shV k v) = cz adc v := by
  cases v with
  | ref i =>
    have h1 : Nat.ble (Nat.succ i) n = true := hv
    show Value.ref (ad (k + i)) = Value.ref (adc i)
    rw [h i (Nat.le_of_ble_eq_true h1)]
  | _ => rfl
theorem ce_sh {ad adc : Nat → Nat} {k n : Nat} {e : va_E} (h : ∀ i, i < n → ad (k + i) = adc i) (he : inE n e = true) : ce ad (shE k e) = ce adc e := by
  cases e with
  | inl a => rfl
  | inr q =>
    have h1 : q.2.all (inV n) = true := he
    rw [List.all_eq_true] at h1
    show Sum.inr (q.1, (q.2.map (shV k)).map (cz ad)) = Sum.inr (q.1, q.2.map (cz adc))
    rw [List.map_map]
    congr 2
    exact List.map_congr_left (fun v hv => cz_sh h (h1 v hv))
/-- the caller's cells, then the made ones -/
theorem cw_sh {ad adc : Nat → Nat} {wr w' : List va_E} {n : Nat} (hn : w'.length = n) (h0 : ad wr.length = adc 0) (hin : w'.all (inE n) = true) (hfr : wr.all (frE (wr.length + 1) (wr.length + 1 + (n - 1))) = true) : cw (adr ad (wr.length + 1) (n - 1) (fun j => adc (j + 1))) (wr ++ w'.map (shE wr.length)) = cw ad wr ++ cw adc w' := by
  have hA : ∀ i, i < n → adr ad (wr.length + 1) (n - 1) (fun j => adc (j + 1)) (wr.length + i) = adc i := fun i hi => by
    by_cases e : i = 0
    · rw [e, Nat.add_zero, adr_out (by omega)]; exact h0
    · have e1 : adr ad (wr.length + 1) (n - 1) (fun j => adc (j + 1)) (wr.length + i) = adc (wr.length + i - (wr.length + 1) + 1) := if_pos ⟨by omega, by omega⟩
      rw [e1]
      congr 1
      omega
  rw [List.all_eq_true] at hin
  have e0 : cw (adr ad (wr.length + 1) (n - 1) (fun j => adc (j + 1))) wr = cw ad wr := cw_fr hfr (by omega)
  rw [← e0]
  apply List.ext_getElem?
  intro i
  rw [cw_get]
  by_cases hi : i < wr.length
  · rw [List.getElem?_append_left hi, List.getElem?_append_left (by rw [cw_len]; exact hi), cw_get]
  · rw [List.getElem?_append_right (by omega), List.getElem?_append_right (by rw [cw_len]; omega), cw_len, cw_get, List.getElem?_map]
    cases hw : w'[i - wr.length]? with
    | none => rfl
    | some e =>
      have hl := (List.getElem?_eq_some_iff.mp hw).1
      show some (adr ad (wr.length + 1) (n - 1) (fun j => adc (j + 1)) i, ce (adr ad (wr.length + 1) (n - 1) (fun j => adc (j + 1))) (shE wr.length e)) = some (adc (i - wr.length), ce adc e)
      have h2 := hA (i - wr.length) (by omega)
      rw [show wr.length + (i - wr.length) = i by omega] at h2
      rw [h2, ce_sh hA (hin e (List.mem_of_getElem? hw))]
/-- a constructor's end -/
def QN (D : va_G) (A0 : Nat → Prop) (ad : Nat → Nat) (n1 : Nat) (Qa : List va_E → Prop) : Array Value → State → Outcome → State → Prop := fun _ st oc t =>
  (∃ (ad' : Nat → Nat) (w' : List va_E), ad' 0 = ad 0 ∧ oc = .returned none ∧ Qa w' ∧ w'.length = n1 ∧ w'.all (inE n1) = true ∧ va_P D vwCl (cw ad' w') t.heap ∧ va_D A0 (cw ad' w')) ∧ va_F A0 st t
/-- THE CONTRACT of a constructor: its object (one cell), the cells behind it by Qa -/
def CN (l : Launch) (D : va_G) (g : Nat → ClassId) (y : MethodName) (cc : ByteArray) (maxL : Nat) (rm : Room) (mc ms : Nat) (av : List Value) (e0 : va_E) (n1 : Nat) (Qa : List va_E → Prop) : Prop :=
  ∀ (ad : Nat → Nat) (sz : Nat), Met l y (Cond.code y cc maxL none :: gw) rm (PX D g ad sz av [e0]) (QN D (va_A (cw ad [e0]) sz) ad n1 Qa) mc ms (va_A (cw ad [e0]) sz)
def CrN (X : MC) (ad : Nat → Nat) (n1 mc ms : Nat) (Qa : List va_E → Prop) : Prop :=
  xQ X = MQ (xb X) (QN (xD X) (xA X) ad n1 Qa) (xa X) (xs X) mc ms (xA X) ∧ (xh X).sig.returnType = none ∧ (xh X).locks = false ∧ (xh X).name = "<init>"
theorem CN.of {l : Launch} {D : va_G} {g : Nat → ClassId} {y : MethodName} {cc : ByteArray} {maxL mc ms n1 : Nat} {rm : Room} {av : List Value} {e0 : va_E} {Qa : List va_E → Prop} {own : String} (hy : plainName y.cls = true) (ho : y.cls = own) (hyn : y.name = "<init>") (hsl : (lg_sl av).length ≤ maxL) (lv0 : List (Nat × Value)) (hlv : lv_args 0 av = lv0)
    (body : ∀ (X : MC) (ad : Nat → Nat), Cx X l D g rm cc maxL own → CrN X ad n1 mc ms Qa → Go X maxL ad 0 0 0 lv0 [] [e0]) : CN l D g y cc maxL rm mc ms av e0 n1 Qa := by
  intro ad sz
  refine Met.ofW (cc := cc) (maxL := maxL) (ret := none) hy rfl ?_
  intro p e s m args below meth c s₁ B hml hv
  obtain ⟨rfl, hsz, hP, hK, hD0⟩ := hv
  subst hsz
  have hD := hD0.self (sz := s.heap.size)
  have hts := atoms_spec (ws := Cond.code y cc maxL none :: gw) B.pre
  have hl := lv_entry (av.map (cz ad)) (n := maxL) (by rw [lg_sl_cz]; exact hsl)
  rw [lg_entry_eq]
  rw [lv_args_cz, hlv] at hl
  exact body (p, l, e, rm, s, m, (av.map (cz ad)).toArray, below, meth, c, D, va_A (cw ad [e0]) s.heap.size, MQ below (QN D (va_A (cw ad [e0]) s.heap.size) ad n1 Qa) (av.map (cz ad)).toArray s mc ms (va_A (cw ad [e0]) s.heap.size)) ad
    ⟨B.exec, B.bytes, hml, by rw [← ho]; exact findClass_of_methodNamed B.named, fun x hx => hts x (List.mem_cons_of_mem _ hx), hK, fun q hq => Or.inr hq, rfl, rfl, rfl⟩ ⟨rfl, B.returns, B.notSynchronized, by rw [← hyn]; exact (name_of_methodNamed B.named B.method).1⟩ s.heap [] _ hP hD va_S.rf hl
section GoInit
variable {X : MC} {l : Launch} {D : va_G} {g : Nat → ClassId} {rm : Room} {cc : ByteArray} {nL : Nat} {own : String} {ad : Nat → Nat} {cu su pc : Nat} {lv : List (Nat × Value)} {st : List Value} {w : List va_E}
theorem gVretN (hC : Cx X l D g rm cc nL own) {ad0 : Nat → Nat} {n1 mc ms : Nat} {Qa : List va_E → Prop} (hr : CrN X ad0 n1 mc ms Qa) (hcu : cu ≤ mc ∧ su ≤ ms) (h0 : ad 0 = ad0 0) (hd : decode cc pc = .ok (.return_, 1)) (hn : w.length = n1) (hin : w.all (inE n1) = true) (hq : Qa w) : Go X nL ad cu su pc lv [] w := fun H locs ls hP hD hS hl => by
  rw [hr.1]
  exact W.widen hcu.1 hcu.2 (W.vret hC.1 hC.2.1 hr.2.1 (fun t ht hW => ⟨⟨ad, w, h0, rfl, hq, hn, hin, by rw [ht]; exact hP, hD⟩, hS.F ht⟩) hS.2.2 hd hr.2.2.1)
/-- a final field, in its constructor -/
def FFok (own : String) (ix ci k : Nat) (ty : FieldType) : Prop := ∃ (C : String) (T : u_T) (N : Nat) (ty0 : Nat → FieldType), vwCl[ci]? = some (C, T, N) ∧ k < N ∧ (∀ x ∈ u_ws C T N, x ∈ gw) ∧ (T k).1 = C ∧ Cond.fieldLink own ix C (T k).2.1 (T k).2.2.1 ∈ gw ∧ (T k).2.2.2 = true ∧ (∀ j, j < N → parseFieldDescriptor (T j).2.2.1 = some (ty0 j)) ∧ (∀ a, a < N → ∀ b, b < N → a ≠ b → (T a).2.1 ≠ (T b).2.1) ∧ parseFieldDescriptor (T k).2.2.1 = some ty ∧ (T k).1 = own
theorem gPutF (hC : Cx X l D g rm cc nL own) (hnm : (xh X).name = "<init>") {ix ci k q : Nat} {ty : FieldType} {fs : List Value} {v : Value} (w' : List va_E) (hd : decode cc pc = .ok (.putfield ix, 3)) (hf : FFok own ix ci k ty) (hw : w[q]? = some (.inr (ci, fs))) (hn : narrow ty v = v) (hft : fits ty v = true) (hk : k < fs.length) (hw' : w.set q (.inr (ci, fs.set k v)) = w') (kk : Go X nL ad cu su (pc + 3) lv st w') : Go X nL ad cu su pc lv (v :: .ref q :: st) w := fun H locs ls hP hD hS hl => by
  obtain ⟨cN, cT, cM, ty0, h1, h2, h3, h4, h5, h6, h7, h8, h9, h10⟩ := hf
  subst hw'
  have hKs : va_K (xD X) vwCl (tysG g) (xs X) := by rw [hC.2.2.2.2.2.2.2.2.1]; exact hC.2.2.2.2.2.1.1
  refine va_putF hC.1 hC.2.1 hC.2.2.2.2.1 h3 ty0 h7 h8 hC.2.2.2.1 hKs hP hD hS q (cw_at hw) h1 k h2 (hC.2.2.2.2.1 _ h5) (fun _ h9 => by rw [h4] at h9; exact h9) h6 hnm h10 h9 (cz_nar hn) (cz_fit hft) (by rw [List.length_map]; exact hk) hd (fun H1 locs1 hP1 hD1 hS1 => ?_)
  have e : (cw ad w).set q (ad q, .inr (ci, (fs.map (cz ad)).set k (cz ad v))) = cw ad (w.set q (.inr (ci, fs.set k v))) := by
    rw [cw_set]
    show _ = (cw ad w).set q (ad q, .inr (ci, (fs.set k v).map (cz ad)))
    rw [List.map_set]
  rw [e] at hP1 hD1
  exact kk H1 locs1 ls hP1 hD1 hS1 hl
theorem gObjInit (hC : Cx X l D g rm cc nL own) {ix q : Nat} (hd : decode cc pc = .ok (.invokespecial ix, 3)) (hlk : Cond.methodLink own ix Lib.objectInit ∈ gw) (hin : Cond.instanceMethod Lib.objectInit ∈ gw) (hco : Cond.code Lib.objectInit ⟨#[0xb1]⟩ 1 none ∈ gw) (hf : 1 ≤ rm.frames) (hlo : (st.map fun v => v.category).sum + 12 ≤ rm.locals) (kk : Go X nL ad cu su (pc + 3) lv st w) : Go X nL ad cu su pc lv (.ref q :: st) w := fun H locs ls hP hD hS hl => by
  have hts := hC.2.2.2.2.1
  have hRR : xR X = rm := hC.2.2.2.2.2.2.2.2.2
  refine W.objInit (a := ad q) (rest := cst ad st) hC.1 hC.2.1 hC.2.2.2.1 (hts _ hlk) (hts _ hin) (hts _ hco) rfl (by rw [hC.2.2.1]; exact hl.1) rfl hd (by rw [hRR]; exact hf) ?_ (W.eq (g2 := F0 (xm X) (pc + 3) ls (cst ad st)) rfl (kk H locs ls hP hD hS hl))
  rw [hRR, cat_cst]
  show 2 * 0 + _ + 12 ≤ _
  omega
/-- behind a constructor's call -/
theorem gTailN (hC : Cx X l D g rm cc nL own) {H : Heap} {locs : List Loc} {ls : Array Slot} {wr : List va_E} {e0 : va_E} {n1 mc ms k a : Nat} {Qa : List va_E → Prop} {st0 : List Value} {aa : Array Value} (hw : w = wr ++ [e0]) (he0 : ∀ ad', ce ad' e0 = e0) (hP : va_P (xD X) vwCl (cw ad w) H) (hD : va_D (xA X) (cw ad w)) (hS : va_S (xA X) (xs X).heap H locs) (hl : lv_has ls nL (clv ad lv))
    (hk : ad k = a) (hkn : frV (wr.length + 1) (wr.length + 1 + (n1 - 1)) (.ref k) = true) (hfw : wr.all (frE (wr.length + 1) (wr.length + 1 + (n1 - 1))) = true) (hfl : lv.all (fun q => frV (wr.length + 1) (wr.length + 1 + (n1 - 1)) q.2) = true) (hfs : st.all (frV (wr.length + 1) (wr.length + 1 + (n1 - 1))) = true)
    (hrun : va_Run (xp X) (xl X) (xe X) (xR X) (xs X) (xm X) (xa X) (xb X) (xh X) (xc X) H locs cu su mc ms (F0 (xm X) pc ls st0) (cst ad st) (QN D (va_A (cw (fun i => ad (wr.length + i)) [e0]) H.size) (fun i => ad (wr.length + i)) n1 Qa aa) (va_A (cw (fun i => ad (wr.length + i)) [e0]) H.size))
    (kk : ∀ (ad' : Nat → Nat) (wc : List va_E), ad' k = a → Qa wc → wc.length = n1 → Go X nL ad' (cu + mc) (su + ms) (pc + 3) lv st (wr ++ wc.map (shE wr.length))) :
    W (xp X) (xl X) (xe X) (xR X) (xs X) (xm X) (xa X) (xb X) (xh X) (xc X) H locs cu su (xQ X) (F0 (xm X) pc ls st0) := by
  subst hw
  intro T hT XX
  obtain ⟨v, st₀, t, T', L, h0, X', hL, e1, e2, ⟨⟨ad1, wc, ha, hv, hQ, hlen, hin, hP1, hD1⟩, hz, hkk⟩, stp⟩ := hrun T hT XX
  cases hv
  rw [h0] at hz hkk
  have hDD : xD X = D := hC.2.2.2.2.2.2.2.2.1
  rw [← hDD] at hP1
  have ha0 : ad wr.length = ad1 0 := ha.symm
  have ecw : cw ad (wr ++ [e0]) = cw ad wr ++ [(ad wr.length, e0)] := by
    apply List.ext_getElem?
    intro i
    rw [cw_get]
    by_cases hi : i < wr.length
    · rw [List.getElem?_append_left hi, List.getElem?_append_left (by rw [cw_len]; exact hi), cw_get]
    · rw [List.getElem?_append_right (by omega), List.getElem?_append_right (by rw [cw_len]; omega), cw_len]
      by_cases hzz : i = wr.length
      · rw [hzz, Nat.sub_self]
        show some (ad wr.length, ce ad e0) = some (ad wr.length, e0)
        rw [he0]
      · have q1 : ([e0] : List va_E)[i - wr.length]? = none := List.getElem?_eq_none (by show 1 ≤ i - wr.length; omega)
        have q2 : ([(ad wr.length, e0)] : va_W)[i - wr.length]? = none := List.getElem?_eq_none (by show 1 ≤ i - wr.length; omega)
        rw [q1, q2]
        rfl
  rw [ecw] at hP hD
  have hlast : (cw ad wr ++ [(ad wr.length, e0)])[wr.length]? = some (ad wr.length, e0) := by
    rw [List.getElem?_append_right (by rw [cw_len]; omega), cw_len, Nat.sub_self]; rfl
  have hpre : ∀ (i : Nat) (q : Nat × va_E), (cw ad wr)[i]? = some q → (cw ad wr ++ [(ad wr.length, e0)])[i]? = some q ∧ i < wr.length := fun i q hq => by
    have hi : i < (cw ad wr).length := (List.getElem?_eq_some_iff.mp hq).1
    refine ⟨by rw [List.getElem?_append_left hi]; exact hq, ?_⟩
    rw [cw_len] at hi; exact hi
  have hAc : ∀ q, va_A (cw (fun i => ad (wr.length + i)) [e0]) H.size q → q = ad wr.length ∨ H.size ≤ q := fun q hq => by
    rcases hq with ⟨i, e, hh⟩ | hh
    · left
      rw [cw_get] at hh
      have hi : i = 0 := by
        rcases Nat.eq_zero_or_pos i with z | z
        · exact z
        · have : ([e0] : List va_E)[i]? = none := List.getElem?_eq_none (by show 1 ≤ i; omega)
          rw [this] at hh; cases hh
      rw [hi] at hh
      have hh2 : some (ad (wr.length + 0), ce (fun i => ad (wr.length + i)) e0) = some (q, e) := hh
      have := congrArg Prod.fst (Option.some.inj hh2)
      exact this.symm
    · exact Or.inr hh
  have hfree : ∀ q, va_A (cw (fun i => ad (wr.length + i)) [e0]) H.size q → xA X q := fun q hq => by
    rcases hAc q hq with z | z
    · rw [z]; exact hD.2 wr.length _ hlast
    · exact hC.2.2.2.2.2.2.1 q (Nat.le_trans hS.1 z)
  have apart : ∀ (i : Nat) (q : Nat × va_E), (cw ad wr)[i]? = some q → q.1 < H.size ∧ ¬ va_A (cw (fun i => ad (wr.length + i)) [e0]) H.size q.1 := fun i q hq => by
    obtain ⟨p1, p2⟩ := hpre i q hq
    have hlt := (hP i q p1).lt
    refine ⟨hlt, fun hA => ?_⟩
    rcases hAc _ hA with z | z
    · have := hD.1 i wr.length q _ p1 hlast z
      omega
    · omega
  have key := cw_sh (ad := ad) (adc := ad1) (wr := wr) (w' := wc) hlen ha0 hin hfw
  have hkr : adr ad (wr.length + 1) (n1 - 1) (fun j => ad1 (j + 1)) k = a := by
    rw [adr_out (fr_no k hkn)]; exact hk
  have hS' : va_S (xA X) (xs X).heap t.heap (locs ++ L) := ⟨Nat.le_trans hS.1 hz, fun q h1 h2 => by rw [hkk q (Nat.lt_of_lt_of_le h1 hS.1) (fun z => h2 (hfree q z))]; exact hS.2.1 q h1 h2, fun q hq => by
      rcases List.mem_append.mp hq with h | h
      · exact hS.2.2 q h
      · exact hfree _ (hL q h)⟩
  obtain ⟨t2, a1, b1⟩ := kk (adr ad (wr.length + 1) (n1 - 1) (fun j => ad1 (j + 1))) wc hkr hQ hlen t.heap (locs ++ L) ls
    (by
      rw [key]
      refine va_P.app (fun i q hq => ?_) hP1
      obtain ⟨g1, g2⟩ := apart i q hq
      exact (hP i q (hpre i q hq).1).kept (hkk q.1 g1 g2))
    (by
      rw [key]
      refine va_D.app ⟨fun i j p q hi hj hpq => hD.1 i j p q (hpre i p hi).1 (hpre j q hj).1 hpq, fun i q hq => hD.2 i q (hpre i q hq).1⟩ (hD1.weaken (fun i q _ h => hfree q.1 h)) (fun i j p q hp hq hpq => ?_)
      exact (apart i p hp).2 (by rw [hpq]; exact hD1.2 j q hq))
    hS' (by rw [clv_fr hfl]; exact hl) T' e1 X'
  rw [cst_fr hfs] at a1
  exact ⟨t2, stp t2 a1, b1⟩
/-- a constructor that may be called: by its plain link -/
def MIok (y : MethodName) (ccy : ByteArray) (mLy n : Nat) : Prop := Cond.instanceMethod y ∈ gw ∧ Cond.initialized y.cls ∈ gw ∧ Cond.code y ccy mLy none ∈ gw ∧ y.name = "<init>" ∧ (y.cls ≠ "java/lang/invoke/MethodHandle" ∧ y.cls ≠ "java/lang/invoke/VarHandle") ∧ (parseMethodDescriptor y.desc).map (fun d => d.parameters.length) = some n
def RNok (rmy : Room) (mLy mc ms : Nat) (rm : Room) : Prop := rmy.cells = mc ∧ rmy.slots = ms ∧ rmy.frames + 1 ≤ rm.frames ∧ 8 + (mLy + 11) + rmy.locals ≤ rm.locals
theorem gCallI (hC : Cx X l D g rm cc nL own) {y : MethodName} {ccy : ByteArray} {mLy n ix mc ms n1 k a k0 : Nat} {rmy : Room} {av : List Value} {e0 : va_E} {Qa : List va_E → Prop} {st0 : List Value} (wr : List va_E) (hM : CN l D g y ccy mLy rmy mc ms (.ref 0 :: av) e0 n1 Qa) (hcu : cu + mc ≤ rm.cells ∧ su + ms ≤ rm.slots)
    (hd : decode cc pc = .ok (.invokespecial ix, 3)) (hlk : Cond.methodLink own ix y ∈ gw ∨ ∃ host, (own, ix, y, host) ∈ nwM) (hy : MIok y ccy mLy n) (hrm : RNok rmy mLy mc ms rm) (hn : av.length = n) (hav : av.all nrV = true) (hk0 : wr.length = k0) (hst : st0 = av.reverse ++ .ref k0 :: st) (hcat : (st.map fun v => v.category).sum ≤ 8) (hw : w = wr ++ [e0]) (he0 : ∀ ad', ce ad' e0 = e0)
    (hk : ad k = a) (hkn : frV (k0 + 1) (k0 + 1 + (n1 - 1)) (.ref k) = true) (hfw : wr.all (frE (k0 + 1) (k0 + 1 + (n1 - 1))) = true) (hfl : lv.all (fun q => frV (k0 + 1) (k0 + 1 + (n1 - 1)) q.2) = true) (hfs : st.all (frV (k0 + 1) (k0 + 1 + (n1 - 1))) = true)
    (kk : ∀ (ad' : Nat → Nat) (wc : List va_E), ad' k = a → Qa wc → wc.length = n1 → Go X nL ad' (cu + mc) (su + ms) (pc + 3) lv st (wr ++ wc.map (shE k0))) : Go X nL ad cu su pc lv st0 w := fun H locs ls hP hD hS hl => by
  subst hk0
  obtain ⟨m1, m2, m3, m4, m5, m6⟩ := hy
  obtain ⟨r1, r2, r3, r4⟩ := hrm
  have hts := hC.2.2.2.2.1
  have hl' : xl X = l := hC.2.2.2.2.2.2.2.1
  have hDD : xD X = D := hC.2.2.2.2.2.2.2.2.1
  have hRR : xR X = rm := hC.2.2.2.2.2.2.2.2.2
  have hM1 := hM (fun i => ad (wr.length + i)) H.size
  rw [← hl'] at hM1
  have hsz : ls.size = nL := hl.1
  have hKs : KK (xD X) g (xs X) := by rw [hDD]; exact hC.2.2.2.2.2.1
  have hat : (cw ad w)[wr.length]? = some (ad wr.length, e0) := by
    have h1 : w[wr.length]? = some e0 := by rw [hw, List.getElem?_append_right (Nat.le_refl _), Nat.sub_self]; rfl
    have h2 := cw_at (ad := ad) h1
    rw [he0] at h2
    exact h2
  have one : ∀ (i : Nat) (q : Nat × va_E), (cw (fun i => ad (wr.length + i)) [e0])[i]? = some q → q = (ad wr.length, e0) ∧ i = 0 := fun i q hq => by
    rw [cw_get] at hq
    have hi : i = 0 := by
      rcases Nat.eq_zero_or_pos i with z | z
      · exact z
      · have : ([e0] : List va_E)[i]? = none := List.getElem?_eq_none (by show 1 ≤ i; omega)
        rw [this] at hq; cases hq
    rw [hi] at hq
    have hq2 : some (ad (wr.length + 0), ce (fun i => ad (wr.length + i)) e0) = some q := hq
    rw [he0] at hq2
    exact ⟨(Option.some.inj hq2).symm, hi⟩
  have hPc : va_P (xD X) vwCl (cw (fun i => ad (wr.length + i)) [e0]) H := fun i q hq => by
    rw [(one i q hq).1]; exact hP _ _ hat
  have hDc : va_D (fun _ => True) (cw (fun i => ad (wr.length + i)) [e0]) := ⟨fun i j p q hi hj _ => by rw [(one i p hi).2, (one j q hj).2], fun _ _ _ => trivial⟩
  have hpre : PreS (xs X) H (PX D g (fun i => ad (wr.length + i)) H.size (.ref 0 :: av) [e0]) (.ref (ad wr.length) :: av) := ⟨PX.blind, fun U hU hW => ⟨by show _ = (Value.ref (ad wr.length) :: av.map (cz (fun i => ad (wr.length + i)))).toArray; rw [map_nr hav], by rw [hU], by rw [hU, ← hDD]; exact hPc, by rw [← hDD]; exact hKs.warm hW, hDc⟩⟩
  have hstk : cst ad st0 = av.reverse ++ .ref (ad wr.length) :: cst ad st := by
    rw [hst]
    unfold cst
    rw [List.map_append, List.map_reverse, map_nr (ad := ad) hav]
    rfl
  refine gTailN (aa := (Value.ref (ad wr.length) :: av).toArray) hC hw he0 hP hD hS hl hk hkn hfw hfl hfs ?_ kk
  rcases hlk with hlk | ⟨host, hlk⟩
  · have cw1 := cwI (R := xR X) (s := xs X) (args := xa X) (own := own) (index := ix) (y := y) (bytes := ccy) (maxL := mLy) (ws := Cond.code y ccy mLy none :: gw) (rm := rmy) (mc := mc) (ms := ms) n hts (gw_in m3) rfl r1 r2 (hts _ m2) (hts _ hlk) (hts _ m1) m4 ⟨m5.1, m5.2, m6⟩ (by rw [hRR]; exact ⟨r3, r4⟩)
    exact va_runI (l := xl X) (e := xe X) (R := xR X) (below := xb X) (meth := xh X) (H := H) (locs := locs) (cells := cu) (slots := su) (b := ad wr.length) (As := av) (rest := cst ad st) (g := F0 (xm X) pc ls (cst ad st0)) (nL := nL) (Ts := gw) ⟨hC.1, hC.2.1, hC.2.2.1, hC.2.2.2.1, hts⟩ hM1 cw1 hpre rfl hn hsz hstk (lv_room (by rw [cat_cst]; exact hcat)) hd (by rw [hRR]; exact hcu)
  · have cw1 := va_cnB (R := xR X) (s := xs X) (args := xa X) (own := own) (host := host) (index := ix) (y := y) (bytes := ccy) (maxL := mLy) (ret := none) (ws := Cond.code y ccy mLy none :: gw) (rm := rmy) (mc := mc) (ms := ms) n hts (gw_in m3) rfl r1 r2 (hKs.2.2 _ hlk) (hts _ m2) ⟨m5.1, m5.2, m6⟩ (by rw [hRR]; exact ⟨r3, r4⟩)
    exact va_runIN (l := xl X) (e := xe X) (R := xR X) (below := xb X) (meth := xh X) (H := H) (locs := locs) (cells := cu) (slots := su) (b := ad wr.length) (As := av) (rest := cst ad st) (g := F0 (xm X) pc ls (cst ad st0)) (nL := nL) (Ts := gw) ⟨hC.1, hC.2.1, hC.2.2.1, hC.2.2.2.1, hts⟩ hM1 ⟨cw1, m4, hts _ m1⟩ hpre rfl hn hsz hstk (lv_room (by rw [cat_cst]; exact hcat)) hd (by rw [hRR]; exact hcu)
end GoInit
