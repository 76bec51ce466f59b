/-! A CONSTRUCTOR THAT KNOWS THE STRING CONSTANT -/
def PXS (D : va_G) (g : Nat → ClassId) (ad : Nat → Nat) (sz : Nat) (av : List Value) (w : List va_E) (b v : Nat) : Array Value → State → Prop :=
  va_Pc (av.map (cz ad)) (fun U => U.heap.size = sz ∧ va_P D vwCl (cw ad w) U.heap ∧ KK D g U ∧ va_D (fun _ => True) (cw ad w) ∧ SP b v (va_A (cw ad w) sz) U U.heap ∧ ∃ tx, vk_R RX6 62 tx b U)
theorem PXS.blind {D : va_G} {g : Nat → ClassId} {ad : Nat → Nat} {sz : Nat} {av : List Value} {w : List va_E} {b v : Nat} : FrameBlind (PXS D g ad sz av w b v) := fun a U fr mk q => by
  obtain ⟨h0, h1, h2, h3, h4, h5, tx, h6⟩ := q
  exact ⟨h0, h1, h2, h3.same rfl, h4, SP.moved (u := U) (U := U.calling fr mk a) (Vm.Alike.refl U.vm) h5, tx, vk_R.same (u := U) rfl h6⟩
def CNS (l : Launch) (D : va_G) (g : Nat → ClassId) (y : MethodName) (cc : ByteArray) (maxL : Nat) (rm : Room) (mc ms : Nat) (av : List Value) (e0 : va_E) (n1 : Nat) (Qa : List va_E → Prop) : Prop :=
  ∀ (b v : Nat) (ad : Nat → Nat) (sz : Nat), Met l y (Cond.code y cc maxL none :: gw) rm (PXS D g ad sz av [e0] b v) (QN D (va_A (cw ad [e0]) sz) ad n1 Qa) mc ms (va_A (cw ad [e0]) sz)
theorem CNS.of {l : Launch} {D : va_G} {g : Nat → ClassId} {y : MethodName} {cc : ByteArray} {maxL mc ms n1 : Nat} {rm : Room} {av : List Value} {e0 : va_E} {Qa : List va_E → Prop} {own : String} (hy : plainName y.cls = true) (ho : y.cls = own) (hyn : y.name = "<init>") (hsl : (lg_sl av).length ≤ maxL) (lv0 : List (Nat × Value)) (hlv : lv_args 0 av = lv0)
    (body : ∀ (X : MC) (ad : Nat → Nat) (b v : Nat), Cx X l D g rm cc maxL own → CrN X ad n1 mc ms Qa → SP b v (xA X) (xs X) (xs X).heap → (∃ tx, vk_R RX6 62 tx b (xs X)) → Go X maxL ad 0 0 0 lv0 [] [e0]) : CNS l D g y cc maxL rm mc ms av e0 n1 Qa := by
  intro b v ad sz
  refine Met.ofW (cc := cc) (maxL := maxL) (ret := none) hy rfl ?_
  intro p e s m args below meth c s₁ B hml hv
  obtain ⟨rfl, hsz, hP, hK, hD0, hSP, hR⟩ := hv
  subst hsz
  have hD := hD0.self (sz := s.heap.size)
  have hts := atoms_spec (ws := Cond.code y cc maxL none :: gw) B.pre
  have hl := lv_entry (av.map (cz ad)) (n := maxL) (by rw [lg_sl_cz]; exact hsl)
  rw [lg_entry_eq]
  rw [lv_args_cz, hlv] at hl
  exact body (p, l, e, rm, s, m, (av.map (cz ad)).toArray, below, meth, c, D, va_A (cw ad [e0]) s.heap.size, MQ below (QN D (va_A (cw ad [e0]) s.heap.size) ad n1 Qa) (av.map (cz ad)).toArray s mc ms (va_A (cw ad [e0]) s.heap.size)) ad b v
    ⟨B.exec, B.bytes, hml, by rw [← ho]; exact findClass_of_methodNamed B.named, fun x hx => hts x (List.mem_cons_of_mem _ hx), hK, fun q hq => Or.inr hq, rfl, rfl, rfl⟩ ⟨rfl, B.returns, B.notSynchronized, by rw [← hyn]; exact (name_of_methodNamed B.named B.method).1⟩ hSP hR s.heap [] _ hP hD va_S.rf hl
section GoStrN
variable {X : MC} {l : Launch} {D : va_G} {g : Nat → ClassId} {rm : Room} {cc : ByteArray} {nL : Nat} {own : String} {ad : Nat → Nat} {cu su pc : Nat} {lv : List (Nat × Value)} {st : List Value} {w : List va_E}
/-- the constant at a fresh place n, its bytes at n + 1 -/
theorem gLdcS (hC : Cx X l D g rm cc nL own) {ix n b v k a : Nat} (hZ : ∃ tx, vk_R own ix tx b (xs X)) (hd : decode cc pc = .ok (.ldc ix, 2)) (hn : w.length ≤ n) (hk : ad k = a) (hkn : frV n (n + 2) (.ref k) = true) (hfw : w.all (frE n (n + 2)) = true) (hfl : lv.all (fun q => frV n (n + 2) q.2) = true) (hfs : st.all (frV n (n + 2)) = true) (kk : ∀ ad' : Nat → Nat, ad' k = a → ad' n = b → ad' (n + 1) = v → Go X nL ad' cu su (pc + 2) lv (.ref n :: st) w) : Go X nL ad cu su pc lv st w := fun H locs ls hP hD hS hl => by
  obtain ⟨tx, hZ⟩ := hZ
  refine va_ldcS hC.1 hC.2.1 hC.2.2.2.1 hZ hd ?_
  have e0 : adr ad n 2 (fun i => if i = 0 then b else v) n = b := by
    have : adr ad n 2 (fun i => if i = 0 then b else v) n = (fun i => if i = 0 then b else v) (n - n) := if_pos ⟨Nat.le_refl _, by omega⟩
    rw [this, Nat.sub_self]; rfl
  have e1 : adr ad n 2 (fun i => if i = 0 then b else v) (n + 1) = v := by
    have : adr ad n 2 (fun i => if i = 0 then b else v) (n + 1) = (fun i => if i = 0 then b else v) (n + 1 - n) := if_pos ⟨by omega, by omega⟩
    rw [this, show n + 1 - n = 1 by omega]; rfl
  have ek : adr ad n 2 (fun i => if i = 0 then b else v) k = a := by rw [adr_out (fr_no k hkn)]; exact hk
  have := kk (adr ad n 2 (fun i => if i = 0 then b else v)) ek e0 e1 H locs ls (by rw [cw_fr hfw hn]; exact hP) (by rw [cw_fr hfw hn]; exact hD) hS (by rw [clv_fr hfl]; exact hl)
  have es : cst (adr ad n 2 (fun i => if i = 0 then b else v)) (.ref n :: st) = .ref b :: cst ad st := by
    show Value.ref (adr ad n 2 (fun i => if i = 0 then b else v) n) :: cst (adr ad n 2 (fun i => if i = 0 then b else v)) st = _
    rw [cst_fr hfs, e0]
  rw [es] at this
  exact this
theorem gCallIS (hC : Cx X l D g rm cc nL own) {y : MethodName} {ccy : ByteArray} {mLy n ix mc ms n1 k a k0 b v : Nat} {rmy : Room} {av : List Value} {e0 : va_E} {Qa : List va_E → Prop} {st0 : List Value} (wr : List va_E) (hM : CNS l D g y ccy mLy rmy mc ms (.ref 0 :: av) e0 n1 Qa) (hSP : SP b v (xA X) (xs X) (xs X).heap) (hR : ∃ tx, vk_R RX6 62 tx b (xs X)) (hcu : cu + mc ≤ rm.cells ∧ su + ms ≤ rm.slots)
    (hd : decode cc pc = .ok (.invokespecial ix, 3)) (hlk : Cond.methodLink own ix y ∈ gw) (hy : MIok y ccy mLy n) (hrm : RNok rmy mLy mc ms rm) (hn : av.length = n) (hav : av.all nrV = true) (hk0 : wr.length = k0) (hst : st0 = av.reverse ++ .ref k0 :: st) (hcat : (st.map fun v => v.category).sum ≤ 8) (hw : w = wr ++ [e0]) (he0 : ∀ ad', ce ad' e0 = e0)
    (hk : ad k = a) (hkn : frV (k0 + 1) (k0 + 1 + (n1 - 1)) (.ref k) = true) (hfw : wr.all (frE (k0 + 1) (k0 + 1 + (n1 - 1))) = true) (hfl : lv.all (fun q => frV (k0 + 1) (k0 + 1 + (n1 - 1)) q.2) = true) (hfs : st.all (frV (k0 + 1) (k0 + 1 + (n1 - 1))) = true)
    (kk : ∀ (ad' : Nat → Nat) (wc : List va_E), ad' k = a → Qa wc → wc.length = n1 → Go X nL ad' (cu + mc) (su + ms) (pc + 3) lv st (wr ++ wc.map (shE k0))) : Go X nL ad cu su pc lv st0 w := fun H locs ls hP hD hS hl => by
  subst hk0
  obtain ⟨m1, m2, m3, m4, m5, m6⟩ := hy
  obtain ⟨r1, r2, r3, r4⟩ := hrm
  obtain ⟨tx, hR⟩ := hR
  have hts := hC.2.2.2.2.1
  have hl' : xl X = l := hC.2.2.2.2.2.2.2.1
  have hDD : xD X = D := hC.2.2.2.2.2.2.2.2.1
  have hRR : xR X = rm := hC.2.2.2.2.2.2.2.2.2
  have hM1 := hM b v (fun i => ad (wr.length + i)) H.size
  rw [← hl'] at hM1
  have hsz : ls.size = nL := hl.1
  have hKs : KK (xD X) g (xs X) := by rw [hDD]; exact hC.2.2.2.2.2.1
  have hat : (cw ad w)[wr.length]? = some (ad wr.length, e0) := by
    have h1 : w[wr.length]? = some e0 := by rw [hw, List.getElem?_append_right (Nat.le_refl _), Nat.sub_self]; rfl
    have h2 := cw_at (ad := ad) h1
    rw [he0] at h2
    exact h2
  have one : ∀ (i : Nat) (q : Nat × va_E), (cw (fun i => ad (wr.length + i)) [e0])[i]? = some q → q = (ad wr.length, e0) ∧ i = 0 := fun i q hq => by
    rw [cw_get] at hq
    have hi : i = 0 := by
      rcases Nat.eq_zero_or_pos i with z | z
      · exact z
      · have : ([e0] : List va_E)[i]? = none := List.getElem?_eq_none (by show 1 ≤ i; omega)
        rw [this] at hq; cases hq
    rw [hi] at hq
    have hq2 : some (ad (wr.length + 0), ce (fun i => ad (wr.length + i)) e0) = some q := hq
    rw [he0] at hq2
    exact ⟨(Option.some.inj hq2).symm, hi⟩
  have hPc : va_P (xD X) vwCl (cw (fun i => ad (wr.length + i)) [e0]) H := fun i q hq => by
    rw [(one i q hq).1]; exact hP _ _ hat
  have hDc : va_D (fun _ => True) (cw (fun i => ad (wr.length + i)) [e0]) := ⟨fun i j p q hi hj _ => by rw [(one i p hi).2, (one j q hj).2], fun _ _ _ => trivial⟩
  have hfree : ∀ q, va_A (cw (fun i => ad (wr.length + i)) [e0]) H.size q → xA X q := fun q hq => by
    rcases hq with ⟨i, e, hh⟩ | hh
    · have := congrArg Prod.fst (one i (q, e) hh).1
      have z : q = ad wr.length := this
      rw [z]; exact hD.2 wr.length _ hat
    · exact hC.2.2.2.2.2.2.1 q (Nat.le_trans hS.1 hh)
  have hSPc : SP b v (va_A (cw (fun i => ad (wr.length + i)) [e0]) H.size) (xs X) H := (hSP.kept hS.2.1).narrow hfree
  have hpre : PreS (xs X) H (PXS D g (fun i => ad (wr.length + i)) H.size (.ref 0 :: av) [e0] b v) (.ref (ad wr.length) :: av) := ⟨PXS.blind, fun U hU hW => ⟨by show _ = (Value.ref (ad wr.length) :: av.map (cz (fun i => ad (wr.length + i)))).toArray; rw [map_nr hav], by rw [hU], by rw [hU, ← hDD]; exact hPc, by rw [← hDD]; exact hKs.warm hW, hDc, by rw [hU]; exact hSPc.moved hW.alike, tx, hR.warm hW⟩⟩
  have hstk : cst ad st0 = av.reverse ++ .ref (ad wr.length) :: cst ad st := by
    rw [hst]
    unfold cst
    rw [List.map_append, List.map_reverse, map_nr (ad := ad) hav]
    rfl
  refine gTailN (aa := (Value.ref (ad wr.length) :: av).toArray) hC hw he0 hP hD hS hl hk hkn hfw hfl hfs ?_ kk
  have cw1 := cwI (R := xR X) (s := xs X) (args := xa X) (own := own) (index := ix) (y := y) (bytes := ccy) (maxL := mLy) (ws := Cond.code y ccy mLy none :: gw) (rm := rmy) (mc := mc) (ms := ms) n hts (gw_in m3) rfl r1 r2 (hts _ m2) (hts _ hlk) (hts _ m1) m4 ⟨m5.1, m5.2, m6⟩ (by rw [hRR]; exact ⟨r3, r4⟩)
  exact va_runI (l := xl X) (e := xe X) (R := xR X) (below := xb X) (meth := xh X) (H := H) (locs := locs) (cells := cu) (slots := su) (b := ad wr.length) (As := av) (rest := cst ad st) (g := F0 (xm X) pc ls (cst ad st0)) (nL := nL) (Ts := gw) ⟨hC.1, hC.2.1, hC.2.2.1, hC.2.2.2.1, hts⟩ hM1 cw1 hpre rfl hn hsz hstk (lv_room (by rw [cat_cst]; exact hcat)) hd (by rw [hRR]; exact hcu)
end GoStrN
