/-! CONTRACTS AND CALLS in the light judgement -/
def rn (ks : List Nat) : Value → Value
  | .ref i => .ref (ks.getD i 0)
  | v => v
def rne (ks : List Nat) : va_E → va_E
  | .inl a => .inl a
  | .inr q => .inr (q.1, q.2.map (rn ks))
def adk (ad : Nat → Nat) (ks : List Nat) : Nat → Nat := fun i => ad (ks.getD i 0)
theorem cz_rn (ad : Nat → Nat) (ks : List Nat) (v : Value) : cz ad (rn ks v) = cz (adk ad ks) v := by cases v <;> rfl
theorem ce_rne (ad : Nat → Nat) (ks : List Nat) (e : va_E) : ce ad (rne ks e) = ce (adk ad ks) e := by
  cases e with
  | inl a => rfl
  | inr q =>
    show Sum.inr (q.1, (q.2.map (rn ks)).map (cz ad)) = Sum.inr (q.1, q.2.map (cz (adk ad ks)))
    rw [List.map_map]
    congr 2
    apply List.map_congr_left
    intro v _
    exact cz_rn ad ks v
theorem rn_cat (ks : List Nat) (v : Value) : (rn ks v).category = v.category := by cases v <;> rfl
/-- the callee's cells among the caller's -/
def subW (w : List va_E) (ks : List Nat) (wc : List va_E) : Prop := wc.map (fun e => some (rne ks e)) = (ks.take wc.length).map (fun k => w[k]?)
theorem subW_at {w : List va_E} {ks : List Nat} {wc : List va_E} (h : subW w ks wc) {i : Nat} {e : va_E} (he : wc[i]? = some e) : ∃ k, ks[i]? = some k ∧ w[k]? = some (rne ks e) ∧ ks.getD i 0 = k ∧ k ∈ ks.take wc.length := by
  have hi : i < wc.length := (List.getElem?_eq_some_iff.mp he).1
  have h1 : (wc.map (fun e => some (rne ks e)))[i]? = some (some (rne ks e)) := by rw [List.getElem?_map, he]; rfl
  rw [h, List.getElem?_map, List.getElem?_take, if_pos hi] at h1
  cases hk : ks[i]? with
  | none => rw [hk] at h1; cases h1
  | some k =>
    rw [hk] at h1
    refine ⟨k, rfl, Option.some.inj h1, by rw [List.getD_eq_getElem?_getD, hk]; rfl, ?_⟩
    refine List.mem_of_getElem? (i := i) ?_
    rw [List.getElem?_take, if_pos hi, hk]
theorem subW_of {w : List va_E} {ks : List Nat} {wc : List va_E} (h : subW w ks wc) {k : Nat} (hk : k ∈ ks.take wc.length) : ∃ (i : Nat) (e : va_E), i < wc.length ∧ ks[i]? = some k ∧ wc[i]? = some e ∧ w[k]? = some (rne ks e) := by
  obtain ⟨i, hi⟩ := List.getElem?_of_mem hk
  rw [List.getElem?_take] at hi
  by_cases hl : i < wc.length
  · rw [if_pos hl] at hi
    obtain ⟨k', a1, a2, -, -⟩ := subW_at h (List.getElem?_eq_getElem hl)
    cases hi.symm.trans a1
    exact ⟨i, wc[i], hl, hi, List.getElem?_eq_getElem hl, a2⟩
  · rw [if_neg hl] at hi; cases hi
/-- the callee's cells put back -/
def putR (ks0 : List Nat) : List va_E → List Nat → List va_E → List va_E
  | w, k :: ks, e :: es => putR ks0 (w.set k (rne ks0 e)) ks es
  | w, [], _ => w
  | w, _ :: _, [] => w
theorem putR_len (ks0 : List Nat) : ∀ (ks : List Nat) (es w : List va_E), (putR ks0 w ks es).length = w.length
  | [], es, w => by cases es <;> rfl
  | k :: ks, [], w => rfl
  | k :: ks, e :: es, w => by
    show (putR ks0 (w.set k (rne ks0 e)) ks es).length = w.length
    rw [putR_len ks0 ks es]; simp
theorem putR_out (ks0 : List Nat) : ∀ (ks : List Nat) (es w : List va_E) (j : Nat), j ∉ ks.take es.length → (putR ks0 w ks es)[j]? = w[j]?
  | [], es, w, j, _ => by cases es <;> rfl
  | k :: ks, [], w, j, _ => rfl
  | k :: ks, e :: es, w, j, h => by
    show (putR ks0 (w.set k (rne ks0 e)) ks es)[j]? = w[j]?
    simp only [List.length_cons, List.take_succ_cons, List.mem_cons, not_or] at h
    rw [putR_out ks0 ks es _ j h.2, List.getElem?_set_ne (Ne.symm h.1)]
theorem putR_in (ks0 : List Nat) : ∀ (ks : List Nat) (es w : List va_E) (i j : Nat) (e : va_E), va_nd (ks.take es.length) = true → ks[i]? = some j → es[i]? = some e → j < w.length → (putR ks0 w ks es)[j]? = some (rne ks0 e)
  | [], es, w, i, j, e, _, hk, _, _ => by simp at hk
  | k :: ks, [], w, i, j, e, _, _, he, _ => by simp at he
  | k :: ks, e0 :: es, w, i, j, e, hn, hk, he, hj => by
    show (putR ks0 (w.set k (rne ks0 e0)) ks es)[j]? = some (rne ks0 e)
    simp only [List.length_cons, List.take_succ_cons, va_nd, Bool.and_eq_true, decide_eq_true_eq] at hn
    cases i with
    | zero =>
      simp only [List.getElem?_cons_zero] at hk he
      cases hk; cases he
      rw [putR_out ks0 ks es _ _ hn.1, List.getElem?_set_self hj]
    | succ i =>
      simp only [List.getElem?_cons_succ] at hk he
      exact putR_in ks0 ks es _ i j e hn.2 hk he (by simpa using hj)
theorem putR_self {w : List va_E} {ks : List Nat} {wc : List va_E} (h : subW w ks wc) (hn : va_nd (ks.take wc.length) = true) : putR ks w ks wc = w := by
  apply List.ext_getElem?
  intro j
  by_cases hj : j ∈ ks.take wc.length
  · obtain ⟨i, e, h1, h2, h3, h4⟩ := subW_of h hj
    rw [putR_in ks ks wc w i j e hn h2 h3 (List.getElem?_eq_some_iff.mp h4).1, h4]
  · exact putR_out ks ks wc w j hj
theorem va_D_cw {A : Nat → Prop} {ad : Nat → Nat} {w w' : List va_E} (h : va_D A (cw ad w)) (hl : w'.length = w.length) : va_D A (cw ad w') := by
  have key : ∀ (k : Nat) (q : Nat × va_E), (cw ad w')[k]? = some q → ∃ q0, (cw ad w)[k]? = some q0 ∧ q0.1 = q.1 := by
    intro k q hk
    rw [cw_get] at hk
    cases hw : w'[k]? with
    | none => rw [hw] at hk; cases hk
    | some e =>
      rw [hw] at hk
      have hlt : k < w.length := by rw [← hl]; exact (List.getElem?_eq_some_iff.mp hw).1
      cases hk
      exact ⟨_, cw_at (List.getElem?_eq_getElem hlt), rfl⟩
  refine ⟨fun i j x y hi hj hxy => ?_, fun k q hk => ?_⟩
  · obtain ⟨x0, h1, h2⟩ := key i x hi
    obtain ⟨y0, h3, h4⟩ := key j y hj
    exact h.1 i j x0 y0 h1 h3 (h2.trans (hxy.trans h4.symm))
  · obtain ⟨q0, h1, h2⟩ := key k q hk
    rw [← h2]; exact h.2 k q0 h1
/-- a method's end -/
def QX (D : va_G) (A0 : Nat → Prop) (ad : Nat → Nat) (n0 : Nat) (Qa : Option Value → List va_E → Prop) : Array Value → State → Outcome → State → Prop := fun _ st oc t =>
  (∃ (ov : Option Value) (w' : List va_E), oc = .returned (ov.map (cz ad)) ∧ Qa ov w' ∧ w'.length = n0 ∧ va_P D vwCl (cw ad w') t.heap) ∧ va_F A0 st t
/-- a method's start -/
def PX (D : va_G) (g : Nat → ClassId) (ad : Nat → Nat) (sz : Nat) (av : List Value) (w : List va_E) : Array Value → State → Prop :=
  va_Pc (av.map (cz ad)) (fun U => U.heap.size = sz ∧ va_P D vwCl (cw ad w) U.heap ∧ KK D g U ∧ va_D (fun _ => True) (cw ad w))
/-- THE CONTRACT of a method that makes no cell: arguments av, cells w; answer and cells behind it by Qa -/
def CT (l : Launch) (D : va_G) (g : Nat → ClassId) (y : MethodName) (cc : ByteArray) (maxL : Nat) (ret : Option FieldType) (rm : Room) (av : List Value) (w : List va_E) (Qa : Option Value → List va_E → Prop) : Prop :=
  ∀ (ad : Nat → Nat) (sz : Nat), Met l y (Cond.code y cc maxL ret :: gw) rm (PX D g ad sz av w) (QX D (va_A (cw ad w) sz) ad w.length Qa) 0 0 (va_A (cw ad w) sz)
def Cr (X : MC) (ad : Nat → Nat) (n0 : Nat) (ret : Option FieldType) (Qa : Option Value → List va_E → Prop) : Prop :=
  xQ X = MQ (xb X) (QX (xD X) (xA X) ad n0 Qa) (xa X) (xs X) 0 0 (xA X) ∧ (xh X).sig.returnType = ret ∧ (xh X).locks = false
theorem lv_args_cz (ad : Nat → Nat) : ∀ (av : List Value) (i : Nat), lv_args i (av.map (cz ad)) = clv ad (lv_args i av)
  | [], _ => rfl
  | v :: t, i => by
    show (i, cz ad v) :: lv_args (if (cz ad v).category = 2 then i + 2 else i + 1) (t.map (cz ad)) = (i, cz ad v) :: clv ad (lv_args (if v.category = 2 then i + 2 else i + 1) t)
    rw [cz_cat, lv_args_cz ad t]
theorem lg_sl_cz (ad : Nat → Nat) : ∀ av : List Value, (lg_sl (av.map (cz ad))).length = (lg_sl av).length
  | [] => rfl
  | v :: t => by
    have ih := lg_sl_cz ad t
    unfold lg_sl at ih ⊢
    simp only [List.map_cons, List.flatMap_cons, List.length_append, cz_cat, ih]
    split <;> rfl
theorem CT.of {l : Launch} {D : va_G} {g : Nat → ClassId} {y : MethodName} {cc : ByteArray} {maxL : Nat} {ret : Option FieldType} {rm : Room} {av : List Value} {w : List va_E} {Qa : Option Value → List va_E → Prop} {own : String} (hy : plainName y.cls = true) (ho : y.cls = own) (hsl : (lg_sl av).length ≤ maxL) (lv0 : List (Nat × Value)) (hlv : lv_args 0 av = lv0)
    (body : ∀ (X : MC) (ad : Nat → Nat), Cx X l D g rm cc maxL own → Cr X ad w.length ret Qa → Go X maxL ad 0 0 0 lv0 [] w) : CT l D g y cc maxL ret rm av w Qa := by
  intro ad sz
  refine Met.ofW (cc := cc) (maxL := maxL) (ret := ret) hy rfl ?_
  intro p e s m args below meth c s₁ B hml hv
  obtain ⟨rfl, hsz, hP, hK, hD0⟩ := hv
  subst hsz
  have hD := hD0.self (sz := s.heap.size)
  have hts := atoms_spec (ws := Cond.code y cc maxL ret :: gw) B.pre
  have hl := lv_entry (av.map (cz ad)) (n := maxL) (by rw [lg_sl_cz]; exact hsl)
  rw [lg_entry_eq]
  rw [lv_args_cz, hlv] at hl
  exact body (p, l, e, rm, s, m, (av.map (cz ad)).toArray, below, meth, c, D, va_A (cw ad w) s.heap.size, MQ below (QX D (va_A (cw ad w) s.heap.size) ad w.length Qa) (av.map (cz ad)).toArray s 0 0 (va_A (cw ad w) s.heap.size)) ad
    ⟨B.exec, B.bytes, hml, by rw [← ho]; exact findClass_of_methodNamed B.named, fun x hx => hts x (List.mem_cons_of_mem _ hx), hK, fun q hq => Or.inr hq, rfl, rfl, rfl⟩ ⟨rfl, B.returns, B.notSynchronized⟩ s.heap [] _ hP hD va_S.rf hl
theorem CT.mono {l : Launch} {D : va_G} {g : Nat → ClassId} {y : MethodName} {cc : ByteArray} {maxL : Nat} {ret : Option FieldType} {rm : Room} {av : List Value} {w : List va_E} {Qa Qb : Option Value → List va_E → Prop} (h : CT l D g y cc maxL ret rm av w Qa) (hq : ∀ ov w', Qa ov w' → Qb ov w') : CT l D g y cc maxL ret rm av w Qb := by
  intro ad sz p e ha hc hk s m args below hf happ hpre hx
  obtain ⟨k, o, h1, h2, h3, ⟨⟨ov, w', e1, e2, e3, e4⟩, hF⟩, h5⟩ := h ad sz p e ha hc hk s m args below hf happ hpre hx
  exact ⟨k, o, h1, h2, h3, ⟨⟨ov, w', e1, hq _ _ e2, e3, e4⟩, hF⟩, h5⟩
/-- ends of a contract: nothing changed (p), or the cells by Q (m); the answer an int, a long, none -/
def QpI (wc : List va_E) (Q : Int32 → Prop) : Option Value → List va_E → Prop := fun ov w' => w' = wc ∧ ∃ r : Int32, ov = some (.int r) ∧ Q r
def QpL (wc : List va_E) (Q : Int64 → Prop) : Option Value → List va_E → Prop := fun ov w' => w' = wc ∧ ∃ r : Int64, ov = some (.long r) ∧ Q r
def QmI (Q : Int32 → List va_E → Prop) : Option Value → List va_E → Prop := fun ov w' => ∃ r : Int32, ov = some (.int r) ∧ Q r w'
def QmL (Q : Int64 → List va_E → Prop) : Option Value → List va_E → Prop := fun ov w' => ∃ r : Int64, ov = some (.long r) ∧ Q r w'
def QmV (Q : List va_E → Prop) : Option Value → List va_E → Prop := fun ov w' => ov = none ∧ Q w'
section GoCalls
variable {X : MC} {l : Launch} {D : va_G} {g : Nat → ClassId} {rm : Room} {cc : ByteArray} {nL : Nat} {own : String} {ad : Nat → Nat} {cu su pc n0 : Nat} {lv : List (Nat × Value)} {st : List Value} {w : List va_E} {Qa : Option Value → List va_E → Prop}
theorem gIret (hC : Cx X l D g rm cc nL own) (hr : Cr X ad n0 (some .int) Qa) {v : Int32} (hd : decode cc pc = .ok (.ireturn, 1)) (hn : w.length = n0) (hq : Qa (some (.int v)) w) : Go X nL ad 0 0 pc lv [.int v] w := fun H locs ls hP hD hS hl => by
  rw [hr.1]
  exact W.iret hC.1 hC.2.1 hr.2.1 (fun t ht hW => ⟨⟨some (.int v), w, rfl, hq, hn, by rw [ht]; exact hP⟩, hS.F ht⟩) hS.2.2 hd hr.2.2
theorem gZret (hC : Cx X l D g rm cc nL own) (hr : Cr X ad n0 (some .boolean) Qa) {v : Int32} (hd : decode cc pc = .ok (.ireturn, 1)) (hn : w.length = n0) (hb : narrow .boolean (.int v) = .int v) (hq : Qa (some (.int v)) w) : Go X nL ad 0 0 pc lv [.int v] w := fun H locs ls hP hD hS hl => by
  rw [hr.1]
  exact W.zret hC.1 hC.2.1 hr.2.1 hb (fun t ht hW => ⟨⟨some (.int v), w, rfl, hq, hn, by rw [ht]; exact hP⟩, hS.F ht⟩) hS.2.2 hd hr.2.2
theorem gLret (hC : Cx X l D g rm cc nL own) (hr : Cr X ad n0 (some .long) Qa) {v : Int64} (hd : decode cc pc = .ok (.lreturn, 1)) (hn : w.length = n0) (hq : Qa (some (.long v)) w) : Go X nL ad 0 0 pc lv [.long v] w := fun H locs ls hP hD hS hl => by
  rw [hr.1]
  exact W.lret hC.1 hC.2.1 hr.2.1 (fun t ht hW => ⟨⟨some (.long v), w, rfl, hq, hn, by rw [ht]; exact hP⟩, hS.F ht⟩) hS.2.2 hd hr.2.2
theorem gVret (hC : Cx X l D g rm cc nL own) (hr : Cr X ad n0 none Qa) (hd : decode cc pc = .ok (.return_, 1)) (hn : w.length = n0) (hq : Qa none w) : Go X nL ad 0 0 pc lv [] w := fun H locs ls hP hD hS hl => by
  rw [hr.1]
  exact W.vret hC.1 hC.2.1 hr.2.1 (fun t ht hW => ⟨⟨none, w, rfl, hq, hn, by rw [ht]; exact hP⟩, hS.F ht⟩) hS.2.2 hd hr.2.2
theorem PX.blind {ad : Nat → Nat} {sz : Nat} {av : List Value} {w : List va_E} : FrameBlind (PX D g ad sz av w) := fun a U fr mk q => by
  obtain ⟨h0, h1, h2, h3, h4⟩ := q
  exact ⟨h0, h1, h2, h3.same rfl, h4⟩
/-- the callee's cells in the caller's heap -/
theorem subW_P {H : Heap} {ks : List Nat} {wc : List va_E} (hs : subW w ks wc) (hP : va_P (xD X) vwCl (cw ad w) H) : va_P (xD X) vwCl (cw (adk ad ks) wc) H := by
  intro i q hq
  rw [cw_get] at hq
  cases he : wc[i]? with
  | none => rw [he] at hq; cases hq
  | some e =>
    rw [he] at hq
    cases hq
    obtain ⟨k, h1, h2, h3, -⟩ := subW_at hs he
    have h4 := hP k _ (cw_at h2)
    rw [ce_rne] at h4
    have : adk ad ks i = ad k := by unfold adk; rw [h3]
    rw [this]
    exact h4
theorem subW_D {A A' : Nat → Prop} {ks : List Nat} {wc : List va_E} (hs : subW w ks wc) (hn : va_nd (ks.take wc.length) = true) (hD : va_D A (cw ad w)) (hA : ∀ (i : Nat) (e : va_E), wc[i]? = some e → A' (adk ad ks i)) : va_D A' (cw (adk ad ks) wc) := by
  refine ⟨fun i j x y hi hj hxy => ?_, fun i q hq => ?_⟩
  · rw [cw_get] at hi hj
    cases hei : wc[i]? with
    | none => rw [hei] at hi; cases hi
    | some ei =>
      cases hej : wc[j]? with
      | none => rw [hej] at hj; cases hj
      | some ej =>
        rw [hei] at hi; rw [hej] at hj
        cases hi; cases hj
        obtain ⟨ki, h1, h2, h3, h4⟩ := subW_at hs hei
        obtain ⟨kj, g1, g2, g3, g4⟩ := subW_at hs hej
        have e1 : ad ki = ad kj := by
          have := hxy
          unfold adk at this
          rw [← h3, ← g3]; exact this
        have e2 := hD.1 ki kj _ _ (cw_at h2) (cw_at g2) e1
        subst e2
        exact va_nd_inj _ hn i j ki (by rw [List.getElem?_take, if_pos (List.getElem?_eq_some_iff.mp hei).1]; exact h1) (by rw [List.getElem?_take, if_pos (List.getElem?_eq_some_iff.mp hej).1]; exact g1)
  · rw [cw_get] at hq
    cases he : wc[i]? with
    | none => rw [he] at hq; cases hq
    | some e => rw [he] at hq; cases hq; exact hA i e he
theorem subW_A {ks : List Nat} {wc : List va_E} {A : Nat → Prop} {H0 H : Heap} {locs : List Loc} (hs : subW w ks wc) (hD : va_D A (cw ad w)) (hS : va_S A H0 H locs) (hA : ∀ q, H0.size ≤ q → A q) : ∀ q, va_A (cw (adk ad ks) wc) H.size q → A q := by
  intro q h
  rcases h with ⟨i, e, h⟩ | h
  · rw [cw_get] at h
    cases he : wc[i]? with
    | none => rw [he] at h; cases h
    | some e0 =>
      rw [he] at h
      obtain ⟨k, h1, h2, h3, -⟩ := subW_at hs he
      have h5 := hD.2 k _ (cw_at h2)
      cases h
      unfold adk
      rw [h3]; exact h5
  · exact hA q (Nat.le_trans hS.1 h)
/-- behind a call: the callee's cells are put back, nothing else has changed -/
theorem gTail (hC : Cx X l D g rm cc nL own) {H : Heap} {locs : List Loc} {ls : Array Slot} {ks : List Nat} {wc : List va_E} {Qy : Option Value → List va_E → Prop} {st0 : List Value} {a : Array Value} (hP : va_P (xD X) vwCl (cw ad w) H) (hD : va_D (xA X) (cw ad w)) (hS : va_S (xA X) (xs X).heap H locs) (hl : lv_has ls nL (clv ad lv))
    (hs : subW w ks wc) (hn : va_nd (ks.take wc.length) = true)
    (hrun : va_Run (xp X) (xl X) (xe X) (xR X) (xs X) (xm X) (xa X) (xb X) (xh X) (xc X) H locs cu su 0 0 (F0 (xm X) pc ls st0) (cst ad st) (QX D (va_A (cw (adk ad ks) wc) H.size) (adk ad ks) wc.length Qy a) (va_A (cw (adk ad ks) wc) H.size))
    (kk : ∀ (ov : Option Value) (wc' : List va_E), Qy ov wc' → wc'.length = wc.length → Go X nL ad cu su (pc + 3) lv ((ov.map (rn ks)).toList ++ st) (putR ks w ks wc')) :
    W (xp X) (xl X) (xe X) (xR X) (xs X) (xm X) (xa X) (xb X) (xh X) (xc X) H locs cu su (xQ X) (F0 (xm X) pc ls st0) := by
  intro T hT XX
  obtain ⟨v, st₀, t, T', L, h0, X', hL, e1, e2, ⟨⟨ov, wc', hv, hQ, hlen, hP1⟩, hz, hk⟩, stp⟩ := hrun T hT XX
  cases hv
  rw [h0] at hz hk
  have hfree := subW_A hs hD hS hC.2.2.2.2.2.2.1
  have hDD : xD X = D := hC.2.2.2.2.2.2.2.2.1
  rw [← hDD] at hP1
  have hn' : va_nd (ks.take wc'.length) = true := by rw [hlen]; exact hn
  have hP' : va_P (xD X) vwCl (cw ad (putR ks w ks wc')) t.heap := by
    intro k q hq
    rw [cw_get] at hq
    cases he : (putR ks w ks wc')[k]? with
    | none => rw [he] at hq; cases hq
    | some e =>
      rw [he] at hq
      cases hq
      by_cases hmem : k ∈ ks.take wc.length
      · obtain ⟨i, e0, a1, a2, a3, a4⟩ := subW_of hs hmem
        have hi' : i < wc'.length := by rw [hlen]; exact a1
        have b1 := putR_in ks ks wc' w i k wc'[i] hn' a2 (List.getElem?_eq_getElem hi') (List.getElem?_eq_some_iff.mp a4).1
        rw [b1] at he
        cases he
        have b2 := hP1 i _ (cw_at (List.getElem?_eq_getElem hi'))
        show va_at (xD X) vwCl (ad k, ce ad (rne ks wc'[i])) t.heap
        rw [ce_rne]
        have b3 : adk ad ks i = ad k := by unfold adk; rw [List.getD_eq_getElem?_getD, a2]; rfl
        rw [b3] at b2
        exact b2
      · rw [putR_out ks ks wc' w k (by rw [hlen]; exact hmem)] at he
        have b0 := hP k _ (cw_at he)
        have hlt : ad k < H.size := b0.lt
        refine b0.kept (hk _ hlt (fun hA => ?_))
        rcases hA with ⟨i, ee, hh⟩ | hh
        · rw [cw_get] at hh
          cases hwi : wc[i]? with
          | none => rw [hwi] at hh; cases hh
          | some e0 =>
            rw [hwi] at hh
            obtain ⟨k2, c1, c2, c3, c4⟩ := subW_at hs hwi
            have c5 : ad k2 = ad k := by
              have := congrArg Prod.fst (Option.some.inj hh)
              unfold adk at this
              rw [← c3]; exact this
            have c6 := hD.1 k2 k _ _ (cw_at c2) (cw_at he) c5
            subst c6
            exact hmem c4
        · exact absurd hlt (Nat.not_lt.mpr hh)
  have hS' : va_S (xA X) (xs X).heap t.heap (locs ++ L) := ⟨Nat.le_trans hS.1 hz, fun q h1 h2 => by rw [hk q (Nat.lt_of_lt_of_le h1 hS.1) (fun z => h2 (hfree q z))]; exact hS.2.1 q h1 h2, fun q hq => by
      rcases List.mem_append.mp hq with h | h
      · exact hS.2.2 q h
      · exact hfree _ (hL q h)⟩
  obtain ⟨t2, a1, b1⟩ := kk ov wc' hQ hlen t.heap (locs ++ L) ls hP' (va_D_cw hD (putR_len ks ks wc' w)) hS' hl T' e1 X'
  refine ⟨t2, stp t2 ?_, b1⟩
  have es : (ov.map (cz (adk ad ks))).toList ++ cst ad st = cst ad ((ov.map (rn ks)).toList ++ st) := by
    cases ov with
    | none => rfl
    | some v => show cz (adk ad ks) v :: cst ad st = cz ad (rn ks v) :: cst ad st; rw [cz_rn]
  show Steps _ _ _ (T'.setTop { method := xm X, pc := pc + 3, locals := ls, stack := (ov.map (cz (adk ad ks))).toList ++ cst ad st, locked := none }) t2
  rw [es]
  exact a1
/-- a method that may be called on an object of its class -/
def MVok (y : MethodName) (ccy : ByteArray) (mLy : Nat) (rety : Option FieldType) (n : Nat) : Prop := Cond.instanceMethod y ∈ gw ∧ Cond.selects y.cls y y ∈ gw ∧ Cond.initialized y.cls ∈ gw ∧ Cond.code y ccy mLy rety ∈ gw ∧ (y.cls ≠ "java/lang/invoke/MethodHandle" ∧ y.cls ≠ "java/lang/invoke/VarHandle") ∧ (parseMethodDescriptor y.desc).map (fun d => d.parameters.length) = some n
def MSok (y : MethodName) (ccy : ByteArray) (mLy : Nat) (rety : Option FieldType) (n : Nat) : Prop := Cond.static y ∈ gw ∧ Cond.initialized y.cls ∈ gw ∧ Cond.code y ccy mLy rety ∈ gw ∧ (y.cls ≠ "java/lang/invoke/MethodHandle" ∧ y.cls ≠ "java/lang/invoke/VarHandle") ∧ (parseMethodDescriptor y.desc).map (fun d => d.parameters.length) = some n
def RMok (rmy : Room) (mLy : Nat) (rm : Room) : Prop := rmy.cells = 0 ∧ rmy.slots = 0 ∧ rmy.frames + 1 ≤ rm.frames ∧ 8 + (mLy + 11) + rmy.locals ≤ rm.locals
theorem cat_cst (ad : Nat → Nat) (st : List Value) : ((cst ad st).map fun v => v.category) = st.map fun v => v.category := by
  unfold cst
  rw [List.map_map]
  apply List.map_congr_left
  intro v _
  exact cz_cat ad v
theorem gCallV (hC : Cx X l D g rm cc nL own) {y : MethodName} {ccy : ByteArray} {mLy n ix ci : Nat} {rety : Option FieldType} {rmy : Room} {av : List Value} {wc : List va_E} {Qy : Option Value → List va_E → Prop} {fs : List Value} {T : u_T} {N : Nat} (ks : List Nat) {st0 : List Value} (hcu : cu ≤ rm.cells ∧ su ≤ rm.slots)
    (hd : decode cc pc = .ok (.invokevirtual ix, 3)) (hlk : Cond.methodLink own ix y ∈ gw) (hy : MVok y ccy mLy rety n) (hrm : RMok rmy mLy rm) (hn : av.length = n) (hst : st0 = (av.map (rn ks)).reverse ++ .ref (ks.getD 0 0) :: st) (hcat : (st.map fun v => v.category).sum ≤ 8) (hs : subW w ks wc) (hnd : va_nd (ks.take wc.length) = true) (hrc : wc[0]? = some (.inr (ci, fs))) (hcl : vwCl[ci]? = some (y.cls, T, N))
    (hM : CT l D g y ccy mLy rety rmy (.ref 0 :: av) wc Qy) (kk : ∀ (ov : Option Value) (wc' : List va_E), Qy ov wc' → wc'.length = wc.length → Go X nL ad cu su (pc + 3) lv ((ov.map (rn ks)).toList ++ st) (putR ks w ks wc')) : Go X nL ad cu su pc lv st0 w := fun H locs ls hP hD hS hl => by
  obtain ⟨m1, m2, m3, m4, m5, m6⟩ := hy
  obtain ⟨r1, r2, r3, r4⟩ := hrm
  have hts := hC.2.2.2.2.1
  have hl' : xl X = l := hC.2.2.2.2.2.2.2.1
  have hDD : xD X = D := hC.2.2.2.2.2.2.2.2.1
  have hRR : xR X = rm := hC.2.2.2.2.2.2.2.2.2
  have hPc := subW_P (X := X) hs hP
  have hDc := subW_D hs hnd hD (A' := fun _ => True) (fun _ _ _ => trivial)
  have hM1 := hM (adk ad ks) H.size
  rw [← hl'] at hM1
  have hsz : ls.size = nL := hl.1
  refine gTail hC (a := (Value.ref (adk ad ks 0) :: av.map (cz (adk ad ks))).toArray) hP hD hS hl hs hnd ?_ kk
  have cw1 : CallW (xR X) (xs X) (xa X) own y.cls ix y ccy mLy rety (Cond.code y ccy mLy rety :: gw) rmy 0 0 n := by
    refine ⟨callB_of n hts (gw_in m4) rfl r1 r2 (hts _ m3) (hts _ hlk) ⟨m5.1, m5.2, m6⟩ (by rw [hRR]; exact ⟨r3, r4⟩), hts _ m1, hts _ m2⟩
  have hKs : KK (xD X) g (xs X) := by rw [hDD]; exact hC.2.2.2.2.2.1
  have hk0 : ∃ k0, ks.getD 0 0 = k0 ∧ adk ad ks 0 = ad k0 := ⟨_, rfl, rfl⟩
  have := va_runV (l := xl X) (e := xe X) (R := xR X) (below := xb X) (meth := xh X) (H := H) (locs := locs) (cells := cu) (slots := su) (C := y.cls) (b := adk ad ks 0) (As := av.map (cz (adk ad ks))) (rest := cst ad st) (g := F0 (xm X) pc ls (cst ad st0)) (nL := nL) (Ts := gw) ⟨hC.1, hC.2.1, hC.2.2.1, hC.2.2.2.1, hts⟩ hM1 cw1
    ⟨PX.blind, va_recv hKs.1 hPc hcl (cw_at hrc), fun U hU hW => ⟨rfl, by rw [hU], by rw [hU, ← hDD]; exact hPc, by rw [← hDD]; exact hKs.warm hW, hDc⟩⟩ rfl (by rw [List.length_map]; exact hn) hsz ?_ (lv_room (by rw [cat_cst]; exact hcat)) hd (by rw [hRR]; exact hcu)
  · exact this
  · show cst ad st0 = _
    rw [hst]
    unfold cst
    rw [List.map_append, List.map_reverse, List.map_map, List.map_cons]
    congr 2
    apply List.map_congr_left
    intro v _
    exact cz_rn ad ks v
theorem gCallS (hC : Cx X l D g rm cc nL own) {y : MethodName} {ccy : ByteArray} {mLy n ix : Nat} {rety : Option FieldType} {rmy : Room} {av : List Value} {wc : List va_E} {Qy : Option Value → List va_E → Prop} (ks : List Nat) {st0 : List Value} (hcu : cu ≤ rm.cells ∧ su ≤ rm.slots)
    (hd : decode cc pc = .ok (.invokestatic ix, 3)) (hlk : Cond.methodLink own ix y ∈ gw) (hy : MSok y ccy mLy rety n) (hrm : RMok rmy mLy rm) (hn : av.length = n) (hst : st0 = (av.map (rn ks)).reverse ++ st) (hcat : (st.map fun v => v.category).sum ≤ 8) (hs : subW w ks wc) (hnd : va_nd (ks.take wc.length) = true)
    (hM : CT l D g y ccy mLy rety rmy av wc Qy) (kk : ∀ (ov : Option Value) (wc' : List va_E), Qy ov wc' → wc'.length = wc.length → Go X nL ad cu su (pc + 3) lv ((ov.map (rn ks)).toList ++ st) (putR ks w ks wc')) : Go X nL ad cu su pc lv st0 w := fun H locs ls hP hD hS hl => by
  obtain ⟨m2, m3, m4, m5, m6⟩ := hy
  obtain ⟨r1, r2, r3, r4⟩ := hrm
  have hts := hC.2.2.2.2.1
  have hl' : xl X = l := hC.2.2.2.2.2.2.2.1
  have hDD : xD X = D := hC.2.2.2.2.2.2.2.2.1
  have hRR : xR X = rm := hC.2.2.2.2.2.2.2.2.2
  have hPc := subW_P (X := X) hs hP
  have hDc := subW_D hs hnd hD (A' := fun _ => True) (fun _ _ _ => trivial)
  have hM1 := hM (adk ad ks) H.size
  rw [← hl'] at hM1
  have hsz : ls.size = nL := hl.1
  refine gTail hC (a := (av.map (cz (adk ad ks))).toArray) hP hD hS hl hs hnd ?_ kk
  have cw1 : CallB (xR X) (xs X) (xa X) own ix y ccy mLy rety (Cond.code y ccy mLy rety :: gw) rmy 0 0 n ∧ (Cond.static y).before (xa X) (xs X) = true := by
    refine ⟨callB_of n hts (gw_in m4) rfl r1 r2 (hts _ m3) (hts _ hlk) ⟨m5.1, m5.2, m6⟩ (by rw [hRR]; exact ⟨r3, r4⟩), hts _ m2⟩
  have hKs : KK (xD X) g (xs X) := by rw [hDD]; exact hC.2.2.2.2.2.1
  have := va_runS (l := xl X) (e := xe X) (R := xR X) (below := xb X) (meth := xh X) (H := H) (locs := locs) (cells := cu) (slots := su) (As := av.map (cz (adk ad ks))) (rest := cst ad st) (g := F0 (xm X) pc ls (cst ad st0)) (nL := nL) (Ts := gw) ⟨hC.1, hC.2.1, hC.2.2.1, hC.2.2.2.1, hts⟩ hM1 cw1
    ⟨PX.blind, fun U hU hW => ⟨rfl, by rw [hU], by rw [hU, ← hDD]; exact hPc, by rw [← hDD]; exact hKs.warm hW, hDc⟩⟩ rfl (by rw [List.length_map]; exact hn) hsz ?_ (lv_room (by rw [cat_cst]; exact hcat)) hd (by rw [hRR]; exact hcu)
  · exact this
  · show cst ad st0 = _
    rw [hst]
    unfold cst
    rw [List.map_append, List.map_reverse, List.map_map]
    congr 2
    apply List.map_congr_left
    intro v _
    exact cz_rn ad ks v
theorem gCallVpI (hC : Cx X l D g rm cc nL own) {y : MethodName} {ccy : ByteArray} {mLy n ix ci : Nat} {rety : Option FieldType} {rmy : Room} {av : List Value} {wc : List va_E} {Q : Int32 → Prop} {st0 : List Value} {fs : List Value} {T : u_T} {N : Nat} (hM : CT l D g y ccy mLy rety rmy (.ref 0 :: av) wc (QpI wc Q)) (ks : List Nat) (hcu : cu ≤ rm.cells ∧ su ≤ rm.slots)
    (hd : decode cc pc = .ok (.invokevirtual ix, 3)) (hlk : Cond.methodLink own ix y ∈ gw) (hy : MVok y ccy mLy rety n) (hrm : RMok rmy mLy rm) (hn : av.length = n) (hst : st0 = (av.map (rn ks)).reverse ++ .ref (ks.getD 0 0) :: st) (hcat : (st.map fun v => v.category).sum ≤ 8) (hs : subW w ks wc) (hnd : va_nd (ks.take wc.length) = true) (hrc : wc[0]? = some (.inr (ci, fs))) (hcl : vwCl[ci]? = some (y.cls, T, N))
    (kk : ∀ r : Int32, Q r → Go X nL ad cu su (pc + 3) lv (.int r :: st) w) : Go X nL ad cu su pc lv st0 w :=
  gCallV hC ks hcu hd hlk hy hrm hn hst hcat hs hnd hrc hcl hM (fun ov wc2 hq hlen => by
    obtain ⟨rfl, r, rfl, hQ⟩ := hq
    rw [putR_self hs hnd]
    exact kk r hQ)
theorem gCallVpL (hC : Cx X l D g rm cc nL own) {y : MethodName} {ccy : ByteArray} {mLy n ix ci : Nat} {rety : Option FieldType} {rmy : Room} {av : List Value} {wc : List va_E} {Q : Int64 → Prop} {st0 : List Value} {fs : List Value} {T : u_T} {N : Nat} (hM : CT l D g y ccy mLy rety rmy (.ref 0 :: av) wc (QpL wc Q)) (ks : List Nat) (hcu : cu ≤ rm.cells ∧ su ≤ rm.slots)
    (hd : decode cc pc = .ok (.invokevirtual ix, 3)) (hlk : Cond.methodLink own ix y ∈ gw) (hy : MVok y ccy mLy rety n) (hrm : RMok rmy mLy rm) (hn : av.length = n) (hst : st0 = (av.map (rn ks)).reverse ++ .ref (ks.getD 0 0) :: st) (hcat : (st.map fun v => v.category).sum ≤ 8) (hs : subW w ks wc) (hnd : va_nd (ks.take wc.length) = true) (hrc : wc[0]? = some (.inr (ci, fs))) (hcl : vwCl[ci]? = some (y.cls, T, N))
    (kk : ∀ r : Int64, Q r → Go X nL ad cu su (pc + 3) lv (.long r :: st) w) : Go X nL ad cu su pc lv st0 w :=
  gCallV hC ks hcu hd hlk hy hrm hn hst hcat hs hnd hrc hcl hM (fun ov wc2 hq hlen => by
    obtain ⟨rfl, r, rfl, hQ⟩ := hq
    rw [putR_self hs hnd]
    exact kk r hQ)
theorem gCallVmI (hC : Cx X l D g rm cc nL own) {y : MethodName} {ccy : ByteArray} {mLy n ix ci : Nat} {rety : Option FieldType} {rmy : Room} {av : List Value} {wc : List va_E} {Q : Int32 → List va_E → Prop} {st0 : List Value} {fs : List Value} {T : u_T} {N : Nat} (hM : CT l D g y ccy mLy rety rmy (.ref 0 :: av) wc (QmI Q)) (ks : List Nat) (hcu : cu ≤ rm.cells ∧ su ≤ rm.slots)
    (hd : decode cc pc = .ok (.invokevirtual ix, 3)) (hlk : Cond.methodLink own ix y ∈ gw) (hy : MVok y ccy mLy rety n) (hrm : RMok rmy mLy rm) (hn : av.length = n) (hst : st0 = (av.map (rn ks)).reverse ++ .ref (ks.getD 0 0) :: st) (hcat : (st.map fun v => v.category).sum ≤ 8) (hs : subW w ks wc) (hnd : va_nd (ks.take wc.length) = true) (hrc : wc[0]? = some (.inr (ci, fs))) (hcl : vwCl[ci]? = some (y.cls, T, N))
    (kk : ∀ (r : Int32) (wc2 : List va_E), Q r wc2 → wc2.length = wc.length → Go X nL ad cu su (pc + 3) lv (.int r :: st) (putR ks w ks wc2)) : Go X nL ad cu su pc lv st0 w :=
  gCallV hC ks hcu hd hlk hy hrm hn hst hcat hs hnd hrc hcl hM (fun ov wc2 hq hlen => by
    obtain ⟨r, rfl, hQ⟩ := hq
    exact kk r wc2 hQ hlen)
theorem gCallVmL (hC : Cx X l D g rm cc nL own) {y : MethodName} {ccy : ByteArray} {mLy n ix ci : Nat} {rety : Option FieldType} {rmy : Room} {av : List Value} {wc : List va_E} {Q : Int64 → List va_E → Prop} {st0 : List Value} {fs : List Value} {T : u_T} {N : Nat} (hM : CT l D g y ccy mLy rety rmy (.ref 0 :: av) wc (QmL Q)) (ks : List Nat) (hcu : cu ≤ rm.cells ∧ su ≤ rm.slots)
    (hd : decode cc pc = .ok (.invokevirtual ix, 3)) (hlk : Cond.methodLink own ix y ∈ gw) (hy : MVok y ccy mLy rety n) (hrm : RMok rmy mLy rm) (hn : av.length = n) (hst : st0 = (av.map (rn ks)).reverse ++ .ref (ks.getD 0 0) :: st) (hcat : (st.map fun v => v.category).sum ≤ 8) (hs : subW w ks wc) (hnd : va_nd (ks.take wc.length) = true) (hrc : wc[0]? = some (.inr (ci, fs))) (hcl : vwCl[ci]? = some (y.cls, T, N))
    (kk : ∀ (r : Int64) (wc2 : List va_E), Q r wc2 → wc2.length = wc.length → Go X nL ad cu su (pc + 3) lv (.long r :: st) (putR ks w ks wc2)) : Go X nL ad cu su pc lv st0 w :=
  gCallV hC ks hcu hd hlk hy hrm hn hst hcat hs hnd hrc hcl hM (fun ov wc2 hq hlen => by
    obtain ⟨r, rfl, hQ⟩ := hq
    exact kk r wc2 hQ hlen)
theorem gCallVmV (hC : Cx X l D g rm cc nL own) {y : MethodName} {ccy : ByteArray} {mLy n ix ci : Nat} {rety : Option FieldType} {rmy : Room} {av : List Value} {wc : List va_E} {Q : List va_E → Prop} {st0 : List Value} {fs : List Value} {T : u_T} {N : Nat} (hM : CT l D g y ccy mLy rety rmy (.ref 0 :: av) wc (QmV Q)) (ks : List Nat) (hcu : cu ≤ rm.cells ∧ su ≤ rm.slots)
    (hd : decode cc pc = .ok (.invokevirtual ix, 3)) (hlk : Cond.methodLink own ix y ∈ gw) (hy : MVok y ccy mLy rety n) (hrm : RMok rmy mLy rm) (hn : av.length = n) (hst : st0 = (av.map (rn ks)).reverse ++ .ref (ks.getD 0 0) :: st) (hcat : (st.map fun v => v.category).sum ≤ 8) (hs : subW w ks wc) (hnd : va_nd (ks.take wc.length) = true) (hrc : wc[0]? = some (.inr (ci, fs))) (hcl : vwCl[ci]? = some (y.cls, T, N))
    (kk : ∀ (wc2 : List va_E), Q wc2 → wc2.length = wc.length → Go X nL ad cu su (pc + 3) lv st (putR ks w ks wc2)) : Go X nL ad cu su pc lv st0 w :=
  gCallV hC ks hcu hd hlk hy hrm hn hst hcat hs hnd hrc hcl hM (fun ov wc2 hq hlen => by
    obtain ⟨rfl, hQ⟩ := hq
    exact kk wc2 hQ hlen)
theorem gCallSpI (hC : Cx X l D g rm cc nL own) {y : MethodName} {ccy : ByteArray} {mLy n ix : Nat} {rety : Option FieldType} {rmy : Room} {av : List Value} {wc : List va_E} {Q : Int32 → Prop} {st0 : List Value} (hM : CT l D g y ccy mLy rety rmy av wc (QpI wc Q)) (ks : List Nat) (hcu : cu ≤ rm.cells ∧ su ≤ rm.slots)
    (hd : decode cc pc = .ok (.invokestatic ix, 3)) (hlk : Cond.methodLink own ix y ∈ gw) (hy : MSok y ccy mLy rety n) (hrm : RMok rmy mLy rm) (hn : av.length = n) (hst : st0 = (av.map (rn ks)).reverse ++ st) (hcat : (st.map fun v => v.category).sum ≤ 8) (hs : subW w ks wc) (hnd : va_nd (ks.take wc.length) = true)
    (kk : ∀ r : Int32, Q r → Go X nL ad cu su (pc + 3) lv (.int r :: st) w) : Go X nL ad cu su pc lv st0 w :=
  gCallS hC ks hcu hd hlk hy hrm hn hst hcat hs hnd hM (fun ov wc2 hq hlen => by
    obtain ⟨rfl, r, rfl, hQ⟩ := hq
    rw [putR_self hs hnd]
    exact kk r hQ)
theorem gCallSpL (hC : Cx X l D g rm cc nL own) {y : MethodName} {ccy : ByteArray} {mLy n ix : Nat} {rety : Option FieldType} {rmy : Room} {av : List Value} {wc : List va_E} {Q : Int64 → Prop} {st0 : List Value} (hM : CT l D g y ccy mLy rety rmy av wc (QpL wc Q)) (ks : List Nat) (hcu : cu ≤ rm.cells ∧ su ≤ rm.slots)
    (hd : decode cc pc = .ok (.invokestatic ix, 3)) (hlk : Cond.methodLink own ix y ∈ gw) (hy : MSok y ccy mLy rety n) (hrm : RMok rmy mLy rm) (hn : av.length = n) (hst : st0 = (av.map (rn ks)).reverse ++ st) (hcat : (st.map fun v => v.category).sum ≤ 8) (hs : subW w ks wc) (hnd : va_nd (ks.take wc.length) = true)
    (kk : ∀ r : Int64, Q r → Go X nL ad cu su (pc + 3) lv (.long r :: st) w) : Go X nL ad cu su pc lv st0 w :=
  gCallS hC ks hcu hd hlk hy hrm hn hst hcat hs hnd hM (fun ov wc2 hq hlen => by
    obtain ⟨rfl, r, rfl, hQ⟩ := hq
    rw [putR_self hs hnd]
    exact kk r hQ)
theorem gCallSmI (hC : Cx X l D g rm cc nL own) {y : MethodName} {ccy : ByteArray} {mLy n ix : Nat} {rety : Option FieldType} {rmy : Room} {av : List Value} {wc : List va_E} {Q : Int32 → List va_E → Prop} {st0 : List Value} (hM : CT l D g y ccy mLy rety rmy av wc (QmI Q)) (ks : List Nat) (hcu : cu ≤ rm.cells ∧ su ≤ rm.slots)
    (hd : decode cc pc = .ok (.invokestatic ix, 3)) (hlk : Cond.methodLink own ix y ∈ gw) (hy : MSok y ccy mLy rety n) (hrm : RMok rmy mLy rm) (hn : av.length = n) (hst : st0 = (av.map (rn ks)).reverse ++ st) (hcat : (st.map fun v => v.category).sum ≤ 8) (hs : subW w ks wc) (hnd : va_nd (ks.take wc.length) = true)
    (kk : ∀ (r : Int32) (wc2 : List va_E), Q r wc2 → wc2.length = wc.length → Go X nL ad cu su (pc + 3) lv (.int r :: st) (putR ks w ks wc2)) : Go X nL ad cu su pc lv st0 w :=
  gCallS hC ks hcu hd hlk hy hrm hn hst hcat hs hnd hM (fun ov wc2 hq hlen => by
    obtain ⟨r, rfl, hQ⟩ := hq
    exact kk r wc2 hQ hlen)
theorem gCallSmL (hC : Cx X l D g rm cc nL own) {y : MethodName} {ccy : ByteArray} {mLy n ix : Nat} {rety : Option FieldType} {rmy : Room} {av : List Value} {wc : List va_E} {Q : Int64 → List va_E → Prop} {st0 : List Value} (hM : CT l D g y ccy mLy rety rmy av wc (QmL Q)) (ks : List Nat) (hcu : cu ≤ rm.cells ∧ su ≤ rm.slots)
    (hd : decode cc pc = .ok (.invokestatic ix, 3)) (hlk : Cond.methodLink own ix y ∈ gw) (hy : MSok y ccy mLy rety n) (hrm : RMok rmy mLy rm) (hn : av.length = n) (hst : st0 = (av.map (rn ks)).reverse ++ st) (hcat : (st.map fun v => v.category).sum ≤ 8) (hs : subW w ks wc) (hnd : va_nd (ks.take wc.length) = true)
    (kk : ∀ (r : Int64) (wc2 : List va_E), Q r wc2 → wc2.length = wc.length → Go X nL ad cu su (pc + 3) lv (.long r :: st) (putR ks w ks wc2)) : Go X nL ad cu su pc lv st0 w :=
  gCallS hC ks hcu hd hlk hy hrm hn hst hcat hs hnd hM (fun ov wc2 hq hlen => by
    obtain ⟨r, rfl, hQ⟩ := hq
    exact kk r wc2 hQ hlen)
theorem gCallSmV (hC : Cx X l D g rm cc nL own) {y : MethodName} {ccy : ByteArray} {mLy n ix : Nat} {rety : Option FieldType} {rmy : Room} {av : List Value} {wc : List va_E} {Q : List va_E → Prop} {st0 : List Value} (hM : CT l D g y ccy mLy rety rmy av wc (QmV Q)) (ks : List Nat) (hcu : cu ≤ rm.cells ∧ su ≤ rm.slots)
    (hd : decode cc pc = .ok (.invokestatic ix, 3)) (hlk : Cond.methodLink own ix y ∈ gw) (hy : MSok y ccy mLy rety n) (hrm : RMok rmy mLy rm) (hn : av.length = n) (hst : st0 = (av.map (rn ks)).reverse ++ st) (hcat : (st.map fun v => v.category).sum ≤ 8) (hs : subW w ks wc) (hnd : va_nd (ks.take wc.length) = true)
    (kk : ∀ (wc2 : List va_E), Q wc2 → wc2.length = wc.length → Go X nL ad cu su (pc + 3) lv st (putR ks w ks wc2)) : Go X nL ad cu su pc lv st0 w :=
  gCallS hC ks hcu hd hlk hy hrm hn hst hcat hs hnd hM (fun ov wc2 hq hlen => by
    obtain ⟨rfl, hQ⟩ := hq
    exact kk wc2 hQ hlen)
end GoCalls
