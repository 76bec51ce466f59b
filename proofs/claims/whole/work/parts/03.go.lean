/-! THE LIGHT JUDGEMENT: cells by their places in a list, references by those places; the addresses are a function 'ad' of the places. -/
/-- the words that every method of ours may use: all good ones of the tables -/
def gw : List Cond := lw_tbl.filter goodWord
theorem gw_at {x : Cond} (i : Nat) (h : lw_tbl[i]? = some x) (hg : goodWord x = true) : x ∈ gw := List.mem_filter.mpr ⟨List.mem_of_getElem? h, hg⟩
theorem gw_in {cy : Cond} (hy : cy ∈ gw) : GoodIn gw (cy :: gw) := fun x hx => by
  rcases List.mem_cons.mp hx with h | h
  · subst h; exact ⟨hy, good_of_word (List.mem_filter.mp hy).2⟩
  · exact ⟨h, good_of_word (List.mem_filter.mp h).2⟩
def nwF : List (String × Nat × String × String × String × String) := [("ParishRaffle", 89, "ParishRaffle$Text", "length", "I", "ParishRaffle"), ("ParishRaffle$Stands", 38, "ParishRaffle$Stand", "cells", "[I", "ParishRaffle"), ("ParishRaffle", 164, "ParishRaffle$Stands", "size", "I", "ParishRaffle"), ("ParishRaffle", 213, "ParishRaffle$Notes", "size", "I", "ParishRaffle"), ("ParishRaffle$Stand", 15, "ParishRaffle$Parish", "tickets", "[I", "ParishRaffle"), ("ParishRaffle$Notes", 25, "ParishRaffle$Parish", "tickets", "[I", "ParishRaffle"), ("ParishRaffle", 105, "ParishRaffle$Parish", "tickets", "[I", "ParishRaffle"), ("ParishRaffle", 119, "ParishRaffle$Parish", "kinds", "[I", "ParishRaffle"), ("ParishRaffle", 122, "ParishRaffle$Parish", "worths", "[I", "ParishRaffle"), ("ParishRaffle$Barter", 48, "ParishRaffle$Parish", "persons", "I", "ParishRaffle"), ("ParishRaffle", 92, "ParishRaffle$Parish", "persons", "I", "ParishRaffle"), ("ParishRaffle$Barter", 21, "ParishRaffle$Parish", "things", "I", "ParishRaffle"), ("ParishRaffle", 140, "ParishRaffle$Parish", "things", "I", "ParishRaffle")]
def nwM : List (String × Nat × MethodName × String) := [("ParishRaffle", 9, ⟨"ParishRaffle$Text", "<init>", "()V"⟩, "ParishRaffle"), ("ParishRaffle", 18, ⟨"ParishRaffle$Stand", "<init>", "()V"⟩, "ParishRaffle"), ("ParishRaffle", 40, ⟨"ParishRaffle$Notes", "<init>", "()V"⟩, "ParishRaffle"), ("ParishRaffle", 47, ⟨"ParishRaffle$Barter", "<init>", "()V"⟩, "ParishRaffle"), ("ParishRaffle", 54, ⟨"ParishRaffle$Parish", "<init>", "()V"⟩, "ParishRaffle")]
def tysG (g : Nat → ClassId) : List (ClassId × FieldType) := [(g 0, .int), (g 1, .char), (g 2, .byte), (g 3, .long)]
def KK (D : va_G) (g : Nat → ClassId) (U : State) : Prop := va_K D vwCl (tysG g) U ∧ (∀ q ∈ nwF, va_Nw (.fieldLinkNest q.1 q.2.1 q.2.2.1 q.2.2.2.1 q.2.2.2.2.1 q.2.2.2.2.2) U) ∧ ∀ q ∈ nwM, va_Nw (.methodLinkNest q.1 q.2.1 q.2.2.1 q.2.2.2) U
theorem KK.warm {D : va_G} {g : Nat → ClassId} {s U : State} (hW : s.WarmedH U.vm) (h : KK D g s) : KK D g U := ⟨va_K.moved hW.alike h.1, fun q hq => va_Nw.warmF hW (h.2.1 q hq), fun q hq => va_Nw.warmM hW (h.2.2 q hq)⟩
theorem KK.same {D : va_G} {g : Nat → ClassId} {s U : State} (hv : s.vm = U.vm) (h : KK D g s) : KK D g U := ⟨va_K.moved (by rw [hv]; exact Vm.Alike.refl _) h.1, fun q hq => va_Nw.same rfl hv (h.2.1 q hq), fun q hq => va_Nw.same rfl hv (h.2.2 q hq)⟩

/-- from places to addresses -/
def cz (ad : Nat → Nat) : Value → Value
  | .ref k => .ref (ad k)
  | v => v
def ce (ad : Nat → Nat) : va_E → va_E
  | .inl a => .inl a
  | .inr q => .inr (q.1, q.2.map (cz ad))
def cw (ad : Nat → Nat) (w : List va_E) : va_W := w.mapIdx (fun k e => (ad k, ce ad e))
def cst (ad : Nat → Nat) (st : List Value) : List Value := st.map (cz ad)
def clv (ad : Nat → Nat) (lv : List (Nat × Value)) : List (Nat × Value) := lv.map (fun q => (q.1, cz ad q.2))
theorem cz_cat (ad : Nat → Nat) (v : Value) : (cz ad v).category = v.category := by cases v <;> rfl
theorem cw_get (ad : Nat → Nat) (w : List va_E) (k : Nat) : (cw ad w)[k]? = (w[k]?).map (fun e => (ad k, ce ad e)) := by simp [cw, List.getElem?_mapIdx]
theorem cw_at {ad : Nat → Nat} {w : List va_E} {k : Nat} {e : va_E} (h : w[k]? = some e) : (cw ad w)[k]? = some (ad k, ce ad e) := by rw [cw_get, h]; rfl
theorem cw_len (ad : Nat → Nat) (w : List va_E) : (cw ad w).length = w.length := by simp [cw]
theorem cw_set (ad : Nat → Nat) (w : List va_E) (k : Nat) (e : va_E) : cw ad (w.set k e) = (cw ad w).set k (ad k, ce ad e) := by
  apply List.ext_getElem?
  intro i
  rw [cw_get, List.getElem?_set, List.getElem?_set, cw_len, cw_get]
  by_cases h : k = i
  · subst h
    by_cases h2 : k < w.length
    · simp [h2]
    · simp [h2]
  · simp [h]
def lk : List (Nat × Value) → Nat → Option Value
  | [], _ => none
  | q :: t, k => cond (Nat.beq q.1 k) (some q.2) (lk t k)
theorem lk_mem {v : Value} {k : Nat} : ∀ {lv : List (Nat × Value)}, lk lv k = some v → (k, v) ∈ lv
  | [], h => by cases h
  | q :: t, h => by
    unfold lk at h
    cases hb : Nat.beq q.1 k with
    | true =>
      rw [hb] at h
      have e : q.1 = k := Nat.eq_of_beq_eq_true hb
      cases h
      rw [← e]
      exact List.mem_cons_self
    | false =>
      rw [hb] at h
      exact List.mem_cons_of_mem _ (lk_mem h)
theorem clv_lk {ad : Nat → Nat} {ls : Array Slot} {nL : Nat} {lv : List (Nat × Value)} {k : Nat} {v : Value} (hl : lv_has ls nL (clv ad lv)) (h : lk lv k = some v) : ls[k]? = some (.val (cz ad v)) := hl.2.2 (k, cz ad v) (List.mem_map.mpr ⟨(k, v), lk_mem h, rfl⟩)
def st1 (i : Nat) (lv : List (Nat × Value)) : List (Nat × Value) := lv.filter (fun q => !(q.1 == i) && !(q.1 + 1 == i && q.2.category == 2))
def st2 (i : Nat) (lv : List (Nat × Value)) : List (Nat × Value) := lv.filter (fun q => !(q.1 == i) && (!(q.1 == i + 1) && !(q.1 + 1 == i && q.2.category == 2)))
theorem clv_st1 (ad : Nat → Nat) (i : Nat) : ∀ lv : List (Nat × Value), clv ad (st1 i lv) = (clv ad lv).filter (fun q => !(q.1 == i) && !(q.1 + 1 == i && q.2.category == 2)) := fun lv => by
  unfold clv st1
  rw [List.filter_map]
  congr 1
  apply List.filter_congr
  intro q _
  simp [cz_cat]
theorem clv_st2 (ad : Nat → Nat) (i : Nat) : ∀ lv : List (Nat × Value), clv ad (st2 i lv) = (clv ad lv).filter (fun q => !(q.1 == i) && (!(q.1 == i + 1) && !(q.1 + 1 == i && q.2.category == 2))) := fun lv => by
  unfold clv st2
  rw [List.filter_map]
  congr 1
  apply List.filter_congr
  intro q _
  simp [cz_cat]
/-- the machine's part of a method's walk: program, launch, env, room, state, method, arguments, frames below, method, code, classes, what may change, the end -/
abbrev MC : Type := Program × Launch × Env × Room × State × MethodId × Array Value × List Frame × Method × Code × va_G × (Nat → Prop) × (State → Prop)
abbrev xp (X : MC) : Program := X.1
abbrev xl (X : MC) : Launch := X.2.1
abbrev xe (X : MC) : Env := X.2.2.1
abbrev xR (X : MC) : Room := X.2.2.2.1
abbrev xs (X : MC) : State := X.2.2.2.2.1
abbrev xm (X : MC) : MethodId := X.2.2.2.2.2.1
abbrev xa (X : MC) : Array Value := X.2.2.2.2.2.2.1
abbrev xb (X : MC) : List Frame := X.2.2.2.2.2.2.2.1
abbrev xh (X : MC) : Method := X.2.2.2.2.2.2.2.2.1
abbrev xc (X : MC) : Code := X.2.2.2.2.2.2.2.2.2.1
abbrev xD (X : MC) : va_G := X.2.2.2.2.2.2.2.2.2.2.1
abbrev xA (X : MC) : Nat → Prop := X.2.2.2.2.2.2.2.2.2.2.2.1
abbrev xQ (X : MC) : State → Prop := X.2.2.2.2.2.2.2.2.2.2.2.2
/-- what a method's walk stands on -/
def Cx (X : MC) (l : Launch) (D : va_G) (g : Nat → ClassId) (rm : Room) (cc : ByteArray) (nL : Nat) (own : String) : Prop :=
  (xp X).tables.exec = Jvm.exec ∧ (xc X).code = cc ∧ (xc X).maxLocals = nL ∧ (xs X).vm.findClass own = some (xm X).cls ∧ (∀ w ∈ gw, w.before (xa X) (xs X) = true) ∧ KK D g (xs X) ∧ (∀ q, (xs X).heap.size ≤ q → xA X q) ∧ xl X = l ∧ xD X = D ∧ xR X = rm
def Go (X : MC) (nL : Nat) (ad : Nat → Nat) (cu su pc : Nat) (lv : List (Nat × Value)) (st : List Value) (w : List va_E) : Prop :=
  ∀ (H : Heap) (locs : List Loc) (ls : Array Slot), va_P (xD X) vwCl (cw ad w) H → va_D (xA X) (cw ad w) → va_S (xA X) (xs X).heap H locs → lv_has ls nL (clv ad lv) →
    W (xp X) (xl X) (xe X) (xR X) (xs X) (xm X) (xa X) (xb X) (xh X) (xc X) H locs cu su (xQ X) (F0 (xm X) pc ls (cst ad st))
section GoRows
variable {X : MC} {l : Launch} {D : va_G} {g : Nat → ClassId} {rm : Room} {cc : ByteArray} {nL : Nat} {own : String} {ad : Nat → Nat} {cu su pc : Nat} {lv : List (Nat × Value)} {st : List Value} {w : List va_E}
/-- fewer locals, by their numbers -/
def subL : List (Nat × Value) → List (Nat × Value) → Prop
  | [], _ => True
  | q :: t, lv => lk lv q.1 = some q.2 ∧ subL t lv
theorem subL_mem : ∀ {lv' lv : List (Nat × Value)}, subL lv' lv → ∀ q ∈ lv', (q.1, q.2) ∈ lv
  | [], _, _, q, hq => by cases hq
  | a :: t, lv, h, q, hq => by
    rcases List.mem_cons.mp hq with e | e
    · subst e; exact lk_mem h.1
    · exact subL_mem h.2 q e
theorem gSub {lv' : List (Nat × Value)} (hs : subL lv' lv) (kk : Go X nL ad cu su pc lv' st w) : Go X nL ad cu su pc lv st w := fun H locs ls hP hD hS hl =>
  kk H locs ls hP hD hS ⟨hl.1, hl.2.1, fun q hq => by
    obtain ⟨q0, h1, h2⟩ := List.mem_map.mp hq
    subst h2
    exact hl.2.2 _ (List.mem_map.mpr ⟨(q0.1, q0.2), subL_mem hs q0 h1, rfl⟩)⟩
theorem gW {w' : List va_E} (he : w = w') (kk : Go X nL ad cu su pc lv st w') : Go X nL ad cu su pc lv st w := he ▸ kk
theorem gLV {lv' : List (Nat × Value)} (he : lv = lv') (kk : Go X nL ad cu su pc lv' st w) : Go X nL ad cu su pc lv st w := he ▸ kk
theorem gST {st' : List Value} (he : st = st') (kk : Go X nL ad cu su pc lv st' w) : Go X nL ad cu su pc lv st w := he ▸ kk

theorem gIconst (hC : Cx X l D g rm cc nL own) {n : Int} (v : Int32) (hd : decode cc pc = .ok (.iconst n, 1)) (hv : Int32.ofInt n = v) (kk : Go X nL ad cu su (pc + 1) lv (.int v :: st) w) : Go X nL ad cu su pc lv st w := fun H locs ls hP hD hS hl => lv_iconst hC.1 hC.2.1 hd hv (kk H locs ls hP hD hS hl)
theorem gBipush (hC : Cx X l D g rm cc nL own) {n : Int} (v : Int32) (hd : decode cc pc = .ok (.bipush n, 2)) (hv : (Int8.ofInt n).toInt32 = v) (kk : Go X nL ad cu su (pc + 2) lv (.int v :: st) w) : Go X nL ad cu su pc lv st w := fun H locs ls hP hD hS hl => lv_bipush hC.1 hC.2.1 hd hv (kk H locs ls hP hD hS hl)
theorem gSipush (hC : Cx X l D g rm cc nL own) {n : Int} (v : Int32) (hd : decode cc pc = .ok (.sipush n, 3)) (hv : (Int16.ofInt n).toInt32 = v) (kk : Go X nL ad cu su (pc + 3) lv (.int v :: st) w) : Go X nL ad cu su pc lv st w := fun H locs ls hP hD hS hl => lv_sipush hC.1 hC.2.1 hd hv (kk H locs ls hP hD hS hl)
theorem gLconst (hC : Cx X l D g rm cc nL own) {n : Fin 2} (v : Int64) (hd : decode cc pc = .ok (.lconst n, 1)) (hv : Int64.ofNat (n : Nat) = v) (kk : Go X nL ad cu su (pc + 1) lv (.long v :: st) w) : Go X nL ad cu su pc lv st w := fun H locs ls hP hD hS hl => lv_lconst hC.1 hC.2.1 hd hv (kk H locs ls hP hD hS hl)
theorem gLdc (hC : Cx X l D g rm cc nL own) {ix : Nat} {v : Int32} (hm : Cond.constant own ix v ∈ gw) (hd : decode cc pc = .ok (.ldc ix, 2)) (kk : Go X nL ad cu su (pc + 2) lv (.int v :: st) w) : Go X nL ad cu su pc lv st w := fun H locs ls hP hD hS hl => lv_ldc hC.1 hC.2.1 hC.2.2.2.1 (hC.2.2.2.2.1 _ hm) hd (kk H locs ls hP hD hS hl)
theorem gLdcw (hC : Cx X l D g rm cc nL own) {ix : Nat} {v : Int32} (hm : Cond.constant own ix v ∈ gw) (hd : decode cc pc = .ok (.ldc_w ix, 3)) (kk : Go X nL ad cu su (pc + 3) lv (.int v :: st) w) : Go X nL ad cu su pc lv st w := fun H locs ls hP hD hS hl => lv_ldcw hC.1 hC.2.1 hC.2.2.2.1 (hC.2.2.2.2.1 _ hm) hd (kk H locs ls hP hD hS hl)
theorem gLdc2 (hC : Cx X l D g rm cc nL own) {ix : Nat} {v : Int64} (hm : Cond.constantLong own ix v ∈ gw) (hd : decode cc pc = .ok (.ldc2_w ix, 3)) (kk : Go X nL ad cu su (pc + 3) lv (.long v :: st) w) : Go X nL ad cu su pc lv st w := fun H locs ls hP hD hS hl => lv_ldc2 hC.1 hC.2.1 hC.2.2.2.1 (hC.2.2.2.2.1 _ hm) hd (kk H locs ls hP hD hS hl)
theorem gIloadN (hC : Cx X l D g rm cc nL own) {k : Fin 4} {i : Nat} {x : Int32} (hd : decode cc pc = .ok (.iload_n k, 1)) (hi : (k : Nat) = i) (hv : lk lv i = some (.int x)) (kk : Go X nL ad cu su (pc + 1) lv (.int x :: st) w) : Go X nL ad cu su pc lv st w := fun H locs ls hP hD hS hl => lv_iload_n hC.1 hC.2.1 hd hi (clv_lk hl hv) (kk H locs ls hP hD hS hl)
theorem gIload (hC : Cx X l D g rm cc nL own) {i : Nat} {x : Int32} (hd : decode cc pc = .ok (.iload i, 2)) (hv : lk lv i = some (.int x)) (kk : Go X nL ad cu su (pc + 2) lv (.int x :: st) w) : Go X nL ad cu su pc lv st w := fun H locs ls hP hD hS hl => lv_iload hC.1 hC.2.1 hd (clv_lk hl hv) (kk H locs ls hP hD hS hl)
theorem gIstoreN (hC : Cx X l D g rm cc nL own) {k : Fin 4} {i : Nat} {x : Int32} (lv' : List (Nat × Value)) (hd : decode cc pc = .ok (.istore_n k, 1)) (hi : (k : Nat) = i) (hn : i < nL) (hv : (i, Value.int x) :: st1 i lv = lv') (kk : Go X nL ad cu su (pc + 1) lv' st w) : Go X nL ad cu su pc lv (.int x :: st) w := fun H locs ls hP hD hS hl => lv_istore_n hC.1 hC.2.1 hd hi hl hn (lv' := clv ad lv') (by rw [← hv]; show _ = (i, _) :: clv ad (st1 i lv); rw [clv_st1]; rfl) (fun ls' hl' => kk H locs ls' hP hD hS hl')
theorem gIstore (hC : Cx X l D g rm cc nL own) {i : Nat} {x : Int32} (lv' : List (Nat × Value)) (hd : decode cc pc = .ok (.istore i, 2)) (hn : i < nL) (hv : (i, Value.int x) :: st1 i lv = lv') (kk : Go X nL ad cu su (pc + 2) lv' st w) : Go X nL ad cu su pc lv (.int x :: st) w := fun H locs ls hP hD hS hl => lv_istore hC.1 hC.2.1 hd hl hn (lv' := clv ad lv') (by rw [← hv]; show _ = (i, _) :: clv ad (st1 i lv); rw [clv_st1]; rfl) (fun ls' hl' => kk H locs ls' hP hD hS hl')
theorem gLloadN (hC : Cx X l D g rm cc nL own) {k : Fin 4} {i : Nat} {x : Int64} (hd : decode cc pc = .ok (.lload_n k, 1)) (hi : (k : Nat) = i) (hv : lk lv i = some (.long x)) (kk : Go X nL ad cu su (pc + 1) lv (.long x :: st) w) : Go X nL ad cu su pc lv st w := fun H locs ls hP hD hS hl => lv_lload_n hC.1 hC.2.1 hd hi (clv_lk hl hv) (kk H locs ls hP hD hS hl)
theorem gLload (hC : Cx X l D g rm cc nL own) {i : Nat} {x : Int64} (hd : decode cc pc = .ok (.lload i, 2)) (hv : lk lv i = some (.long x)) (kk : Go X nL ad cu su (pc + 2) lv (.long x :: st) w) : Go X nL ad cu su pc lv st w := fun H locs ls hP hD hS hl => lv_lload hC.1 hC.2.1 hd (clv_lk hl hv) (kk H locs ls hP hD hS hl)
theorem gLstoreN (hC : Cx X l D g rm cc nL own) {k : Fin 4} {i : Nat} {x : Int64} (lv' : List (Nat × Value)) (hd : decode cc pc = .ok (.lstore_n k, 1)) (hi : (k : Nat) = i) (hn : i + 1 < nL) (hv : (i, Value.long x) :: st2 i lv = lv') (kk : Go X nL ad cu su (pc + 1) lv' st w) : Go X nL ad cu su pc lv (.long x :: st) w := fun H locs ls hP hD hS hl => lv_lstore_n hC.1 hC.2.1 hd hi hl hn (lv' := clv ad lv') (by rw [← hv]; show _ = (i, _) :: clv ad (st2 i lv); rw [clv_st2]; rfl) (fun ls' hl' => kk H locs ls' hP hD hS hl')
theorem gLstore (hC : Cx X l D g rm cc nL own) {i : Nat} {x : Int64} (lv' : List (Nat × Value)) (hd : decode cc pc = .ok (.lstore i, 2)) (hn : i + 1 < nL) (hv : (i, Value.long x) :: st2 i lv = lv') (kk : Go X nL ad cu su (pc + 2) lv' st w) : Go X nL ad cu su pc lv (.long x :: st) w := fun H locs ls hP hD hS hl => lv_lstore hC.1 hC.2.1 hd hl hn (lv' := clv ad lv') (by rw [← hv]; show _ = (i, _) :: clv ad (st2 i lv); rw [clv_st2]; rfl) (fun ls' hl' => kk H locs ls' hP hD hS hl')
theorem gAloadN (hC : Cx X l D g rm cc nL own) {k : Fin 4} {i : Nat} {x : Nat} (hd : decode cc pc = .ok (.aload_n k, 1)) (hi : (k : Nat) = i) (hv : lk lv i = some (.ref x)) (kk : Go X nL ad cu su (pc + 1) lv (.ref x :: st) w) : Go X nL ad cu su pc lv st w := fun H locs ls hP hD hS hl => lv_aload_n hC.1 hC.2.1 hd hi (clv_lk hl hv) (kk H locs ls hP hD hS hl)
theorem gAload (hC : Cx X l D g rm cc nL own) {i : Nat} {x : Nat} (hd : decode cc pc = .ok (.aload i, 2)) (hv : lk lv i = some (.ref x)) (kk : Go X nL ad cu su (pc + 2) lv (.ref x :: st) w) : Go X nL ad cu su pc lv st w := fun H locs ls hP hD hS hl => lv_aload hC.1 hC.2.1 hd (clv_lk hl hv) (kk H locs ls hP hD hS hl)
theorem gAstoreN (hC : Cx X l D g rm cc nL own) {k : Fin 4} {i : Nat} {x : Nat} (lv' : List (Nat × Value)) (hd : decode cc pc = .ok (.astore_n k, 1)) (hi : (k : Nat) = i) (hn : i < nL) (hv : (i, Value.ref x) :: st1 i lv = lv') (kk : Go X nL ad cu su (pc + 1) lv' st w) : Go X nL ad cu su pc lv (.ref x :: st) w := fun H locs ls hP hD hS hl => lv_astore_n hC.1 hC.2.1 hd hi hl hn (lv' := clv ad lv') (by rw [← hv]; show _ = (i, _) :: clv ad (st1 i lv); rw [clv_st1]; rfl) (fun ls' hl' => kk H locs ls' hP hD hS hl')
theorem gAstore (hC : Cx X l D g rm cc nL own) {i : Nat} {x : Nat} (lv' : List (Nat × Value)) (hd : decode cc pc = .ok (.astore i, 2)) (hn : i < nL) (hv : (i, Value.ref x) :: st1 i lv = lv') (kk : Go X nL ad cu su (pc + 2) lv' st w) : Go X nL ad cu su pc lv (.ref x :: st) w := fun H locs ls hP hD hS hl => lv_astore hC.1 hC.2.1 hd hl hn (lv' := clv ad lv') (by rw [← hv]; show _ = (i, _) :: clv ad (st1 i lv); rw [clv_st1]; rfl) (fun ls' hl' => kk H locs ls' hP hD hS hl')
theorem gIinc (hC : Cx X l D g rm cc nL own) {i : Nat} {n : Int} {x : Int32} (v : Int32) (lv' : List (Nat × Value)) (hd : decode cc pc = .ok (.iinc i n, 3)) (hx : lk lv i = some (.int x)) (hv : Int32.ofInt n = v) (hn : i < nL) (hl' : (i, Value.int (x + v)) :: st1 i lv = lv') (kk : Go X nL ad cu su (pc + 3) lv' st w) : Go X nL ad cu su pc lv st w := fun H locs ls hP hD hS hl => by
  obtain ⟨k, hk⟩ := List.getElem?_of_mem (List.mem_map.mpr ⟨(i, Value.int x), lk_mem hx, rfl⟩ : (i, cz ad (Value.int x)) ∈ clv ad lv)
  exact lv_iinc hC.1 hC.2.1 hd hl hk (by rw [hv]) hn (lv' := clv ad lv') (by rw [← hl']; show _ = (i, _) :: clv ad (st1 i lv); rw [clv_st1]; rfl) (fun ls' h' => kk H locs ls' hP hD hS h')
theorem g_iadd (hC : Cx X l D g rm cc nL own) {x y : Int32} (hd : decode cc pc = .ok (.iadd, 1)) (kk : Go X nL ad cu su (pc + 1) lv (.int (x + y) :: st) w) : Go X nL ad cu su pc lv (.int y :: .int x :: st) w := fun H locs ls hP hD hS hl => lv_iadd hC.1 hC.2.1 hd (kk H locs ls hP hD hS hl)
theorem g_isub (hC : Cx X l D g rm cc nL own) {x y : Int32} (hd : decode cc pc = .ok (.isub, 1)) (kk : Go X nL ad cu su (pc + 1) lv (.int (x - y) :: st) w) : Go X nL ad cu su pc lv (.int y :: .int x :: st) w := fun H locs ls hP hD hS hl => lv_isub hC.1 hC.2.1 hd (kk H locs ls hP hD hS hl)
theorem g_imul (hC : Cx X l D g rm cc nL own) {x y : Int32} (hd : decode cc pc = .ok (.imul, 1)) (kk : Go X nL ad cu su (pc + 1) lv (.int (x * y) :: st) w) : Go X nL ad cu su pc lv (.int y :: .int x :: st) w := fun H locs ls hP hD hS hl => lv_imul hC.1 hC.2.1 hd (kk H locs ls hP hD hS hl)
theorem g_iand (hC : Cx X l D g rm cc nL own) {x y : Int32} (hd : decode cc pc = .ok (.iand, 1)) (kk : Go X nL ad cu su (pc + 1) lv (.int (x &&& y) :: st) w) : Go X nL ad cu su pc lv (.int y :: .int x :: st) w := fun H locs ls hP hD hS hl => lv_iand hC.1 hC.2.1 hd (kk H locs ls hP hD hS hl)
theorem g_ior (hC : Cx X l D g rm cc nL own) {x y : Int32} (hd : decode cc pc = .ok (.ior, 1)) (kk : Go X nL ad cu su (pc + 1) lv (.int (x ||| y) :: st) w) : Go X nL ad cu su pc lv (.int y :: .int x :: st) w := fun H locs ls hP hD hS hl => lv_ior hC.1 hC.2.1 hd (kk H locs ls hP hD hS hl)
theorem g_ixor (hC : Cx X l D g rm cc nL own) {x y : Int32} (hd : decode cc pc = .ok (.ixor, 1)) (kk : Go X nL ad cu su (pc + 1) lv (.int (x ^^^ y) :: st) w) : Go X nL ad cu su pc lv (.int y :: .int x :: st) w := fun H locs ls hP hD hS hl => lv_ixor hC.1 hC.2.1 hd (kk H locs ls hP hD hS hl)
theorem g_ishl (hC : Cx X l D g rm cc nL own) {x y : Int32} (hd : decode cc pc = .ok (.ishl, 1)) (kk : Go X nL ad cu su (pc + 1) lv (.int (x <<< (y &&& 31)) :: st) w) : Go X nL ad cu su pc lv (.int y :: .int x :: st) w := fun H locs ls hP hD hS hl => lv_ishl hC.1 hC.2.1 hd (kk H locs ls hP hD hS hl)
theorem g_ishr (hC : Cx X l D g rm cc nL own) {x y : Int32} (hd : decode cc pc = .ok (.ishr, 1)) (kk : Go X nL ad cu su (pc + 1) lv (.int (x >>> (y &&& 31)) :: st) w) : Go X nL ad cu su pc lv (.int y :: .int x :: st) w := fun H locs ls hP hD hS hl => lv_ishr hC.1 hC.2.1 hd (kk H locs ls hP hD hS hl)
theorem g_iushr (hC : Cx X l D g rm cc nL own) {x y : Int32} (hd : decode cc pc = .ok (.iushr, 1)) (kk : Go X nL ad cu su (pc + 1) lv (.int (x.toUInt32 >>> (y.toUInt32 &&& Int32.toUInt32 31)).toInt32 :: st) w) : Go X nL ad cu su pc lv (.int y :: .int x :: st) w := fun H locs ls hP hD hS hl => lv_iushr hC.1 hC.2.1 hd rfl (kk H locs ls hP hD hS hl)
theorem g_idiv (hC : Cx X l D g rm cc nL own) {x y : Int32} (hd : decode cc pc = .ok (.idiv, 1)) (hy : ¬ y = 0) (kk : Go X nL ad cu su (pc + 1) lv (.int (x / y) :: st) w) : Go X nL ad cu su pc lv (.int y :: .int x :: st) w := fun H locs ls hP hD hS hl => lv_idiv hC.1 hC.2.1 hd hy (kk H locs ls hP hD hS hl)
theorem g_irem (hC : Cx X l D g rm cc nL own) {x y : Int32} (hd : decode cc pc = .ok (.irem, 1)) (hy : ¬ y = 0) (kk : Go X nL ad cu su (pc + 1) lv (.int (x - x / y * y) :: st) w) : Go X nL ad cu su pc lv (.int y :: .int x :: st) w := fun H locs ls hP hD hS hl => lv_irem hC.1 hC.2.1 hd hy (kk H locs ls hP hD hS hl)
theorem g_ineg (hC : Cx X l D g rm cc nL own) {x : Int32} (hd : decode cc pc = .ok (.ineg, 1)) (kk : Go X nL ad cu su (pc + 1) lv (.int (-x) :: st) w) : Go X nL ad cu su pc lv (.int x :: st) w := fun H locs ls hP hD hS hl => lv_ineg hC.1 hC.2.1 hd (kk H locs ls hP hD hS hl)
theorem g_i2l (hC : Cx X l D g rm cc nL own) {x : Int32} (hd : decode cc pc = .ok (.i2l, 1)) (kk : Go X nL ad cu su (pc + 1) lv (.long x.toInt64 :: st) w) : Go X nL ad cu su pc lv (.int x :: st) w := fun H locs ls hP hD hS hl => lv_i2l hC.1 hC.2.1 hd rfl (kk H locs ls hP hD hS hl)
theorem g_l2i (hC : Cx X l D g rm cc nL own) {x : Int64} (hd : decode cc pc = .ok (.l2i, 1)) (kk : Go X nL ad cu su (pc + 1) lv (.int x.toInt32 :: st) w) : Go X nL ad cu su pc lv (.long x :: st) w := fun H locs ls hP hD hS hl => lv_l2i hC.1 hC.2.1 hd rfl (kk H locs ls hP hD hS hl)
theorem g_i2b (hC : Cx X l D g rm cc nL own) {x : Int32} (hd : decode cc pc = .ok (.i2b, 1)) (kk : Go X nL ad cu su (pc + 1) lv (.int x.toInt8.toInt32 :: st) w) : Go X nL ad cu su pc lv (.int x :: st) w := fun H locs ls hP hD hS hl => lv_i2b hC.1 hC.2.1 hd rfl (kk H locs ls hP hD hS hl)
theorem g_i2c (hC : Cx X l D g rm cc nL own) {x : Int32} (hd : decode cc pc = .ok (.i2c, 1)) (kk : Go X nL ad cu su (pc + 1) lv (.int (x.toUInt32 % 65536).toInt32 :: st) w) : Go X nL ad cu su pc lv (.int x :: st) w := fun H locs ls hP hD hS hl => lv_i2c hC.1 hC.2.1 hd rfl (kk H locs ls hP hD hS hl)
theorem g_ladd (hC : Cx X l D g rm cc nL own) {x y : Int64} (hd : decode cc pc = .ok (.ladd, 1)) (kk : Go X nL ad cu su (pc + 1) lv (.long (x + y) :: st) w) : Go X nL ad cu su pc lv (.long y :: .long x :: st) w := fun H locs ls hP hD hS hl => lv_ladd hC.1 hC.2.1 hd (kk H locs ls hP hD hS hl)
theorem g_lsub (hC : Cx X l D g rm cc nL own) {x y : Int64} (hd : decode cc pc = .ok (.lsub, 1)) (kk : Go X nL ad cu su (pc + 1) lv (.long (x - y) :: st) w) : Go X nL ad cu su pc lv (.long y :: .long x :: st) w := fun H locs ls hP hD hS hl => lv_lsub hC.1 hC.2.1 hd (kk H locs ls hP hD hS hl)
theorem g_lmul (hC : Cx X l D g rm cc nL own) {x y : Int64} (hd : decode cc pc = .ok (.lmul, 1)) (kk : Go X nL ad cu su (pc + 1) lv (.long (x * y) :: st) w) : Go X nL ad cu su pc lv (.long y :: .long x :: st) w := fun H locs ls hP hD hS hl => lv_lmul hC.1 hC.2.1 hd (kk H locs ls hP hD hS hl)
theorem g_ldiv (hC : Cx X l D g rm cc nL own) {x y : Int64} (hd : decode cc pc = .ok (.ldiv, 1)) (hy : ¬ y = 0) (kk : Go X nL ad cu su (pc + 1) lv (.long (x / y) :: st) w) : Go X nL ad cu su pc lv (.long y :: .long x :: st) w := fun H locs ls hP hD hS hl => lv_ldiv hC.1 hC.2.1 hd hy (kk H locs ls hP hD hS hl)
theorem g_lrem (hC : Cx X l D g rm cc nL own) {x y : Int64} (hd : decode cc pc = .ok (.lrem, 1)) (hy : ¬ y = 0) (kk : Go X nL ad cu su (pc + 1) lv (.long (x - x / y * y) :: st) w) : Go X nL ad cu su pc lv (.long y :: .long x :: st) w := fun H locs ls hP hD hS hl => lv_lrem hC.1 hC.2.1 hd hy (kk H locs ls hP hD hS hl)
theorem g_lcmp (hC : Cx X l D g rm cc nL own) {x y : Int64} (hd : decode cc pc = .ok (.lcmp, 1)) (kk : Go X nL ad cu su (pc + 1) lv (.int (lg_cmp x y) :: st) w) : Go X nL ad cu su pc lv (.long y :: .long x :: st) w := fun H locs ls hP hD hS hl => W.lcmp hC.1 hC.2.1 hd (kk H locs ls hP hD hS hl)
theorem gDup (hC : Cx X l D g rm cc nL own) {v : Value} (hd : decode cc pc = .ok (.dup, 1)) (hv : v.category = 1) (kk : Go X nL ad cu su (pc + 1) lv (v :: v :: st) w) : Go X nL ad cu su pc lv (v :: st) w := fun H locs ls hP hD hS hl => lv_dup hC.1 hC.2.1 hd ((cz_cat ad v).trans hv) (kk H locs ls hP hD hS hl)
theorem gPop (hC : Cx X l D g rm cc nL own) {v : Value} (hd : decode cc pc = .ok (.pop, 1)) (hv : v.category = 1) (kk : Go X nL ad cu su (pc + 1) lv st w) : Go X nL ad cu su pc lv (v :: st) w := fun H locs ls hP hD hS hl => lv_pop hC.1 hC.2.1 hd ((cz_cat ad v).trans hv) (kk H locs ls hP hD hS hl)
theorem gDup2 (hC : Cx X l D g rm cc nL own) {u v : Value} (hd : decode cc pc = .ok (.dup2, 1)) (hu : u.category = 1) (hv : v.category = 1) (kk : Go X nL ad cu su (pc + 1) lv (u :: v :: u :: v :: st) w) : Go X nL ad cu su pc lv (u :: v :: st) w := fun H locs ls hP hD hS hl => lv_dup2_11 hC.1 hC.2.1 hd ((cz_cat ad u).trans hu) ((cz_cat ad v).trans hv) (kk H locs ls hP hD hS hl)
theorem gZ_eq (hC : Cx X l D g rm cc nL own) {x : Int32} {off : Int} (tgt : Nat) (hd : decode cc pc = .ok (.ifCond .eq off, 3)) (ht : (pc : Int) + off = (tgt : Int)) (kt : x = 0 → Go X nL ad cu su tgt lv st w) (kf : ¬ x = 0 → Go X nL ad cu su (pc + 3) lv st w) : Go X nL ad cu su pc lv (.int x :: st) w := fun H locs ls hP hD hS hl => lv_if_eq hC.1 hC.2.1 hd ht (fun h => kt h H locs ls hP hD hS hl) (fun h => kf h H locs ls hP hD hS hl)
theorem gC_eq (hC : Cx X l D g rm cc nL own) {x y : Int32} {off : Int} (tgt : Nat) (hd : decode cc pc = .ok (.if_icmp .eq off, 3)) (ht : (pc : Int) + off = (tgt : Int)) (kt : x = y → Go X nL ad cu su tgt lv st w) (kf : ¬ x = y → Go X nL ad cu su (pc + 3) lv st w) : Go X nL ad cu su pc lv (.int y :: .int x :: st) w := fun H locs ls hP hD hS hl => lv_icmp_eq hC.1 hC.2.1 hd ht (fun h => kt h H locs ls hP hD hS hl) (fun h => kf h H locs ls hP hD hS hl)
theorem gZ_ne (hC : Cx X l D g rm cc nL own) {x : Int32} {off : Int} (tgt : Nat) (hd : decode cc pc = .ok (.ifCond .ne off, 3)) (ht : (pc : Int) + off = (tgt : Int)) (kt : x = 0 → Go X nL ad cu su (pc + 3) lv st w) (kf : ¬ x = 0 → Go X nL ad cu su tgt lv st w) : Go X nL ad cu su pc lv (.int x :: st) w := fun H locs ls hP hD hS hl => lv_if_ne hC.1 hC.2.1 hd ht (fun h => kf h H locs ls hP hD hS hl) (fun h => kt h H locs ls hP hD hS hl)
theorem gC_ne (hC : Cx X l D g rm cc nL own) {x y : Int32} {off : Int} (tgt : Nat) (hd : decode cc pc = .ok (.if_icmp .ne off, 3)) (ht : (pc : Int) + off = (tgt : Int)) (kt : x = y → Go X nL ad cu su (pc + 3) lv st w) (kf : ¬ x = y → Go X nL ad cu su tgt lv st w) : Go X nL ad cu su pc lv (.int y :: .int x :: st) w := fun H locs ls hP hD hS hl => lv_icmp_ne hC.1 hC.2.1 hd ht (fun h => kf h H locs ls hP hD hS hl) (fun h => kt h H locs ls hP hD hS hl)
theorem gZ_lt (hC : Cx X l D g rm cc nL own) {x : Int32} {off : Int} (tgt : Nat) (hd : decode cc pc = .ok (.ifCond .lt off, 3)) (ht : (pc : Int) + off = (tgt : Int)) (kt : x < 0 → Go X nL ad cu su tgt lv st w) (kf : ¬ x < 0 → Go X nL ad cu su (pc + 3) lv st w) : Go X nL ad cu su pc lv (.int x :: st) w := fun H locs ls hP hD hS hl => lv_if_lt hC.1 hC.2.1 hd ht (fun h => kt h H locs ls hP hD hS hl) (fun h => kf h H locs ls hP hD hS hl)
theorem gC_lt (hC : Cx X l D g rm cc nL own) {x y : Int32} {off : Int} (tgt : Nat) (hd : decode cc pc = .ok (.if_icmp .lt off, 3)) (ht : (pc : Int) + off = (tgt : Int)) (kt : x < y → Go X nL ad cu su tgt lv st w) (kf : ¬ x < y → Go X nL ad cu su (pc + 3) lv st w) : Go X nL ad cu su pc lv (.int y :: .int x :: st) w := fun H locs ls hP hD hS hl => lv_icmp_lt hC.1 hC.2.1 hd ht (fun h => kt h H locs ls hP hD hS hl) (fun h => kf h H locs ls hP hD hS hl)
theorem gZ_ge (hC : Cx X l D g rm cc nL own) {x : Int32} {off : Int} (tgt : Nat) (hd : decode cc pc = .ok (.ifCond .ge off, 3)) (ht : (pc : Int) + off = (tgt : Int)) (kt : x < 0 → Go X nL ad cu su (pc + 3) lv st w) (kf : ¬ x < 0 → Go X nL ad cu su tgt lv st w) : Go X nL ad cu su pc lv (.int x :: st) w := fun H locs ls hP hD hS hl => lv_if_ge hC.1 hC.2.1 hd ht (fun h => kf (Int32.not_lt.mpr h) H locs ls hP hD hS hl) (fun h => kt (Int32.not_le.mp h) H locs ls hP hD hS hl)
theorem gC_ge (hC : Cx X l D g rm cc nL own) {x y : Int32} {off : Int} (tgt : Nat) (hd : decode cc pc = .ok (.if_icmp .ge off, 3)) (ht : (pc : Int) + off = (tgt : Int)) (kt : x < y → Go X nL ad cu su (pc + 3) lv st w) (kf : ¬ x < y → Go X nL ad cu su tgt lv st w) : Go X nL ad cu su pc lv (.int y :: .int x :: st) w := fun H locs ls hP hD hS hl => lv_icmp_ge hC.1 hC.2.1 hd ht (fun h => kf (Int32.not_lt.mpr h) H locs ls hP hD hS hl) (fun h => kt (Int32.not_le.mp h) H locs ls hP hD hS hl)
theorem gZ_gt (hC : Cx X l D g rm cc nL own) {x : Int32} {off : Int} (tgt : Nat) (hd : decode cc pc = .ok (.ifCond .gt off, 3)) (ht : (pc : Int) + off = (tgt : Int)) (kt : 0 < x → Go X nL ad cu su tgt lv st w) (kf : ¬ 0 < x → Go X nL ad cu su (pc + 3) lv st w) : Go X nL ad cu su pc lv (.int x :: st) w := fun H locs ls hP hD hS hl => lv_if_gt hC.1 hC.2.1 hd ht (fun h => kt h H locs ls hP hD hS hl) (fun h => kf h H locs ls hP hD hS hl)
theorem gC_gt (hC : Cx X l D g rm cc nL own) {x y : Int32} {off : Int} (tgt : Nat) (hd : decode cc pc = .ok (.if_icmp .gt off, 3)) (ht : (pc : Int) + off = (tgt : Int)) (kt : y < x → Go X nL ad cu su tgt lv st w) (kf : ¬ y < x → Go X nL ad cu su (pc + 3) lv st w) : Go X nL ad cu su pc lv (.int y :: .int x :: st) w := fun H locs ls hP hD hS hl => lv_icmp_gt hC.1 hC.2.1 hd ht (fun h => kt h H locs ls hP hD hS hl) (fun h => kf h H locs ls hP hD hS hl)
theorem gZ_le (hC : Cx X l D g rm cc nL own) {x : Int32} {off : Int} (tgt : Nat) (hd : decode cc pc = .ok (.ifCond .le off, 3)) (ht : (pc : Int) + off = (tgt : Int)) (kt : 0 < x → Go X nL ad cu su (pc + 3) lv st w) (kf : ¬ 0 < x → Go X nL ad cu su tgt lv st w) : Go X nL ad cu su pc lv (.int x :: st) w := fun H locs ls hP hD hS hl => lv_if_le hC.1 hC.2.1 hd ht (fun h => kf (Int32.not_lt.mpr h) H locs ls hP hD hS hl) (fun h => kt (Int32.not_le.mp h) H locs ls hP hD hS hl)
theorem gC_le (hC : Cx X l D g rm cc nL own) {x y : Int32} {off : Int} (tgt : Nat) (hd : decode cc pc = .ok (.if_icmp .le off, 3)) (ht : (pc : Int) + off = (tgt : Int)) (kt : y < x → Go X nL ad cu su (pc + 3) lv st w) (kf : ¬ y < x → Go X nL ad cu su tgt lv st w) : Go X nL ad cu su pc lv (.int y :: .int x :: st) w := fun H locs ls hP hD hS hl => lv_icmp_le hC.1 hC.2.1 hd ht (fun h => kf (Int32.not_lt.mpr h) H locs ls hP hD hS hl) (fun h => kt (Int32.not_le.mp h) H locs ls hP hD hS hl)
theorem gGoto (hC : Cx X l D g rm cc nL own) {off : Int} (tgt : Nat) (hd : decode cc pc = .ok (.goto off, 3)) (ht : (pc : Int) + off = (tgt : Int)) (kk : Go X nL ad cu su tgt lv st w) : Go X nL ad cu su pc lv st w := fun H locs ls hP hD hS hl => lv_goto hC.1 hC.2.1 hd ht (kk H locs ls hP hD hS hl)
/-- a table of places, from key k on; the rest -/
def swN (pc : Nat) (x : Int32) (K : Nat → Prop) (d : Int) : Nat → List Int → Prop
  | _, [] => K ((pc : Int) + d).toNat
  | k, v :: t => (x = Int32.ofNat k → K ((pc : Int) + v).toNat) ∧ (¬ x = Int32.ofNat k → swN pc x K d (k + 1) t)
theorem swN_in {pc : Nat} {x : Int32} {K : Nat → Prop} {d : Int} : ∀ (t : List Int) (k : Nat), swN pc x K d k t → k + t.length < 2 ^ 31 → (∀ (j : Nat) (v : Int), t[j]? = some v → x = Int32.ofNat (k + j) → K ((pc : Int) + v).toNat) ∧ ((∀ j : Nat, j < t.length → ¬ x = Int32.ofNat (k + j)) → K ((pc : Int) + d).toNat)
  | [], k, h, _ => ⟨fun j v hj => by simp at hj, fun _ => h⟩
  | a :: t, k, h, hb => by
    have hb' : k + 1 + t.length < 2 ^ 31 := by simp only [List.length_cons] at hb; omega
    refine ⟨fun j v hj hx => ?_, fun hn => ?_⟩
    · cases j with
      | zero =>
        simp only [List.getElem?_cons_zero] at hj
        cases hj
        exact h.1 hx
      | succ j =>
        simp only [List.getElem?_cons_succ] at hj
        have hne : ¬ x = Int32.ofNat k := by
          intro e
          have hl : j < t.length := (List.getElem?_eq_some_iff.mp hj).1
          have := (nI_eq (a := k + (j + 1)) (b := k) (by omega) (by omega)).mp (hx.symm.trans e)
          omega
        exact (swN_in t (k + 1) (h.2 hne) hb').1 j v hj (by rw [hx]; congr 1; omega)
    · have h0 := hn 0 (by simp)
      exact (swN_in t (k + 1) (h.2 (by simpa using h0)) hb').2 (fun j hj => by
        have := hn (j + 1) (by simp only [List.length_cons]; omega)
        rw [show k + 1 + j = k + (j + 1) by omega]
        exact this)
theorem gTab (hC : Cx X l D g rm cc nL own) {x : Int32} {d hi : Int} {offs : Array Int} {len : Nat} (hd : decode cc pc = .ok (.tableswitch d 0 hi offs, len)) (hhi : hi + 1 = (offs.size : Int)) (hsz : offs.size < 2 ^ 31) (hpos : ∀ v ∈ d :: offs.toList, 0 ≤ (pc : Int) + v) (kk : swN pc x (fun t => Go X nL ad cu su t lv st w) d 0 offs.toList) : Go X nL ad cu su pc lv (.int x :: st) w := fun H locs ls hP hD hS hl => by
  obtain ⟨k1, k2⟩ := swN_in offs.toList 0 kk (by simpa using hsz)
  by_cases hin : 0 ≤ x.toInt ∧ x.toInt < (offs.size : Int)
  · have hx : x = Int32.ofNat x.toInt.toNat := by
      apply Int32.toInt_inj.mp
      rw [show (Int32.ofNat x.toInt.toNat).toInt = ((x.toInt.toNat : Nat) : Int) from nI_toInt (by omega)]
      omega
    have hlt : x.toInt.toNat < offs.size := by omega
    have hof : offs.toList[x.toInt.toNat]? = some offs[x.toInt.toNat] := by simp [hlt]
    have hp := hpos offs[x.toInt.toNat] (List.mem_cons_of_mem _ (List.mem_of_getElem? hof))
    refine lv_tableIn hC.1 hC.2.1 hd (by omega) (by omega) (off := offs[x.toInt.toNat]) (tgt := ((pc : Int) + offs[x.toInt.toNat]).toNat) ?_ (by omega) (k1 _ _ hof (by rw [Nat.zero_add]; exact hx) H locs ls hP hD hS hl)
    rw [show (x.toInt - 0).toNat = x.toInt.toNat by omega]
    simp [hlt]
  · have hp := hpos d List.mem_cons_self
    refine lv_tableOut hC.1 hC.2.1 hd (by omega) (tgt := ((pc : Int) + d).toNat) (by omega) (k2 (fun j hj e => hin ?_) H locs ls hP hD hS hl)
    rw [e, show (Int32.ofNat (0 + j)).toInt = ((0 + j : Nat) : Int) from nI_toInt (by simp at hj; omega)]
    simp at hj
    omega
/-- keys and their places -/
def swL (pc : Nat) (x : Int32) (K : Nat → Prop) (d : Int) : List (Int × Int) → Prop
  | [] => K ((pc : Int) + d).toNat
  | a :: t => (x = Int32.ofInt a.1 → K ((pc : Int) + a.2).toNat) ∧ (¬ x = Int32.ofInt a.1 → swL pc x K d t)
theorem gLook (hC : Cx X l D g rm cc nL own) {x : Int32} {d : Int} {ps : Array (Int × Int)} {len : Nat} (hd : decode cc pc = .ok (.lookupswitch d ps, len)) (hp : (ps.toList.zip (ps.toList.drop 1)).all (fun (a, next) => a.1 < next.1) = true) (hpos : 0 ≤ (pc : Int) + d ∧ ∀ v ∈ ps.toList, 0 ≤ (pc : Int) + v.2 ∧ -2147483648 ≤ v.1 ∧ v.1 < 2147483648) (kk : swL pc x (fun t => Go X nL ad cu su t lv st w) d ps.toList) : Go X nL ad cu su pc lv (.int x :: st) w := fun H locs ls hP hD hS hl => by
  have key : ∀ t : List (Int × Int), (0 ≤ (pc : Int) + d ∧ ∀ v ∈ t, 0 ≤ (pc : Int) + v.2 ∧ -2147483648 ≤ v.1 ∧ v.1 < 2147483648) → swL pc x (fun t => Go X nL ad cu su t lv st w) d t → ∃ tgt : Nat, (pc : Int) + Op.lookupswitch.offset t d x.toInt = (tgt : Int) ∧ Go X nL ad cu su tgt lv st w := by
    intro t
    induction t with
    | nil => exact fun h k => ⟨((pc : Int) + d).toNat, by show (pc : Int) + d = _; have := h.1; omega, k⟩
    | cons a t ih =>
      intro h k
      have ha := h.2 a List.mem_cons_self
      have hk : (Int32.ofInt a.1).toInt = a.1 := by
        rw [Int32.toInt_ofInt]
        have hz : Int32.size = 4294967296 := rfl
        exact Int.bmod_eq_of_le (by omega) (by omega)
      by_cases hx : x = Int32.ofInt a.1
      · refine ⟨((pc : Int) + a.2).toNat, ?_, k.1 hx⟩
        have e1 : Op.lookupswitch.offset (a :: t) d x.toInt = a.2 := by
          rw [hx, hk]
          obtain ⟨a1, a2⟩ := a
          simp [Op.lookupswitch.offset]
        rw [e1]; omega
      · obtain ⟨tgt, e1, e2⟩ := ih ⟨h.1, fun v hv => h.2 v (List.mem_cons_of_mem _ hv)⟩ (k.2 hx)
        refine ⟨tgt, ?_, e2⟩
        obtain ⟨a1, a2⟩ := a
        rw [lv_osw hx hk]
        exact e1
  obtain ⟨tgt, e1, e2⟩ := key ps.toList hpos kk
  exact lv_lookup hC.1 hC.2.1 hd hp rfl e1 (e2 H locs ls hP hD hS hl)
/-- a field by its number in the class file: kind ci, slot k -/
def FLok (own : String) (ix ci k : Nat) : Prop := ∃ (C : String) (T : u_T) (N : Nat), vwCl[ci]? = some (C, T, N) ∧ k < N ∧ (∀ x ∈ u_ws C T N, x ∈ gw) ∧ (T k).1 = C ∧ (Cond.fieldLink own ix C (T k).2.1 (T k).2.2.1 ∈ gw ∨ ∃ host : String, (own, ix, C, (T k).2.1, (T k).2.2.1, host) ∈ nwF)
theorem gGet (hC : Cx X l D g rm cc nL own) {ix ci k q : Nat} {fs : List Value} {v : Value} (hd : decode cc pc = .ok (.getfield ix, 3)) (hf : FLok own ix ci k) (hw : w[q]? = some (.inr (ci, fs))) (hv : fs[k]? = some v) (kk : Go X nL ad cu su (pc + 3) lv (v :: st) w) : Go X nL ad cu su pc lv (.ref q :: st) w := fun H locs ls hP hD hS hl => by
  obtain ⟨cN, cT, cM, h1, h2, h3, h4, h5⟩ := hf
  have hv' : (fs.map (cz ad))[k]? = some (cz ad v) := by rw [List.getElem?_map, hv]; rfl
  have hKs : va_K (xD X) vwCl (tysG g) (xs X) := by rw [hC.2.2.2.2.2.2.2.2.1]; exact hC.2.2.2.2.2.1.1
  rcases h5 with h5 | ⟨host, h5⟩
  · exact va_get hC.1 hC.2.1 hC.2.2.2.2.1 h3 hC.2.2.2.1 hKs hP q (cw_at hw) h1 k h2 (hC.2.2.2.2.1 _ h5) (fun _ h9 => by rw [h4] at h9; exact h9) hv' hd (kk H locs ls hP hD hS hl)
  · exact va_getN hC.1 hC.2.1 hC.2.2.2.2.1 h3 hC.2.2.2.1 hKs hP q (cw_at hw) h1 k h2 (va_Nw.use rfl (hC.2.2.2.2.2.1.2.1 _ h5)) (fun _ h9 => by rw [h4] at h9; exact h9) hv' hd (kk H locs ls hP hD hS hl)
/-- a field that may be written: not final, its type -/
def PFok (own : String) (ix ci k : Nat) (ty : FieldType) : Prop := ∃ (C : String) (T : u_T) (N : Nat) (ty0 : Nat → FieldType), vwCl[ci]? = some (C, T, N) ∧ k < N ∧ (∀ x ∈ u_ws C T N, x ∈ gw) ∧ (T k).1 = C ∧ Cond.fieldLink own ix C (T k).2.1 (T k).2.2.1 ∈ gw ∧ (T k).2.2.2 = false ∧ (∀ j, j < N → parseFieldDescriptor (T j).2.2.1 = some (ty0 j)) ∧ (∀ a, a < N → ∀ b, b < N → a ≠ b → (T a).2.1 ≠ (T b).2.1) ∧ parseFieldDescriptor (T k).2.2.1 = some ty
theorem cz_nar {ad : Nat → Nat} {ty : FieldType} {v : Value} (h : narrow ty v = v) : narrow ty (cz ad v) = cz ad v := by
  cases v <;> first | exact h | (cases ty <;> rfl)
theorem cz_fit {ad : Nat → Nat} {ty : FieldType} {v : Value} (h : fits ty v = true) : fits ty (cz ad v) = true := by
  cases v <;> first | exact h | (cases ty <;> first | rfl | exact h)
theorem gPut (hC : Cx X l D g rm cc nL own) {ix ci k q : Nat} {ty : FieldType} {fs : List Value} {v : Value} (hd : decode cc pc = .ok (.putfield ix, 3)) (hf : PFok own ix ci k ty) (hw : w[q]? = some (.inr (ci, fs))) (hn : narrow ty v = v) (hft : fits ty v = true) (hk : k < fs.length) (kk : Go X nL ad cu su (pc + 3) lv st (w.set q (.inr (ci, fs.set k v)))) : Go X nL ad cu su pc lv (v :: .ref q :: st) w := fun H locs ls hP hD hS hl => by
  obtain ⟨cN, cT, cM, ty0, h1, h2, h3, h4, h5, h6, h7, h8, h9⟩ := hf
  have hKs : va_K (xD X) vwCl (tysG g) (xs X) := by rw [hC.2.2.2.2.2.2.2.2.1]; exact hC.2.2.2.2.2.1.1
  refine va_put hC.1 hC.2.1 hC.2.2.2.2.1 h3 ty0 h7 h8 hC.2.2.2.1 hKs hP hD hS q (cw_at hw) h1 k h2 (hC.2.2.2.2.1 _ h5) (fun _ h9 => by rw [h4] at h9; exact h9) h6 h9 (cz_nar hn) (cz_fit hft) (by rw [List.length_map]; exact hk) hd (fun H1 locs1 hP1 hD1 hS1 => ?_)
  have e : (cw ad w).set q (ad q, .inr (ci, (fs.map (cz ad)).set k (cz ad v))) = cw ad (w.set q (.inr (ci, fs.set k v))) := by
    rw [cw_set]
    show _ = (cw ad w).set q (ad q, .inr (ci, (fs.set k v).map (cz ad)))
    rw [List.map_set]
  rw [e] at hP1 hD1
  exact kk H1 locs1 ls hP1 hD1 hS1 hl
theorem gIald (hC : Cx X l D g rm cc nL own) {q n : Nat} {i : Int32} {f : Nat → Int32} (hd : decode cc pc = .ok (.iaload, 1)) (hw : w[q]? = some (.inl (g 0, n, .inl f))) (hin : vp_in i n) (kk : Go X nL ad cu su (pc + 1) lv (.int (f i.toNatClampNeg) :: st) w) : Go X nL ad cu su pc lv (.int i :: .ref q :: st) w := fun H locs ls hP hD hS hl =>
  va_iald hC.1 hC.2.1 (by rw [hC.2.2.2.2.2.2.2.2.1]; exact hC.2.2.2.2.2.1.1 : va_K (xD X) vwCl (tysG g) (xs X)) hP q 0 (cw_at hw) rfl hin hd (kk H locs ls hP hD hS hl)
theorem gCald (hC : Cx X l D g rm cc nL own) {q n : Nat} {i : Int32} {f : Nat → Int32} (hd : decode cc pc = .ok (.caload, 1)) (hw : w[q]? = some (.inl (g 1, n, .inl f))) (hin : vp_in i n) (kk : Go X nL ad cu su (pc + 1) lv (.int (f i.toNatClampNeg) :: st) w) : Go X nL ad cu su pc lv (.int i :: .ref q :: st) w := fun H locs ls hP hD hS hl =>
  va_cald hC.1 hC.2.1 (by rw [hC.2.2.2.2.2.2.2.2.1]; exact hC.2.2.2.2.2.1.1 : va_K (xD X) vwCl (tysG g) (xs X)) hP q 1 (cw_at hw) rfl hin hd (kk H locs ls hP hD hS hl)
theorem gBald (hC : Cx X l D g rm cc nL own) {q n : Nat} {i : Int32} {f : Nat → Int32} (hd : decode cc pc = .ok (.baload, 1)) (hw : w[q]? = some (.inl (g 2, n, .inl f))) (hin : vp_in i n) (kk : Go X nL ad cu su (pc + 1) lv (.int (f i.toNatClampNeg) :: st) w) : Go X nL ad cu su pc lv (.int i :: .ref q :: st) w := fun H locs ls hP hD hS hl =>
  va_bald hC.1 hC.2.1 (by rw [hC.2.2.2.2.2.2.2.2.1]; exact hC.2.2.2.2.2.1.1 : va_K (xD X) vwCl (tysG g) (xs X)) hP q 2 (cw_at hw) rfl hin hd (kk H locs ls hP hD hS hl)
theorem gLald (hC : Cx X l D g rm cc nL own) {q n : Nat} {i : Int32} {f : Nat → Int64} (hd : decode cc pc = .ok (.laload, 1)) (hw : w[q]? = some (.inl (g 3, n, .inr (.inl f)))) (hin : vp_in i n) (kk : Go X nL ad cu su (pc + 1) lv (.long (f i.toNatClampNeg) :: st) w) : Go X nL ad cu su pc lv (.int i :: .ref q :: st) w := fun H locs ls hP hD hS hl =>
  va_lald hC.1 hC.2.1 (by rw [hC.2.2.2.2.2.2.2.2.1]; exact hC.2.2.2.2.2.1.1 : va_K (xD X) vwCl (tysG g) (xs X)) hP q 3 (cw_at hw) rfl hin hd (kk H locs ls hP hD hS hl)
theorem gIast (hC : Cx X l D g rm cc nL own) {q n : Nat} {i : Int32} {x : Int32} {f : Nat → Int32} (hd : decode cc pc = .ok (.iastore, 1)) (hw : w[q]? = some (.inl (g 0, n, .inl f))) (hin : vp_in i n) (kk : Go X nL ad cu su (pc + 1) lv st (w.set q (.inl (g 0, n, .inl (upd f i.toNatClampNeg x))))) : Go X nL ad cu su pc lv (.int x :: .int i :: .ref q :: st) w := fun H locs ls hP hD hS hl =>
  va_iast hC.1 hC.2.1 (by rw [hC.2.2.2.2.2.2.2.2.1]; exact hC.2.2.2.2.2.1.1 : va_K (xD X) vwCl (tysG g) (xs X)) hP hD hS q 0 (cw_at hw) rfl hin hd (fun H1 locs1 hP1 hD1 hS1 => by
    have e := cw_set ad w q (.inl (g 0, n, .inl (upd f i.toNatClampNeg x)))
    exact kk H1 locs1 ls (by rw [e]; exact hP1) (by rw [e]; exact hD1) hS1 hl)
theorem gCast (hC : Cx X l D g rm cc nL own) {q n : Nat} {i : Int32} {x : Int32} {f : Nat → Int32} (hd : decode cc pc = .ok (.castore, 1)) (hw : w[q]? = some (.inl (g 1, n, .inl f))) (hin : vp_in i n) (kk : Go X nL ad cu su (pc + 1) lv st (w.set q (.inl (g 1, n, .inl (upd f i.toNatClampNeg (vp_nar .char x)))))) : Go X nL ad cu su pc lv (.int x :: .int i :: .ref q :: st) w := fun H locs ls hP hD hS hl =>
  va_cast hC.1 hC.2.1 (by rw [hC.2.2.2.2.2.2.2.2.1]; exact hC.2.2.2.2.2.1.1 : va_K (xD X) vwCl (tysG g) (xs X)) hP hD hS q 1 (cw_at hw) rfl hin hd (fun H1 locs1 hP1 hD1 hS1 => by
    have e := cw_set ad w q (.inl (g 1, n, .inl (upd f i.toNatClampNeg (vp_nar .char x))))
    exact kk H1 locs1 ls (by rw [e]; exact hP1) (by rw [e]; exact hD1) hS1 hl)
theorem gBast (hC : Cx X l D g rm cc nL own) {q n : Nat} {i : Int32} {x : Int32} {f : Nat → Int32} (hd : decode cc pc = .ok (.bastore, 1)) (hw : w[q]? = some (.inl (g 2, n, .inl f))) (hin : vp_in i n) (kk : Go X nL ad cu su (pc + 1) lv st (w.set q (.inl (g 2, n, .inl (upd f i.toNatClampNeg (vp_nar .byte x)))))) : Go X nL ad cu su pc lv (.int x :: .int i :: .ref q :: st) w := fun H locs ls hP hD hS hl =>
  va_bast hC.1 hC.2.1 (by rw [hC.2.2.2.2.2.2.2.2.1]; exact hC.2.2.2.2.2.1.1 : va_K (xD X) vwCl (tysG g) (xs X)) hP hD hS q 2 (cw_at hw) rfl hin hd (fun H1 locs1 hP1 hD1 hS1 => by
    have e := cw_set ad w q (.inl (g 2, n, .inl (upd f i.toNatClampNeg (vp_nar .byte x))))
    exact kk H1 locs1 ls (by rw [e]; exact hP1) (by rw [e]; exact hD1) hS1 hl)
theorem gLast (hC : Cx X l D g rm cc nL own) {q n : Nat} {i : Int32} {x : Int64} {f : Nat → Int64} (hd : decode cc pc = .ok (.lastore, 1)) (hw : w[q]? = some (.inl (g 3, n, .inr (.inl f)))) (hin : vp_in i n) (kk : Go X nL ad cu su (pc + 1) lv st (w.set q (.inl (g 3, n, .inr (.inl (vp_updL f i.toNatClampNeg x)))))) : Go X nL ad cu su pc lv (.long x :: .int i :: .ref q :: st) w := fun H locs ls hP hD hS hl =>
  va_last hC.1 hC.2.1 (by rw [hC.2.2.2.2.2.2.2.2.1]; exact hC.2.2.2.2.2.1.1 : va_K (xD X) vwCl (tysG g) (xs X)) hP hD hS q 3 (cw_at hw) rfl hin hd (fun H1 locs1 hP1 hD1 hS1 => by
    have e := cw_set ad w q (.inl (g 3, n, .inr (.inl (vp_updL f i.toNatClampNeg x))))
    exact kk H1 locs1 ls (by rw [e]; exact hP1) (by rw [e]; exact hD1) hS1 hl)
theorem gAlen (hC : Cx X l D g rm cc nL own) {q t : Nat} {ty : FieldType} {a : vp_A} (v : Int32) (hd : decode cc pc = .ok (.arraylength, 1)) (ht : (tysG g)[t]? = some (g t, ty)) (hw : w[q]? = some (.inl (g t, a))) (hv : Int32.ofNat a.1 = v) (kk : Go X nL ad cu su (pc + 1) lv (.int v :: st) w) : Go X nL ad cu su pc lv (.ref q :: st) w := fun H locs ls hP hD hS hl =>
  va_alen hC.1 hC.2.1 (by rw [hC.2.2.2.2.2.2.2.2.1]; exact hC.2.2.2.2.2.1.1 : va_K (xD X) vwCl (tysG g) (xs X)) hP q t (cw_at hw) ht hv hd (kk H locs ls hP hD hS hl)
end GoRows
