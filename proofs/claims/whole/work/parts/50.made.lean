/-! CELLS THAT ARE MADE: objects, arrays, final fields, constructors -/
def frV (lo hi : Nat) : Value → Bool
  | .ref k => Nat.blt k lo || Nat.ble hi k
  | _ => true
def frE (lo hi : Nat) : va_E → Bool
  | .inl _ => true
  | .inr q => q.2.all (frV lo hi)
def nrV : Value → Bool
  | .ref _ => false
  | _ => true
def inV (n : Nat) : Value → Bool
  | .ref k => Nat.blt k n
  | _ => true
def inE (n : Nat) : va_E → Bool
  | .inl _ => true
  | .inr q => q.2.all (inV n)
/-- other addresses for n places from lo on -/
def adr (ad : Nat → Nat) (lo n : Nat) (f : Nat → Nat) : Nat → Nat := fun i => if lo ≤ i ∧ i < lo + n then f (i - lo) else ad i
theorem adr_out {ad : Nat → Nat} {lo n : Nat} {f : Nat → Nat} {i : Nat} (h : ¬ (lo ≤ i ∧ i < lo + n)) : adr ad lo n f i = ad i := if_neg h
theorem fr_no {lo n : Nat} (i : Nat) (h : (Nat.blt i lo || Nat.ble (lo + n) i) = true) : ¬ (lo ≤ i ∧ i < lo + n) := by
  rw [Bool.or_eq_true] at h
  rcases h with h1 | h1
  · have h2 : i + 1 ≤ lo := Nat.le_of_ble_eq_true h1
    omega
  · have h2 : lo + n ≤ i := Nat.le_of_ble_eq_true h1
    omega
theorem cz_fr {ad : Nat → Nat} {lo n : Nat} {f : Nat → Nat} {v : Value} (h : frV lo (lo + n) v = true) : cz (adr ad lo n f) v = cz ad v := by
  cases v with
  | ref k =>
    have h1 : (Nat.blt k lo || Nat.ble (lo + n) k) = true := h
    show Value.ref (adr ad lo n f k) = Value.ref (ad k)
    rw [adr_out (fr_no k h1)]
  | _ => rfl
theorem ce_fr {ad : Nat → Nat} {lo n : Nat} {f : Nat → Nat} {e : va_E} (h : frE lo (lo + n) e = true) : ce (adr ad lo n f) e = ce ad e := by
  cases e with
  | inl a => rfl
  | inr q =>
    have h1 : q.2.all (frV lo (lo + n)) = true := h
    rw [List.all_eq_true] at h1
    show Sum.inr (q.1, q.2.map (cz (adr ad lo n f))) = Sum.inr (q.1, q.2.map (cz ad))
    congr 2
    exact List.map_congr_left (fun v hv => cz_fr (h1 v hv))
theorem cw_fr {ad : Nat → Nat} {lo n : Nat} {f : Nat → Nat} {w : List va_E} (h : w.all (frE lo (lo + n)) = true) (hl : w.length ≤ lo) : cw (adr ad lo n f) w = cw ad w := by
  rw [List.all_eq_true] at h
  apply List.ext_getElem?
  intro i
  rw [cw_get, cw_get]
  cases hw : w[i]? with
  | none => rfl
  | some e =>
    have hi := (List.getElem?_eq_some_iff.mp hw).1
    show some (adr ad lo n f i, ce (adr ad lo n f) e) = some (ad i, ce ad e)
    rw [adr_out (by omega), ce_fr (h e (List.mem_of_getElem? hw))]
theorem clv_fr {ad : Nat → Nat} {lo n : Nat} {f : Nat → Nat} {lv : List (Nat × Value)} (h : lv.all (fun q => frV lo (lo + n) q.2) = true) : clv (adr ad lo n f) lv = clv ad lv := by
  rw [List.all_eq_true] at h
  unfold clv
  exact List.map_congr_left (fun q hq => by rw [cz_fr (h q hq)])
theorem cst_fr {ad : Nat → Nat} {lo n : Nat} {f : Nat → Nat} {st : List Value} (h : st.all (frV lo (lo + n)) = true) : cst (adr ad lo n f) st = cst ad st := by
  rw [List.all_eq_true] at h
  unfold cst
  exact List.map_congr_left (fun v hv => cz_fr (h v hv))
theorem map_nr {ad : Nat → Nat} {fs : List Value} (h : fs.all nrV = true) : fs.map (cz ad) = fs := by
  rw [List.all_eq_true] at h
  have : fs.map (cz ad) = fs.map id := List.map_congr_left (fun v hv => by
    have h1 := h v hv
    cases v with
    | ref k => cases h1
    | _ => rfl)
  rw [this, List.map_id]
/-- one cell more -/
theorem cw_one {ad : Nat → Nat} {w : List va_E} {q : Nat} {e : va_E} (h : w.all (frE w.length (w.length + 1)) = true) (he : ∀ ad', ce ad' e = e) : cw (adr ad w.length 1 (fun _ => q)) (w ++ [e]) = cw ad w ++ [(q, e)] := by
  rw [← cw_fr (ad := ad) (f := fun _ => q) h (Nat.le_refl _)]
  apply List.ext_getElem?
  intro i
  rw [cw_get]
  by_cases hi : i < w.length
  · rw [List.getElem?_append_left hi, List.getElem?_append_left (by rw [cw_len]; exact hi), cw_get]
  · rw [List.getElem?_append_right (by omega), List.getElem?_append_right (by rw [cw_len]; omega), cw_len]
    by_cases hz : i = w.length
    · rw [hz, Nat.sub_self]
      show some (adr ad w.length 1 (fun _ => q) w.length, ce (adr ad w.length 1 (fun _ => q)) e) = some (q, e)
      rw [he]
      have e1 : adr ad w.length 1 (fun _ => q) w.length = q := if_pos ⟨Nat.le_refl _, by omega⟩
      rw [e1]
    · have e1 : ([e] : List va_E)[i - w.length]? = none := List.getElem?_eq_none (by show 1 ≤ i - w.length; omega)
      have e2 : ([(q, e)] : va_W)[i - w.length]? = none := List.getElem?_eq_none (by show 1 ≤ i - w.length; omega)
      rw [e1, e2]
      rfl
section GoMade
variable {X : MC} {l : Launch} {D : va_G} {g : Nat → ClassId} {rm : Room} {cc : ByteArray} {nL : Nat} {own : String} {ad : Nat → Nat} {cu su pc : Nat} {lv : List (Nat × Value)} {st : List Value} {w : List va_E}
/-- a class of which an object may be made -/
def NWok (own : String) (ix ci N : Nat) (fs : List Value) : Prop := ∃ (C : String) (T : u_T) (ty : Nat → FieldType), vwCl[ci]? = some (C, T, N) ∧ (∀ x ∈ u_ws C T N, x ∈ gw) ∧ (∀ j, j < N → parseFieldDescriptor (T j).2.2.1 = some (ty j)) ∧ Cond.classLink own ix C ∈ gw ∧ Cond.instantiable C N ∈ gw ∧ Cond.initialized C ∈ gw ∧ (∀ j, j < N → defaultValue (ty j) = vp_V fs j) ∧ fs.all nrV = true
theorem gNew (hC : Cx X l D g rm cc nL own) {ix ci N n k a : Nat} {fs : List Value} (w' : List va_E) (hd : decode cc pc = .ok (.new ix, 3)) (hnw : NWok own ix ci N fs) (hcells : cu + 1 ≤ rm.cells) (hslots : su + N ≤ rm.slots) (hk : ad k = a) (hn : w.length = n) (hw' : w ++ [.inr (ci, fs)] = w') (hkn : Nat.beq k n = false) (hfw : w.all (frE n (n + 1)) = true) (hfl : lv.all (fun q => frV n (n + 1) q.2) = true) (hfs : st.all (frV n (n + 1)) = true) (kk : ∀ ad' : Nat → Nat, ad' k = a → Go X nL ad' (cu + 1) (su + N) (pc + 3) lv (.ref n :: st) w') : Go X nL ad cu su pc lv st w := fun H locs ls hP hD hS hl => by
  obtain ⟨cN, cT, ty, h1, h2, h3, h4, h5, h6, h7, h8⟩ := hnw
  subst hn
  subst hw'
  have hts := hC.2.2.2.2.1
  have hRR : xR X = rm := hC.2.2.2.2.2.2.2.2.2
  have hKs : va_K (xD X) vwCl (tysG g) (xs X) := by rw [hC.2.2.2.2.2.2.2.2.1]; exact hC.2.2.2.2.2.1.1
  refine va_new hC.1 hC.2.1 hts h2 ty h3 hC.2.2.2.1 (hts _ h4) (hts _ h5) (hts _ h6) hKs hP hD hS hC.2.2.2.2.2.2.1 h1 h7 (by rw [hRR]; exact hcells) (by rw [hRR]; exact hslots) hd (fun q H1 hP1 hD1 hS1 => ?_)
  have e := cw_one (ad := ad) (q := q) (e := .inr (ci, fs)) hfw (fun ad' => by show Sum.inr (ci, fs.map (cz ad')) = _; rw [map_nr h8])
  have hkk : adr ad w.length 1 (fun _ => q) k = a := by
    rw [adr_out]
    · exact hk
    · intro z
      have : k = w.length := by omega
      rw [this] at hkn
      rw [Nat.beq_refl] at hkn
      cases hkn
  have := kk (adr ad w.length 1 (fun _ => q)) hkk H1 locs ls (by rw [e]; exact hP1) (by rw [e]; exact hD1) hS1 (by rw [clv_fr hfl]; exact hl)
  have es : cst (adr ad w.length 1 (fun _ => q)) (.ref w.length :: st) = .ref q :: cst ad st := by
    show Value.ref (adr ad w.length 1 (fun _ => q) w.length) :: cst (adr ad w.length 1 (fun _ => q)) st = _
    rw [cst_fr hfs]
    have e1 : adr ad w.length 1 (fun _ => q) w.length = q := if_pos ⟨Nat.le_refl _, by omega⟩
    rw [e1]
  rw [es] at this
  exact this
/-- an array of a class that is known -/
theorem gNewA (hC : Cx X l D g rm cc nL own) {atype : ArrayType} {ty : FieldType} {j n N k a : Nat} {x : Int32} {a0 : vp_A} (w' : List va_E) (hd : decode cc pc = .ok (.newarray atype, 2)) (hty : newarray.typeOf atype = ty) (hj : (tysG g)[j]? = some (g j, ty)) (hun : ∀ (U : State) (c c' : ClassId), va_RA U c ty → va_RA U c' ty → c = c') (harr : Cond.arrayClass (newarray.typeOf atype) ∈ gw) (ha : ∀ cA : ClassId, vp_cell cA a0 = arrV cA N (fun _ => defaultValue ty)) (hx : ¬ x < 0) (hN : x.toNatClampNeg = N) (hbytes : N * componentBytes ty ≤ 536870912) (hcells : cu + 1 ≤ rm.cells) (hslots : su + N ≤ rm.slots) (hk : ad k = a) (hn : w.length = n) (hw' : w ++ [.inl (g j, a0)] = w') (hkn : Nat.beq k n = false) (hfw : w.all (frE n (n + 1)) = true) (hfl : lv.all (fun q => frV n (n + 1) q.2) = true) (hfs : st.all (frV n (n + 1)) = true) (kk : ∀ ad' : Nat → Nat, ad' k = a → Go X nL ad' (cu + 1) (su + N) (pc + 2) lv (.ref n :: st) w') : Go X nL ad cu su pc lv (.int x :: st) w := fun H locs ls hP hD hS hl => by
  subst hn
  subst hw'
  have hts := hC.2.2.2.2.1
  have hRR : xR X = rm := hC.2.2.2.2.2.2.2.2.2
  have hKs : va_K (xD X) vwCl (tysG g) (xs X) := by rw [hC.2.2.2.2.2.2.2.2.1]; exact hC.2.2.2.2.2.1.1
  refine va_newa (ty := ty) (a0 := a0) hC.1 hC.2.1 (hts _ harr) hty hKs hP hD hS hC.2.2.2.2.2.2.1 ha hx hN hbytes (by rw [hRR]; exact hcells) (by rw [hRR]; exact hslots) hd (fun q cA H1 hK1 hP1 hD1 hS1 => ?_)
  have hcA : cA = g j := by
    have r1 := (hK1.2 (tysG g).length (cA, ty) (by rw [List.getElem?_append_right (Nat.le_refl _), Nat.sub_self]; rfl)).2
    exact hun _ _ _ r1 (hKs.2 j _ hj).2
  subst hcA
  have e := cw_one (ad := ad) (q := q) (e := .inl (g j, a0)) hfw (fun ad' => rfl)
  have hkk : adr ad w.length 1 (fun _ => q) k = a := by
    rw [adr_out]
    · exact hk
    · intro z
      have : k = w.length := by omega
      rw [this] at hkn
      rw [Nat.beq_refl] at hkn
      cases hkn
  have := kk (adr ad w.length 1 (fun _ => q)) hkk H1 locs ls (by rw [e]; exact hP1) (by rw [e]; exact hD1) hS1 (by rw [clv_fr hfl]; exact hl)
  have es : cst (adr ad w.length 1 (fun _ => q)) (.ref w.length :: st) = .ref q :: cst ad st := by
    show Value.ref (adr ad w.length 1 (fun _ => q) w.length) :: cst (adr ad w.length 1 (fun _ => q)) st = _
    rw [cst_fr hfs]
    have e1 : adr ad w.length 1 (fun _ => q) w.length = q := if_pos ⟨Nat.le_refl _, by omega⟩
    rw [e1]
  rw [es] at this
  exact this
end GoMade
