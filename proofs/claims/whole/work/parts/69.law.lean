/-! THE LAW: its loop, its start, the claim -/
/-! THE CLAIM OUT OF ONE WALK OF THE LAW'S BODY. Your part is whole_start (and what it stands on); all else here is the same for every law, but numbers. -/
def R_law : String := "ParishRaffleLaw"
def lw_P (b : Addr) (xs : List Int32) (args : Array Value) (s : State) : Prop := args = #[.ref b] ∧ s.IntsAt b xs ∧ xs.length ≤ 256 ∧ (Jvm.Cond.and given_1 narrow_1).before args s = true
def lw_Q (_ : Array Value) (s : State) (o : Outcome) (t : State) : Prop := o = .returned (some (.int 1)) ∧ Framed s o t [] 600000 7302250
def lw_Z (below : List Frame) (a : Array Value) (s : State) : State → Prop := fun t => ∃ o, t.status = .running ∧ Ended t below o ∧ lw_Q a s o t
/-- the law's own end, with 1 on the stack, nothing written that was there before, its room as the claim has it -/
theorem lw_ret {p : Program} {l : Launch} {e : Env} {s : State} {m : MethodId} {below : List Frame} {meth : Method} {c : Code} {b : Nat} (hx : p.tables.exec = Jvm.exec) (hb : c.code = code) (hr : meth.sig.returnType = ret) (hlocks : meth.locks = false) {pc : Nat} {H : Heap} {ls : Array Slot} (hdg : decode code pc = .ok (.ireturn, 1)) : W p l e room_1 s m #[Value.ref b] below meth c H [] 600000 7302250 (lw_Z below #[Value.ref b] s) (F0 m pc ls [.int 1]) := by
  intro T hT X
  obtain ⟨fs, hret, hrun, hended, hW, hframe⟩ := X.leave (v := some (.int 1)) (hlocks := hlocks) (fun h => by rw [hr] at h; cases h)
  have hmeth' : T.vm.method? m = some meth := X.method'
  refine ⟨T.setFrames fs, ?_, .returned (some (.int 1)), hrun, hended, rfl, ⟨_, rfl⟩, hW, hframe⟩
  jvm_step X.here [X.here.top, hx, hb, hdg, hmeth', hr, ret, narrow_b1]
  (try refine ⟨rfl, ?_⟩); (try refine ⟨rfl, ?_⟩)
  first | (intro acts; rw [hret _ acts rfl rfl rfl]) | rw [hret _ _ rfl rfl rfl]
  exact Steps.refl _
/-- what holds at the law's entry: the machine, the code, the tables' words (any of lw_tbl by 'hts w (by decide +kernel)'), the script of L ints xs at the cell b, what the Statement gives of the start (any of its parts by flat_of_before) -/
def lw_At (p : Program) (s : State) (m : MethodId) (meth : Method) (c : Code) (b L : Nat) (xs : Nat → Int32) : Prop :=
  p.tables.exec = Jvm.exec ∧ c.code = code ∧ meth.sig.returnType = ret ∧ c.maxLocals = 4 ∧ s.vm.findClass R_law = some m.cls ∧ (∀ w ∈ lw_tbl, w.before #[Value.ref b] s = true) ∧ va_X b L xs s s.heap ∧ b < s.heap.size ∧ meth.locks = false ∧ (Jvm.Cond.and given_1 narrow_1).before #[Value.ref b] s = true
theorem gLawEnd {p : Program} {l : Launch} {e : Env} {s : State} {m : MethodId} {below : List Frame} {meth : Method} {c : Code} {b : Nat} {D : va_G} {ad : Nat → Nat} {cu su : Nat} {lv : List (Nat × Value)} {w : List va_E} (hx : p.tables.exec = Jvm.exec) (hb : c.code = code) (hr : meth.sig.returnType = ret) (hlocks : meth.locks = false) (hcu : cu ≤ room_1.cells ∧ su ≤ room_1.slots) : Go (p, l, e, room_1, s, m, #[Value.ref b], below, meth, c, D, (fun q => s.heap.size ≤ q), lw_Z below #[Value.ref b] s) 4 ad cu su 908 lv [.int 1] w := fun H locs ls hP hD hS hl =>
  va_forget hS.2.2 (W.widen hcu.1 hcu.2 (lw_ret hx hb hr hlocks dL_law_908))
set_option maxRecDepth 100000 in
set_option maxHeartbeats 4000000 in
theorem law_loop {X : MC} {l : Launch} {D : va_G} {g : Nat → ClassId} {b L cu su : Nat} {sc : Nat → Int32} (hX : LX X l D g b L sc cu su) (hE : ∀ (ad : Nat → Nat) (lv : List (Nat × Value)) (w : List va_E), Go X 4 ad cu su 908 lv [.int 1] w) : ∀ (n i : Nat), L < i + 4 * n + 4 → i < 1000 → NX X g b cu su i := by
  have hL := hX.2.2.2.2.1
  intro n
  induction n with
  | zero =>
    intro i h1 h2 ad w6 w7 hb hI
    exact gIloadN hX.1 dL_law_18 rfl rfl (gAloadN hX.1 dL_law_19 rfl rfl (gScrLn hX.1 hX.2.1 hX.2.2.1 hX.2.2.2.1 hb dL_law_20 (gIconst hX.1 4 dL_law_21 rfl (g_isub hX.1 dL_law_22 (gC_gt hX.1 907 dL_law_23 rfl (fun _ => gIconst hX.1 1 dL_law_907 rfl (hE _ _ _)) (fun c => absurd ((cmpL hL h2).mpr (by omega)) c))))))
  | succ n ih =>
    intro i h1 h2 ad w6 w7 hb hI
    exact gIloadN hX.1 dL_law_18 rfl rfl (gAloadN hX.1 dL_law_19 rfl rfl (gScrLn hX.1 hX.2.1 hX.2.2.1 hX.2.2.2.1 hb dL_law_20 (gIconst hX.1 4 dL_law_21 rfl (g_isub hX.1 dL_law_22 (gC_gt hX.1 907 dL_law_23 rfl (fun _ => gIconst hX.1 1 dL_law_907 rfl (hE _ _ _)) (fun c => by
      have h4 : i + 4 ≤ L := Nat.not_lt.mp (fun z => c ((cmpL hL h2).mpr z))
      have hN : NX X g b cu su (i + 4) := ih (i + 4) (by omega) (by omega)
      exact gAloadN hX.1 dL_law_26 rfl rfl (gIloadN hX.1 dL_law_27 rfl rfl (gScrLd (i := i) hX.1 hX.2.1 hX.2.2.1 hX.2.2.2.1 hb rfl (by omega) hL dL_law_28 (gBipush hX.1 31 dL_law_29 rfl (g_iand hX.1 dL_law_31 (gTab hX.1 dL_law_32 rfl (by decide) (by decide) (And.intro (fun _ => tL_write hX hb h4 hI hN) (fun _ => And.intro (fun _ => tL_wipe hX hb h4 hI hN) (fun _ => And.intro (fun _ => tL_fault hX hb h4 hI hN) (fun _ => And.intro (fun _ => tL_lay hX hb h4 hI hN) (fun _ => And.intro (fun _ => tL_person hX hb h4 hI hN) (fun _ => And.intro (fun _ => tL_thing hX hb h4 hI hN) (fun _ => And.intro (fun _ => tL_likes hX hb h4 hI hN) (fun _ => And.intro (fun _ => tL_draw hX hb h4 hI hN) (fun _ => And.intro (fun _ => tL_refuse hX hb h4 hI hN) (fun _ => And.intro (fun _ => tL_buy hX hb h4 hI hN) (fun _ => And.intro (fun _ => tL_hand hX hb h4 hI hN) (fun _ => And.intro (fun _ => tL_swap hX hb h4 hI hN) (fun _ => And.intro (fun _ => tL_give hX hb h4 hI hN) (fun _ => And.intro (fun _ => tL_undo hX hb h4 hI hN) (fun _ => And.intro (fun _ => tL_wins hX hb h4 hI hN) (fun _ => And.intro (fun _ => tL_mean hX hb h4 hI hN) (fun _ => And.intro (fun _ => tL_needs hX hb h4 hI hN) (fun _ => And.intro (fun _ => tL_swaps hX hb h4 hI hN) (fun _ => And.intro (fun _ => tL_gives hX hb h4 hI hN) (fun _ => And.intro (fun _ => tL_share hX hb h4 hI hN) (fun _ => And.intro (fun _ => tL_envy hX hb h4 hI hN) (fun _ => And.intro (fun _ => tL_ring hX hb h4 hI hN) (fun _ => And.intro (fun _ => tL_note hX hb h4 hI hN) (fun _ => And.intro (fun _ => tL_forget hX hb h4 hI hN) (fun _ => And.intro (fun _ => tL_fair hX hb h4 hI hN) (fun _ => And.intro (fun _ => tL_seats hX hb h4 hI hN) (fun _ => And.intro (fun _ => tL_year hX hb h4 hI hN) (fun _ => And.intro (fun _ => tL_keep hX hb h4 hI hN) (fun _ => And.intro (fun _ => tL_back hX hb h4 hI hN) (fun _ => And.intro (fun _ => tL_count hX hb h4 hI hN) (fun _ => gIinc hX.1 4 [(3, .int (nI (i + 4))), (2, .ref 30), (1, .ref 0), (0, .ref 45)] dL_law_901 rfl rfl (Nat.le_of_ble_eq_true rfl) (by rw [show nI i + 4 = nI (i + 4) from nI_add i 4]; rfl) (gGoto hX.1 18 dL_law_904 rfl (hN ad w6 w7 hb hI))))))))))))))))))))))))))))))))))))))))))))
set_option maxRecDepth 100000 in
set_option maxHeartbeats 4000000 in
theorem whole_start {p : Program} {e : Env} {s : State} {m : MethodId} {below : List Frame} {meth : Method} {c : Code} (l : Launch) (hflags : l.flags = flags0) {b L : Nat} {xs : Nat → Int32} (hL : L ≤ 256) (C0 : lw_At p s m meth c b L xs) : W p l e room_1 s m #[Value.ref b] below meth c s.heap [] 0 0 (lw_Z below #[Value.ref b] s) (entryFrame m ([Value.ref b] : List Value).toArray 4) := by
  obtain ⟨hx, hbc, hr, hml, hown, hts, hXs, hbl, hlocks, hgv⟩ := C0
  obtain ⟨D, g, hK⟩ := start_KK hts
  obtain ⟨sb1, sv1, hSP, hR⟩ := start_SP hts hgv
  have hC : Cx (p, l, e, room_1, s, m, #[Value.ref b], below, meth, c, D, (fun q => s.heap.size ≤ q), lw_Z below #[Value.ref b] s) l D g room_1 cL_law 4 RL := ⟨hx, hbc, hml, hown, fun w hw => hts w (gw_tbl hw), hK, fun q hq => hq, rfl, rfl, rfl⟩
  have hl := lv_entry ([Value.ref 45].map (cz (fun _ => b))) (n := 4) (Nat.le_of_ble_eq_true rfl)
  rw [lv_args_cz] at hl
  have body : Go (p, l, e, room_1, s, m, #[Value.ref b], below, meth, c, D, (fun q => s.heap.size ≤ q), lw_Z below #[Value.ref b] s) 4 (fun _ => b) 0 0 0 [(0, .ref 45)] [] [] :=
    gNew (n := 0) (k := 45) hC [.inr (6, [.null, .null, .null, .null, .null, .null, .null, .null, .null])] dL_law_0 nw_L_7 (Nat.le_of_ble_eq_true rfl) (Nat.le_of_ble_eq_true rfl) rfl rfl rfl rfl rfl rfl rfl (fun ad1 h1 => gDup hC dL_law_3 rfl (gCallIS hC [] (c_X6_init l D g) hSP hR ⟨(Nat.le_of_ble_eq_true rfl), (Nat.le_of_ble_eq_true rfl)⟩ dL_law_4 ml_L_9 mi_X6 (rnk rfl) rfl rfl rfl (st := [.ref 0]) rfl (Nat.le_of_ble_eq_true rfl) rfl (fun _ => rfl) h1 rfl rfl rfl rfl (fun ad2 wc2 h2 hq2 hl2 => by
      obtain ⟨le, nums, at0, nw, rfl, s1, s2, s3, s4, s5⟩ := hq2
      exact gW (w' := w6a g le nums 0 at0 nw tkF kdF wtF lkF (nI 5) (nI 6)) rfl (gAstoreN hC [(1, .ref 0), (0, .ref 45)] dL_law_7 rfl (Nat.le_of_ble_eq_true rfl) rfl (gNew (n := 30) (k := 45) hC (w6a g le nums 0 at0 nw tkF kdF wtF lkF (nI 5) (nI 6) ++ [.inr (7, [.null, .int 0, .null, .null, .null, .null, .null, .null, .int 0, .int 0, .null, .null, .int 0, .null, .int 0, .null, .null, .int 0, .null, .null])]) dL_law_8 nw_L_10 (Nat.le_of_ble_eq_true rfl) (Nat.le_of_ble_eq_true rfl) h2 rfl rfl rfl rfl rfl rfl (fun ad3 h3 => gDup hC dL_law_11 rfl (gCallI hC (w6a g le nums 0 at0 nw tkF kdF wtF lkF (nI 5) (nI 6)) (c_X7_init l D g (fun _ pe th la ki wo li now x y z => MR 5 6 tkF kdF wtF lkF pe th la ki wo li ∧ (∀ p, p < 5 → now p = tkF p) ∧ (∀ t, t < 6 → now (5 + t) = -4) ∧ now 11 = 0 ∧ now 12 = 0 ∧ now 13 = 0 ∧ x = 0 ∧ y = 0 ∧ z = 0) (x7_first (fun pe th la ki wo li hDM => s7_takeDraft PZ_F hDM (fun pe' th' la' ki' wo' li' now' hM t1 t2 t3 t4 t5 => ⟨hM, t1, t2, t3, t4, t5, rfl, rfl, rfl⟩)))) ⟨(Nat.le_of_ble_eq_true rfl), (Nat.le_of_ble_eq_true rfl)⟩ dL_law_12 li_L_12 mi_X7 (rnk rfl) rfl rfl rfl (st := [.ref 30]) rfl (Nat.le_of_ble_eq_true rfl) rfl (fun _ => rfl) h3 rfl rfl rfl rfl (fun ad4 wc4 h4 hq4 hl4 => by
        obtain ⟨m_isWrong1, m_people2, m_things2, m_laid2, m_kind2, m_worth2, m_like2, m_now2, m_many2, m_kept2, m_notes2, rfl, hM, t1, t2, t3, t4, t5, rfl, rfl, rfl⟩ := hq4
        obtain ⟨hSd, hRS⟩ := start_both PZ_F s1 s2 s3 s4 s5 t1 t2 t3 t4 t5
        refine gAstoreN hC [(2, .ref 30), (1, .ref 0), (0, .ref 45)] dL_law_15 rfl (Nat.le_of_ble_eq_true rfl) rfl (gIconst hC 0 dL_law_16 rfl (gIstoreN hC [(3, .int (nI 0)), (2, .ref 30), (1, .ref 0), (0, .ref 45)] dL_law_17 rfl (Nat.le_of_ble_eq_true rfl) rfl ?_))
        exact law_loop ⟨hC, hXs, hbl, Nat.not_le.mpr hbl, hL, (Nat.le_of_ble_eq_true rfl), (Nat.le_of_ble_eq_true rfl)⟩ (fun ad' lv' w' => gLawEnd hx hbc hr hlocks ⟨(Nat.le_of_ble_eq_true rfl), (Nat.le_of_ble_eq_true rfl)⟩) 65 0 (by omega) (by omega) ad4 _ _ h4 (IVm (np := 5) (nt := 6) (kt := 0) (kp := 0) (kk := 0) (kn := 0) ⟨by omega, PZ_F⟩ hM hSd hRS (by omega) (fun j hj => absurd hj (by omega)) (by omega) (fun j hj => absurd hj (by omega)) ⟨by omega, fun j hj => absurd hj (by omega)⟩ ⟨by omega, fun j hj => absurd hj (by omega), fun p hp => rfl⟩)))))))))
  rw [lg_entry_eq]
  exact body s.heap [] _ (fun k q h => by simp [cw] at h) ⟨fun i j p q h => by simp [cw] at h, fun k q h => by simp [cw] at h⟩ va_S.rf hl
set_option maxHeartbeats 4000000 in
theorem lw_walk (l : Launch) (hflags : l.flags = flags0) (b : Addr) (xs : List Int32) : MetFree l x (headSpec (Jvm.Cond.code x code maxLocals ret :: tables_1) room_1) (lw_P b xs) (fun _ _ _ _ _ => True) lw_Q := by
  refine MetFree.of_bodyS (code := code) (maxLocals := maxLocals) (ret := ret) (by decide) ?_ ?_
  · intro args s m h hn
    obtain ⟨meth, c, h1, h2, h3, h4, h5, h6, -, -⟩ := Cond.code_spec hn (atoms_spec (ws := Jvm.Cond.code x code maxLocals ret :: tables_1) h _ List.mem_cons_self)
    exact ⟨meth, c, h1, h2, h3, h4, h5, h6⟩
  · intro p e s m args below meth c s₁ B hml0 hP _
    obtain ⟨rfl, hx, hbd, hgv⟩ := hP
    obtain ⟨scr, harrAt, hlist, hof, hsmall⟩ := hx
    obtain ⟨hcb, hkn, -, -⟩ := State.arrayAt?_spec harrAt
    have hown : s.vm.findClass R_law = some m.cls := findClass_of_methodNamed B.named
    have hts0 : ∀ c ∈ (Jvm.Cond.code x code maxLocals ret :: tables_1), c.before #[Value.ref b] s = true := atoms_spec (ws := Jvm.Cond.code x code maxLocals ret :: tables_1) B.pre
    have hts : ∀ w ∈ lw_tbl, w.before #[Value.ref b] s = true := k2_hts_sels lw_privs (fun w hw => hts0 w (List.mem_cons_of_mem _ hw)) lw_privs_ok
    have hml : c.maxLocals = 4 := B.maxLocals_eq (hts0 _ List.mem_cons_self)
    have X₀ : Stand p l e room_1 s m #[Value.ref b] below meth c s₁ [] 0 0 := Stand.of_body B
    have hh0 : s₁.heap = s.heap := by rw [B.state]; rfl
    have hsz : scr.slots.size = xs.length := by rw [← Array.length_toList, hlist, List.length_map]
    have hval : ∀ j : Nat, j < xs.length → scr.slots[j]? = some (.int (xs.getD j 0)) := fun j hj => by
      rw [← Array.getElem?_toList, hlist]
      simp [hj]
    have hbl : b < s.heap.size := (Array.getElem?_eq_some_iff.mp hcb).1
    have hX : va_X b xs.length (fun j => xs.getD j 0) s s.heap := ⟨scr, hcb, hof, hkn, hsz, hval⟩
    have K : W p l e room_1 s m #[Value.ref b] below meth c s₁.heap [] 0 0 (lw_Z below #[Value.ref b] s) (entryFrame m ([Value.ref b] : List Value).toArray 4) := by
      rw [hh0]
      exact whole_start l hflags hbd ⟨B.exec, B.bytes, B.returns, hml, hown, hts, hX, hbl, B.notSynchronized, hgv⟩
    obtain ⟨t, a1, o, b1, b2, b3⟩ := K s₁ rfl X₀
    exact ⟨t, o, a1, b1, b2, b3⟩
theorem lw_pre_spec {args : Array Value} {s : State} (h : (Jvm.Cond.and given_1 narrow_1).before args s = true) (hr : rest_1_c.before args s = true) : ∃ (b : Addr) (xs : List Int32), lw_P b xs args s := by
  have hs := flat_of_before _ h
  have hq := flat_of_before _ hr
  have hc : (Cond.count 1).before args s = true := hs _ (by decide +kernel)
  have harr : (Cond.arrayOf (.arg 0) .int).before args s = true := hs _ (by decide +kernel)
  have hle : (Cond.le (.length (.arg 0)) (.int 256)).before args s = true := hs _ (by decide +kernel)
  have hlen : (Cond.isInt (.length (.arg 0))).before args s = true := hq _ (by decide +kernel)
  have hall : (Cond.all (.arg 0) (.isInt (.elem (.arg 0) (.index 0)))).before args s = true := hq _ (by decide +kernel)
  obtain ⟨b, xs, hb, hx⟩ := State.ints_of_pre rfl harr hlen hall
  have hsm : xs.length < 2 ^ 31 := hx.choose_spec.2.2.2
  have hev : (Term.length (.arg 0)).eval args s none [] s = some (.int xs.length.toInt32) := hx.length_eval hb
  have hv := Cond.le_ints hev (show (Term.int 256).eval args s none [] s = some (.int 256) from rfl)
  have hd : xs.length.toInt32 ≤ 256 := by
    simpa [Cond.before, Cond.holds, hv] using hle
  have hN : xs.length ≤ 256 := (Int32.ofNat_le_ofNat hsm (by decide)).mp (show Int32.ofNat xs.length ≤ Int32.ofNat 256 from hd)
  exact ⟨b, xs, Cond.one_arg hc (show args[0]? = some (.ref b) from hb), hx, hN, h⟩
theorem lw_comes (l : Launch) (hflags : l.flags = flags0) : Comes l x (Jvm.Cond.code x code maxLocals ret :: tables_1) room_1 (fun tb e args s => Calls_1 tb e args s ∧ rest_1 tb e args s ∧ Pre_1 tb e args s)
    (fun _ _ args s o t => lw_Q args s o t) := by
  intro p e ha hc hk s m args below hf hfit hheap happ hpre
  obtain ⟨b, xs, hP⟩ := lw_pre_spec hpre.2.2 hpre.2.1
  obtain ⟨k, o, h1, h2, h3, hQ⟩ := lw_walk l hflags b xs p e ha hc hk s m args below hf ((Spec.applies_iff_loose hf).mp happ).1 hP trivial
  exact ⟨k, o, h1, h2, h3, hQ⟩
theorem lw_frame {s t : State} {o : Outcome} {args : Array Value} (h : Framed s o t [] 600000 7302250) :
    Framed s o t (fieldLocs frame_1_writes args s ++ arrayLocs frame_1_arrays args s ++ staticLocs frame_1_statics s) 600000 7302250 := h
theorem lw_limb (L : Cond) (hL : ∀ (args : Array Value) (s t : State), L.after args s (.returned (some (.int 1))) t = true) :
    ArmFor flags0 classFile x code maxLocals ret World_1 tables_1 room_1 Calls_1 rest_1 Pre_1
      (fun tb e a s o t => postC L tb e a s o t ∧ Framed s o t (fieldLocs frame_1_writes a s ++ arrayLocs frame_1_arrays a s ++ staticLocs frame_1_statics s) 600000 7302250) := by
  intro l hflags _ _ p e ha hc hk s m args below hf hfit hheap happ hpre
  obtain ⟨k, o, h1, h2, h3, rfl, hF⟩ := lw_comes l hflags p e ha hc hk s m args below hf hfit hheap happ hpre
  exact ⟨k, _, h1, h2, h3, hL args s _, lw_frame hF⟩
theorem i_vc : Claimed_1_1 ∧ Claimed_1_2 := ⟨lw_limb limb_1_1 (fun args s t => by simp [limb_1_1, Cond.after, Cond.holds, Cond.value]), lw_limb limb_1_2 (fun args s t => Cond.after_iff.mpr (by
  first | (rw [show limb_1_2 = Cond.eq .result (.int 1) from rfl, Cond.eq_ints (x := 1) (y := 1) rfl rfl]; simp; done) | (simp [limb_1_2, Cond.value, Term.eval]; done)))⟩
