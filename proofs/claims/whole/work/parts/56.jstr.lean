/-! String.length, String.charAt, and what they call -/
set_option maxRecDepth 100000 in
theorem fw_v : Cond.fieldLink RJ0 9 "java/lang/String" "value" "[B" ∈ gw := gw_at 1029 rfl rfl
set_option maxRecDepth 100000 in
theorem fw_c : Cond.fieldLink RJ0 15 "java/lang/String" "coder" "B" ∈ gw := gw_at 1030 rfl rfl
set_option maxRecDepth 100000 in
theorem fw_z : Cond.fieldLink RJ0 38 "java/lang/String" "COMPACT_STRINGS" "Z" ∈ gw := gw_at 200 rfl rfl
set_option maxRecDepth 100000 in
theorem fw_f : Cond.fieldLink RJ0 1053 "jdk/internal/util/Preconditions" "SIOOBE_FORMATTER" "Ljava/util/function/BiFunction;" ∈ gw := gw_at 216 rfl rfl
def rm_s0 : Room := { frames := 0, cells := 0, slots := 0, locals := 0 }
def rm_s1 : Room := { frames := 1, cells := 0, slots := 0, locals := 22 }
def rm_s2 : Room := { frames := 2, cells := 0, slots := 0, locals := 43 }
def rm_s3 : Room := { frames := 3, cells := 0, slots := 0, locals := 64 }
set_option maxRecDepth 100000 in
set_option maxHeartbeats 4000000 in
theorem c_J3_ok (l : Launch) (D : va_G) (g : Nat → ClassId) {x y : Int32} {v : Value} (hv : v = .null ∨ v = .ref 0) (h0 : ¬ x < 0) (h1 : x < y) : CT l D g yJ3_checkIndex_8e157 cJ3_checkIndex_8e157 3 (some .int) rm_s0 [.int x, .int y, v] [] (QpI [] (fun r => r = x)) :=
  CT.of (by decide) rfl (by rcases hv with rfl | rfl <;> exact Nat.le_of_ble_eq_true rfl) [(0, .int x), (1, .int y), (2, v)] rfl (fun X ad hC hr => gIloadN hC dJ3_checkIndex_8e157_0 rfl rfl (gZ_lt hC 9 dJ3_checkIndex_8e157_1 rfl (fun c => absurd c h0) (fun c => gIloadN hC dJ3_checkIndex_8e157_4 rfl rfl (gIloadN hC dJ3_checkIndex_8e157_5 rfl rfl (gC_lt hC 16 dJ3_checkIndex_8e157_6 rfl (fun c => gIloadN hC dJ3_checkIndex_8e157_16 rfl rfl (gIret hC hr dJ3_checkIndex_8e157_17 rfl (And.intro rfl (Exists.intro _ (And.intro rfl rfl))))) (fun c => absurd h1 c))))))
set_option maxRecDepth 100000 in
set_option maxHeartbeats 4000000 in
theorem c_J0_checkIndex (l : Launch) (D : va_G) (g : Nat → ClassId) {x y : Int32} (h0 : ¬ x < 0) (h1 : x < y) : CS l D g yJ0_checkIndex_df160 cJ0_checkIndex_df160 2 none rm_s1 [.int x, .int y] none :=
  CS.of (by decide) rfl (Nat.le_of_ble_eq_true rfl) [(0, .int x), (1, .int y)] rfl (fun X ad hC hSP hr => gIloadN hC dJ0_checkIndex_df160_0 rfl rfl (gIloadN hC dJ0_checkIndex_df160_1 rfl rfl (gSform (n := 2) hC hSP fw_f dJ0_checkIndex_df160_2 (Nat.zero_le _) rfl rfl rfl (fun ad' v hv => by
    rcases hv with rfl | rfl
    · exact gCallSpI hC (c_J3_ok l D g (v := .null) (Or.inl rfl) h0 h1) [2] ⟨Nat.zero_le _, Nat.zero_le _⟩ dJ0_checkIndex_df160_5 ml_J0_1059 ms_J3_checkIndex_8e157 (rmk rfl) rfl (st := []) rfl (Nat.le_of_ble_eq_true rfl) rfl rfl (fun r hq => gPop hC dJ0_checkIndex_df160_8 rfl (gSvret hC hr dJ0_checkIndex_df160_9))
    · exact gCallSpI hC (c_J3_ok l D g (v := .ref 0) (Or.inr rfl) h0 h1) [2] ⟨Nat.zero_le _, Nat.zero_le _⟩ dJ0_checkIndex_df160_5 ml_J0_1059 ms_J3_checkIndex_8e157 (rmk rfl) rfl (st := []) rfl (Nat.le_of_ble_eq_true rfl) rfl rfl (fun r hq => gPop hC dJ0_checkIndex_df160_8 rfl (gSvret hC hr dJ0_checkIndex_df160_9))))))
theorem ch_low : ∀ v, v < 127 → ((nI v &&& 255).toUInt32 % 65536).toInt32 = nI v := by decide +kernel
theorem ch_nar : ∀ v, v < 127 → narrow .char (.int (nI v)) = .int (nI v) := by decide +kernel
set_option maxRecDepth 100000 in
set_option maxHeartbeats 4000000 in
theorem c_J1_charAt (l : Launch) (D : va_G) (g : Nat → ClassId) {i : Nat} (hi : i < 91) : CS l D g yJ1_charAt_3b067 cJ1_charAt_3b067 2 (some .char) rm_s2 [.ref 1, .int (nI i)] (some (.int (nI (sb.getD i 0)))) :=
  CS.of (by decide) rfl (Nat.le_of_ble_eq_true rfl) [(0, .ref 1), (1, .int (nI i))] rfl (fun X ad hC hSP hr => gIloadN hC dJ1_charAt_3b067_0 rfl rfl (gAloadN hC dJ1_charAt_3b067_1 rfl rfl (gSlen hC (kb := 0) (kv := 1) hSP dJ1_charAt_3b067_2 (gCallTS hC (kb := 0) hSP (c_J0_checkIndex l D g (x := nI i) (y := 91) (nI_pos (by omega)) (ltN (b := 91) hi (by omega))) ⟨Nat.zero_le _, Nat.zero_le _⟩ dJ1_charAt_3b067_3 ml_J1_9 ms_J0_checkIndex_df160 (rmk rfl) rfl (fun _ => rfl) (st := []) rfl (Nat.le_of_ble_eq_true rfl) (gAloadN hC dJ1_charAt_3b067_6 rfl rfl (gIloadN hC dJ1_charAt_3b067_7 rfl rfl (gSld hC (kb := 0) (kv := 1) hSP hi dJ1_charAt_3b067_8 (gSipush hC 255 dJ1_charAt_3b067_9 rfl (g_iand hC dJ1_charAt_3b067_12 (g_i2c hC dJ1_charAt_3b067_13 (gST (st' := [.int (nI (sb.getD i 0))]) (by rw [ch_low _ (by have := (sb_rng i hi).2; omega)]; rfl) (gSret hC hr (ch_nar _ (by have := (sb_rng i hi).2; omega)) dJ1_charAt_3b067_14))))))))))))
set_option maxRecDepth 100000 in
set_option maxHeartbeats 4000000 in
theorem c_J0_isLatin1 (l : Launch) (D : va_G) (g : Nat → ClassId) : CS l D g yJ0_isLatin1_aae02 cJ0_isLatin1_aae02 1 (some .boolean) rm_s0 [.ref 0] (some (.int 1)) :=
  CS.of (by decide) rfl (Nat.le_of_ble_eq_true rfl) [(0, .ref 0)] rfl (fun X ad hC hSP hr => gScomp hC (kb := 0) (kv := 1) hSP fw_z dJ0_isLatin1_aae02_0 (gZ_eq hC 17 dJ0_isLatin1_aae02_3 rfl (fun c => absurd c (by decide)) (fun c => gAloadN hC dJ0_isLatin1_aae02_6 rfl rfl (gSgetC hC (kb := 0) (kv := 1) hSP fw_c dJ0_isLatin1_aae02_7 (gZ_ne hC 17 dJ0_isLatin1_aae02_10 rfl (fun c => gIconst hC 1 dJ0_isLatin1_aae02_13 rfl (gGoto hC 18 dJ0_isLatin1_aae02_14 rfl (gSret hC hr rfl dJ0_isLatin1_aae02_18))) (fun c => absurd rfl c))))))
set_option maxRecDepth 100000 in
set_option maxHeartbeats 4000000 in
theorem c_J0_coder (l : Launch) (D : va_G) (g : Nat → ClassId) : CS l D g yJ0_coder_7d493 cJ0_coder_7d493 1 (some .byte) rm_s0 [.ref 0] (some (.int 0)) :=
  CS.of (by decide) rfl (Nat.le_of_ble_eq_true rfl) [(0, .ref 0)] rfl (fun X ad hC hSP hr => gScomp hC (kb := 0) (kv := 1) hSP fw_z dJ0_coder_7d493_0 (gZ_eq hC 13 dJ0_coder_7d493_3 rfl (fun c => absurd c (by decide)) (fun c => gAloadN hC dJ0_coder_7d493_6 rfl rfl (gSgetC hC (kb := 0) (kv := 1) hSP fw_c dJ0_coder_7d493_7 (gGoto hC 14 dJ0_coder_7d493_10 rfl (gSret hC hr rfl dJ0_coder_7d493_14))))))
set_option maxRecDepth 100000 in
set_option maxHeartbeats 4000000 in
theorem c_J0_length (l : Launch) (D : va_G) (g : Nat → ClassId) : CS l D g yJ0_length_8abf5 cJ0_length_8abf5 1 (some .int) rm_s1 [.ref 0] (some (.int 91)) :=
  CS.of (by decide) rfl (Nat.le_of_ble_eq_true rfl) [(0, .ref 0)] rfl (fun X ad hC hSP hr => gAloadN hC dJ0_length_8abf5_0 rfl rfl (gSgetV hC (kb := 0) (kv := 1) hSP fw_v dJ0_length_8abf5_1 (gSlen hC (kb := 0) (kv := 1) hSP dJ0_length_8abf5_4 (gAloadN hC dJ0_length_8abf5_5 rfl rfl (gCallT hC (kb := 0) hSP (c_J0_coder l D g) ⟨Nat.zero_le _, Nat.zero_le _⟩ dJ0_length_8abf5_6 ml_J0_335 mv_J0_coder_7d493 rfl (rmk rfl) rfl (fun _ => rfl) (st := [.int 91]) rfl (Nat.le_of_ble_eq_true rfl) (g_ishr hC dJ0_length_8abf5_9 (gST (st' := [.int 91]) rfl (gSret hC hr rfl dJ0_length_8abf5_10))))))))
set_option maxRecDepth 100000 in
set_option maxHeartbeats 4000000 in
theorem c_J0_charAt (l : Launch) (D : va_G) (g : Nat → ClassId) {i : Nat} (hi : i < 91) : CS l D g yJ0_charAt_5068e cJ0_charAt_5068e 2 (some .char) rm_s3 [.ref 0, .int (nI i)] (some (.int (nI (sb.getD i 0)))) :=
  CS.of (by decide) rfl (Nat.le_of_ble_eq_true rfl) [(0, .ref 0), (1, .int (nI i))] rfl (fun X ad hC hSP hr => gAloadN hC dJ0_charAt_5068e_0 rfl rfl (gCallT hC (kb := 0) hSP (c_J0_isLatin1 l D g) ⟨Nat.zero_le _, Nat.zero_le _⟩ dJ0_charAt_5068e_1 ml_J0_492 mv_J0_isLatin1_aae02 rfl (rmk rfl) rfl (fun _ => rfl) (st := []) rfl (Nat.le_of_ble_eq_true rfl) (gZ_eq hC 16 dJ0_charAt_5068e_4 rfl (fun c => absurd c (by decide)) (fun c => gAloadN hC dJ0_charAt_5068e_7 rfl rfl (gSgetV hC (kb := 0) (kv := 1) hSP fw_v dJ0_charAt_5068e_8 (gIloadN hC dJ0_charAt_5068e_11 rfl rfl (gCallTS hC (kb := 0) hSP (c_J1_charAt l D g hi) ⟨Nat.zero_le _, Nat.zero_le _⟩ dJ0_charAt_5068e_12 ml_J0_495 ms_J1_charAt_3b067 (rmk rfl) rfl (fun _ => rfl) (st := []) rfl (Nat.le_of_ble_eq_true rfl) (gSret hC hr (ch_nar _ (by have := (sb_rng i hi).2; omega)) dJ0_charAt_5068e_15))))))))
