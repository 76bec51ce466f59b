/-! the words by their places in the tables -/
set_option maxRecDepth 100000 in
theorem inG_X0 : ∀ x ∈ u_ws RX0 TX0 3, x ∈ gw := (show ∀ x ∈ [u_lay RX0 TX0 0, u_lay RX0 TX0 1, u_lay RX0 TX0 2], x ∈ gw from List.forall_mem_cons.mpr ⟨gw_at 146 rfl rfl, List.forall_mem_cons.mpr ⟨gw_at 148 rfl rfl, List.forall_mem_cons.mpr ⟨gw_at 150 rfl rfl, fun _ h => absurd h List.not_mem_nil⟩⟩⟩)
set_option maxRecDepth 100000 in
theorem inG_X1 : ∀ x ∈ u_ws RX1 TX1 2, x ∈ gw := (show ∀ x ∈ [u_lay RX1 TX1 0, u_lay RX1 TX1 1], x ∈ gw from List.forall_mem_cons.mpr ⟨gw_at 132 rfl rfl, List.forall_mem_cons.mpr ⟨gw_at 134 rfl rfl, fun _ h => absurd h List.not_mem_nil⟩⟩)
set_option maxRecDepth 100000 in
theorem inG_X2 : ∀ x ∈ u_ws RX2 TX2 7, x ∈ gw := (show ∀ x ∈ [u_lay RX2 TX2 0, u_lay RX2 TX2 1, u_lay RX2 TX2 2, u_lay RX2 TX2 3, u_lay RX2 TX2 4, u_lay RX2 TX2 5, u_lay RX2 TX2 6], x ∈ gw from List.forall_mem_cons.mpr ⟨gw_at 175 rfl rfl, List.forall_mem_cons.mpr ⟨gw_at 177 rfl rfl, List.forall_mem_cons.mpr ⟨gw_at 179 rfl rfl, List.forall_mem_cons.mpr ⟨gw_at 181 rfl rfl, List.forall_mem_cons.mpr ⟨gw_at 183 rfl rfl, List.forall_mem_cons.mpr ⟨gw_at 185 rfl rfl, List.forall_mem_cons.mpr ⟨gw_at 187 rfl rfl, fun _ h => absurd h List.not_mem_nil⟩⟩⟩⟩⟩⟩⟩)
set_option maxRecDepth 100000 in
theorem inG_X3 : ∀ x ∈ u_ws RX3 TX3 1, x ∈ gw := (show ∀ x ∈ [u_lay RX3 TX3 0], x ∈ gw from List.forall_mem_cons.mpr ⟨gw_at 100 rfl rfl, fun _ h => absurd h List.not_mem_nil⟩)
set_option maxRecDepth 100000 in
theorem inG_X4 : ∀ x ∈ u_ws RX4 TX4 3, x ∈ gw := (show ∀ x ∈ [u_lay RX4 TX4 0, u_lay RX4 TX4 1, u_lay RX4 TX4 2], x ∈ gw from List.forall_mem_cons.mpr ⟨gw_at 116 rfl rfl, List.forall_mem_cons.mpr ⟨gw_at 118 rfl rfl, List.forall_mem_cons.mpr ⟨gw_at 120 rfl rfl, fun _ h => absurd h List.not_mem_nil⟩⟩⟩)
set_option maxRecDepth 100000 in
theorem inG_X5 : ∀ x ∈ u_ws RX5 TX5 4, x ∈ gw := (show ∀ x ∈ [u_lay RX5 TX5 0, u_lay RX5 TX5 1, u_lay RX5 TX5 2, u_lay RX5 TX5 3], x ∈ gw from List.forall_mem_cons.mpr ⟨gw_at 81 rfl rfl, List.forall_mem_cons.mpr ⟨gw_at 83 rfl rfl, List.forall_mem_cons.mpr ⟨gw_at 85 rfl rfl, List.forall_mem_cons.mpr ⟨gw_at 87 rfl rfl, fun _ h => absurd h List.not_mem_nil⟩⟩⟩⟩)
set_option maxRecDepth 100000 in
theorem inG_X6 : ∀ x ∈ u_ws RX6 TX6 9, x ∈ gw := (show ∀ x ∈ [u_lay RX6 TX6 0, u_lay RX6 TX6 1, u_lay RX6 TX6 2, u_lay RX6 TX6 3, u_lay RX6 TX6 4, u_lay RX6 TX6 5, u_lay RX6 TX6 6, u_lay RX6 TX6 7, u_lay RX6 TX6 8], x ∈ gw from List.forall_mem_cons.mpr ⟨gw_at 308 rfl rfl, List.forall_mem_cons.mpr ⟨gw_at 310 rfl rfl, List.forall_mem_cons.mpr ⟨gw_at 312 rfl rfl, List.forall_mem_cons.mpr ⟨gw_at 314 rfl rfl, List.forall_mem_cons.mpr ⟨gw_at 316 rfl rfl, List.forall_mem_cons.mpr ⟨gw_at 318 rfl rfl, List.forall_mem_cons.mpr ⟨gw_at 320 rfl rfl, List.forall_mem_cons.mpr ⟨gw_at 322 rfl rfl, List.forall_mem_cons.mpr ⟨gw_at 324 rfl rfl, fun _ h => absurd h List.not_mem_nil⟩⟩⟩⟩⟩⟩⟩⟩⟩)
set_option maxRecDepth 100000 in
theorem inG_X7 : ∀ x ∈ u_ws RX7 TX7 20, x ∈ gw := (show ∀ x ∈ [u_lay RX7 TX7 0, u_lay RX7 TX7 1, u_lay RX7 TX7 2, u_lay RX7 TX7 3, u_lay RX7 TX7 4, u_lay RX7 TX7 5, u_lay RX7 TX7 6, u_lay RX7 TX7 7, u_lay RX7 TX7 8, u_lay RX7 TX7 9, u_lay RX7 TX7 10, u_lay RX7 TX7 11, u_lay RX7 TX7 12, u_lay RX7 TX7 13, u_lay RX7 TX7 14, u_lay RX7 TX7 15, u_lay RX7 TX7 16, u_lay RX7 TX7 17, u_lay RX7 TX7 18, u_lay RX7 TX7 19], x ∈ gw from List.forall_mem_cons.mpr ⟨gw_at 753 rfl rfl, List.forall_mem_cons.mpr ⟨gw_at 755 rfl rfl, List.forall_mem_cons.mpr ⟨gw_at 757 rfl rfl, List.forall_mem_cons.mpr ⟨gw_at 759 rfl rfl, List.forall_mem_cons.mpr ⟨gw_at 761 rfl rfl, List.forall_mem_cons.mpr ⟨gw_at 763 rfl rfl, List.forall_mem_cons.mpr ⟨gw_at 765 rfl rfl, List.forall_mem_cons.mpr ⟨gw_at 767 rfl rfl, List.forall_mem_cons.mpr ⟨gw_at 769 rfl rfl, List.forall_mem_cons.mpr ⟨gw_at 771 rfl rfl, List.forall_mem_cons.mpr ⟨gw_at 773 rfl rfl, List.forall_mem_cons.mpr ⟨gw_at 775 rfl rfl, List.forall_mem_cons.mpr ⟨gw_at 777 rfl rfl, List.forall_mem_cons.mpr ⟨gw_at 779 rfl rfl, List.forall_mem_cons.mpr ⟨gw_at 781 rfl rfl, List.forall_mem_cons.mpr ⟨gw_at 783 rfl rfl, List.forall_mem_cons.mpr ⟨gw_at 785 rfl rfl, List.forall_mem_cons.mpr ⟨gw_at 787 rfl rfl, List.forall_mem_cons.mpr ⟨gw_at 789 rfl rfl, List.forall_mem_cons.mpr ⟨gw_at 791 rfl rfl, fun _ h => absurd h List.not_mem_nil⟩⟩⟩⟩⟩⟩⟩⟩⟩⟩⟩⟩⟩⟩⟩⟩⟩⟩⟩⟩)
set_option maxRecDepth 100000 in
theorem ml_X6_28 : Cond.methodLink RX6 28 yX4_init ∈ gw := gw_at 105 rfl rfl
set_option maxRecDepth 100000 in
theorem ml_X6_64 : Cond.methodLink RX6 64 yJ0_length_8abf5 ∈ gw := gw_at 192 rfl rfl
set_option maxRecDepth 100000 in
theorem ml_X6_70 : Cond.methodLink RX6 70 yJ0_charAt_5068e ∈ gw := gw_at 202 rfl rfl
set_option maxRecDepth 100000 in
theorem ml_X6_74 : Cond.methodLink RX6 74 yX5_append ∈ gw := gw_at 240 rfl rfl
set_option maxRecDepth 100000 in
theorem ml_X6_78 : Cond.methodLink RX6 78 yX5_tell ∈ gw := gw_at 244 rfl rfl
set_option maxRecDepth 100000 in
theorem ml_X6_82 : Cond.methodLink RX6 82 yX5_clear ∈ gw := gw_at 291 rfl rfl
set_option maxRecDepth 100000 in
theorem ml_X6_85 : Cond.methodLink RX6 85 yX3_start ∈ gw := gw_at 295 rfl rfl
set_option maxRecDepth 100000 in
theorem ml_X6_95 : Cond.methodLink RX6 95 yX4_clear ∈ gw := gw_at 344 rfl rfl
set_option maxRecDepth 100000 in
theorem ml_X6_96 : Cond.methodLink RX6 96 yX1_clear ∈ gw := gw_at 348 rfl rfl
set_option maxRecDepth 100000 in
theorem ml_X6_97 : Cond.methodLink RX6 97 yX2_isPerson ∈ gw := gw_at 357 rfl rfl
set_option maxRecDepth 100000 in
theorem ml_X6_101 : Cond.methodLink RX6 101 yX3_ticketsOf ∈ gw := gw_at 358 rfl rfl
set_option maxRecDepth 100000 in
theorem ml_X6_109 : Cond.methodLink RX6 109 yX3_setOf ∈ gw := gw_at 362 rfl rfl
set_option maxRecDepth 100000 in
theorem ml_X6_112 : Cond.methodLink RX6 112 yX2_worthTo ∈ gw := gw_at 370 rfl rfl
set_option maxRecDepth 100000 in
theorem ml_X6_116 : Cond.methodLink RX6 116 yX2_isThing ∈ gw := gw_at 390 rfl rfl
set_option maxRecDepth 100000 in
theorem ml_X6_125 : Cond.methodLink RX6 125 yX3_ownerOf ∈ gw := gw_at 391 rfl rfl
set_option maxRecDepth 100000 in
theorem ml_X6_128 : Cond.methodLink RX6 128 yX3_next ∈ gw := gw_at 392 rfl rfl
set_option maxRecDepth 100000 in
theorem ml_X6_131 : Cond.methodLink RX6 131 yX3_refusable ∈ gw := gw_at 396 rfl rfl
set_option maxRecDepth 100000 in
theorem ml_X6_134 : Cond.methodLink RX6 134 yX2_likingOf ∈ gw := gw_at 404 rfl rfl
set_option maxRecDepth 100000 in
theorem ml_X6_137 : Cond.methodLink RX6 137 yX3_ticketHolder ∈ gw := gw_at 409 rfl rfl
set_option maxRecDepth 100000 in
theorem ml_X6_143 : Cond.methodLink RX6 143 yX4_push ∈ gw := gw_at 413 rfl rfl
set_option maxRecDepth 100000 in
theorem ml_X6_147 : Cond.methodLink RX6 147 yX3_takeNext ∈ gw := gw_at 424 rfl rfl
set_option maxRecDepth 100000 in
theorem ml_X6_150 : Cond.methodLink RX6 150 yX3_putBack ∈ gw := gw_at 432 rfl rfl
set_option maxRecDepth 100000 in
theorem ml_X6_153 : Cond.methodLink RX6 153 yX3_addTickets ∈ gw := gw_at 440 rfl rfl
set_option maxRecDepth 100000 in
theorem ml_X6_157 : Cond.methodLink RX6 157 yX3_pass ∈ gw := gw_at 452 rfl rfl
set_option maxRecDepth 100000 in
theorem ml_X6_160 : Cond.methodLink RX6 160 yX4_pop ∈ gw := gw_at 464 rfl rfl
set_option maxRecDepth 100000 in
theorem ml_X6_167 : Cond.methodLink RX6 167 yX6_isPart ∈ gw := gw_at 472 rfl rfl
set_option maxRecDepth 100000 in
theorem ml_X6_170 : Cond.methodLink RX6 170 yX3_tickets ∈ gw := gw_at 475 rfl rfl
set_option maxRecDepth 100000 in
theorem ml_X6_172 : Cond.methodLink RX6 172 yX6_drawsAhead ∈ gw := gw_at 479 rfl rfl
set_option maxRecDepth 100000 in
theorem ml_X6_175 : Cond.methodLink RX6 175 yX6_falling ∈ gw := gw_at 486 rfl rfl
set_option maxRecDepth 100000 in
theorem ml_X6_179 : Cond.methodLink RX6 179 yX6_lowest ∈ gw := gw_at 489 rfl rfl
set_option maxRecDepth 100000 in
theorem ml_X6_187 : Cond.methodLink RX6 187 yX6_worthOverWays ∈ gw := gw_at 501 rfl rfl
set_option maxRecDepth 100000 in
theorem ml_X6_193 : Cond.methodLink RX6 193 yX0_firstSwap ∈ gw := gw_at 520 rfl rfl
set_option maxRecDepth 100000 in
theorem ml_X6_197 : Cond.methodLink RX6 197 yX0_firstGift ∈ gw := gw_at 537 rfl rfl
set_option maxRecDepth 100000 in
theorem ml_X6_200 : Cond.methodLink RX6 200 yX0_bestSum ∈ gw := gw_at 548 rfl rfl
set_option maxRecDepth 100000 in
theorem ml_X6_203 : Cond.methodLink RX6 203 yX0_bestOwner ∈ gw := gw_at 576 rfl rfl
set_option maxRecDepth 100000 in
theorem ml_X6_207 : Cond.methodLink RX6 207 yX0_firstEnvy ∈ gw := gw_at 584 rfl rfl
set_option maxRecDepth 100000 in
theorem ml_X6_210 : Cond.methodLink RX6 210 yX0_shortestRing ∈ gw := gw_at 595 rfl rfl
set_option maxRecDepth 100000 in
theorem ml_X6_214 : Cond.methodLink RX6 214 yX1_add ∈ gw := gw_at 611 rfl rfl
set_option maxRecDepth 100000 in
theorem ml_X6_217 : Cond.methodLink RX6 217 yX1_canBe ∈ gw := gw_at 623 rfl rfl
set_option maxRecDepth 100000 in
theorem ml_X6_223 : Cond.methodLink RX6 223 yX1_loadedWeight ∈ gw := gw_at 628 rfl rfl
set_option maxRecDepth 100000 in
theorem ml_X6_227 : Cond.methodLink RX6 227 yX1_evenWeight ∈ gw := gw_at 640 rfl rfl
set_option maxRecDepth 100000 in
theorem ml_X6_230 : Cond.methodLink RX6 230 yX2_rowsOf ∈ gw := gw_at 648 rfl rfl
set_option maxRecDepth 100000 in
theorem ml_X6_234 : Cond.methodLink RX6 234 yX3_copy ∈ gw := gw_at 656 rfl rfl
set_option maxRecDepth 100000 in
theorem ml_X6_243 : Cond.methodLink RX6 243 yX6_takeTurn ∈ gw := gw_at 664 rfl rfl
set_option maxRecDepth 100000 in
theorem ml_X6_246 : Cond.methodLink RX6 246 yX3_ownedThings ∈ gw := gw_at 680 rfl rfl
set_option maxRecDepth 100000 in
theorem ml_X6_249 : Cond.methodLink RX6 249 yX6_worthOfAll ∈ gw := gw_at 686 rfl rfl
set_option maxRecDepth 100000 in
theorem ml_X6_253 : Cond.methodLink RX6 253 yX4_isFull ∈ gw := gw_at 694 rfl rfl
set_option maxRecDepth 100000 in
theorem ml_X6_257 : Cond.methodLink RX6 257 yJ9_min_7cf53 ∈ gw := gw_at 483 rfl rfl
set_option maxRecDepth 100000 in
theorem ml_X6_262 : Cond.methodLink RX6 262 yJ6_bitCount_0f7a4 ∈ gw := gw_at 505 rfl rfl
set_option maxRecDepth 100000 in
theorem ml_X6_267 : Cond.methodLink RX6 267 yX6_tryDraw ∈ gw := gw_at 668 rfl rfl
set_option maxRecDepth 100000 in
theorem ml_X6_270 : Cond.methodLink RX6 270 yX6_tryBuy ∈ gw := gw_at 672 rfl rfl
set_option maxRecDepth 100000 in
theorem ml_X6_273 : Cond.methodLink RX6 273 yX6_tryGive ∈ gw := gw_at 676 rfl rfl
set_option maxRecDepth 100000 in
theorem ml_X6_276 : Cond.methodLink RX6 276 yX6_commonDivisor ∈ gw := gw_at 492 rfl rfl
set_option maxRecDepth 100000 in
theorem ml_X0_27 : Cond.methodLink RX0 27 yX0_bothGain ∈ gw := gw_at 524 rfl rfl
set_option maxRecDepth 100000 in
theorem ml_X0_31 : Cond.methodLink RX0 31 yX3_ownerOf ∈ gw := gw_at 527 rfl rfl
set_option maxRecDepth 100000 in
theorem ml_X0_37 : Cond.methodLink RX0 37 yX0_change ∈ gw := gw_at 528 rfl rfl
set_option maxRecDepth 100000 in
theorem ml_X0_41 : Cond.methodLink RX0 41 yX3_setOf ∈ gw := gw_at 531 rfl rfl
set_option maxRecDepth 100000 in
theorem ml_X0_44 : Cond.methodLink RX0 44 yX2_worthTo ∈ gw := gw_at 532 rfl rfl
set_option maxRecDepth 100000 in
theorem ml_X0_51 : Cond.methodLink RX0 51 yX0_isGoodGift ∈ gw := gw_at 541 rfl rfl
set_option maxRecDepth 100000 in
theorem ml_X0_54 : Cond.methodLink RX0 54 yX3_ownedSet ∈ gw := gw_at 552 rfl rfl
set_option maxRecDepth 100000 in
theorem ml_X0_58 : Cond.methodLink RX0 58 yX0_bestSharing ∈ gw := gw_at 556 rfl rfl
set_option maxRecDepth 100000 in
theorem ml_X0_62 : Cond.methodLink RX0 62 yX0_sumIn ∈ gw := gw_at 572 rfl rfl
set_option maxRecDepth 100000 in
theorem ml_X0_65 : Cond.methodLink RX0 65 yX0_placeOf ∈ gw := gw_at 564 rfl rfl
set_option maxRecDepth 100000 in
theorem ml_X0_68 : Cond.methodLink RX0 68 yX0_tellGains ∈ gw := gw_at 560 rfl rfl
set_option maxRecDepth 100000 in
theorem ml_X0_72 : Cond.methodLink RX0 72 yX0_bestWith ∈ gw := gw_at 567 rfl rfl
set_option maxRecDepth 100000 in
theorem ml_X0_75 : Cond.methodLink RX0 75 yJ9_max_7cf53 ∈ gw := gw_at 571 rfl rfl
set_option maxRecDepth 100000 in
theorem ml_X0_81 : Cond.methodLink RX0 81 yX0_envies ∈ gw := gw_at 588 rfl rfl
set_option maxRecDepth 100000 in
theorem ml_X0_84 : Cond.methodLink RX0 84 yX0_tellEnvied ∈ gw := gw_at 599 rfl rfl
set_option maxRecDepth 100000 in
theorem ml_X0_88 : Cond.methodLink RX0 88 yX0_comesBack ∈ gw := gw_at 603 rfl rfl
set_option maxRecDepth 100000 in
theorem ml_X1_19 : Cond.methodLink RX1 19 yJ7_fill_53178 ∈ gw := gw_at 352 rfl rfl
set_option maxRecDepth 100000 in
theorem ml_X1_32 : Cond.methodLink RX1 32 yX1_power ∈ gw := gw_at 633 rfl rfl
set_option maxRecDepth 100000 in
theorem ml_X1_36 : Cond.methodLink RX1 36 yX2_allTickets ∈ gw := gw_at 636 rfl rfl
set_option maxRecDepth 100000 in
theorem ml_X2_35 : Cond.methodLink RX2 35 yJ7_fill_53178 ∈ gw := gw_at 252 rfl rfl
set_option maxRecDepth 100000 in
theorem ml_X2_41 : Cond.methodLink RX2 41 yX2_isPerson ∈ gw := gw_at 283 rfl rfl
set_option maxRecDepth 100000 in
theorem ml_X2_45 : Cond.methodLink RX2 45 yX2_isThing ∈ gw := gw_at 287 rfl rfl
set_option maxRecDepth 100000 in
theorem ml_X2_48 : Cond.methodLink RX2 48 yX2_countOf ∈ gw := gw_at 374 rfl rfl
set_option maxRecDepth 100000 in
theorem ml_X2_52 : Cond.methodLink RX2 52 yX2_likingOf ∈ gw := gw_at 378 rfl rfl
set_option maxRecDepth 100000 in
theorem ml_X2_55 : Cond.methodLink RX2 55 yX2_ownWorth ∈ gw := gw_at 382 rfl rfl
set_option maxRecDepth 100000 in
theorem ml_X3_26 : Cond.methodLink RX3 26 yX3_ownerOf ∈ gw := gw_at 366 rfl rfl
set_option maxRecDepth 100000 in
theorem ml_X3_30 : Cond.methodLink RX3 30 yX3_ownedSet ∈ gw := gw_at 684 rfl rfl
set_option maxRecDepth 100000 in
theorem ml_X3_34 : Cond.methodLink RX3 34 yJ6_bitCount_0f7a4 ∈ gw := gw_at 685 rfl rfl
set_option maxRecDepth 100000 in
theorem ml_X4_7 : Cond.methodLink RX4 7 yJ9_max_7cf53 ∈ gw := gw_at 109 rfl rfl
set_option maxRecDepth 100000 in
theorem ml_X4_28 : Cond.methodLink RX4 28 yX4_isFull ∈ gw := gw_at 417 rfl rfl
set_option maxRecDepth 100000 in
theorem ml_X5_23 : Cond.methodLink RX5 23 yX2_clear ∈ gw := gw_at 248 rfl rfl
set_option maxRecDepth 100000 in
theorem ml_X5_31 : Cond.methodLink RX5 31 yX5_tellItem ∈ gw := gw_at 255 rfl rfl
set_option maxRecDepth 100000 in
theorem ml_X5_35 : Cond.methodLink RX5 35 yX5_nextLetter ∈ gw := gw_at 259 rfl rfl
set_option maxRecDepth 100000 in
theorem ml_X5_39 : Cond.methodLink RX5 39 yX5_readNumbers ∈ gw := gw_at 263 rfl rfl
set_option maxRecDepth 100000 in
theorem ml_X5_43 : Cond.methodLink RX5 43 yX2_addPerson ∈ gw := gw_at 271 rfl rfl
set_option maxRecDepth 100000 in
theorem ml_X5_46 : Cond.methodLink RX5 46 yX2_addThing ∈ gw := gw_at 275 rfl rfl
set_option maxRecDepth 100000 in
theorem ml_X5_50 : Cond.methodLink RX5 50 yX2_addLiking ∈ gw := gw_at 279 rfl rfl
set_option maxRecDepth 100000 in
theorem ml_X5_54 : Cond.methodLink RX5 54 yX5_isFigure ∈ gw := gw_at 267 rfl rfl
set_option maxRecDepth 100000 in
theorem ml_L_9 : Cond.methodLink RL 9 yX6_init ∈ gw := gw_at 64 rfl rfl
set_option maxRecDepth 100000 in
theorem ml_L_12 : Cond.methodLink RL 12 yX7_init ∈ gw := gw_at 705 rfl rfl
set_option maxRecDepth 100000 in
theorem ml_L_13 : Cond.methodLink RL 13 yX6_write ∈ gw := gw_at 328 rfl rfl
set_option maxRecDepth 100000 in
theorem ml_L_17 : Cond.methodLink RL 17 yX7_write ∈ gw := gw_at 794 rfl rfl
set_option maxRecDepth 100000 in
theorem ml_L_18 : Cond.methodLink RL 18 yX6_wipe ∈ gw := gw_at 332 rfl rfl
set_option maxRecDepth 100000 in
theorem ml_L_22 : Cond.methodLink RL 22 yX7_wipe ∈ gw := gw_at 801 rfl rfl
set_option maxRecDepth 100000 in
theorem ml_L_23 : Cond.methodLink RL 23 yX6_fault ∈ gw := gw_at 336 rfl rfl
set_option maxRecDepth 100000 in
theorem ml_L_26 : Cond.methodLink RL 26 yX7_fault ∈ gw := gw_at 805 rfl rfl
set_option maxRecDepth 100000 in
theorem ml_L_27 : Cond.methodLink RL 27 yX6_lay ∈ gw := gw_at 340 rfl rfl
set_option maxRecDepth 100000 in
theorem ml_L_30 : Cond.methodLink RL 30 yX7_lay ∈ gw := gw_at 845 rfl rfl
set_option maxRecDepth 100000 in
theorem ml_L_31 : Cond.methodLink RL 31 yX6_person ∈ gw := gw_at 353 rfl rfl
set_option maxRecDepth 100000 in
theorem ml_L_35 : Cond.methodLink RL 35 yX7_person ∈ gw := gw_at 849 rfl rfl
set_option maxRecDepth 100000 in
theorem ml_L_36 : Cond.methodLink RL 36 yX6_thing ∈ gw := gw_at 386 rfl rfl
set_option maxRecDepth 100000 in
theorem ml_L_39 : Cond.methodLink RL 39 yX7_thing ∈ gw := gw_at 868 rfl rfl
set_option maxRecDepth 100000 in
theorem ml_L_40 : Cond.methodLink RL 40 yX6_likes ∈ gw := gw_at 400 rfl rfl
set_option maxRecDepth 100000 in
theorem ml_L_43 : Cond.methodLink RL 43 yX7_likes ∈ gw := gw_at 876 rfl rfl
set_option maxRecDepth 100000 in
theorem ml_L_44 : Cond.methodLink RL 44 yX6_draw ∈ gw := gw_at 405 rfl rfl
set_option maxRecDepth 100000 in
theorem ml_L_47 : Cond.methodLink RL 47 yX7_draw ∈ gw := gw_at 880 rfl rfl
set_option maxRecDepth 100000 in
theorem ml_L_48 : Cond.methodLink RL 48 yX6_refuse ∈ gw := gw_at 428 rfl rfl
set_option maxRecDepth 100000 in
theorem ml_L_51 : Cond.methodLink RL 51 yX7_refuse ∈ gw := gw_at 894 rfl rfl
set_option maxRecDepth 100000 in
theorem ml_L_52 : Cond.methodLink RL 52 yX6_buy ∈ gw := gw_at 436 rfl rfl
set_option maxRecDepth 100000 in
theorem ml_L_55 : Cond.methodLink RL 55 yX7_buy ∈ gw := gw_at 898 rfl rfl
set_option maxRecDepth 100000 in
theorem ml_L_56 : Cond.methodLink RL 56 yX6_hand ∈ gw := gw_at 444 rfl rfl
set_option maxRecDepth 100000 in
theorem ml_L_59 : Cond.methodLink RL 59 yX7_hand ∈ gw := gw_at 902 rfl rfl
set_option maxRecDepth 100000 in
theorem ml_L_60 : Cond.methodLink RL 60 yX6_swap ∈ gw := gw_at 448 rfl rfl
set_option maxRecDepth 100000 in
theorem ml_L_63 : Cond.methodLink RL 63 yX7_swap ∈ gw := gw_at 906 rfl rfl
set_option maxRecDepth 100000 in
theorem ml_L_64 : Cond.methodLink RL 64 yX6_give ∈ gw := gw_at 456 rfl rfl
set_option maxRecDepth 100000 in
theorem ml_L_67 : Cond.methodLink RL 67 yX7_give ∈ gw := gw_at 913 rfl rfl
set_option maxRecDepth 100000 in
theorem ml_L_68 : Cond.methodLink RL 68 yX6_undo ∈ gw := gw_at 460 rfl rfl
set_option maxRecDepth 100000 in
theorem ml_L_71 : Cond.methodLink RL 71 yX7_undo ∈ gw := gw_at 917 rfl rfl
set_option maxRecDepth 100000 in
theorem ml_L_72 : Cond.methodLink RL 72 yX6_wins ∈ gw := gw_at 468 rfl rfl
set_option maxRecDepth 100000 in
theorem ml_L_76 : Cond.methodLink RL 76 yX7_wins ∈ gw := gw_at 921 rfl rfl
set_option maxRecDepth 100000 in
theorem ml_L_77 : Cond.methodLink RL 77 yX6_mean ∈ gw := gw_at 495 rfl rfl
set_option maxRecDepth 100000 in
theorem ml_L_81 : Cond.methodLink RL 81 yX7_mean ∈ gw := gw_at 935 rfl rfl
set_option maxRecDepth 100000 in
theorem ml_L_82 : Cond.methodLink RL 82 yX6_needs ∈ gw := gw_at 511 rfl rfl
set_option maxRecDepth 100000 in
theorem ml_L_85 : Cond.methodLink RL 85 yX7_needs ∈ gw := gw_at 943 rfl rfl
set_option maxRecDepth 100000 in
theorem ml_L_86 : Cond.methodLink RL 86 yX6_swaps ∈ gw := gw_at 516 rfl rfl
set_option maxRecDepth 100000 in
theorem ml_L_89 : Cond.methodLink RL 89 yX7_swaps ∈ gw := gw_at 948 rfl rfl
set_option maxRecDepth 100000 in
theorem ml_L_90 : Cond.methodLink RL 90 yX6_gives ∈ gw := gw_at 533 rfl rfl
set_option maxRecDepth 100000 in
theorem ml_L_93 : Cond.methodLink RL 93 yX7_gives ∈ gw := gw_at 952 rfl rfl
set_option maxRecDepth 100000 in
theorem ml_L_94 : Cond.methodLink RL 94 yX6_share ∈ gw := gw_at 544 rfl rfl
set_option maxRecDepth 100000 in
theorem ml_L_97 : Cond.methodLink RL 97 yX7_share ∈ gw := gw_at 956 rfl rfl
set_option maxRecDepth 100000 in
theorem ml_L_98 : Cond.methodLink RL 98 yX6_envy ∈ gw := gw_at 580 rfl rfl
set_option maxRecDepth 100000 in
theorem ml_L_101 : Cond.methodLink RL 101 yX7_envy ∈ gw := gw_at 976 rfl rfl
set_option maxRecDepth 100000 in
theorem ml_L_102 : Cond.methodLink RL 102 yX6_ring ∈ gw := gw_at 591 rfl rfl
set_option maxRecDepth 100000 in
theorem ml_L_105 : Cond.methodLink RL 105 yX7_ring ∈ gw := gw_at 984 rfl rfl
set_option maxRecDepth 100000 in
theorem ml_L_106 : Cond.methodLink RL 106 yX6_note ∈ gw := gw_at 607 rfl rfl
set_option maxRecDepth 100000 in
theorem ml_L_109 : Cond.methodLink RL 109 yX7_note ∈ gw := gw_at 988 rfl rfl
set_option maxRecDepth 100000 in
theorem ml_L_110 : Cond.methodLink RL 110 yX6_forget ∈ gw := gw_at 615 rfl rfl
set_option maxRecDepth 100000 in
theorem ml_L_113 : Cond.methodLink RL 113 yX7_forget ∈ gw := gw_at 992 rfl rfl
set_option maxRecDepth 100000 in
theorem ml_L_114 : Cond.methodLink RL 114 yX6_fair ∈ gw := gw_at 619 rfl rfl
set_option maxRecDepth 100000 in
theorem ml_L_118 : Cond.methodLink RL 118 yX7_fair ∈ gw := gw_at 996 rfl rfl
set_option maxRecDepth 100000 in
theorem ml_L_119 : Cond.methodLink RL 119 yX6_seats ∈ gw := gw_at 644 rfl rfl
set_option maxRecDepth 100000 in
theorem ml_L_123 : Cond.methodLink RL 123 yX7_seats ∈ gw := gw_at 1002 rfl rfl
set_option maxRecDepth 100000 in
theorem ml_L_124 : Cond.methodLink RL 124 yX6_year ∈ gw := gw_at 652 rfl rfl
set_option maxRecDepth 100000 in
theorem ml_L_127 : Cond.methodLink RL 127 yX7_year ∈ gw := gw_at 1006 rfl rfl
set_option maxRecDepth 100000 in
theorem ml_L_128 : Cond.methodLink RL 128 yX6_keep ∈ gw := gw_at 690 rfl rfl
set_option maxRecDepth 100000 in
theorem ml_L_131 : Cond.methodLink RL 131 yX7_keep ∈ gw := gw_at 1017 rfl rfl
set_option maxRecDepth 100000 in
theorem ml_L_132 : Cond.methodLink RL 132 yX6_back ∈ gw := gw_at 695 rfl rfl
set_option maxRecDepth 100000 in
theorem ml_L_135 : Cond.methodLink RL 135 yX7_back ∈ gw := gw_at 1021 rfl rfl
set_option maxRecDepth 100000 in
theorem ml_L_136 : Cond.methodLink RL 136 yX6_count ∈ gw := gw_at 699 rfl rfl
set_option maxRecDepth 100000 in
theorem ml_L_139 : Cond.methodLink RL 139 yX7_count ∈ gw := gw_at 1025 rfl rfl
set_option maxRecDepth 100000 in
theorem ml_X7_54 : Cond.methodLink RX7 54 yX7_first ∈ gw := gw_at 709 rfl rfl
set_option maxRecDepth 100000 in
theorem ml_X7_57 : Cond.methodLink RX7 57 yX7_takeDraft ∈ gw := gw_at 729 rfl rfl
set_option maxRecDepth 100000 in
theorem ml_X7_60 : Cond.methodLink RX7 60 yX7_in ∈ gw := gw_at 798 rfl rfl
set_option maxRecDepth 100000 in
theorem ml_X7_71 : Cond.methodLink RX7 71 yX7_here ∈ gw := gw_at 817 rfl rfl
set_option maxRecDepth 100000 in
theorem ml_X7_79 : Cond.methodLink RX7 79 yX7_isFigure ∈ gw := gw_at 829 rfl rfl
set_option maxRecDepth 100000 in
theorem ml_X7_83 : Cond.methodLink RX7 83 yX7_number ∈ gw := gw_at 825 rfl rfl
set_option maxRecDepth 100000 in
theorem ml_X7_87 : Cond.methodLink RX7 87 yX7_due ∈ gw := gw_at 837 rfl rfl
set_option maxRecDepth 100000 in
theorem ml_X7_91 : Cond.methodLink RX7 91 yX7_readPerson ∈ gw := gw_at 821 rfl rfl
set_option maxRecDepth 100000 in
theorem ml_X7_94 : Cond.methodLink RX7 94 yX7_readThing ∈ gw := gw_at 833 rfl rfl
set_option maxRecDepth 100000 in
theorem ml_X7_97 : Cond.methodLink RX7 97 yX7_readLike ∈ gw := gw_at 841 rfl rfl
set_option maxRecDepth 100000 in
theorem ml_X7_100 : Cond.methodLink RX7 100 yX7_begin ∈ gw := gw_at 713 rfl rfl
set_option maxRecDepth 100000 in
theorem ml_X7_103 : Cond.methodLink RX7 103 yX7_readItem ∈ gw := gw_at 813 rfl rfl
set_option maxRecDepth 100000 in
theorem ml_X7_106 : Cond.methodLink RX7 106 yX7_read ∈ gw := gw_at 809 rfl rfl
set_option maxRecDepth 100000 in
theorem ml_X7_109 : Cond.methodLink RX7 109 yX7_tellPerson ∈ gw := gw_at 717 rfl rfl
set_option maxRecDepth 100000 in
theorem ml_X7_112 : Cond.methodLink RX7 112 yX7_tellThing ∈ gw := gw_at 721 rfl rfl
set_option maxRecDepth 100000 in
theorem ml_X7_116 : Cond.methodLink RX7 116 yX7_tellLike ∈ gw := gw_at 725 rfl rfl
set_option maxRecDepth 100000 in
theorem ml_X7_129 : Cond.methodLink RX7 129 yX7_has ∈ gw := gw_at 865 rfl rfl
set_option maxRecDepth 100000 in
theorem ml_X7_133 : Cond.methodLink RX7 133 yX7_hadBy ∈ gw := gw_at 857 rfl rfl
set_option maxRecDepth 100000 in
theorem ml_X7_137 : Cond.methodLink RX7 137 yX7_worthOf ∈ gw := gw_at 861 rfl rfl
set_option maxRecDepth 100000 in
theorem ml_X7_140 : Cond.methodLink RX7 140 yX7_isPerson ∈ gw := gw_at 853 rfl rfl
set_option maxRecDepth 100000 in
theorem ml_X7_144 : Cond.methodLink RX7 144 yX7_isThing ∈ gw := gw_at 872 rfl rfl
set_option maxRecDepth 100000 in
theorem ml_X7_147 : Cond.methodLink RX7 147 yX7_hatOf ∈ gw := gw_at 884 rfl rfl
set_option maxRecDepth 100000 in
theorem ml_X7_151 : Cond.methodLink RX7 151 yX7_know ∈ gw := gw_at 887 rfl rfl
set_option maxRecDepth 100000 in
theorem ml_X7_154 : Cond.methodLink RX7 154 yX7_drawOn ∈ gw := gw_at 891 rfl rfl
set_option maxRecDepth 100000 in
theorem ml_X7_157 : Cond.methodLink RX7 157 yX7_touch ∈ gw := gw_at 910 rfl rfl
set_option maxRecDepth 100000 in
theorem ml_X7_161 : Cond.methodLink RX7 161 yX7_drawn ∈ gw := gw_at 925 rfl rfl
set_option maxRecDepth 100000 in
theorem ml_X7_164 : Cond.methodLink RX7 164 yX7_rows ∈ gw := gw_at 929 rfl rfl
set_option maxRecDepth 100000 in
theorem ml_X7_168 : Cond.methodLink RX7 168 yX7_common ∈ gw := gw_at 932 rfl rfl
set_option maxRecDepth 100000 in
theorem ml_X7_174 : Cond.methodLink RX7 174 yX7_bitsOf ∈ gw := gw_at 940 rfl rfl
set_option maxRecDepth 100000 in
theorem ml_X7_180 : Cond.methodLink RX7 180 yX7_thingsHad ∈ gw := gw_at 960 rfl rfl
set_option maxRecDepth 100000 in
theorem ml_X7_183 : Cond.methodLink RX7 183 yX7_take ∈ gw := gw_at 964 rfl rfl
set_option maxRecDepth 100000 in
theorem ml_X7_186 : Cond.methodLink RX7 186 yX7_dealBy ∈ gw := gw_at 968 rfl rfl
set_option maxRecDepth 100000 in
theorem ml_X7_189 : Cond.methodLink RX7 189 yX7_worthOfAll ∈ gw := gw_at 972 rfl rfl
set_option maxRecDepth 100000 in
theorem ml_X7_192 : Cond.methodLink RX7 192 yX7_envies ∈ gw := gw_at 980 rfl rfl
set_option maxRecDepth 100000 in
theorem ml_X7_205 : Cond.methodLink RX7 205 yX7_turn ∈ gw := gw_at 1013 rfl rfl
set_option maxRecDepth 100000 in
theorem ml_J0_335 : Cond.methodLink RJ0 335 yJ0_coder_7d493 ∈ gw := gw_at 196 rfl rfl
set_option maxRecDepth 100000 in
theorem ml_J0_492 : Cond.methodLink RJ0 492 yJ0_isLatin1_aae02 ∈ gw := gw_at 206 rfl rfl
set_option maxRecDepth 100000 in
theorem ml_J0_495 : Cond.methodLink RJ0 495 yJ1_charAt_3b067 ∈ gw := gw_at 210 rfl rfl
set_option maxRecDepth 100000 in
theorem ml_J0_498 : Cond.methodLink RJ0 498 yJ2_charAt_3b067 ∈ gw := gw_at 221 rfl rfl
set_option maxRecDepth 100000 in
theorem ml_J0_1059 : Cond.methodLink RJ0 1059 yJ3_checkIndex_8e157 ∈ gw := gw_at 218 rfl rfl
set_option maxRecDepth 100000 in
theorem ml_J1_9 : Cond.methodLink RJ1 9 yJ0_checkIndex_df160 ∈ gw := gw_at 213 rfl rfl
set_option maxRecDepth 100000 in
theorem ml_J2_48 : Cond.methodLink RJ2 48 yJ2_length_9d52b ∈ gw := gw_at 227 rfl rfl
set_option maxRecDepth 100000 in
theorem ml_J2_67 : Cond.methodLink RJ2 67 yJ2_checkIndex_2214a ∈ gw := gw_at 224 rfl rfl
set_option maxRecDepth 100000 in
theorem ml_J2_71 : Cond.methodLink RJ2 71 yJ2_getChar_3b067 ∈ gw := gw_at 231 rfl rfl
set_option maxRecDepth 100000 in
theorem ml_J2_414 : Cond.methodLink RJ2 414 yJ0_checkIndex_df160 ∈ gw := gw_at 230 rfl rfl
set_option maxRecDepth 100000 in
theorem mv_X6_back : MVok yX6_back cX6_back 1 (some .int) 0 := ⟨gw_at 696 rfl rfl, gw_at 697 rfl rfl, gw_at 46 rfl rfl, gw_at 698 rfl rfl, ⟨by decide, by decide⟩, by decide +kernel⟩
set_option maxRecDepth 100000 in
theorem mv_X6_buy : MVok yX6_buy cX6_buy 3 (some .int) 2 := ⟨gw_at 437 rfl rfl, gw_at 438 rfl rfl, gw_at 46 rfl rfl, gw_at 439 rfl rfl, ⟨by decide, by decide⟩, by decide +kernel⟩
set_option maxRecDepth 100000 in
theorem ms_X6_commonDivisor : MSok yX6_commonDivisor cX6_commonDivisor 11 (some .long) 2 := ⟨gw_at 493 rfl rfl, gw_at 46 rfl rfl, gw_at 494 rfl rfl, ⟨by decide, by decide⟩, by decide +kernel⟩
set_option maxRecDepth 100000 in
theorem mv_X6_count : MVok yX6_count cX6_count 2 (some .int) 1 := ⟨gw_at 700 rfl rfl, gw_at 701 rfl rfl, gw_at 46 rfl rfl, gw_at 702 rfl rfl, ⟨by decide, by decide⟩, by decide +kernel⟩
set_option maxRecDepth 100000 in
theorem mv_X6_draw : MVok yX6_draw cX6_draw 3 (some .int) 1 := ⟨gw_at 406 rfl rfl, gw_at 407 rfl rfl, gw_at 46 rfl rfl, gw_at 408 rfl rfl, ⟨by decide, by decide⟩, by decide +kernel⟩
set_option maxRecDepth 100000 in
theorem mv_X6_drawsAhead : MVok yX6_drawsAhead cX6_drawsAhead 3 (some .int) 2 := ⟨gw_at 481 rfl rfl, gw_at 6 rfl rfl, gw_at 46 rfl rfl, gw_at 482 rfl rfl, ⟨by decide, by decide⟩, by decide +kernel⟩
set_option maxRecDepth 100000 in
theorem mv_X6_envy : MVok yX6_envy cX6_envy 1 (some .int) 0 := ⟨gw_at 581 rfl rfl, gw_at 582 rfl rfl, gw_at 46 rfl rfl, gw_at 583 rfl rfl, ⟨by decide, by decide⟩, by decide +kernel⟩
set_option maxRecDepth 100000 in
theorem mv_X6_fair : MVok yX6_fair cX6_fair 8 (some .long) 3 := ⟨gw_at 620 rfl rfl, gw_at 621 rfl rfl, gw_at 46 rfl rfl, gw_at 622 rfl rfl, ⟨by decide, by decide⟩, by decide +kernel⟩
set_option maxRecDepth 100000 in
theorem ms_X6_falling : MSok yX6_falling cX6_falling 5 (some .long) 2 := ⟨gw_at 487 rfl rfl, gw_at 46 rfl rfl, gw_at 488 rfl rfl, ⟨by decide, by decide⟩, by decide +kernel⟩
set_option maxRecDepth 100000 in
theorem mv_X6_fault : MVok yX6_fault cX6_fault 1 (some .int) 0 := ⟨gw_at 337 rfl rfl, gw_at 338 rfl rfl, gw_at 46 rfl rfl, gw_at 339 rfl rfl, ⟨by decide, by decide⟩, by decide +kernel⟩
set_option maxRecDepth 100000 in
theorem mv_X6_forget : MVok yX6_forget cX6_forget 2 (some .int) 0 := ⟨gw_at 616 rfl rfl, gw_at 617 rfl rfl, gw_at 46 rfl rfl, gw_at 618 rfl rfl, ⟨by decide, by decide⟩, by decide +kernel⟩
set_option maxRecDepth 100000 in
theorem mv_X6_give : MVok yX6_give cX6_give 4 (some .int) 2 := ⟨gw_at 457 rfl rfl, gw_at 458 rfl rfl, gw_at 46 rfl rfl, gw_at 459 rfl rfl, ⟨by decide, by decide⟩, by decide +kernel⟩
set_option maxRecDepth 100000 in
theorem mv_X6_gives : MVok yX6_gives cX6_gives 1 (some .int) 0 := ⟨gw_at 534 rfl rfl, gw_at 535 rfl rfl, gw_at 46 rfl rfl, gw_at 536 rfl rfl, ⟨by decide, by decide⟩, by decide +kernel⟩
set_option maxRecDepth 100000 in
theorem mv_X6_hand : MVok yX6_hand cX6_hand 3 (some .int) 2 := ⟨gw_at 445 rfl rfl, gw_at 446 rfl rfl, gw_at 46 rfl rfl, gw_at 447 rfl rfl, ⟨by decide, by decide⟩, by decide +kernel⟩
set_option maxRecDepth 100000 in
theorem ms_X6_isPart : MSok yX6_isPart cX6_isPart 1 (some .boolean) 1 := ⟨gw_at 473 rfl rfl, gw_at 46 rfl rfl, gw_at 474 rfl rfl, ⟨by decide, by decide⟩, by decide +kernel⟩
set_option maxRecDepth 100000 in
theorem mv_X6_keep : MVok yX6_keep cX6_keep 1 (some .int) 0 := ⟨gw_at 691 rfl rfl, gw_at 692 rfl rfl, gw_at 46 rfl rfl, gw_at 693 rfl rfl, ⟨by decide, by decide⟩, by decide +kernel⟩
set_option maxRecDepth 100000 in
theorem mv_X6_lay : MVok yX6_lay cX6_lay 2 (some .int) 0 := ⟨gw_at 341 rfl rfl, gw_at 342 rfl rfl, gw_at 46 rfl rfl, gw_at 343 rfl rfl, ⟨by decide, by decide⟩, by decide +kernel⟩
set_option maxRecDepth 100000 in
theorem mv_X6_likes : MVok yX6_likes cX6_likes 3 (some .int) 2 := ⟨gw_at 401 rfl rfl, gw_at 402 rfl rfl, gw_at 46 rfl rfl, gw_at 403 rfl rfl, ⟨by decide, by decide⟩, by decide +kernel⟩
set_option maxRecDepth 100000 in
theorem ms_X6_lowest : MSok yX6_lowest cX6_lowest 7 (some .long) 3 := ⟨gw_at 490 rfl rfl, gw_at 46 rfl rfl, gw_at 491 rfl rfl, ⟨by decide, by decide⟩, by decide +kernel⟩
set_option maxRecDepth 100000 in
theorem mv_X6_mean : MVok yX6_mean cX6_mean 7 (some .long) 2 := ⟨gw_at 496 rfl rfl, gw_at 497 rfl rfl, gw_at 46 rfl rfl, gw_at 498 rfl rfl, ⟨by decide, by decide⟩, by decide +kernel⟩
set_option maxRecDepth 100000 in
theorem mv_X6_needs : MVok yX6_needs cX6_needs 11 (some .int) 3 := ⟨gw_at 512 rfl rfl, gw_at 513 rfl rfl, gw_at 46 rfl rfl, gw_at 514 rfl rfl, ⟨by decide, by decide⟩, by decide +kernel⟩
set_option maxRecDepth 100000 in
theorem mv_X6_note : MVok yX6_note cX6_note 2 (some .int) 1 := ⟨gw_at 608 rfl rfl, gw_at 609 rfl rfl, gw_at 46 rfl rfl, gw_at 610 rfl rfl, ⟨by decide, by decide⟩, by decide +kernel⟩
set_option maxRecDepth 100000 in
theorem mv_X6_person : MVok yX6_person cX6_person 3 (some .int) 2 := ⟨gw_at 354 rfl rfl, gw_at 355 rfl rfl, gw_at 46 rfl rfl, gw_at 356 rfl rfl, ⟨by decide, by decide⟩, by decide +kernel⟩
set_option maxRecDepth 100000 in
theorem mv_X6_refuse : MVok yX6_refuse cX6_refuse 2 (some .int) 0 := ⟨gw_at 429 rfl rfl, gw_at 430 rfl rfl, gw_at 46 rfl rfl, gw_at 431 rfl rfl, ⟨by decide, by decide⟩, by decide +kernel⟩
set_option maxRecDepth 100000 in
theorem mv_X6_ring : MVok yX6_ring cX6_ring 1 (some .int) 0 := ⟨gw_at 592 rfl rfl, gw_at 593 rfl rfl, gw_at 46 rfl rfl, gw_at 594 rfl rfl, ⟨by decide, by decide⟩, by decide +kernel⟩
set_option maxRecDepth 100000 in
theorem mv_X6_seats : MVok yX6_seats cX6_seats 2 (some .long) 1 := ⟨gw_at 645 rfl rfl, gw_at 646 rfl rfl, gw_at 46 rfl rfl, gw_at 647 rfl rfl, ⟨by decide, by decide⟩, by decide +kernel⟩
set_option maxRecDepth 100000 in
theorem mv_X6_share : MVok yX6_share cX6_share 2 (some .int) 1 := ⟨gw_at 545 rfl rfl, gw_at 546 rfl rfl, gw_at 46 rfl rfl, gw_at 547 rfl rfl, ⟨by decide, by decide⟩, by decide +kernel⟩
set_option maxRecDepth 100000 in
theorem mv_X6_swap : MVok yX6_swap cX6_swap 5 (some .int) 2 := ⟨gw_at 449 rfl rfl, gw_at 450 rfl rfl, gw_at 46 rfl rfl, gw_at 451 rfl rfl, ⟨by decide, by decide⟩, by decide +kernel⟩
set_option maxRecDepth 100000 in
theorem mv_X6_swaps : MVok yX6_swaps cX6_swaps 1 (some .int) 0 := ⟨gw_at 517 rfl rfl, gw_at 518 rfl rfl, gw_at 46 rfl rfl, gw_at 519 rfl rfl, ⟨by decide, by decide⟩, by decide +kernel⟩
set_option maxRecDepth 100000 in
theorem mv_X6_takeTurn : MVok yX6_takeTurn cX6_takeTurn 4 none 1 := ⟨gw_at 666 rfl rfl, gw_at 13 rfl rfl, gw_at 46 rfl rfl, gw_at 667 rfl rfl, ⟨by decide, by decide⟩, by decide +kernel⟩
set_option maxRecDepth 100000 in
theorem mv_X6_thing : MVok yX6_thing cX6_thing 3 (some .int) 2 := ⟨gw_at 387 rfl rfl, gw_at 388 rfl rfl, gw_at 46 rfl rfl, gw_at 389 rfl rfl, ⟨by decide, by decide⟩, by decide +kernel⟩
set_option maxRecDepth 100000 in
theorem mv_X6_tryBuy : MVok yX6_tryBuy cX6_tryBuy 4 none 2 := ⟨gw_at 674 rfl rfl, gw_at 15 rfl rfl, gw_at 46 rfl rfl, gw_at 675 rfl rfl, ⟨by decide, by decide⟩, by decide +kernel⟩
set_option maxRecDepth 100000 in
theorem mv_X6_tryDraw : MVok yX6_tryDraw cX6_tryDraw 3 none 1 := ⟨gw_at 670 rfl rfl, gw_at 14 rfl rfl, gw_at 46 rfl rfl, gw_at 671 rfl rfl, ⟨by decide, by decide⟩, by decide +kernel⟩
set_option maxRecDepth 100000 in
theorem mv_X6_tryGive : MVok yX6_tryGive cX6_tryGive 4 none 2 := ⟨gw_at 678 rfl rfl, gw_at 16 rfl rfl, gw_at 46 rfl rfl, gw_at 679 rfl rfl, ⟨by decide, by decide⟩, by decide +kernel⟩
set_option maxRecDepth 100000 in
theorem mv_X6_undo : MVok yX6_undo cX6_undo 1 (some .int) 0 := ⟨gw_at 461 rfl rfl, gw_at 462 rfl rfl, gw_at 46 rfl rfl, gw_at 463 rfl rfl, ⟨by decide, by decide⟩, by decide +kernel⟩
set_option maxRecDepth 100000 in
theorem mv_X6_wins : MVok yX6_wins cX6_wins 10 (some .int) 3 := ⟨gw_at 469 rfl rfl, gw_at 470 rfl rfl, gw_at 46 rfl rfl, gw_at 471 rfl rfl, ⟨by decide, by decide⟩, by decide +kernel⟩
set_option maxRecDepth 100000 in
theorem mv_X6_wipe : MVok yX6_wipe cX6_wipe 2 (some .int) 0 := ⟨gw_at 333 rfl rfl, gw_at 334 rfl rfl, gw_at 46 rfl rfl, gw_at 335 rfl rfl, ⟨by decide, by decide⟩, by decide +kernel⟩
set_option maxRecDepth 100000 in
theorem mv_X6_worthOfAll : MVok yX6_worthOfAll cX6_worthOfAll 4 (some .int) 1 := ⟨gw_at 688 rfl rfl, gw_at 17 rfl rfl, gw_at 46 rfl rfl, gw_at 689 rfl rfl, ⟨by decide, by decide⟩, by decide +kernel⟩
set_option maxRecDepth 100000 in
theorem mv_X6_worthOverWays : MVok yX6_worthOverWays cX6_worthOverWays 12 (some .long) 3 := ⟨gw_at 503 rfl rfl, gw_at 7 rfl rfl, gw_at 46 rfl rfl, gw_at 504 rfl rfl, ⟨by decide, by decide⟩, by decide +kernel⟩
set_option maxRecDepth 100000 in
theorem mv_X6_write : MVok yX6_write cX6_write 2 (some .int) 1 := ⟨gw_at 329 rfl rfl, gw_at 330 rfl rfl, gw_at 46 rfl rfl, gw_at 331 rfl rfl, ⟨by decide, by decide⟩, by decide +kernel⟩
set_option maxRecDepth 100000 in
theorem mv_X6_year : MVok yX6_year cX6_year 7 (some .int) 3 := ⟨gw_at 653 rfl rfl, gw_at 654 rfl rfl, gw_at 46 rfl rfl, gw_at 655 rfl rfl, ⟨by decide, by decide⟩, by decide +kernel⟩
set_option maxRecDepth 100000 in
theorem mv_X0_bestOwner : MVok yX0_bestOwner cX0_bestOwner 6 (some .int) 3 := ⟨gw_at 577 rfl rfl, gw_at 578 rfl rfl, gw_at 52 rfl rfl, gw_at 579 rfl rfl, ⟨by decide, by decide⟩, by decide +kernel⟩
set_option maxRecDepth 100000 in
theorem mv_X0_bestSharing : MVok yX0_bestSharing cX0_bestSharing 5 (some .int) 2 := ⟨gw_at 558 rfl rfl, gw_at 8 rfl rfl, gw_at 52 rfl rfl, gw_at 559 rfl rfl, ⟨by decide, by decide⟩, by decide +kernel⟩
set_option maxRecDepth 100000 in
theorem mv_X0_bestSum : MVok yX0_bestSum cX0_bestSum 3 (some .int) 2 := ⟨gw_at 549 rfl rfl, gw_at 550 rfl rfl, gw_at 52 rfl rfl, gw_at 551 rfl rfl, ⟨by decide, by decide⟩, by decide +kernel⟩
set_option maxRecDepth 100000 in
theorem mv_X0_bestWith : MVok yX0_bestWith cX0_bestWith 4 (some .int) 1 := ⟨gw_at 569 rfl rfl, gw_at 10 rfl rfl, gw_at 52 rfl rfl, gw_at 570 rfl rfl, ⟨by decide, by decide⟩, by decide +kernel⟩
set_option maxRecDepth 100000 in
theorem ms_X0_bothGain : MSok yX0_bothGain cX0_bothGain 7 (some .boolean) 4 := ⟨gw_at 525 rfl rfl, gw_at 52 rfl rfl, gw_at 526 rfl rfl, ⟨by decide, by decide⟩, by decide +kernel⟩
set_option maxRecDepth 100000 in
theorem ms_X0_change : MSok yX0_change cX0_change 5 (some .int) 4 := ⟨gw_at 529 rfl rfl, gw_at 52 rfl rfl, gw_at 530 rfl rfl, ⟨by decide, by decide⟩, by decide +kernel⟩
set_option maxRecDepth 100000 in
theorem mv_X0_comesBack : MVok yX0_comesBack cX0_comesBack 8 (some .boolean) 3 := ⟨gw_at 605 rfl rfl, gw_at 12 rfl rfl, gw_at 52 rfl rfl, gw_at 606 rfl rfl, ⟨by decide, by decide⟩, by decide +kernel⟩
set_option maxRecDepth 100000 in
theorem ms_X0_envies : MSok yX0_envies cX0_envies 4 (some .boolean) 4 := ⟨gw_at 589 rfl rfl, gw_at 52 rfl rfl, gw_at 590 rfl rfl, ⟨by decide, by decide⟩, by decide +kernel⟩
set_option maxRecDepth 100000 in
theorem mv_X0_firstEnvy : MVok yX0_firstEnvy cX0_firstEnvy 5 (some .int) 2 := ⟨gw_at 585 rfl rfl, gw_at 586 rfl rfl, gw_at 52 rfl rfl, gw_at 587 rfl rfl, ⟨by decide, by decide⟩, by decide +kernel⟩
set_option maxRecDepth 100000 in
theorem mv_X0_firstGift : MVok yX0_firstGift cX0_firstGift 5 (some .int) 2 := ⟨gw_at 538 rfl rfl, gw_at 539 rfl rfl, gw_at 52 rfl rfl, gw_at 540 rfl rfl, ⟨by decide, by decide⟩, by decide +kernel⟩
set_option maxRecDepth 100000 in
theorem mv_X0_firstSwap : MVok yX0_firstSwap cX0_firstSwap 5 (some .int) 2 := ⟨gw_at 521 rfl rfl, gw_at 522 rfl rfl, gw_at 52 rfl rfl, gw_at 523 rfl rfl, ⟨by decide, by decide⟩, by decide +kernel⟩
set_option maxRecDepth 100000 in
theorem ms_X0_isGoodGift : MSok yX0_isGoodGift cX0_isGoodGift 7 (some .boolean) 4 := ⟨gw_at 542 rfl rfl, gw_at 52 rfl rfl, gw_at 543 rfl rfl, ⟨by decide, by decide⟩, by decide +kernel⟩
set_option maxRecDepth 100000 in
theorem ms_X0_placeOf : MSok yX0_placeOf cX0_placeOf 1 (some .int) 1 := ⟨gw_at 565 rfl rfl, gw_at 52 rfl rfl, gw_at 566 rfl rfl, ⟨by decide, by decide⟩, by decide +kernel⟩
set_option maxRecDepth 100000 in
theorem mv_X0_shortestRing : MVok yX0_shortestRing cX0_shortestRing 5 (some .int) 2 := ⟨gw_at 596 rfl rfl, gw_at 597 rfl rfl, gw_at 52 rfl rfl, gw_at 598 rfl rfl, ⟨by decide, by decide⟩, by decide +kernel⟩
set_option maxRecDepth 100000 in
theorem ms_X0_sumIn : MSok yX0_sumIn cX0_sumIn 1 (some .int) 1 := ⟨gw_at 573 rfl rfl, gw_at 52 rfl rfl, gw_at 574 rfl rfl, ⟨by decide, by decide⟩, by decide +kernel⟩
set_option maxRecDepth 100000 in
theorem mv_X0_tellEnvied : MVok yX0_tellEnvied cX0_tellEnvied 5 none 2 := ⟨gw_at 601 rfl rfl, gw_at 11 rfl rfl, gw_at 52 rfl rfl, gw_at 602 rfl rfl, ⟨by decide, by decide⟩, by decide +kernel⟩
set_option maxRecDepth 100000 in
theorem mv_X0_tellGains : MVok yX0_tellGains cX0_tellGains 7 none 3 := ⟨gw_at 562 rfl rfl, gw_at 9 rfl rfl, gw_at 52 rfl rfl, gw_at 563 rfl rfl, ⟨by decide, by decide⟩, by decide +kernel⟩
set_option maxRecDepth 100000 in
theorem mv_X1_add : MVok yX1_add cX1_add 2 none 1 := ⟨gw_at 612 rfl rfl, gw_at 613 rfl rfl, gw_at 51 rfl rfl, gw_at 614 rfl rfl, ⟨by decide, by decide⟩, by decide +kernel⟩
set_option maxRecDepth 100000 in
theorem mv_X1_canBe : MVok yX1_canBe cX1_canBe 3 (some .boolean) 1 := ⟨gw_at 624 rfl rfl, gw_at 625 rfl rfl, gw_at 51 rfl rfl, gw_at 626 rfl rfl, ⟨by decide, by decide⟩, by decide +kernel⟩
set_option maxRecDepth 100000 in
theorem mv_X1_clear : MVok yX1_clear cX1_clear 1 none 0 := ⟨gw_at 349 rfl rfl, gw_at 350 rfl rfl, gw_at 51 rfl rfl, gw_at 351 rfl rfl, ⟨by decide, by decide⟩, by decide +kernel⟩
set_option maxRecDepth 100000 in
theorem mv_X1_evenWeight : MVok yX1_evenWeight cX1_evenWeight 3 (some .long) 2 := ⟨gw_at 641 rfl rfl, gw_at 642 rfl rfl, gw_at 51 rfl rfl, gw_at 643 rfl rfl, ⟨by decide, by decide⟩, by decide +kernel⟩
set_option maxRecDepth 100000 in
theorem mv_X1_loadedWeight : MVok yX1_loadedWeight cX1_loadedWeight 3 (some .long) 2 := ⟨gw_at 629 rfl rfl, gw_at 630 rfl rfl, gw_at 51 rfl rfl, gw_at 631 rfl rfl, ⟨by decide, by decide⟩, by decide +kernel⟩
set_option maxRecDepth 100000 in
theorem ms_X1_power : MSok yX1_power cX1_power 6 (some .long) 2 := ⟨gw_at 634 rfl rfl, gw_at 51 rfl rfl, gw_at 635 rfl rfl, ⟨by decide, by decide⟩, by decide +kernel⟩
set_option maxRecDepth 100000 in
theorem mv_X2_addLiking : MVok yX2_addLiking cX2_addLiking 4 (some .boolean) 3 := ⟨gw_at 280 rfl rfl, gw_at 281 rfl rfl, gw_at 53 rfl rfl, gw_at 282 rfl rfl, ⟨by decide, by decide⟩, by decide +kernel⟩
set_option maxRecDepth 100000 in
theorem mv_X2_addPerson : MVok yX2_addPerson cX2_addPerson 2 (some .boolean) 1 := ⟨gw_at 272 rfl rfl, gw_at 273 rfl rfl, gw_at 53 rfl rfl, gw_at 274 rfl rfl, ⟨by decide, by decide⟩, by decide +kernel⟩
set_option maxRecDepth 100000 in
theorem mv_X2_addThing : MVok yX2_addThing cX2_addThing 3 (some .boolean) 2 := ⟨gw_at 276 rfl rfl, gw_at 277 rfl rfl, gw_at 53 rfl rfl, gw_at 278 rfl rfl, ⟨by decide, by decide⟩, by decide +kernel⟩
set_option maxRecDepth 100000 in
theorem mv_X2_allTickets : MVok yX2_allTickets cX2_allTickets 3 (some .int) 0 := ⟨gw_at 637 rfl rfl, gw_at 638 rfl rfl, gw_at 53 rfl rfl, gw_at 639 rfl rfl, ⟨by decide, by decide⟩, by decide +kernel⟩
set_option maxRecDepth 100000 in
theorem mv_X2_clear : MVok yX2_clear cX2_clear 1 none 0 := ⟨gw_at 249 rfl rfl, gw_at 250 rfl rfl, gw_at 53 rfl rfl, gw_at 251 rfl rfl, ⟨by decide, by decide⟩, by decide +kernel⟩
set_option maxRecDepth 100000 in
theorem mv_X2_countOf : MVok yX2_countOf cX2_countOf 5 (some .int) 2 := ⟨gw_at 376 rfl rfl, gw_at 4 rfl rfl, gw_at 53 rfl rfl, gw_at 377 rfl rfl, ⟨by decide, by decide⟩, by decide +kernel⟩
set_option maxRecDepth 100000 in
theorem mv_X2_isPerson : MVok yX2_isPerson cX2_isPerson 2 (some .boolean) 1 := ⟨gw_at 284 rfl rfl, gw_at 285 rfl rfl, gw_at 53 rfl rfl, gw_at 286 rfl rfl, ⟨by decide, by decide⟩, by decide +kernel⟩
set_option maxRecDepth 100000 in
theorem mv_X2_isThing : MVok yX2_isThing cX2_isThing 2 (some .boolean) 1 := ⟨gw_at 288 rfl rfl, gw_at 289 rfl rfl, gw_at 53 rfl rfl, gw_at 290 rfl rfl, ⟨by decide, by decide⟩, by decide +kernel⟩
set_option maxRecDepth 100000 in
theorem mv_X2_likingOf : MVok yX2_likingOf cX2_likingOf 3 (some .int) 2 := ⟨gw_at 379 rfl rfl, gw_at 380 rfl rfl, gw_at 53 rfl rfl, gw_at 381 rfl rfl, ⟨by decide, by decide⟩, by decide +kernel⟩
set_option maxRecDepth 100000 in
theorem mv_X2_ownWorth : MVok yX2_ownWorth cX2_ownWorth 4 (some .int) 3 := ⟨gw_at 384 rfl rfl, gw_at 5 rfl rfl, gw_at 53 rfl rfl, gw_at 385 rfl rfl, ⟨by decide, by decide⟩, by decide +kernel⟩
set_option maxRecDepth 100000 in
theorem mv_X2_rowsOf : MVok yX2_rowsOf cX2_rowsOf 8 (some .long) 1 := ⟨gw_at 649 rfl rfl, gw_at 650 rfl rfl, gw_at 53 rfl rfl, gw_at 651 rfl rfl, ⟨by decide, by decide⟩, by decide +kernel⟩
set_option maxRecDepth 100000 in
theorem mv_X2_worthTo : MVok yX2_worthTo cX2_worthTo 7 (some .int) 2 := ⟨gw_at 371 rfl rfl, gw_at 372 rfl rfl, gw_at 53 rfl rfl, gw_at 373 rfl rfl, ⟨by decide, by decide⟩, by decide +kernel⟩
set_option maxRecDepth 100000 in
theorem mv_X3_addTickets : MVok yX3_addTickets cX3_addTickets 3 none 2 := ⟨gw_at 441 rfl rfl, gw_at 442 rfl rfl, gw_at 48 rfl rfl, gw_at 443 rfl rfl, ⟨by decide, by decide⟩, by decide +kernel⟩
set_option maxRecDepth 100000 in
theorem mv_X3_copy : MVok yX3_copy cX3_copy 2 none 1 := ⟨gw_at 657 rfl rfl, gw_at 658 rfl rfl, gw_at 48 rfl rfl, gw_at 659 rfl rfl, ⟨by decide, by decide⟩, by decide +kernel⟩
set_option maxRecDepth 100000 in
theorem mv_X3_next : MVok yX3_next cX3_next 1 (some .int) 0 := ⟨gw_at 393 rfl rfl, gw_at 394 rfl rfl, gw_at 48 rfl rfl, gw_at 395 rfl rfl, ⟨by decide, by decide⟩, by decide +kernel⟩
set_option maxRecDepth 100000 in
theorem mv_X3_ownedSet : MVok yX3_ownedSet cX3_ownedSet 3 (some .int) 0 := ⟨gw_at 553 rfl rfl, gw_at 554 rfl rfl, gw_at 48 rfl rfl, gw_at 555 rfl rfl, ⟨by decide, by decide⟩, by decide +kernel⟩
set_option maxRecDepth 100000 in
theorem mv_X3_ownedThings : MVok yX3_ownedThings cX3_ownedThings 1 (some .int) 0 := ⟨gw_at 681 rfl rfl, gw_at 682 rfl rfl, gw_at 48 rfl rfl, gw_at 683 rfl rfl, ⟨by decide, by decide⟩, by decide +kernel⟩
set_option maxRecDepth 100000 in
theorem mv_X3_ownerOf : MVok yX3_ownerOf cX3_ownerOf 2 (some .int) 1 := ⟨gw_at 367 rfl rfl, gw_at 368 rfl rfl, gw_at 48 rfl rfl, gw_at 369 rfl rfl, ⟨by decide, by decide⟩, by decide +kernel⟩
set_option maxRecDepth 100000 in
theorem mv_X3_pass : MVok yX3_pass cX3_pass 3 none 2 := ⟨gw_at 453 rfl rfl, gw_at 454 rfl rfl, gw_at 48 rfl rfl, gw_at 455 rfl rfl, ⟨by decide, by decide⟩, by decide +kernel⟩
set_option maxRecDepth 100000 in
theorem mv_X3_putBack : MVok yX3_putBack cX3_putBack 2 none 1 := ⟨gw_at 433 rfl rfl, gw_at 434 rfl rfl, gw_at 48 rfl rfl, gw_at 435 rfl rfl, ⟨by decide, by decide⟩, by decide +kernel⟩
set_option maxRecDepth 100000 in
theorem mv_X3_refusable : MVok yX3_refusable cX3_refusable 1 (some .int) 0 := ⟨gw_at 397 rfl rfl, gw_at 398 rfl rfl, gw_at 48 rfl rfl, gw_at 399 rfl rfl, ⟨by decide, by decide⟩, by decide +kernel⟩
set_option maxRecDepth 100000 in
theorem mv_X3_setOf : MVok yX3_setOf cX3_setOf 4 (some .int) 1 := ⟨gw_at 363 rfl rfl, gw_at 364 rfl rfl, gw_at 48 rfl rfl, gw_at 365 rfl rfl, ⟨by decide, by decide⟩, by decide +kernel⟩
set_option maxRecDepth 100000 in
theorem mv_X3_start : MVok yX3_start cX3_start 3 none 1 := ⟨gw_at 296 rfl rfl, gw_at 297 rfl rfl, gw_at 48 rfl rfl, gw_at 298 rfl rfl, ⟨by decide, by decide⟩, by decide +kernel⟩
set_option maxRecDepth 100000 in
theorem mv_X3_takeNext : MVok yX3_takeNext cX3_takeNext 3 none 1 := ⟨gw_at 425 rfl rfl, gw_at 426 rfl rfl, gw_at 48 rfl rfl, gw_at 427 rfl rfl, ⟨by decide, by decide⟩, by decide +kernel⟩
set_option maxRecDepth 100000 in
theorem mv_X3_ticketHolder : MVok yX3_ticketHolder cX3_ticketHolder 4 (some .int) 1 := ⟨gw_at 410 rfl rfl, gw_at 411 rfl rfl, gw_at 48 rfl rfl, gw_at 412 rfl rfl, ⟨by decide, by decide⟩, by decide +kernel⟩
set_option maxRecDepth 100000 in
theorem mv_X3_tickets : MVok yX3_tickets cX3_tickets 3 (some .int) 0 := ⟨gw_at 476 rfl rfl, gw_at 477 rfl rfl, gw_at 48 rfl rfl, gw_at 478 rfl rfl, ⟨by decide, by decide⟩, by decide +kernel⟩
set_option maxRecDepth 100000 in
theorem mv_X3_ticketsOf : MVok yX3_ticketsOf cX3_ticketsOf 2 (some .int) 1 := ⟨gw_at 359 rfl rfl, gw_at 360 rfl rfl, gw_at 48 rfl rfl, gw_at 361 rfl rfl, ⟨by decide, by decide⟩, by decide +kernel⟩
set_option maxRecDepth 100000 in
theorem mv_X4_clear : MVok yX4_clear cX4_clear 1 none 0 := ⟨gw_at 345 rfl rfl, gw_at 346 rfl rfl, gw_at 49 rfl rfl, gw_at 347 rfl rfl, ⟨by decide, by decide⟩, by decide +kernel⟩
set_option maxRecDepth 100000 in
theorem mv_X4_isFull : MVok yX4_isFull cX4_isFull 1 (some .boolean) 0 := ⟨gw_at 418 rfl rfl, gw_at 419 rfl rfl, gw_at 49 rfl rfl, gw_at 420 rfl rfl, ⟨by decide, by decide⟩, by decide +kernel⟩
set_option maxRecDepth 100000 in
theorem mv_X4_pop : MVok yX4_pop cX4_pop 2 (some .boolean) 1 := ⟨gw_at 465 rfl rfl, gw_at 466 rfl rfl, gw_at 49 rfl rfl, gw_at 467 rfl rfl, ⟨by decide, by decide⟩, by decide +kernel⟩
set_option maxRecDepth 100000 in
theorem mv_X4_push : MVok yX4_push cX4_push 2 none 1 := ⟨gw_at 414 rfl rfl, gw_at 415 rfl rfl, gw_at 49 rfl rfl, gw_at 416 rfl rfl, ⟨by decide, by decide⟩, by decide +kernel⟩
set_option maxRecDepth 100000 in
theorem mv_X5_append : MVok yX5_append cX5_append 2 (some .boolean) 1 := ⟨gw_at 241 rfl rfl, gw_at 242 rfl rfl, gw_at 47 rfl rfl, gw_at 243 rfl rfl, ⟨by decide, by decide⟩, by decide +kernel⟩
set_option maxRecDepth 100000 in
theorem mv_X5_clear : MVok yX5_clear cX5_clear 1 none 0 := ⟨gw_at 292 rfl rfl, gw_at 293 rfl rfl, gw_at 47 rfl rfl, gw_at 294 rfl rfl, ⟨by decide, by decide⟩, by decide +kernel⟩
set_option maxRecDepth 100000 in
theorem mv_X5_isFigure : MVok yX5_isFigure cX5_isFigure 1 (some .boolean) 0 := ⟨gw_at 269 rfl rfl, gw_at 3 rfl rfl, gw_at 47 rfl rfl, gw_at 270 rfl rfl, ⟨by decide, by decide⟩, by decide +kernel⟩
set_option maxRecDepth 100000 in
theorem mv_X5_nextLetter : MVok yX5_nextLetter cX5_nextLetter 2 (some .int) 0 := ⟨gw_at 261 rfl rfl, gw_at 1 rfl rfl, gw_at 47 rfl rfl, gw_at 262 rfl rfl, ⟨by decide, by decide⟩, by decide +kernel⟩
set_option maxRecDepth 100000 in
theorem mv_X5_readNumbers : MVok yX5_readNumbers cX5_readNumbers 4 (some .boolean) 1 := ⟨gw_at 265 rfl rfl, gw_at 2 rfl rfl, gw_at 47 rfl rfl, gw_at 266 rfl rfl, ⟨by decide, by decide⟩, by decide +kernel⟩
set_option maxRecDepth 100000 in
theorem mv_X5_tell : MVok yX5_tell cX5_tell 4 (some .int) 1 := ⟨gw_at 245 rfl rfl, gw_at 246 rfl rfl, gw_at 47 rfl rfl, gw_at 247 rfl rfl, ⟨by decide, by decide⟩, by decide +kernel⟩
set_option maxRecDepth 100000 in
theorem mv_X5_tellItem : MVok yX5_tellItem cX5_tellItem 2 (some .boolean) 1 := ⟨gw_at 257 rfl rfl, gw_at 0 rfl rfl, gw_at 47 rfl rfl, gw_at 258 rfl rfl, ⟨by decide, by decide⟩, by decide +kernel⟩
set_option maxRecDepth 100000 in
theorem mv_X7_back : MVok yX7_back cX7_back 2 (some .int) 0 := ⟨gw_at 1022 rfl rfl, gw_at 1023 rfl rfl, gw_at 59 rfl rfl, gw_at 1024 rfl rfl, ⟨by decide, by decide⟩, by decide +kernel⟩
set_option maxRecDepth 100000 in
theorem mv_X7_begin : MVok yX7_begin cX7_begin 2 none 0 := ⟨gw_at 715 rfl rfl, gw_at 19 rfl rfl, gw_at 59 rfl rfl, gw_at 716 rfl rfl, ⟨by decide, by decide⟩, by decide +kernel⟩
set_option maxRecDepth 100000 in
theorem ms_X7_bitsOf : MSok yX7_bitsOf cX7_bitsOf 3 (some .int) 1 := ⟨gw_at 941 rfl rfl, gw_at 59 rfl rfl, gw_at 942 rfl rfl, ⟨by decide, by decide⟩, by decide +kernel⟩
set_option maxRecDepth 100000 in
theorem mv_X7_buy : MVok yX7_buy cX7_buy 3 (some .int) 2 := ⟨gw_at 899 rfl rfl, gw_at 900 rfl rfl, gw_at 59 rfl rfl, gw_at 901 rfl rfl, ⟨by decide, by decide⟩, by decide +kernel⟩
set_option maxRecDepth 100000 in
theorem ms_X7_common : MSok yX7_common cX7_common 10 (some .long) 2 := ⟨gw_at 933 rfl rfl, gw_at 59 rfl rfl, gw_at 934 rfl rfl, ⟨by decide, by decide⟩, by decide +kernel⟩
set_option maxRecDepth 100000 in
theorem mv_X7_count : MVok yX7_count cX7_count 2 (some .int) 1 := ⟨gw_at 1026 rfl rfl, gw_at 1027 rfl rfl, gw_at 59 rfl rfl, gw_at 1028 rfl rfl, ⟨by decide, by decide⟩, by decide +kernel⟩
set_option maxRecDepth 100000 in
theorem mv_X7_dealBy : MVok yX7_dealBy cX7_dealBy 4 none 1 := ⟨gw_at 970 rfl rfl, gw_at 41 rfl rfl, gw_at 59 rfl rfl, gw_at 971 rfl rfl, ⟨by decide, by decide⟩, by decide +kernel⟩
set_option maxRecDepth 100000 in
theorem mv_X7_draw : MVok yX7_draw cX7_draw 2 (some .int) 1 := ⟨gw_at 881 rfl rfl, gw_at 882 rfl rfl, gw_at 59 rfl rfl, gw_at 883 rfl rfl, ⟨by decide, by decide⟩, by decide +kernel⟩
set_option maxRecDepth 100000 in
theorem ms_X7_drawOn : MSok yX7_drawOn cX7_drawOn 4 (some .int) 2 := ⟨gw_at 892 rfl rfl, gw_at 59 rfl rfl, gw_at 893 rfl rfl, ⟨by decide, by decide⟩, by decide +kernel⟩
set_option maxRecDepth 100000 in
theorem mv_X7_drawn : MVok yX7_drawn cX7_drawn 4 (some .int) 2 := ⟨gw_at 927 rfl rfl, gw_at 38 rfl rfl, gw_at 59 rfl rfl, gw_at 928 rfl rfl, ⟨by decide, by decide⟩, by decide +kernel⟩
set_option maxRecDepth 100000 in
theorem mv_X7_due : MVok yX7_due cX7_due 2 none 1 := ⟨gw_at 839 rfl rfl, gw_at 31 rfl rfl, gw_at 59 rfl rfl, gw_at 840 rfl rfl, ⟨by decide, by decide⟩, by decide +kernel⟩
set_option maxRecDepth 100000 in
theorem mv_X7_envies : MVok yX7_envies cX7_envies 3 (some .boolean) 2 := ⟨gw_at 982 rfl rfl, gw_at 43 rfl rfl, gw_at 59 rfl rfl, gw_at 983 rfl rfl, ⟨by decide, by decide⟩, by decide +kernel⟩
set_option maxRecDepth 100000 in
theorem mv_X7_envy : MVok yX7_envy cX7_envy 3 (some .int) 0 := ⟨gw_at 977 rfl rfl, gw_at 978 rfl rfl, gw_at 59 rfl rfl, gw_at 979 rfl rfl, ⟨by decide, by decide⟩, by decide +kernel⟩
set_option maxRecDepth 100000 in
theorem mv_X7_fair : MVok yX7_fair cX7_fair 11 (some .long) 3 := ⟨gw_at 997 rfl rfl, gw_at 998 rfl rfl, gw_at 59 rfl rfl, gw_at 999 rfl rfl, ⟨by decide, by decide⟩, by decide +kernel⟩
set_option maxRecDepth 100000 in
theorem mv_X7_fault : MVok yX7_fault cX7_fault 1 (some .int) 0 := ⟨gw_at 806 rfl rfl, gw_at 807 rfl rfl, gw_at 59 rfl rfl, gw_at 808 rfl rfl, ⟨by decide, by decide⟩, by decide +kernel⟩
set_option maxRecDepth 100000 in
theorem mv_X7_first : MVok yX7_first cX7_first 1 none 0 := ⟨gw_at 711 rfl rfl, gw_at 18 rfl rfl, gw_at 59 rfl rfl, gw_at 712 rfl rfl, ⟨by decide, by decide⟩, by decide +kernel⟩
set_option maxRecDepth 100000 in
theorem mv_X7_forget : MVok yX7_forget cX7_forget 2 (some .int) 0 := ⟨gw_at 993 rfl rfl, gw_at 994 rfl rfl, gw_at 59 rfl rfl, gw_at 995 rfl rfl, ⟨by decide, by decide⟩, by decide +kernel⟩
set_option maxRecDepth 100000 in
theorem mv_X7_give : MVok yX7_give cX7_give 4 (some .int) 2 := ⟨gw_at 914 rfl rfl, gw_at 915 rfl rfl, gw_at 59 rfl rfl, gw_at 916 rfl rfl, ⟨by decide, by decide⟩, by decide +kernel⟩
set_option maxRecDepth 100000 in
theorem mv_X7_gives : MVok yX7_gives cX7_gives 6 (some .int) 0 := ⟨gw_at 953 rfl rfl, gw_at 954 rfl rfl, gw_at 59 rfl rfl, gw_at 955 rfl rfl, ⟨by decide, by decide⟩, by decide +kernel⟩
set_option maxRecDepth 100000 in
theorem mv_X7_hadBy : MVok yX7_hadBy cX7_hadBy 5 (some .int) 2 := ⟨gw_at 859 rfl rfl, gw_at 34 rfl rfl, gw_at 59 rfl rfl, gw_at 860 rfl rfl, ⟨by decide, by decide⟩, by decide +kernel⟩
set_option maxRecDepth 100000 in
theorem mv_X7_hand : MVok yX7_hand cX7_hand 3 (some .int) 2 := ⟨gw_at 903 rfl rfl, gw_at 904 rfl rfl, gw_at 59 rfl rfl, gw_at 905 rfl rfl, ⟨by decide, by decide⟩, by decide +kernel⟩
set_option maxRecDepth 100000 in
theorem ms_X7_has : MSok yX7_has cX7_has 2 (some .boolean) 2 := ⟨gw_at 866 rfl rfl, gw_at 59 rfl rfl, gw_at 867 rfl rfl, ⟨by decide, by decide⟩, by decide +kernel⟩
set_option maxRecDepth 100000 in
theorem ms_X7_hatOf : MSok yX7_hatOf cX7_hatOf 3 (some .int) 1 := ⟨gw_at 885 rfl rfl, gw_at 59 rfl rfl, gw_at 886 rfl rfl, ⟨by decide, by decide⟩, by decide +kernel⟩
set_option maxRecDepth 100000 in
theorem mv_X7_here : MVok yX7_here cX7_here 1 (some .int) 0 := ⟨gw_at 819 rfl rfl, gw_at 26 rfl rfl, gw_at 59 rfl rfl, gw_at 820 rfl rfl, ⟨by decide, by decide⟩, by decide +kernel⟩
set_option maxRecDepth 100000 in
theorem ms_X7_in : MSok yX7_in cX7_in 3 (some .boolean) 3 := ⟨gw_at 799 rfl rfl, gw_at 59 rfl rfl, gw_at 800 rfl rfl, ⟨by decide, by decide⟩, by decide +kernel⟩
set_option maxRecDepth 100000 in
theorem mv_X7_isFigure : MVok yX7_isFigure cX7_isFigure 1 (some .boolean) 0 := ⟨gw_at 831 rfl rfl, gw_at 29 rfl rfl, gw_at 59 rfl rfl, gw_at 832 rfl rfl, ⟨by decide, by decide⟩, by decide +kernel⟩
set_option maxRecDepth 100000 in
theorem mv_X7_isPerson : MVok yX7_isPerson cX7_isPerson 2 (some .boolean) 1 := ⟨gw_at 855 rfl rfl, gw_at 33 rfl rfl, gw_at 59 rfl rfl, gw_at 856 rfl rfl, ⟨by decide, by decide⟩, by decide +kernel⟩
set_option maxRecDepth 100000 in
theorem mv_X7_isThing : MVok yX7_isThing cX7_isThing 2 (some .boolean) 1 := ⟨gw_at 874 rfl rfl, gw_at 36 rfl rfl, gw_at 59 rfl rfl, gw_at 875 rfl rfl, ⟨by decide, by decide⟩, by decide +kernel⟩
set_option maxRecDepth 100000 in
theorem mv_X7_keep : MVok yX7_keep cX7_keep 2 (some .int) 0 := ⟨gw_at 1018 rfl rfl, gw_at 1019 rfl rfl, gw_at 59 rfl rfl, gw_at 1020 rfl rfl, ⟨by decide, by decide⟩, by decide +kernel⟩
set_option maxRecDepth 100000 in
theorem mv_X7_know : MVok yX7_know cX7_know 2 none 0 := ⟨gw_at 889 rfl rfl, gw_at 37 rfl rfl, gw_at 59 rfl rfl, gw_at 890 rfl rfl, ⟨by decide, by decide⟩, by decide +kernel⟩
set_option maxRecDepth 100000 in
theorem mv_X7_lay : MVok yX7_lay cX7_lay 1 (some .int) 0 := ⟨gw_at 846 rfl rfl, gw_at 847 rfl rfl, gw_at 59 rfl rfl, gw_at 848 rfl rfl, ⟨by decide, by decide⟩, by decide +kernel⟩
set_option maxRecDepth 100000 in
theorem mv_X7_likes : MVok yX7_likes cX7_likes 3 (some .int) 2 := ⟨gw_at 877 rfl rfl, gw_at 878 rfl rfl, gw_at 59 rfl rfl, gw_at 879 rfl rfl, ⟨by decide, by decide⟩, by decide +kernel⟩
set_option maxRecDepth 100000 in
theorem mv_X7_mean : MVok yX7_mean cX7_mean 13 (some .long) 2 := ⟨gw_at 936 rfl rfl, gw_at 937 rfl rfl, gw_at 59 rfl rfl, gw_at 938 rfl rfl, ⟨by decide, by decide⟩, by decide +kernel⟩
set_option maxRecDepth 100000 in
theorem mv_X7_needs : MVok yX7_needs cX7_needs 9 (some .int) 3 := ⟨gw_at 944 rfl rfl, gw_at 945 rfl rfl, gw_at 59 rfl rfl, gw_at 946 rfl rfl, ⟨by decide, by decide⟩, by decide +kernel⟩
set_option maxRecDepth 100000 in
theorem mv_X7_note : MVok yX7_note cX7_note 2 (some .int) 1 := ⟨gw_at 989 rfl rfl, gw_at 990 rfl rfl, gw_at 59 rfl rfl, gw_at 991 rfl rfl, ⟨by decide, by decide⟩, by decide +kernel⟩
set_option maxRecDepth 100000 in
theorem mv_X7_number : MVok yX7_number cX7_number 5 (some .int) 2 := ⟨gw_at 827 rfl rfl, gw_at 28 rfl rfl, gw_at 59 rfl rfl, gw_at 828 rfl rfl, ⟨by decide, by decide⟩, by decide +kernel⟩
set_option maxRecDepth 100000 in
theorem mv_X7_person : MVok yX7_person cX7_person 3 (some .int) 2 := ⟨gw_at 850 rfl rfl, gw_at 851 rfl rfl, gw_at 59 rfl rfl, gw_at 852 rfl rfl, ⟨by decide, by decide⟩, by decide +kernel⟩
set_option maxRecDepth 100000 in
theorem mv_X7_read : MVok yX7_read cX7_read 2 (some .int) 0 := ⟨gw_at 811 rfl rfl, gw_at 24 rfl rfl, gw_at 59 rfl rfl, gw_at 812 rfl rfl, ⟨by decide, by decide⟩, by decide +kernel⟩
set_option maxRecDepth 100000 in
theorem mv_X7_readItem : MVok yX7_readItem cX7_readItem 2 none 0 := ⟨gw_at 815 rfl rfl, gw_at 25 rfl rfl, gw_at 59 rfl rfl, gw_at 816 rfl rfl, ⟨by decide, by decide⟩, by decide +kernel⟩
set_option maxRecDepth 100000 in
theorem mv_X7_readLike : MVok yX7_readLike cX7_readLike 4 none 0 := ⟨gw_at 843 rfl rfl, gw_at 32 rfl rfl, gw_at 59 rfl rfl, gw_at 844 rfl rfl, ⟨by decide, by decide⟩, by decide +kernel⟩
set_option maxRecDepth 100000 in
theorem mv_X7_readPerson : MVok yX7_readPerson cX7_readPerson 1 none 0 := ⟨gw_at 823 rfl rfl, gw_at 27 rfl rfl, gw_at 59 rfl rfl, gw_at 824 rfl rfl, ⟨by decide, by decide⟩, by decide +kernel⟩
set_option maxRecDepth 100000 in
theorem mv_X7_readThing : MVok yX7_readThing cX7_readThing 1 none 0 := ⟨gw_at 835 rfl rfl, gw_at 30 rfl rfl, gw_at 59 rfl rfl, gw_at 836 rfl rfl, ⟨by decide, by decide⟩, by decide +kernel⟩
set_option maxRecDepth 100000 in
theorem mv_X7_refuse : MVok yX7_refuse cX7_refuse 2 (some .int) 0 := ⟨gw_at 895 rfl rfl, gw_at 896 rfl rfl, gw_at 59 rfl rfl, gw_at 897 rfl rfl, ⟨by decide, by decide⟩, by decide +kernel⟩
set_option maxRecDepth 100000 in
theorem mv_X7_ring : MVok yX7_ring cX7_ring 8 (some .int) 0 := ⟨gw_at 985 rfl rfl, gw_at 986 rfl rfl, gw_at 59 rfl rfl, gw_at 987 rfl rfl, ⟨by decide, by decide⟩, by decide +kernel⟩
set_option maxRecDepth 100000 in
theorem ms_X7_rows : MSok yX7_rows cX7_rows 5 (some .long) 2 := ⟨gw_at 930 rfl rfl, gw_at 59 rfl rfl, gw_at 931 rfl rfl, ⟨by decide, by decide⟩, by decide +kernel⟩
set_option maxRecDepth 100000 in
theorem mv_X7_seats : MVok yX7_seats cX7_seats 8 (some .long) 1 := ⟨gw_at 1003 rfl rfl, gw_at 1004 rfl rfl, gw_at 59 rfl rfl, gw_at 1005 rfl rfl, ⟨by decide, by decide⟩, by decide +kernel⟩
set_option maxRecDepth 100000 in
theorem mv_X7_share : MVok yX7_share cX7_share 7 (some .int) 1 := ⟨gw_at 957 rfl rfl, gw_at 958 rfl rfl, gw_at 59 rfl rfl, gw_at 959 rfl rfl, ⟨by decide, by decide⟩, by decide +kernel⟩
set_option maxRecDepth 100000 in
theorem mv_X7_swap : MVok yX7_swap cX7_swap 5 (some .int) 2 := ⟨gw_at 907 rfl rfl, gw_at 908 rfl rfl, gw_at 59 rfl rfl, gw_at 909 rfl rfl, ⟨by decide, by decide⟩, by decide +kernel⟩
set_option maxRecDepth 100000 in
theorem mv_X7_swaps : MVok yX7_swaps cX7_swaps 8 (some .int) 0 := ⟨gw_at 949 rfl rfl, gw_at 950 rfl rfl, gw_at 59 rfl rfl, gw_at 951 rfl rfl, ⟨by decide, by decide⟩, by decide +kernel⟩
set_option maxRecDepth 100000 in
theorem mv_X7_take : MVok yX7_take cX7_take 2 none 0 := ⟨gw_at 966 rfl rfl, gw_at 40 rfl rfl, gw_at 59 rfl rfl, gw_at 967 rfl rfl, ⟨by decide, by decide⟩, by decide +kernel⟩
set_option maxRecDepth 100000 in
theorem mv_X7_takeDraft : MVok yX7_takeDraft cX7_takeDraft 2 none 0 := ⟨gw_at 731 rfl rfl, gw_at 23 rfl rfl, gw_at 59 rfl rfl, gw_at 732 rfl rfl, ⟨by decide, by decide⟩, by decide +kernel⟩
set_option maxRecDepth 100000 in
theorem mv_X7_tellLike : MVok yX7_tellLike cX7_tellLike 4 none 3 := ⟨gw_at 727 rfl rfl, gw_at 22 rfl rfl, gw_at 59 rfl rfl, gw_at 728 rfl rfl, ⟨by decide, by decide⟩, by decide +kernel⟩
set_option maxRecDepth 100000 in
theorem mv_X7_tellPerson : MVok yX7_tellPerson cX7_tellPerson 2 none 1 := ⟨gw_at 719 rfl rfl, gw_at 20 rfl rfl, gw_at 59 rfl rfl, gw_at 720 rfl rfl, ⟨by decide, by decide⟩, by decide +kernel⟩
set_option maxRecDepth 100000 in
theorem mv_X7_tellThing : MVok yX7_tellThing cX7_tellThing 3 none 2 := ⟨gw_at 723 rfl rfl, gw_at 21 rfl rfl, gw_at 59 rfl rfl, gw_at 724 rfl rfl, ⟨by decide, by decide⟩, by decide +kernel⟩
set_option maxRecDepth 100000 in
theorem mv_X7_thing : MVok yX7_thing cX7_thing 3 (some .int) 2 := ⟨gw_at 869 rfl rfl, gw_at 870 rfl rfl, gw_at 59 rfl rfl, gw_at 871 rfl rfl, ⟨by decide, by decide⟩, by decide +kernel⟩
set_option maxRecDepth 100000 in
theorem mv_X7_thingsHad : MVok yX7_thingsHad cX7_thingsHad 4 (some .int) 1 := ⟨gw_at 962 rfl rfl, gw_at 39 rfl rfl, gw_at 59 rfl rfl, gw_at 963 rfl rfl, ⟨by decide, by decide⟩, by decide +kernel⟩
set_option maxRecDepth 100000 in
theorem ms_X7_touch : MSok yX7_touch cX7_touch 2 none 2 := ⟨gw_at 911 rfl rfl, gw_at 59 rfl rfl, gw_at 912 rfl rfl, ⟨by decide, by decide⟩, by decide +kernel⟩
set_option maxRecDepth 100000 in
theorem mv_X7_turn : MVok yX7_turn cX7_turn 6 none 1 := ⟨gw_at 1015 rfl rfl, gw_at 44 rfl rfl, gw_at 59 rfl rfl, gw_at 1016 rfl rfl, ⟨by decide, by decide⟩, by decide +kernel⟩
set_option maxRecDepth 100000 in
theorem mv_X7_undo : MVok yX7_undo cX7_undo 2 (some .int) 0 := ⟨gw_at 918 rfl rfl, gw_at 919 rfl rfl, gw_at 59 rfl rfl, gw_at 920 rfl rfl, ⟨by decide, by decide⟩, by decide +kernel⟩
set_option maxRecDepth 100000 in
theorem mv_X7_wins : MVok yX7_wins cX7_wins 12 (some .int) 3 := ⟨gw_at 922 rfl rfl, gw_at 923 rfl rfl, gw_at 59 rfl rfl, gw_at 924 rfl rfl, ⟨by decide, by decide⟩, by decide +kernel⟩
set_option maxRecDepth 100000 in
theorem mv_X7_wipe : MVok yX7_wipe cX7_wipe 2 (some .int) 0 := ⟨gw_at 802 rfl rfl, gw_at 803 rfl rfl, gw_at 59 rfl rfl, gw_at 804 rfl rfl, ⟨by decide, by decide⟩, by decide +kernel⟩
set_option maxRecDepth 100000 in
theorem mv_X7_worthOf : MVok yX7_worthOf cX7_worthOf 9 (some .int) 2 := ⟨gw_at 863 rfl rfl, gw_at 35 rfl rfl, gw_at 59 rfl rfl, gw_at 864 rfl rfl, ⟨by decide, by decide⟩, by decide +kernel⟩
set_option maxRecDepth 100000 in
theorem mv_X7_worthOfAll : MVok yX7_worthOfAll cX7_worthOfAll 4 (some .int) 1 := ⟨gw_at 974 rfl rfl, gw_at 42 rfl rfl, gw_at 59 rfl rfl, gw_at 975 rfl rfl, ⟨by decide, by decide⟩, by decide +kernel⟩
set_option maxRecDepth 100000 in
theorem mv_X7_write : MVok yX7_write cX7_write 2 (some .int) 1 := ⟨gw_at 795 rfl rfl, gw_at 796 rfl rfl, gw_at 59 rfl rfl, gw_at 797 rfl rfl, ⟨by decide, by decide⟩, by decide +kernel⟩
set_option maxRecDepth 100000 in
theorem mv_X7_year : MVok yX7_year cX7_year 7 (some .int) 3 := ⟨gw_at 1007 rfl rfl, gw_at 1008 rfl rfl, gw_at 59 rfl rfl, gw_at 1009 rfl rfl, ⟨by decide, by decide⟩, by decide +kernel⟩
set_option maxRecDepth 100000 in
theorem ms_J6_bitCount_0f7a4 : MSok yJ6_bitCount_0f7a4 cJ6_bitCount_0f7a4 1 (some .int) 1 := ⟨gw_at 506 rfl rfl, gw_at 61 rfl rfl, gw_at 507 rfl rfl, ⟨by decide, by decide⟩, by decide +kernel⟩
set_option maxRecDepth 100000 in
theorem ms_J9_max_7cf53 : MSok yJ9_max_7cf53 cJ9_max_7cf53 2 (some .int) 2 := ⟨gw_at 110 rfl rfl, gw_at 50 rfl rfl, gw_at 111 rfl rfl, ⟨by decide, by decide⟩, by decide +kernel⟩
set_option maxRecDepth 100000 in
theorem ms_J9_min_7cf53 : MSok yJ9_min_7cf53 cJ9_min_7cf53 2 (some .int) 2 := ⟨gw_at 484 rfl rfl, gw_at 50 rfl rfl, gw_at 485 rfl rfl, ⟨by decide, by decide⟩, by decide +kernel⟩
set_option maxRecDepth 100000 in
theorem mv_J0_charAt_5068e : MVok yJ0_charAt_5068e cJ0_charAt_5068e 2 (some .char) 1 := ⟨gw_at 203 rfl rfl, gw_at 204 rfl rfl, gw_at 54 rfl rfl, gw_at 205 rfl rfl, ⟨by decide, by decide⟩, by decide +kernel⟩
set_option maxRecDepth 100000 in
theorem ms_J0_checkIndex_df160 : MSok yJ0_checkIndex_df160 cJ0_checkIndex_df160 2 none 2 := ⟨gw_at 214 rfl rfl, gw_at 54 rfl rfl, gw_at 215 rfl rfl, ⟨by decide, by decide⟩, by decide +kernel⟩
set_option maxRecDepth 100000 in
theorem mv_J0_coder_7d493 : MVok yJ0_coder_7d493 cJ0_coder_7d493 1 (some .byte) 0 := ⟨gw_at 197 rfl rfl, gw_at 198 rfl rfl, gw_at 54 rfl rfl, gw_at 199 rfl rfl, ⟨by decide, by decide⟩, by decide +kernel⟩
set_option maxRecDepth 100000 in
theorem mv_J0_isLatin1_aae02 : MVok yJ0_isLatin1_aae02 cJ0_isLatin1_aae02 1 (some .boolean) 0 := ⟨gw_at 207 rfl rfl, gw_at 208 rfl rfl, gw_at 54 rfl rfl, gw_at 209 rfl rfl, ⟨by decide, by decide⟩, by decide +kernel⟩
set_option maxRecDepth 100000 in
theorem mv_J0_length_8abf5 : MVok yJ0_length_8abf5 cJ0_length_8abf5 1 (some .int) 0 := ⟨gw_at 193 rfl rfl, gw_at 194 rfl rfl, gw_at 54 rfl rfl, gw_at 195 rfl rfl, ⟨by decide, by decide⟩, by decide +kernel⟩
set_option maxRecDepth 100000 in
theorem ms_J1_charAt_3b067 : MSok yJ1_charAt_3b067 cJ1_charAt_3b067 2 (some .char) 2 := ⟨gw_at 211 rfl rfl, gw_at 55 rfl rfl, gw_at 212 rfl rfl, ⟨by decide, by decide⟩, by decide +kernel⟩
set_option maxRecDepth 100000 in
theorem ms_J2_charAt_3b067 : MSok yJ2_charAt_3b067 cJ2_charAt_3b067 2 (some .char) 2 := ⟨gw_at 222 rfl rfl, gw_at 57 rfl rfl, gw_at 223 rfl rfl, ⟨by decide, by decide⟩, by decide +kernel⟩
set_option maxRecDepth 100000 in
theorem ms_J2_checkIndex_2214a : MSok yJ2_checkIndex_2214a cJ2_checkIndex_2214a 2 none 2 := ⟨gw_at 225 rfl rfl, gw_at 57 rfl rfl, gw_at 226 rfl rfl, ⟨by decide, by decide⟩, by decide +kernel⟩
set_option maxRecDepth 100000 in
theorem ms_J2_getChar_3b067 : MSok yJ2_getChar_3b067 cJ2_getChar_3b067 2 (some .char) 2 := ⟨gw_at 232 rfl rfl, gw_at 57 rfl rfl, gw_at 233 rfl rfl, ⟨by decide, by decide⟩, by decide +kernel⟩
set_option maxRecDepth 100000 in
theorem ms_J2_length_9d52b : MSok yJ2_length_9d52b cJ2_length_9d52b 1 (some .int) 1 := ⟨gw_at 228 rfl rfl, gw_at 57 rfl rfl, gw_at 229 rfl rfl, ⟨by decide, by decide⟩, by decide +kernel⟩
set_option maxRecDepth 100000 in
theorem ms_J7_fill_53178 : MSok yJ7_fill_53178 cJ7_fill_53178 4 none 2 := ⟨gw_at 253 rfl rfl, gw_at 58 rfl rfl, gw_at 254 rfl rfl, ⟨by decide, by decide⟩, by decide +kernel⟩
set_option maxRecDepth 100000 in
theorem ms_J3_checkIndex_8e157 : MSok yJ3_checkIndex_8e157 cJ3_checkIndex_8e157 3 (some .int) 3 := ⟨gw_at 219 rfl rfl, gw_at 56 rfl rfl, gw_at 220 rfl rfl, ⟨by decide, by decide⟩, by decide +kernel⟩
set_option maxRecDepth 100000 in
theorem fl_X6_10 : FLok RX6 10 6 0 := ⟨RX6, TX6, 9, rfl, by decide, inG_X6, rfl, Or.inl (gw_at 299 rfl rfl)⟩
set_option maxRecDepth 100000 in
theorem fl_X6_19 : FLok RX6 19 6 1 := ⟨RX6, TX6, 9, rfl, by decide, inG_X6, rfl, Or.inl (gw_at 300 rfl rfl)⟩
set_option maxRecDepth 100000 in
theorem fl_X6_23 : FLok RX6 23 6 2 := ⟨RX6, TX6, 9, rfl, by decide, inG_X6, rfl, Or.inl (gw_at 301 rfl rfl)⟩
set_option maxRecDepth 100000 in
theorem fl_X6_31 : FLok RX6 31 6 3 := ⟨RX6, TX6, 9, rfl, by decide, inG_X6, rfl, Or.inl (gw_at 302 rfl rfl)⟩
set_option maxRecDepth 100000 in
theorem fl_X6_35 : FLok RX6 35 6 4 := ⟨RX6, TX6, 9, rfl, by decide, inG_X6, rfl, Or.inl (gw_at 303 rfl rfl)⟩
set_option maxRecDepth 100000 in
theorem fl_X6_41 : FLok RX6 41 6 5 := ⟨RX6, TX6, 9, rfl, by decide, inG_X6, rfl, Or.inl (gw_at 304 rfl rfl)⟩
set_option maxRecDepth 100000 in
theorem fl_X6_48 : FLok RX6 48 6 6 := ⟨RX6, TX6, 9, rfl, by decide, inG_X6, rfl, Or.inl (gw_at 305 rfl rfl)⟩
set_option maxRecDepth 100000 in
theorem fl_X6_55 : FLok RX6 55 6 7 := ⟨RX6, TX6, 9, rfl, by decide, inG_X6, rfl, Or.inl (gw_at 306 rfl rfl)⟩
set_option maxRecDepth 100000 in
theorem pf_X6_55 : PFok RX6 55 6 7 (.object "ParishRaffle$Parish") := ⟨RX6, TX6, 9, tyX6, rfl, by decide, inG_X6, rfl, gw_at 306 rfl rfl, rfl, tyX6_ok, nmX6, by decide +kernel⟩
set_option maxRecDepth 100000 in
theorem fl_X6_59 : FLok RX6 59 6 8 := ⟨RX6, TX6, 9, rfl, by decide, inG_X6, rfl, Or.inl (gw_at 307 rfl rfl)⟩
set_option maxRecDepth 100000 in
theorem pf_X6_59 : PFok RX6 59 6 8 (.object "ParishRaffle$Parish") := ⟨RX6, TX6, 9, tyX6, rfl, by decide, inG_X6, rfl, gw_at 307 rfl rfl, rfl, tyX6_ok, nmX6, by decide +kernel⟩
set_option maxRecDepth 100000 in
theorem fl_X0_11 : FLok RX0 11 0 0 := ⟨RX0, TX0, 3, rfl, by decide, inG_X0, rfl, Or.inl (gw_at 143 rfl rfl)⟩
set_option maxRecDepth 100000 in
theorem fl_X0_15 : FLok RX0 15 0 1 := ⟨RX0, TX0, 3, rfl, by decide, inG_X0, rfl, Or.inl (gw_at 144 rfl rfl)⟩
set_option maxRecDepth 100000 in
theorem fl_X0_18 : FLok RX0 18 0 2 := ⟨RX0, TX0, 3, rfl, by decide, inG_X0, rfl, Or.inl (gw_at 145 rfl rfl)⟩
set_option maxRecDepth 100000 in
theorem fl_X1_9 : FLok RX1 9 1 0 := ⟨RX1, TX1, 2, rfl, by decide, inG_X1, rfl, Or.inl (gw_at 129 rfl rfl)⟩
set_option maxRecDepth 100000 in
theorem fl_X1_15 : FLok RX1 15 1 1 := ⟨RX1, TX1, 2, rfl, by decide, inG_X1, rfl, Or.inl (gw_at 130 rfl rfl)⟩
set_option maxRecDepth 100000 in
theorem pf_X1_15 : PFok RX1 15 1 1 .int := ⟨RX1, TX1, 2, tyX1, rfl, by decide, inG_X1, rfl, gw_at 130 rfl rfl, rfl, tyX1_ok, nmX1, by decide +kernel⟩
set_option maxRecDepth 100000 in
theorem fl_X2_9 : FLok RX2 9 2 0 := ⟨RX2, TX2, 7, rfl, by decide, inG_X2, rfl, Or.inl (gw_at 159 rfl rfl)⟩
set_option maxRecDepth 100000 in
theorem fl_X2_15 : FLok RX2 15 2 1 := ⟨RX2, TX2, 7, rfl, by decide, inG_X2, rfl, Or.inl (gw_at 163 rfl rfl)⟩
set_option maxRecDepth 100000 in
theorem fl_X2_18 : FLok RX2 18 2 2 := ⟨RX2, TX2, 7, rfl, by decide, inG_X2, rfl, Or.inl (gw_at 165 rfl rfl)⟩
set_option maxRecDepth 100000 in
theorem fl_X2_21 : FLok RX2 21 2 3 := ⟨RX2, TX2, 7, rfl, by decide, inG_X2, rfl, Or.inl (gw_at 167 rfl rfl)⟩
set_option maxRecDepth 100000 in
theorem fl_X2_24 : FLok RX2 24 2 4 := ⟨RX2, TX2, 7, rfl, by decide, inG_X2, rfl, Or.inl (gw_at 168 rfl rfl)⟩
set_option maxRecDepth 100000 in
theorem fl_X2_28 : FLok RX2 28 2 5 := ⟨RX2, TX2, 7, rfl, by decide, inG_X2, rfl, Or.inl (gw_at 169 rfl rfl)⟩
set_option maxRecDepth 100000 in
theorem pf_X2_28 : PFok RX2 28 2 5 .int := ⟨RX2, TX2, 7, tyX2, rfl, by decide, inG_X2, rfl, gw_at 169 rfl rfl, rfl, tyX2_ok, nmX2, by decide +kernel⟩
set_option maxRecDepth 100000 in
theorem fl_X2_32 : FLok RX2 32 2 6 := ⟨RX2, TX2, 7, rfl, by decide, inG_X2, rfl, Or.inl (gw_at 173 rfl rfl)⟩
set_option maxRecDepth 100000 in
theorem pf_X2_32 : PFok RX2 32 2 6 .int := ⟨RX2, TX2, 7, tyX2, rfl, by decide, inG_X2, rfl, gw_at 173 rfl rfl, rfl, tyX2_ok, nmX2, by decide +kernel⟩
set_option maxRecDepth 100000 in
theorem fl_X3_11 : FLok RX3 11 3 0 := ⟨RX3, TX3, 1, rfl, by decide, inG_X3, rfl, Or.inl (gw_at 98 rfl rfl)⟩
set_option maxRecDepth 100000 in
theorem fl_X4_13 : FLok RX4 13 4 1 := ⟨RX4, TX4, 3, rfl, by decide, inG_X4, rfl, Or.inl (gw_at 113 rfl rfl)⟩
set_option maxRecDepth 100000 in
theorem fl_X4_21 : FLok RX4 21 4 0 := ⟨RX4, TX4, 3, rfl, by decide, inG_X4, rfl, Or.inl (gw_at 112 rfl rfl)⟩
set_option maxRecDepth 100000 in
theorem fl_X4_25 : FLok RX4 25 4 2 := ⟨RX4, TX4, 3, rfl, by decide, inG_X4, rfl, Or.inl (gw_at 114 rfl rfl)⟩
set_option maxRecDepth 100000 in
theorem pf_X4_25 : PFok RX4 25 4 2 .int := ⟨RX4, TX4, 3, tyX4, rfl, by decide, inG_X4, rfl, gw_at 114 rfl rfl, rfl, tyX4_ok, nmX4, by decide +kernel⟩
set_option maxRecDepth 100000 in
theorem fl_X5_9 : FLok RX5 9 5 0 := ⟨RX5, TX5, 4, rfl, by decide, inG_X5, rfl, Or.inl (gw_at 76 rfl rfl)⟩
set_option maxRecDepth 100000 in
theorem fl_X5_15 : FLok RX5 15 5 1 := ⟨RX5, TX5, 4, rfl, by decide, inG_X5, rfl, Or.inl (gw_at 77 rfl rfl)⟩
set_option maxRecDepth 100000 in
theorem fl_X5_19 : FLok RX5 19 5 2 := ⟨RX5, TX5, 4, rfl, by decide, inG_X5, rfl, Or.inl (gw_at 78 rfl rfl)⟩
set_option maxRecDepth 100000 in
theorem pf_X5_19 : PFok RX5 19 5 2 .int := ⟨RX5, TX5, 4, tyX5, rfl, by decide, inG_X5, rfl, gw_at 78 rfl rfl, rfl, tyX5_ok, nmX5, by decide +kernel⟩
set_option maxRecDepth 100000 in
theorem fl_X5_28 : FLok RX5 28 5 3 := ⟨RX5, TX5, 4, rfl, by decide, inG_X5, rfl, Or.inl (gw_at 80 rfl rfl)⟩
set_option maxRecDepth 100000 in
theorem pf_X5_28 : PFok RX5 28 5 3 .int := ⟨RX5, TX5, 4, tyX5, rfl, by decide, inG_X5, rfl, gw_at 80 rfl rfl, rfl, tyX5_ok, nmX5, by decide +kernel⟩
set_option maxRecDepth 100000 in
theorem fl_X7_7 : FLok RX7 7 7 0 := ⟨RX7, TX7, 20, rfl, by decide, inG_X7, rfl, Or.inl (gw_at 733 rfl rfl)⟩
set_option maxRecDepth 100000 in
theorem fl_X7_13 : FLok RX7 13 7 2 := ⟨RX7, TX7, 20, rfl, by decide, inG_X7, rfl, Or.inl (gw_at 735 rfl rfl)⟩
set_option maxRecDepth 100000 in
theorem fl_X7_17 : FLok RX7 17 7 3 := ⟨RX7, TX7, 20, rfl, by decide, inG_X7, rfl, Or.inl (gw_at 736 rfl rfl)⟩
set_option maxRecDepth 100000 in
theorem fl_X7_20 : FLok RX7 20 7 4 := ⟨RX7, TX7, 20, rfl, by decide, inG_X7, rfl, Or.inl (gw_at 737 rfl rfl)⟩
set_option maxRecDepth 100000 in
theorem fl_X7_23 : FLok RX7 23 7 5 := ⟨RX7, TX7, 20, rfl, by decide, inG_X7, rfl, Or.inl (gw_at 738 rfl rfl)⟩
set_option maxRecDepth 100000 in
theorem fl_X7_26 : FLok RX7 26 7 6 := ⟨RX7, TX7, 20, rfl, by decide, inG_X7, rfl, Or.inl (gw_at 739 rfl rfl)⟩
set_option maxRecDepth 100000 in
theorem fl_X7_29 : FLok RX7 29 7 7 := ⟨RX7, TX7, 20, rfl, by decide, inG_X7, rfl, Or.inl (gw_at 740 rfl rfl)⟩
set_option maxRecDepth 100000 in
theorem fl_X7_32 : FLok RX7 32 7 10 := ⟨RX7, TX7, 20, rfl, by decide, inG_X7, rfl, Or.inl (gw_at 743 rfl rfl)⟩
set_option maxRecDepth 100000 in
theorem fl_X7_35 : FLok RX7 35 7 11 := ⟨RX7, TX7, 20, rfl, by decide, inG_X7, rfl, Or.inl (gw_at 744 rfl rfl)⟩
set_option maxRecDepth 100000 in
theorem fl_X7_38 : FLok RX7 38 7 13 := ⟨RX7, TX7, 20, rfl, by decide, inG_X7, rfl, Or.inl (gw_at 746 rfl rfl)⟩
set_option maxRecDepth 100000 in
theorem fl_X7_41 : FLok RX7 41 7 15 := ⟨RX7, TX7, 20, rfl, by decide, inG_X7, rfl, Or.inl (gw_at 748 rfl rfl)⟩
set_option maxRecDepth 100000 in
theorem fl_X7_44 : FLok RX7 44 7 16 := ⟨RX7, TX7, 20, rfl, by decide, inG_X7, rfl, Or.inl (gw_at 749 rfl rfl)⟩
set_option maxRecDepth 100000 in
theorem fl_X7_47 : FLok RX7 47 7 18 := ⟨RX7, TX7, 20, rfl, by decide, inG_X7, rfl, Or.inl (gw_at 751 rfl rfl)⟩
set_option maxRecDepth 100000 in
theorem fl_X7_51 : FLok RX7 51 7 19 := ⟨RX7, TX7, 20, rfl, by decide, inG_X7, rfl, Or.inl (gw_at 752 rfl rfl)⟩
set_option maxRecDepth 100000 in
theorem fl_X7_64 : FLok RX7 64 7 1 := ⟨RX7, TX7, 20, rfl, by decide, inG_X7, rfl, Or.inl (gw_at 734 rfl rfl)⟩
set_option maxRecDepth 100000 in
theorem pf_X7_64 : PFok RX7 64 7 1 .int := ⟨RX7, TX7, 20, tyX7, rfl, by decide, inG_X7, rfl, gw_at 734 rfl rfl, rfl, tyX7_ok, nmX7, by decide +kernel⟩
set_option maxRecDepth 100000 in
theorem fl_X7_68 : FLok RX7 68 7 8 := ⟨RX7, TX7, 20, rfl, by decide, inG_X7, rfl, Or.inl (gw_at 741 rfl rfl)⟩
set_option maxRecDepth 100000 in
theorem pf_X7_68 : PFok RX7 68 7 8 .int := ⟨RX7, TX7, 20, tyX7, rfl, by decide, inG_X7, rfl, gw_at 741 rfl rfl, rfl, tyX7_ok, nmX7, by decide +kernel⟩
set_option maxRecDepth 100000 in
theorem fl_X7_75 : FLok RX7 75 7 9 := ⟨RX7, TX7, 20, rfl, by decide, inG_X7, rfl, Or.inl (gw_at 742 rfl rfl)⟩
set_option maxRecDepth 100000 in
theorem pf_X7_75 : PFok RX7 75 7 9 .boolean := ⟨RX7, TX7, 20, tyX7, rfl, by decide, inG_X7, rfl, gw_at 742 rfl rfl, rfl, tyX7_ok, nmX7, by decide +kernel⟩
set_option maxRecDepth 100000 in
theorem fl_X7_120 : FLok RX7 120 7 12 := ⟨RX7, TX7, 20, rfl, by decide, inG_X7, rfl, Or.inl (gw_at 745 rfl rfl)⟩
set_option maxRecDepth 100000 in
theorem pf_X7_120 : PFok RX7 120 7 12 .int := ⟨RX7, TX7, 20, tyX7, rfl, by decide, inG_X7, rfl, gw_at 745 rfl rfl, rfl, tyX7_ok, nmX7, by decide +kernel⟩
set_option maxRecDepth 100000 in
theorem fl_X7_123 : FLok RX7 123 7 14 := ⟨RX7, TX7, 20, rfl, by decide, inG_X7, rfl, Or.inl (gw_at 747 rfl rfl)⟩
set_option maxRecDepth 100000 in
theorem pf_X7_123 : PFok RX7 123 7 14 .int := ⟨RX7, TX7, 20, tyX7, rfl, by decide, inG_X7, rfl, gw_at 747 rfl rfl, rfl, tyX7_ok, nmX7, by decide +kernel⟩
set_option maxRecDepth 100000 in
theorem fl_X7_126 : FLok RX7 126 7 17 := ⟨RX7, TX7, 20, rfl, by decide, inG_X7, rfl, Or.inl (gw_at 750 rfl rfl)⟩
set_option maxRecDepth 100000 in
theorem pf_X7_126 : PFok RX7 126 7 17 .int := ⟨RX7, TX7, 20, tyX7, rfl, by decide, inG_X7, rfl, gw_at 750 rfl rfl, rfl, tyX7_ok, nmX7, by decide +kernel⟩
set_option maxRecDepth 100000 in
theorem fl_X6_89 : FLok RX6 89 5 2 := ⟨RX5, TX5, 4, rfl, by decide, inG_X5, rfl, Or.inr ⟨"ParishRaffle", List.mem_of_getElem? (i := 0) rfl⟩⟩
set_option maxRecDepth 100000 in
theorem fl_X4_38 : FLok RX4 38 3 0 := ⟨RX3, TX3, 1, rfl, by decide, inG_X3, rfl, Or.inr ⟨"ParishRaffle", List.mem_of_getElem? (i := 1) rfl⟩⟩
set_option maxRecDepth 100000 in
theorem fl_X6_164 : FLok RX6 164 4 2 := ⟨RX4, TX4, 3, rfl, by decide, inG_X4, rfl, Or.inr ⟨"ParishRaffle", List.mem_of_getElem? (i := 2) rfl⟩⟩
set_option maxRecDepth 100000 in
theorem fl_X6_213 : FLok RX6 213 1 1 := ⟨RX1, TX1, 2, rfl, by decide, inG_X1, rfl, Or.inr ⟨"ParishRaffle", List.mem_of_getElem? (i := 3) rfl⟩⟩
set_option maxRecDepth 100000 in
theorem fl_X3_15 : FLok RX3 15 2 0 := ⟨RX2, TX2, 7, rfl, by decide, inG_X2, rfl, Or.inr ⟨"ParishRaffle", List.mem_of_getElem? (i := 4) rfl⟩⟩
set_option maxRecDepth 100000 in
theorem fl_X1_25 : FLok RX1 25 2 0 := ⟨RX2, TX2, 7, rfl, by decide, inG_X2, rfl, Or.inr ⟨"ParishRaffle", List.mem_of_getElem? (i := 5) rfl⟩⟩
set_option maxRecDepth 100000 in
theorem fl_X6_105 : FLok RX6 105 2 0 := ⟨RX2, TX2, 7, rfl, by decide, inG_X2, rfl, Or.inr ⟨"ParishRaffle", List.mem_of_getElem? (i := 6) rfl⟩⟩
set_option maxRecDepth 100000 in
theorem fl_X6_119 : FLok RX6 119 2 1 := ⟨RX2, TX2, 7, rfl, by decide, inG_X2, rfl, Or.inr ⟨"ParishRaffle", List.mem_of_getElem? (i := 7) rfl⟩⟩
set_option maxRecDepth 100000 in
theorem fl_X6_122 : FLok RX6 122 2 2 := ⟨RX2, TX2, 7, rfl, by decide, inG_X2, rfl, Or.inr ⟨"ParishRaffle", List.mem_of_getElem? (i := 8) rfl⟩⟩
set_option maxRecDepth 100000 in
theorem fl_X0_48 : FLok RX0 48 2 5 := ⟨RX2, TX2, 7, rfl, by decide, inG_X2, rfl, Or.inr ⟨"ParishRaffle", List.mem_of_getElem? (i := 9) rfl⟩⟩
set_option maxRecDepth 100000 in
theorem fl_X6_92 : FLok RX6 92 2 5 := ⟨RX2, TX2, 7, rfl, by decide, inG_X2, rfl, Or.inr ⟨"ParishRaffle", List.mem_of_getElem? (i := 10) rfl⟩⟩
set_option maxRecDepth 100000 in
theorem fl_X0_21 : FLok RX0 21 2 6 := ⟨RX2, TX2, 7, rfl, by decide, inG_X2, rfl, Or.inr ⟨"ParishRaffle", List.mem_of_getElem? (i := 11) rfl⟩⟩
set_option maxRecDepth 100000 in
theorem fl_X6_140 : FLok RX6 140 2 6 := ⟨RX2, TX2, 7, rfl, by decide, inG_X2, rfl, Or.inr ⟨"ParishRaffle", List.mem_of_getElem? (i := 12) rfl⟩⟩
set_option maxRecDepth 100000 in
theorem kc_X0_80 : Cond.constant RX0 80 (262144) ∈ gw := gw_at 575 rfl rfl
set_option maxRecDepth 100000 in
theorem kc_J6_265 : Cond.constant RJ6 265 (1431655765) ∈ gw := gw_at 508 rfl rfl
set_option maxRecDepth 100000 in
theorem kc_J6_266 : Cond.constant RJ6 266 (858993459) ∈ gw := gw_at 509 rfl rfl
set_option maxRecDepth 100000 in
theorem kc_J6_267 : Cond.constant RJ6 267 (252645135) ∈ gw := gw_at 510 rfl rfl
set_option maxRecDepth 100000 in
theorem kl_X6_183 : Cond.constantLong RX6 183 (-1) ∈ gw := gw_at 499 rfl rfl
set_option maxRecDepth 100000 in
theorem kl_X6_185 : Cond.constantLong RX6 185 (1000) ∈ gw := gw_at 500 rfl rfl
set_option maxRecDepth 100000 in
theorem kl_X6_191 : Cond.constantLong RX6 191 (10) ∈ gw := gw_at 515 rfl rfl
set_option maxRecDepth 100000 in
theorem kl_X6_221 : Cond.constantLong RX6 221 (-4) ∈ gw := gw_at 627 rfl rfl
set_option maxRecDepth 100000 in
theorem kl_X6_237 : Cond.constantLong RX6 237 (7919) ∈ gw := gw_at 661 rfl rfl
set_option maxRecDepth 100000 in
theorem kl_X6_239 : Cond.constantLong RX6 239 (6151) ∈ gw := gw_at 662 rfl rfl
set_option maxRecDepth 100000 in
theorem kl_X6_241 : Cond.constantLong RX6 241 (65521) ∈ gw := gw_at 663 rfl rfl
set_option maxRecDepth 100000 in
theorem kl_X1_30 : Cond.constantLong RX1 30 (2) ∈ gw := gw_at 632 rfl rfl
set_option maxRecDepth 100000 in
theorem kl_X7_172 : Cond.constantLong RX7 172 (-1) ∈ gw := gw_at 939 rfl rfl
set_option maxRecDepth 100000 in
theorem kl_X7_178 : Cond.constantLong RX7 178 (10) ∈ gw := gw_at 947 rfl rfl
set_option maxRecDepth 100000 in
theorem kl_X7_195 : Cond.constantLong RX7 195 (-4) ∈ gw := gw_at 1000 rfl rfl
set_option maxRecDepth 100000 in
theorem kl_X7_197 : Cond.constantLong RX7 197 (2) ∈ gw := gw_at 1001 rfl rfl
set_option maxRecDepth 100000 in
theorem kl_X7_199 : Cond.constantLong RX7 199 (7919) ∈ gw := gw_at 1010 rfl rfl
set_option maxRecDepth 100000 in
theorem kl_X7_201 : Cond.constantLong RX7 201 (6151) ∈ gw := gw_at 1011 rfl rfl
set_option maxRecDepth 100000 in
theorem kl_X7_203 : Cond.constantLong RX7 203 (65521) ∈ gw := gw_at 1012 rfl rfl
set_option maxRecDepth 100000 in
theorem rmk {rmy : Room} {mLy : Nat} {rm : Room} (h : (Nat.beq rmy.cells 0 && Nat.beq rmy.slots 0 && Nat.ble (rmy.frames + 1) rm.frames && Nat.ble (8 + (mLy + 11) + rmy.locals) rm.locals) = true) : RMok rmy mLy rm := by
  simp only [Bool.and_eq_true] at h
  exact ⟨Nat.eq_of_beq_eq_true h.1.1.1, Nat.eq_of_beq_eq_true h.1.1.2, Nat.le_of_ble_eq_true h.1.2, Nat.le_of_ble_eq_true h.2⟩
theorem gSub2 {X : MC} {nL : Nat} {ad : Nat → Nat} {cu su pc : Nat} {lv lv' : List (Nat × Value)} {st : List Value} {w : List va_E} (kk : Go X nL ad cu su pc lv' st w) (hs : subL lv' lv) : Go X nL ad cu su pc lv st w := gSub hs kk
