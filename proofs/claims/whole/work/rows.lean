section
-- ===== PART A: goes FIRST, ahead of the names: the tables' words, and 'selects' of the private methods out of them =====
/-- a private method of a class that the tables say can be made, by its rows of tables_1 -/
def lw_okq (q : MethodName × Nat) : Prop := (q.1.cls ≠ "java/lang/invoke/MethodHandle" ∧ q.1.cls ≠ "java/lang/invoke/VarHandle") ∧ Cond.instantiable q.1.cls q.2 ∈ tables_1 ∧ Cond.privateMethod q.1 ∈ tables_1 ∧ Cond.instanceMethod q.1 ∈ tables_1
theorem lw_p0 : lw_okq (⟨"ParishRaffle$Text", "tellItem", "(LParishRaffle$Parish;)Z"⟩, 4) := ⟨⟨by decide +kernel, by decide +kernel⟩, List.mem_of_getElem? (i := 26) (by decide +kernel), List.mem_of_getElem? (i := 211) (by decide +kernel), List.mem_of_getElem? (i := 212) (by decide +kernel)⟩
theorem lw_p1 : lw_okq (⟨"ParishRaffle$Text", "nextLetter", "()I"⟩, 4) := ⟨⟨by decide +kernel, by decide +kernel⟩, List.mem_of_getElem? (i := 26) (by decide +kernel), List.mem_of_getElem? (i := 215) (by decide +kernel), List.mem_of_getElem? (i := 216) (by decide +kernel)⟩
theorem lw_p2 : lw_okq (⟨"ParishRaffle$Text", "readNumbers", "(I)Z"⟩, 4) := ⟨⟨by decide +kernel, by decide +kernel⟩, List.mem_of_getElem? (i := 26) (by decide +kernel), List.mem_of_getElem? (i := 219) (by decide +kernel), List.mem_of_getElem? (i := 220) (by decide +kernel)⟩
theorem lw_p3 : lw_okq (⟨"ParishRaffle$Text", "isFigure", "()Z"⟩, 4) := ⟨⟨by decide +kernel, by decide +kernel⟩, List.mem_of_getElem? (i := 26) (by decide +kernel), List.mem_of_getElem? (i := 223) (by decide +kernel), List.mem_of_getElem? (i := 224) (by decide +kernel)⟩
theorem lw_p4 : lw_okq (⟨"ParishRaffle$Parish", "countOf", "(II)I"⟩, 7) := ⟨⟨by decide +kernel, by decide +kernel⟩, List.mem_of_getElem? (i := 109) (by decide +kernel), List.mem_of_getElem? (i := 330) (by decide +kernel), List.mem_of_getElem? (i := 331) (by decide +kernel)⟩
theorem lw_p5 : lw_okq (⟨"ParishRaffle$Parish", "ownWorth", "(III)I"⟩, 7) := ⟨⟨by decide +kernel, by decide +kernel⟩, List.mem_of_getElem? (i := 109) (by decide +kernel), List.mem_of_getElem? (i := 338) (by decide +kernel), List.mem_of_getElem? (i := 339) (by decide +kernel)⟩
theorem lw_p6 : lw_okq (⟨"ParishRaffle", "drawsAhead", "(II)I"⟩, 9) := ⟨⟨by decide +kernel, by decide +kernel⟩, List.mem_of_getElem? (i := 18) (by decide +kernel), List.mem_of_getElem? (i := 435) (by decide +kernel), List.mem_of_getElem? (i := 436) (by decide +kernel)⟩
theorem lw_p7 : lw_okq (⟨"ParishRaffle", "worthOverWays", "(III)J"⟩, 9) := ⟨⟨by decide +kernel, by decide +kernel⟩, List.mem_of_getElem? (i := 18) (by decide +kernel), List.mem_of_getElem? (i := 457) (by decide +kernel), List.mem_of_getElem? (i := 458) (by decide +kernel)⟩
theorem lw_p8 : lw_okq (⟨"ParishRaffle$Barter", "bestSharing", "(LParishRaffle$Parish;I)I"⟩, 3) := ⟨⟨by decide +kernel, by decide +kernel⟩, List.mem_of_getElem? (i := 93) (by decide +kernel), List.mem_of_getElem? (i := 512) (by decide +kernel), List.mem_of_getElem? (i := 513) (by decide +kernel)⟩
theorem lw_p9 : lw_okq (⟨"ParishRaffle$Barter", "tellGains", "(LParishRaffle$Parish;II)V"⟩, 3) := ⟨⟨by decide +kernel, by decide +kernel⟩, List.mem_of_getElem? (i := 93) (by decide +kernel), List.mem_of_getElem? (i := 516) (by decide +kernel), List.mem_of_getElem? (i := 517) (by decide +kernel)⟩
theorem lw_p10 : lw_okq (⟨"ParishRaffle$Barter", "bestWith", "(I)I"⟩, 3) := ⟨⟨by decide +kernel, by decide +kernel⟩, List.mem_of_getElem? (i := 93) (by decide +kernel), List.mem_of_getElem? (i := 523) (by decide +kernel), List.mem_of_getElem? (i := 524) (by decide +kernel)⟩
theorem lw_p11 : lw_okq (⟨"ParishRaffle$Barter", "tellEnvied", "(LParishRaffle$Parish;LParishRaffle$Stand;)V"⟩, 3) := ⟨⟨by decide +kernel, by decide +kernel⟩, List.mem_of_getElem? (i := 93) (by decide +kernel), List.mem_of_getElem? (i := 555) (by decide +kernel), List.mem_of_getElem? (i := 556) (by decide +kernel)⟩
theorem lw_p12 : lw_okq (⟨"ParishRaffle$Barter", "comesBack", "(LParishRaffle$Parish;II)Z"⟩, 3) := ⟨⟨by decide +kernel, by decide +kernel⟩, List.mem_of_getElem? (i := 93) (by decide +kernel), List.mem_of_getElem? (i := 559) (by decide +kernel), List.mem_of_getElem? (i := 560) (by decide +kernel)⟩
theorem lw_p13 : lw_okq (⟨"ParishRaffle", "takeTurn", "(I)V"⟩, 9) := ⟨⟨by decide +kernel, by decide +kernel⟩, List.mem_of_getElem? (i := 18) (by decide +kernel), List.mem_of_getElem? (i := 620) (by decide +kernel), List.mem_of_getElem? (i := 621) (by decide +kernel)⟩
theorem lw_p14 : lw_okq (⟨"ParishRaffle", "tryDraw", "(I)V"⟩, 9) := ⟨⟨by decide +kernel, by decide +kernel⟩, List.mem_of_getElem? (i := 18) (by decide +kernel), List.mem_of_getElem? (i := 624) (by decide +kernel), List.mem_of_getElem? (i := 625) (by decide +kernel)⟩
theorem lw_p15 : lw_okq (⟨"ParishRaffle", "tryBuy", "(II)V"⟩, 9) := ⟨⟨by decide +kernel, by decide +kernel⟩, List.mem_of_getElem? (i := 18) (by decide +kernel), List.mem_of_getElem? (i := 628) (by decide +kernel), List.mem_of_getElem? (i := 629) (by decide +kernel)⟩
def lw_privs_1 : List (MethodName × Nat) := [(⟨"ParishRaffle$Text", "tellItem", "(LParishRaffle$Parish;)Z"⟩, 4), (⟨"ParishRaffle$Text", "nextLetter", "()I"⟩, 4), (⟨"ParishRaffle$Text", "readNumbers", "(I)Z"⟩, 4), (⟨"ParishRaffle$Text", "isFigure", "()Z"⟩, 4), (⟨"ParishRaffle$Parish", "countOf", "(II)I"⟩, 7), (⟨"ParishRaffle$Parish", "ownWorth", "(III)I"⟩, 7), (⟨"ParishRaffle", "drawsAhead", "(II)I"⟩, 9), (⟨"ParishRaffle", "worthOverWays", "(III)J"⟩, 9), (⟨"ParishRaffle$Barter", "bestSharing", "(LParishRaffle$Parish;I)I"⟩, 3), (⟨"ParishRaffle$Barter", "tellGains", "(LParishRaffle$Parish;II)V"⟩, 3), (⟨"ParishRaffle$Barter", "bestWith", "(I)I"⟩, 3), (⟨"ParishRaffle$Barter", "tellEnvied", "(LParishRaffle$Parish;LParishRaffle$Stand;)V"⟩, 3), (⟨"ParishRaffle$Barter", "comesBack", "(LParishRaffle$Parish;II)Z"⟩, 3), (⟨"ParishRaffle", "takeTurn", "(I)V"⟩, 9), (⟨"ParishRaffle", "tryDraw", "(I)V"⟩, 9), (⟨"ParishRaffle", "tryBuy", "(II)V"⟩, 9)]
theorem lw_r1 : ∀ q ∈ lw_privs_1, lw_okq q := List.forall_mem_cons.mpr ⟨lw_p0, List.forall_mem_cons.mpr ⟨lw_p1, List.forall_mem_cons.mpr ⟨lw_p2, List.forall_mem_cons.mpr ⟨lw_p3, List.forall_mem_cons.mpr ⟨lw_p4, List.forall_mem_cons.mpr ⟨lw_p5, List.forall_mem_cons.mpr ⟨lw_p6, List.forall_mem_cons.mpr ⟨lw_p7, List.forall_mem_cons.mpr ⟨lw_p8, List.forall_mem_cons.mpr ⟨lw_p9, List.forall_mem_cons.mpr ⟨lw_p10, List.forall_mem_cons.mpr ⟨lw_p11, List.forall_mem_cons.mpr ⟨lw_p12, List.forall_mem_cons.mpr ⟨lw_p13, List.forall_mem_cons.mpr ⟨lw_p14, List.forall_mem_cons.mpr ⟨lw_p15, fun _ h => absurd h List.not_mem_nil⟩⟩⟩⟩⟩⟩⟩⟩⟩⟩⟩⟩⟩⟩⟩⟩
theorem lw_p16 : lw_okq (⟨"ParishRaffle", "tryGive", "(II)V"⟩, 9) := ⟨⟨by decide +kernel, by decide +kernel⟩, List.mem_of_getElem? (i := 18) (by decide +kernel), List.mem_of_getElem? (i := 632) (by decide +kernel), List.mem_of_getElem? (i := 633) (by decide +kernel)⟩
theorem lw_p17 : lw_okq (⟨"ParishRaffle", "worthOfAll", "(LParishRaffle$Stand;)I"⟩, 9) := ⟨⟨by decide +kernel, by decide +kernel⟩, List.mem_of_getElem? (i := 18) (by decide +kernel), List.mem_of_getElem? (i := 642) (by decide +kernel), List.mem_of_getElem? (i := 643) (by decide +kernel)⟩
theorem lw_p18 : lw_okq (⟨"ParishRaffleModel", "first", "()V"⟩, 20) := ⟨⟨by decide +kernel, by decide +kernel⟩, List.mem_of_getElem? (i := 659) (by decide +kernel), List.mem_of_getElem? (i := 665) (by decide +kernel), List.mem_of_getElem? (i := 666) (by decide +kernel)⟩
theorem lw_p19 : lw_okq (⟨"ParishRaffleModel", "begin", "()V"⟩, 20) := ⟨⟨by decide +kernel, by decide +kernel⟩, List.mem_of_getElem? (i := 659) (by decide +kernel), List.mem_of_getElem? (i := 669) (by decide +kernel), List.mem_of_getElem? (i := 670) (by decide +kernel)⟩
theorem lw_p20 : lw_okq (⟨"ParishRaffleModel", "tellPerson", "(I)V"⟩, 20) := ⟨⟨by decide +kernel, by decide +kernel⟩, List.mem_of_getElem? (i := 659) (by decide +kernel), List.mem_of_getElem? (i := 673) (by decide +kernel), List.mem_of_getElem? (i := 674) (by decide +kernel)⟩
theorem lw_p21 : lw_okq (⟨"ParishRaffleModel", "tellThing", "(II)V"⟩, 20) := ⟨⟨by decide +kernel, by decide +kernel⟩, List.mem_of_getElem? (i := 659) (by decide +kernel), List.mem_of_getElem? (i := 677) (by decide +kernel), List.mem_of_getElem? (i := 678) (by decide +kernel)⟩
theorem lw_p22 : lw_okq (⟨"ParishRaffleModel", "tellLike", "(III)V"⟩, 20) := ⟨⟨by decide +kernel, by decide +kernel⟩, List.mem_of_getElem? (i := 659) (by decide +kernel), List.mem_of_getElem? (i := 681) (by decide +kernel), List.mem_of_getElem? (i := 682) (by decide +kernel)⟩
theorem lw_p23 : lw_okq (⟨"ParishRaffleModel", "takeDraft", "()V"⟩, 20) := ⟨⟨by decide +kernel, by decide +kernel⟩, List.mem_of_getElem? (i := 659) (by decide +kernel), List.mem_of_getElem? (i := 685) (by decide +kernel), List.mem_of_getElem? (i := 686) (by decide +kernel)⟩
theorem lw_p24 : lw_okq (⟨"ParishRaffleModel", "read", "()I"⟩, 20) := ⟨⟨by decide +kernel, by decide +kernel⟩, List.mem_of_getElem? (i := 659) (by decide +kernel), List.mem_of_getElem? (i := 765) (by decide +kernel), List.mem_of_getElem? (i := 766) (by decide +kernel)⟩
theorem lw_p25 : lw_okq (⟨"ParishRaffleModel", "readItem", "()V"⟩, 20) := ⟨⟨by decide +kernel, by decide +kernel⟩, List.mem_of_getElem? (i := 659) (by decide +kernel), List.mem_of_getElem? (i := 769) (by decide +kernel), List.mem_of_getElem? (i := 770) (by decide +kernel)⟩
theorem lw_p26 : lw_okq (⟨"ParishRaffleModel", "here", "()I"⟩, 20) := ⟨⟨by decide +kernel, by decide +kernel⟩, List.mem_of_getElem? (i := 659) (by decide +kernel), List.mem_of_getElem? (i := 773) (by decide +kernel), List.mem_of_getElem? (i := 774) (by decide +kernel)⟩
theorem lw_p27 : lw_okq (⟨"ParishRaffleModel", "readPerson", "()V"⟩, 20) := ⟨⟨by decide +kernel, by decide +kernel⟩, List.mem_of_getElem? (i := 659) (by decide +kernel), List.mem_of_getElem? (i := 777) (by decide +kernel), List.mem_of_getElem? (i := 778) (by decide +kernel)⟩
theorem lw_p28 : lw_okq (⟨"ParishRaffleModel", "number", "(II)I"⟩, 20) := ⟨⟨by decide +kernel, by decide +kernel⟩, List.mem_of_getElem? (i := 659) (by decide +kernel), List.mem_of_getElem? (i := 781) (by decide +kernel), List.mem_of_getElem? (i := 782) (by decide +kernel)⟩
theorem lw_p29 : lw_okq (⟨"ParishRaffleModel", "isFigure", "()Z"⟩, 20) := ⟨⟨by decide +kernel, by decide +kernel⟩, List.mem_of_getElem? (i := 659) (by decide +kernel), List.mem_of_getElem? (i := 785) (by decide +kernel), List.mem_of_getElem? (i := 786) (by decide +kernel)⟩
theorem lw_p30 : lw_okq (⟨"ParishRaffleModel", "readThing", "()V"⟩, 20) := ⟨⟨by decide +kernel, by decide +kernel⟩, List.mem_of_getElem? (i := 659) (by decide +kernel), List.mem_of_getElem? (i := 789) (by decide +kernel), List.mem_of_getElem? (i := 790) (by decide +kernel)⟩
theorem lw_p31 : lw_okq (⟨"ParishRaffleModel", "due", "(I)V"⟩, 20) := ⟨⟨by decide +kernel, by decide +kernel⟩, List.mem_of_getElem? (i := 659) (by decide +kernel), List.mem_of_getElem? (i := 793) (by decide +kernel), List.mem_of_getElem? (i := 794) (by decide +kernel)⟩
def lw_privs_2 : List (MethodName × Nat) := [(⟨"ParishRaffle", "tryGive", "(II)V"⟩, 9), (⟨"ParishRaffle", "worthOfAll", "(LParishRaffle$Stand;)I"⟩, 9), (⟨"ParishRaffleModel", "first", "()V"⟩, 20), (⟨"ParishRaffleModel", "begin", "()V"⟩, 20), (⟨"ParishRaffleModel", "tellPerson", "(I)V"⟩, 20), (⟨"ParishRaffleModel", "tellThing", "(II)V"⟩, 20), (⟨"ParishRaffleModel", "tellLike", "(III)V"⟩, 20), (⟨"ParishRaffleModel", "takeDraft", "()V"⟩, 20), (⟨"ParishRaffleModel", "read", "()I"⟩, 20), (⟨"ParishRaffleModel", "readItem", "()V"⟩, 20), (⟨"ParishRaffleModel", "here", "()I"⟩, 20), (⟨"ParishRaffleModel", "readPerson", "()V"⟩, 20), (⟨"ParishRaffleModel", "number", "(II)I"⟩, 20), (⟨"ParishRaffleModel", "isFigure", "()Z"⟩, 20), (⟨"ParishRaffleModel", "readThing", "()V"⟩, 20), (⟨"ParishRaffleModel", "due", "(I)V"⟩, 20)]
theorem lw_r2 : ∀ q ∈ lw_privs_2, lw_okq q := List.forall_mem_cons.mpr ⟨lw_p16, List.forall_mem_cons.mpr ⟨lw_p17, List.forall_mem_cons.mpr ⟨lw_p18, List.forall_mem_cons.mpr ⟨lw_p19, List.forall_mem_cons.mpr ⟨lw_p20, List.forall_mem_cons.mpr ⟨lw_p21, List.forall_mem_cons.mpr ⟨lw_p22, List.forall_mem_cons.mpr ⟨lw_p23, List.forall_mem_cons.mpr ⟨lw_p24, List.forall_mem_cons.mpr ⟨lw_p25, List.forall_mem_cons.mpr ⟨lw_p26, List.forall_mem_cons.mpr ⟨lw_p27, List.forall_mem_cons.mpr ⟨lw_p28, List.forall_mem_cons.mpr ⟨lw_p29, List.forall_mem_cons.mpr ⟨lw_p30, List.forall_mem_cons.mpr ⟨lw_p31, fun _ h => absurd h List.not_mem_nil⟩⟩⟩⟩⟩⟩⟩⟩⟩⟩⟩⟩⟩⟩⟩⟩
theorem lw_p32 : lw_okq (⟨"ParishRaffleModel", "readLike", "()V"⟩, 20) := ⟨⟨by decide +kernel, by decide +kernel⟩, List.mem_of_getElem? (i := 659) (by decide +kernel), List.mem_of_getElem? (i := 797) (by decide +kernel), List.mem_of_getElem? (i := 798) (by decide +kernel)⟩
theorem lw_p33 : lw_okq (⟨"ParishRaffleModel", "isPerson", "(I)Z"⟩, 20) := ⟨⟨by decide +kernel, by decide +kernel⟩, List.mem_of_getElem? (i := 659) (by decide +kernel), List.mem_of_getElem? (i := 809) (by decide +kernel), List.mem_of_getElem? (i := 810) (by decide +kernel)⟩
theorem lw_p34 : lw_okq (⟨"ParishRaffleModel", "hadBy", "([II)I"⟩, 20) := ⟨⟨by decide +kernel, by decide +kernel⟩, List.mem_of_getElem? (i := 659) (by decide +kernel), List.mem_of_getElem? (i := 813) (by decide +kernel), List.mem_of_getElem? (i := 814) (by decide +kernel)⟩
theorem lw_p35 : lw_okq (⟨"ParishRaffleModel", "worthOf", "(II)I"⟩, 20) := ⟨⟨by decide +kernel, by decide +kernel⟩, List.mem_of_getElem? (i := 659) (by decide +kernel), List.mem_of_getElem? (i := 817) (by decide +kernel), List.mem_of_getElem? (i := 818) (by decide +kernel)⟩
theorem lw_p36 : lw_okq (⟨"ParishRaffleModel", "isThing", "(I)Z"⟩, 20) := ⟨⟨by decide +kernel, by decide +kernel⟩, List.mem_of_getElem? (i := 659) (by decide +kernel), List.mem_of_getElem? (i := 828) (by decide +kernel), List.mem_of_getElem? (i := 829) (by decide +kernel)⟩
theorem lw_p37 : lw_okq (⟨"ParishRaffleModel", "know", "()V"⟩, 20) := ⟨⟨by decide +kernel, by decide +kernel⟩, List.mem_of_getElem? (i := 659) (by decide +kernel), List.mem_of_getElem? (i := 843) (by decide +kernel), List.mem_of_getElem? (i := 844) (by decide +kernel)⟩
theorem lw_p38 : lw_okq (⟨"ParishRaffleModel", "drawn", "(II)I"⟩, 20) := ⟨⟨by decide +kernel, by decide +kernel⟩, List.mem_of_getElem? (i := 659) (by decide +kernel), List.mem_of_getElem? (i := 881) (by decide +kernel), List.mem_of_getElem? (i := 882) (by decide +kernel)⟩
theorem lw_p39 : lw_okq (⟨"ParishRaffleModel", "thingsHad", "([I)I"⟩, 20) := ⟨⟨by decide +kernel, by decide +kernel⟩, List.mem_of_getElem? (i := 659) (by decide +kernel), List.mem_of_getElem? (i := 916) (by decide +kernel), List.mem_of_getElem? (i := 917) (by decide +kernel)⟩
theorem lw_p40 : lw_okq (⟨"ParishRaffleModel", "take", "()V"⟩, 20) := ⟨⟨by decide +kernel, by decide +kernel⟩, List.mem_of_getElem? (i := 659) (by decide +kernel), List.mem_of_getElem? (i := 920) (by decide +kernel), List.mem_of_getElem? (i := 921) (by decide +kernel)⟩
theorem lw_p41 : lw_okq (⟨"ParishRaffleModel", "dealBy", "(I)V"⟩, 20) := ⟨⟨by decide +kernel, by decide +kernel⟩, List.mem_of_getElem? (i := 659) (by decide +kernel), List.mem_of_getElem? (i := 924) (by decide +kernel), List.mem_of_getElem? (i := 925) (by decide +kernel)⟩
theorem lw_p42 : lw_okq (⟨"ParishRaffleModel", "worthOfAll", "([I)I"⟩, 20) := ⟨⟨by decide +kernel, by decide +kernel⟩, List.mem_of_getElem? (i := 659) (by decide +kernel), List.mem_of_getElem? (i := 928) (by decide +kernel), List.mem_of_getElem? (i := 929) (by decide +kernel)⟩
theorem lw_p43 : lw_okq (⟨"ParishRaffleModel", "envies", "(II)Z"⟩, 20) := ⟨⟨by decide +kernel, by decide +kernel⟩, List.mem_of_getElem? (i := 659) (by decide +kernel), List.mem_of_getElem? (i := 936) (by decide +kernel), List.mem_of_getElem? (i := 937) (by decide +kernel)⟩
theorem lw_p44 : lw_okq (⟨"ParishRaffleModel", "turn", "(I)V"⟩, 20) := ⟨⟨by decide +kernel, by decide +kernel⟩, List.mem_of_getElem? (i := 659) (by decide +kernel), List.mem_of_getElem? (i := 969) (by decide +kernel), List.mem_of_getElem? (i := 970) (by decide +kernel)⟩
def lw_privs_3 : List (MethodName × Nat) := [(⟨"ParishRaffleModel", "readLike", "()V"⟩, 20), (⟨"ParishRaffleModel", "isPerson", "(I)Z"⟩, 20), (⟨"ParishRaffleModel", "hadBy", "([II)I"⟩, 20), (⟨"ParishRaffleModel", "worthOf", "(II)I"⟩, 20), (⟨"ParishRaffleModel", "isThing", "(I)Z"⟩, 20), (⟨"ParishRaffleModel", "know", "()V"⟩, 20), (⟨"ParishRaffleModel", "drawn", "(II)I"⟩, 20), (⟨"ParishRaffleModel", "thingsHad", "([I)I"⟩, 20), (⟨"ParishRaffleModel", "take", "()V"⟩, 20), (⟨"ParishRaffleModel", "dealBy", "(I)V"⟩, 20), (⟨"ParishRaffleModel", "worthOfAll", "([I)I"⟩, 20), (⟨"ParishRaffleModel", "envies", "(II)Z"⟩, 20), (⟨"ParishRaffleModel", "turn", "(I)V"⟩, 20)]
theorem lw_r3 : ∀ q ∈ lw_privs_3, lw_okq q := List.forall_mem_cons.mpr ⟨lw_p32, List.forall_mem_cons.mpr ⟨lw_p33, List.forall_mem_cons.mpr ⟨lw_p34, List.forall_mem_cons.mpr ⟨lw_p35, List.forall_mem_cons.mpr ⟨lw_p36, List.forall_mem_cons.mpr ⟨lw_p37, List.forall_mem_cons.mpr ⟨lw_p38, List.forall_mem_cons.mpr ⟨lw_p39, List.forall_mem_cons.mpr ⟨lw_p40, List.forall_mem_cons.mpr ⟨lw_p41, List.forall_mem_cons.mpr ⟨lw_p42, List.forall_mem_cons.mpr ⟨lw_p43, List.forall_mem_cons.mpr ⟨lw_p44, fun _ h => absurd h List.not_mem_nil⟩⟩⟩⟩⟩⟩⟩⟩⟩⟩⟩⟩⟩
def lw_privs : List (MethodName × Nat) := lw_privs_1 ++ (lw_privs_2 ++ (lw_privs_3))
def lw_tbl : List Cond := k2_sels lw_privs ++ tables_1
theorem lw_privs_ok : ∀ q ∈ lw_privs, lw_okq q := by
  show ∀ q ∈ lw_privs_1 ++ (lw_privs_2 ++ (lw_privs_3)), lw_okq q
  exact List.forall_mem_append.mpr ⟨lw_r1, List.forall_mem_append.mpr ⟨lw_r2, lw_r3⟩⟩
end
section
def RX0 : String := "ParishRaffle$Barter"
def TX0 : u_T := fun k => match k with
  | 0 => ("ParishRaffle$Barter", "gains", "[I", true)
  | 1 => ("ParishRaffle$Barter", "best", "[I", true)
  | _ => ("ParishRaffle$Barter", "envied", "[I", true)
def tyX0 : Nat → FieldType := fun k => match k with
  | 0 => .array .int
  | 1 => .array .int
  | _ => .array .int
abbrev wsX00 : List Cond := u_ws RX0 TX0 3
theorem nmX0 : ∀ a, a < 3 → ∀ b, b < 3 → a ≠ b → (TX0 a).2.1 ≠ (TX0 b).2.1 := by decide +kernel
theorem tyX0_ok : ∀ k, k < 3 → parseFieldDescriptor (TX0 k).2.2.1 = some (tyX0 k) := by decide +kernel
abbrev cX0_init : ByteArray := prog_2_method_1_code
def yX0_init : MethodName := ⟨RX0, "<init>", "()V"⟩
abbrev cX0_firstSwap : ByteArray := prog_2_method_2_code
def yX0_firstSwap : MethodName := ⟨RX0, "firstSwap", "(LParishRaffle$Parish;LParishRaffle$Stand;)I"⟩
abbrev cX0_bothGain : ByteArray := prog_2_method_3_code
def yX0_bothGain : MethodName := ⟨RX0, "bothGain", "(LParishRaffle$Parish;LParishRaffle$Stand;II)Z"⟩
abbrev cX0_change : ByteArray := prog_2_method_4_code
def yX0_change : MethodName := ⟨RX0, "change", "(LParishRaffle$Parish;LParishRaffle$Stand;II)I"⟩
abbrev cX0_firstGift : ByteArray := prog_2_method_5_code
def yX0_firstGift : MethodName := ⟨RX0, "firstGift", "(LParishRaffle$Parish;LParishRaffle$Stand;)I"⟩
abbrev cX0_isGoodGift : ByteArray := prog_2_method_6_code
def yX0_isGoodGift : MethodName := ⟨RX0, "isGoodGift", "(LParishRaffle$Parish;LParishRaffle$Stand;II)Z"⟩
abbrev cX0_bestSum : ByteArray := prog_2_method_7_code
def yX0_bestSum : MethodName := ⟨RX0, "bestSum", "(LParishRaffle$Parish;LParishRaffle$Stand;)I"⟩
abbrev cX0_bestOwner : ByteArray := prog_2_method_8_code
def yX0_bestOwner : MethodName := ⟨RX0, "bestOwner", "(LParishRaffle$Parish;LParishRaffle$Stand;I)I"⟩
abbrev cX0_bestSharing : ByteArray := prog_2_method_9_code
def yX0_bestSharing : MethodName := ⟨RX0, "bestSharing", "(LParishRaffle$Parish;I)I"⟩
abbrev cX0_tellGains : ByteArray := prog_2_method_10_code
def yX0_tellGains : MethodName := ⟨RX0, "tellGains", "(LParishRaffle$Parish;II)V"⟩
abbrev cX0_bestWith : ByteArray := prog_2_method_11_code
def yX0_bestWith : MethodName := ⟨RX0, "bestWith", "(I)I"⟩
abbrev cX0_placeOf : ByteArray := prog_2_method_12_code
def yX0_placeOf : MethodName := ⟨RX0, "placeOf", "(I)I"⟩
abbrev cX0_sumIn : ByteArray := prog_2_method_13_code
def yX0_sumIn : MethodName := ⟨RX0, "sumIn", "(I)I"⟩
abbrev cX0_firstEnvy : ByteArray := prog_2_method_14_code
def yX0_firstEnvy : MethodName := ⟨RX0, "firstEnvy", "(LParishRaffle$Parish;LParishRaffle$Stand;)I"⟩
abbrev cX0_envies : ByteArray := prog_2_method_15_code
def yX0_envies : MethodName := ⟨RX0, "envies", "(LParishRaffle$Parish;LParishRaffle$Stand;II)Z"⟩
abbrev cX0_shortestRing : ByteArray := prog_2_method_16_code
def yX0_shortestRing : MethodName := ⟨RX0, "shortestRing", "(LParishRaffle$Parish;LParishRaffle$Stand;)I"⟩
abbrev cX0_tellEnvied : ByteArray := prog_2_method_17_code
def yX0_tellEnvied : MethodName := ⟨RX0, "tellEnvied", "(LParishRaffle$Parish;LParishRaffle$Stand;)V"⟩
abbrev cX0_comesBack : ByteArray := prog_2_method_18_code
def yX0_comesBack : MethodName := ⟨RX0, "comesBack", "(LParishRaffle$Parish;II)Z"⟩
def RX1 : String := "ParishRaffle$Notes"
def TX1 : u_T := fun k => match k with
  | 0 => ("ParishRaffle$Notes", "drawn", "[I", true)
  | _ => ("ParishRaffle$Notes", "size", "I", false)
def tyX1 : Nat → FieldType := fun k => match k with
  | 0 => .array .int
  | _ => .int
abbrev wsX10 : List Cond := u_ws RX1 TX1 2
theorem nmX1 : ∀ a, a < 2 → ∀ b, b < 2 → a ≠ b → (TX1 a).2.1 ≠ (TX1 b).2.1 := by decide +kernel
theorem tyX1_ok : ∀ k, k < 2 → parseFieldDescriptor (TX1 k).2.2.1 = some (tyX1 k) := by decide +kernel
abbrev cX1_init : ByteArray := prog_3_method_1_code
def yX1_init : MethodName := ⟨RX1, "<init>", "()V"⟩
abbrev cX1_add : ByteArray := prog_3_method_2_code
def yX1_add : MethodName := ⟨RX1, "add", "(I)V"⟩
abbrev cX1_clear : ByteArray := prog_3_method_3_code
def yX1_clear : MethodName := ⟨RX1, "clear", "()V"⟩
abbrev cX1_canBe : ByteArray := prog_3_method_4_code
def yX1_canBe : MethodName := ⟨RX1, "canBe", "(LParishRaffle$Parish;)Z"⟩
abbrev cX1_loadedWeight : ByteArray := prog_3_method_5_code
def yX1_loadedWeight : MethodName := ⟨RX1, "loadedWeight", "(LParishRaffle$Parish;I)J"⟩
abbrev cX1_evenWeight : ByteArray := prog_3_method_6_code
def yX1_evenWeight : MethodName := ⟨RX1, "evenWeight", "(LParishRaffle$Parish;I)J"⟩
abbrev cX1_power : ByteArray := prog_3_method_7_code
def yX1_power : MethodName := ⟨RX1, "power", "(JI)J"⟩
def RX2 : String := "ParishRaffle$Parish"
def TX2 : u_T := fun k => match k with
  | 0 => ("ParishRaffle$Parish", "tickets", "[I", true)
  | 1 => ("ParishRaffle$Parish", "kinds", "[I", true)
  | 2 => ("ParishRaffle$Parish", "worths", "[I", true)
  | 3 => ("ParishRaffle$Parish", "likings", "[I", true)
  | 4 => ("ParishRaffle$Parish", "rows", "[J", true)
  | 5 => ("ParishRaffle$Parish", "persons", "I", false)
  | _ => ("ParishRaffle$Parish", "things", "I", false)
def tyX2 : Nat → FieldType := fun k => match k with
  | 0 => .array .int
  | 1 => .array .int
  | 2 => .array .int
  | 3 => .array .int
  | 4 => .array .long
  | 5 => .int
  | _ => .int
abbrev wsX20 : List Cond := u_ws RX2 TX2 7
theorem nmX2 : ∀ a, a < 7 → ∀ b, b < 7 → a ≠ b → (TX2 a).2.1 ≠ (TX2 b).2.1 := by decide +kernel
theorem tyX2_ok : ∀ k, k < 7 → parseFieldDescriptor (TX2 k).2.2.1 = some (tyX2 k) := by decide +kernel
abbrev cX2_init : ByteArray := prog_4_method_1_code
def yX2_init : MethodName := ⟨RX2, "<init>", "()V"⟩
abbrev cX2_clear : ByteArray := prog_4_method_2_code
def yX2_clear : MethodName := ⟨RX2, "clear", "()V"⟩
abbrev cX2_isPerson : ByteArray := prog_4_method_3_code
def yX2_isPerson : MethodName := ⟨RX2, "isPerson", "(I)Z"⟩
abbrev cX2_isThing : ByteArray := prog_4_method_4_code
def yX2_isThing : MethodName := ⟨RX2, "isThing", "(I)Z"⟩
abbrev cX2_addPerson : ByteArray := prog_4_method_5_code
def yX2_addPerson : MethodName := ⟨RX2, "addPerson", "(I)Z"⟩
abbrev cX2_addThing : ByteArray := prog_4_method_6_code
def yX2_addThing : MethodName := ⟨RX2, "addThing", "(II)Z"⟩
abbrev cX2_addLiking : ByteArray := prog_4_method_7_code
def yX2_addLiking : MethodName := ⟨RX2, "addLiking", "(III)Z"⟩
abbrev cX2_likingOf : ByteArray := prog_4_method_8_code
def yX2_likingOf : MethodName := ⟨RX2, "likingOf", "(II)I"⟩
abbrev cX2_allTickets : ByteArray := prog_4_method_9_code
def yX2_allTickets : MethodName := ⟨RX2, "allTickets", "()I"⟩
abbrev cX2_worthTo : ByteArray := prog_4_method_10_code
def yX2_worthTo : MethodName := ⟨RX2, "worthTo", "(II)I"⟩
abbrev cX2_countOf : ByteArray := prog_4_method_11_code
def yX2_countOf : MethodName := ⟨RX2, "countOf", "(II)I"⟩
abbrev cX2_ownWorth : ByteArray := prog_4_method_12_code
def yX2_ownWorth : MethodName := ⟨RX2, "ownWorth", "(III)I"⟩
abbrev cX2_rowsOf : ByteArray := prog_4_method_13_code
def yX2_rowsOf : MethodName := ⟨RX2, "rowsOf", "(I)J"⟩
def RX3 : String := "ParishRaffle$Stand"
def TX3 : u_T := fun k => match k with
  | _ => ("ParishRaffle$Stand", "cells", "[I", true)
def tyX3 : Nat → FieldType := fun k => match k with
  | _ => .array .int
abbrev wsX30 : List Cond := u_ws RX3 TX3 1
theorem nmX3 : ∀ a, a < 1 → ∀ b, b < 1 → a ≠ b → (TX3 a).2.1 ≠ (TX3 b).2.1 := by decide +kernel
theorem tyX3_ok : ∀ k, k < 1 → parseFieldDescriptor (TX3 k).2.2.1 = some (tyX3 k) := by decide +kernel
abbrev cX3_init : ByteArray := prog_5_method_1_code
def yX3_init : MethodName := ⟨RX3, "<init>", "()V"⟩
abbrev cX3_start : ByteArray := prog_5_method_2_code
def yX3_start : MethodName := ⟨RX3, "start", "(LParishRaffle$Parish;)V"⟩
abbrev cX3_copy : ByteArray := prog_5_method_3_code
def yX3_copy : MethodName := ⟨RX3, "copy", "(LParishRaffle$Stand;)V"⟩
abbrev cX3_ticketsOf : ByteArray := prog_5_method_4_code
def yX3_ticketsOf : MethodName := ⟨RX3, "ticketsOf", "(I)I"⟩
abbrev cX3_ownerOf : ByteArray := prog_5_method_5_code
def yX3_ownerOf : MethodName := ⟨RX3, "ownerOf", "(I)I"⟩
abbrev cX3_next : ByteArray := prog_5_method_6_code
def yX3_next : MethodName := ⟨RX3, "next", "()I"⟩
abbrev cX3_refusable : ByteArray := prog_5_method_7_code
def yX3_refusable : MethodName := ⟨RX3, "refusable", "()I"⟩
abbrev cX3_tickets : ByteArray := prog_5_method_8_code
def yX3_tickets : MethodName := ⟨RX3, "tickets", "()I"⟩
abbrev cX3_ticketHolder : ByteArray := prog_5_method_9_code
def yX3_ticketHolder : MethodName := ⟨RX3, "ticketHolder", "(I)I"⟩
abbrev cX3_setOf : ByteArray := prog_5_method_10_code
def yX3_setOf : MethodName := ⟨RX3, "setOf", "(I)I"⟩
abbrev cX3_ownedSet : ByteArray := prog_5_method_11_code
def yX3_ownedSet : MethodName := ⟨RX3, "ownedSet", "()I"⟩
abbrev cX3_ownedThings : ByteArray := prog_5_method_12_code
def yX3_ownedThings : MethodName := ⟨RX3, "ownedThings", "()I"⟩
abbrev cX3_takeNext : ByteArray := prog_5_method_13_code
def yX3_takeNext : MethodName := ⟨RX3, "takeNext", "(I)V"⟩
abbrev cX3_putBack : ByteArray := prog_5_method_14_code
def yX3_putBack : MethodName := ⟨RX3, "putBack", "(I)V"⟩
abbrev cX3_addTickets : ByteArray := prog_5_method_15_code
def yX3_addTickets : MethodName := ⟨RX3, "addTickets", "(II)V"⟩
abbrev cX3_pass : ByteArray := prog_5_method_16_code
def yX3_pass : MethodName := ⟨RX3, "pass", "(II)V"⟩
def RX4 : String := "ParishRaffle$Stands"
def TX4 : u_T := fun k => match k with
  | 0 => ("ParishRaffle$Stands", "rows", "[I", true)
  | 1 => ("ParishRaffle$Stands", "room", "I", true)
  | _ => ("ParishRaffle$Stands", "size", "I", false)
def tyX4 : Nat → FieldType := fun k => match k with
  | 0 => .array .int
  | 1 => .int
  | _ => .int
abbrev wsX40 : List Cond := u_ws RX4 TX4 3
theorem nmX4 : ∀ a, a < 3 → ∀ b, b < 3 → a ≠ b → (TX4 a).2.1 ≠ (TX4 b).2.1 := by decide +kernel
theorem tyX4_ok : ∀ k, k < 3 → parseFieldDescriptor (TX4 k).2.2.1 = some (tyX4 k) := by decide +kernel
abbrev cX4_init : ByteArray := prog_6_method_1_code
def yX4_init : MethodName := ⟨RX4, "<init>", "(I)V"⟩
abbrev cX4_isFull : ByteArray := prog_6_method_2_code
def yX4_isFull : MethodName := ⟨RX4, "isFull", "()Z"⟩
abbrev cX4_clear : ByteArray := prog_6_method_3_code
def yX4_clear : MethodName := ⟨RX4, "clear", "()V"⟩
abbrev cX4_push : ByteArray := prog_6_method_4_code
def yX4_push : MethodName := ⟨RX4, "push", "(LParishRaffle$Stand;)V"⟩
abbrev cX4_pop : ByteArray := prog_6_method_5_code
def yX4_pop : MethodName := ⟨RX4, "pop", "(LParishRaffle$Stand;)Z"⟩
def RX5 : String := "ParishRaffle$Text"
def TX5 : u_T := fun k => match k with
  | 0 => ("ParishRaffle$Text", "letters", "[C", true)
  | 1 => ("ParishRaffle$Text", "numbers", "[I", true)
  | 2 => ("ParishRaffle$Text", "length", "I", false)
  | _ => ("ParishRaffle$Text", "at", "I", false)
def tyX5 : Nat → FieldType := fun k => match k with
  | 0 => .array .char
  | 1 => .array .int
  | 2 => .int
  | _ => .int
abbrev wsX50 : List Cond := u_ws RX5 TX5 4
theorem nmX5 : ∀ a, a < 4 → ∀ b, b < 4 → a ≠ b → (TX5 a).2.1 ≠ (TX5 b).2.1 := by decide +kernel
theorem tyX5_ok : ∀ k, k < 4 → parseFieldDescriptor (TX5 k).2.2.1 = some (tyX5 k) := by decide +kernel
abbrev cX5_init : ByteArray := prog_7_method_1_code
def yX5_init : MethodName := ⟨RX5, "<init>", "()V"⟩
abbrev cX5_append : ByteArray := prog_7_method_2_code
def yX5_append : MethodName := ⟨RX5, "append", "(C)Z"⟩
abbrev cX5_clear : ByteArray := prog_7_method_3_code
def yX5_clear : MethodName := ⟨RX5, "clear", "()V"⟩
abbrev cX5_tell : ByteArray := prog_7_method_4_code
def yX5_tell : MethodName := ⟨RX5, "tell", "(LParishRaffle$Parish;)I"⟩
abbrev cX5_tellItem : ByteArray := prog_7_method_5_code
def yX5_tellItem : MethodName := ⟨RX5, "tellItem", "(LParishRaffle$Parish;)Z"⟩
abbrev cX5_readNumbers : ByteArray := prog_7_method_6_code
def yX5_readNumbers : MethodName := ⟨RX5, "readNumbers", "(I)Z"⟩
abbrev cX5_isFigure : ByteArray := prog_7_method_7_code
def yX5_isFigure : MethodName := ⟨RX5, "isFigure", "()Z"⟩
abbrev cX5_nextLetter : ByteArray := prog_7_method_8_code
def yX5_nextLetter : MethodName := ⟨RX5, "nextLetter", "()I"⟩
def RX6 : String := "ParishRaffle"
def TX6 : u_T := fun k => match k with
  | 0 => ("ParishRaffle", "text", "LParishRaffle$Text;", true)
  | 1 => ("ParishRaffle", "now", "LParishRaffle$Stand;", true)
  | 2 => ("ParishRaffle", "trial", "LParishRaffle$Stand;", true)
  | 3 => ("ParishRaffle", "past", "LParishRaffle$Stands;", true)
  | 4 => ("ParishRaffle", "kept", "LParishRaffle$Stands;", true)
  | 5 => ("ParishRaffle", "notes", "LParishRaffle$Notes;", true)
  | 6 => ("ParishRaffle", "barter", "LParishRaffle$Barter;", true)
  | 7 => ("ParishRaffle", "parish", "LParishRaffle$Parish;", false)
  | _ => ("ParishRaffle", "spare", "LParishRaffle$Parish;", false)
def tyX6 : Nat → FieldType := fun k => match k with
  | 0 => .object "ParishRaffle$Text"
  | 1 => .object "ParishRaffle$Stand"
  | 2 => .object "ParishRaffle$Stand"
  | 3 => .object "ParishRaffle$Stands"
  | 4 => .object "ParishRaffle$Stands"
  | 5 => .object "ParishRaffle$Notes"
  | 6 => .object "ParishRaffle$Barter"
  | 7 => .object "ParishRaffle$Parish"
  | _ => .object "ParishRaffle$Parish"
abbrev wsX60 : List Cond := u_ws RX6 TX6 9
theorem nmX6 : ∀ a, a < 9 → ∀ b, b < 9 → a ≠ b → (TX6 a).2.1 ≠ (TX6 b).2.1 := by decide +kernel
theorem tyX6_ok : ∀ k, k < 9 → parseFieldDescriptor (TX6 k).2.2.1 = some (tyX6 k) := by decide +kernel
abbrev cX6_init : ByteArray := prog_1_method_1_code
def yX6_init : MethodName := ⟨RX6, "<init>", "()V"⟩
abbrev cX6_write : ByteArray := prog_1_method_2_code
def yX6_write : MethodName := ⟨RX6, "write", "(I)I"⟩
abbrev cX6_wipe : ByteArray := prog_1_method_3_code
def yX6_wipe : MethodName := ⟨RX6, "wipe", "()I"⟩
abbrev cX6_fault : ByteArray := prog_1_method_4_code
def yX6_fault : MethodName := ⟨RX6, "fault", "()I"⟩
abbrev cX6_lay : ByteArray := prog_1_method_5_code
def yX6_lay : MethodName := ⟨RX6, "lay", "()I"⟩
abbrev cX6_person : ByteArray := prog_1_method_6_code
def yX6_person : MethodName := ⟨RX6, "person", "(II)I"⟩
abbrev cX6_thing : ByteArray := prog_1_method_7_code
def yX6_thing : MethodName := ⟨RX6, "thing", "(II)I"⟩
abbrev cX6_likes : ByteArray := prog_1_method_8_code
def yX6_likes : MethodName := ⟨RX6, "likes", "(II)I"⟩
abbrev cX6_draw : ByteArray := prog_1_method_9_code
def yX6_draw : MethodName := ⟨RX6, "draw", "(I)I"⟩
abbrev cX6_refuse : ByteArray := prog_1_method_10_code
def yX6_refuse : MethodName := ⟨RX6, "refuse", "()I"⟩
abbrev cX6_buy : ByteArray := prog_1_method_11_code
def yX6_buy : MethodName := ⟨RX6, "buy", "(II)I"⟩
abbrev cX6_hand : ByteArray := prog_1_method_12_code
def yX6_hand : MethodName := ⟨RX6, "hand", "(II)I"⟩
abbrev cX6_swap : ByteArray := prog_1_method_13_code
def yX6_swap : MethodName := ⟨RX6, "swap", "(II)I"⟩
abbrev cX6_give : ByteArray := prog_1_method_14_code
def yX6_give : MethodName := ⟨RX6, "give", "(II)I"⟩
abbrev cX6_undo : ByteArray := prog_1_method_15_code
def yX6_undo : MethodName := ⟨RX6, "undo", "()I"⟩
abbrev cX6_wins : ByteArray := prog_1_method_16_code
def yX6_wins : MethodName := ⟨RX6, "wins", "(III)I"⟩
abbrev cX6_mean : ByteArray := prog_1_method_17_code
def yX6_mean : MethodName := ⟨RX6, "mean", "(II)J"⟩
abbrev cX6_needs : ByteArray := prog_1_method_18_code
def yX6_needs : MethodName := ⟨RX6, "needs", "(III)I"⟩
abbrev cX6_swaps : ByteArray := prog_1_method_19_code
def yX6_swaps : MethodName := ⟨RX6, "swaps", "()I"⟩
abbrev cX6_gives : ByteArray := prog_1_method_20_code
def yX6_gives : MethodName := ⟨RX6, "gives", "()I"⟩
abbrev cX6_share : ByteArray := prog_1_method_21_code
def yX6_share : MethodName := ⟨RX6, "share", "(I)I"⟩
abbrev cX6_envy : ByteArray := prog_1_method_22_code
def yX6_envy : MethodName := ⟨RX6, "envy", "()I"⟩
abbrev cX6_ring : ByteArray := prog_1_method_23_code
def yX6_ring : MethodName := ⟨RX6, "ring", "()I"⟩
abbrev cX6_note : ByteArray := prog_1_method_24_code
def yX6_note : MethodName := ⟨RX6, "note", "(I)I"⟩
abbrev cX6_forget : ByteArray := prog_1_method_25_code
def yX6_forget : MethodName := ⟨RX6, "forget", "()I"⟩
abbrev cX6_fair : ByteArray := prog_1_method_26_code
def yX6_fair : MethodName := ⟨RX6, "fair", "(III)J"⟩
abbrev cX6_seats : ByteArray := prog_1_method_27_code
def yX6_seats : MethodName := ⟨RX6, "seats", "(I)J"⟩
abbrev cX6_year : ByteArray := prog_1_method_28_code
def yX6_year : MethodName := ⟨RX6, "year", "(III)I"⟩
abbrev cX6_keep : ByteArray := prog_1_method_29_code
def yX6_keep : MethodName := ⟨RX6, "keep", "()I"⟩
abbrev cX6_back : ByteArray := prog_1_method_30_code
def yX6_back : MethodName := ⟨RX6, "back", "()I"⟩
abbrev cX6_count : ByteArray := prog_1_method_31_code
def yX6_count : MethodName := ⟨RX6, "count", "(I)I"⟩
abbrev cX6_isPart : ByteArray := prog_1_method_32_code
def yX6_isPart : MethodName := ⟨RX6, "isPart", "(I)Z"⟩
abbrev cX6_drawsAhead : ByteArray := prog_1_method_33_code
def yX6_drawsAhead : MethodName := ⟨RX6, "drawsAhead", "(II)I"⟩
abbrev cX6_worthOverWays : ByteArray := prog_1_method_34_code
def yX6_worthOverWays : MethodName := ⟨RX6, "worthOverWays", "(III)J"⟩
abbrev cX6_worthOfAll : ByteArray := prog_1_method_35_code
def yX6_worthOfAll : MethodName := ⟨RX6, "worthOfAll", "(LParishRaffle$Stand;)I"⟩
abbrev cX6_takeTurn : ByteArray := prog_1_method_36_code
def yX6_takeTurn : MethodName := ⟨RX6, "takeTurn", "(I)V"⟩
abbrev cX6_tryDraw : ByteArray := prog_1_method_37_code
def yX6_tryDraw : MethodName := ⟨RX6, "tryDraw", "(I)V"⟩
abbrev cX6_tryBuy : ByteArray := prog_1_method_38_code
def yX6_tryBuy : MethodName := ⟨RX6, "tryBuy", "(II)V"⟩
abbrev cX6_tryGive : ByteArray := prog_1_method_39_code
def yX6_tryGive : MethodName := ⟨RX6, "tryGive", "(II)V"⟩
abbrev cX6_falling : ByteArray := prog_1_method_40_code
def yX6_falling : MethodName := ⟨RX6, "falling", "(II)J"⟩
abbrev cX6_lowest : ByteArray := prog_1_method_41_code
def yX6_lowest : MethodName := ⟨RX6, "lowest", "(JJI)J"⟩
abbrev cX6_commonDivisor : ByteArray := prog_1_method_42_code
def yX6_commonDivisor : MethodName := ⟨RX6, "commonDivisor", "(JJ)J"⟩
def RX7 : String := "ParishRaffleModel"
def TX7 : u_T := fun k => match k with
  | 0 => ("ParishRaffleModel", "text", "[B", true)
  | 1 => ("ParishRaffleModel", "typed", "I", false)
  | 2 => ("ParishRaffleModel", "people", "[I", true)
  | 3 => ("ParishRaffleModel", "things", "[I", true)
  | 4 => ("ParishRaffleModel", "laid", "[I", true)
  | 5 => ("ParishRaffleModel", "kind", "[I", true)
  | 6 => ("ParishRaffleModel", "worth", "[I", true)
  | 7 => ("ParishRaffleModel", "like", "[I", true)
  | 8 => ("ParishRaffleModel", "at", "I", false)
  | 9 => ("ParishRaffleModel", "isWrong", "Z", false)
  | 10 => ("ParishRaffleModel", "now", "[I", true)
  | 11 => ("ParishRaffleModel", "before", "[I", true)
  | 12 => ("ParishRaffleModel", "many", "I", false)
  | 13 => ("ParishRaffleModel", "store", "[I", true)
  | 14 => ("ParishRaffleModel", "kept", "I", false)
  | 15 => ("ParishRaffleModel", "tried", "[I", true)
  | 16 => ("ParishRaffleModel", "noted", "[I", true)
  | 17 => ("ParishRaffleModel", "notes", "I", false)
  | 18 => ("ParishRaffleModel", "ends", "[J", true)
  | _ => ("ParishRaffleModel", "goOn", "[J", true)
def tyX7 : Nat → FieldType := fun k => match k with
  | 0 => .array .byte
  | 1 => .int
  | 2 => .array .int
  | 3 => .array .int
  | 4 => .array .int
  | 5 => .array .int
  | 6 => .array .int
  | 7 => .array .int
  | 8 => .int
  | 9 => .boolean
  | 10 => .array .int
  | 11 => .array .int
  | 12 => .int
  | 13 => .array .int
  | 14 => .int
  | 15 => .array .int
  | 16 => .array .int
  | 17 => .int
  | 18 => .array .long
  | _ => .array .long
abbrev wsX70 : List Cond := u_ws RX7 TX7 20
theorem nmX7 : ∀ a, a < 20 → ∀ b, b < 20 → a ≠ b → (TX7 a).2.1 ≠ (TX7 b).2.1 := by decide +kernel
theorem tyX7_ok : ∀ k, k < 20 → parseFieldDescriptor (TX7 k).2.2.1 = some (tyX7 k) := by decide +kernel
abbrev cX7_init : ByteArray := prog_9_method_1_code
def yX7_init : MethodName := ⟨RX7, "<init>", "()V"⟩
abbrev cX7_in : ByteArray := prog_9_method_3_code
def yX7_in : MethodName := ⟨RX7, "in", "(III)Z"⟩
abbrev cX7_has : ByteArray := prog_9_method_4_code
def yX7_has : MethodName := ⟨RX7, "has", "(II)Z"⟩
abbrev cX7_bitsOf : ByteArray := prog_9_method_5_code
def yX7_bitsOf : MethodName := ⟨RX7, "bitsOf", "(I)I"⟩
abbrev cX7_write : ByteArray := prog_9_method_6_code
def yX7_write : MethodName := ⟨RX7, "write", "(I)I"⟩
abbrev cX7_wipe : ByteArray := prog_9_method_7_code
def yX7_wipe : MethodName := ⟨RX7, "wipe", "()I"⟩
abbrev cX7_here : ByteArray := prog_9_method_8_code
def yX7_here : MethodName := ⟨RX7, "here", "()I"⟩
abbrev cX7_isFigure : ByteArray := prog_9_method_9_code
def yX7_isFigure : MethodName := ⟨RX7, "isFigure", "()Z"⟩
abbrev cX7_due : ByteArray := prog_9_method_10_code
def yX7_due : MethodName := ⟨RX7, "due", "(I)V"⟩
abbrev cX7_number : ByteArray := prog_9_method_11_code
def yX7_number : MethodName := ⟨RX7, "number", "(II)I"⟩
abbrev cX7_readPerson : ByteArray := prog_9_method_12_code
def yX7_readPerson : MethodName := ⟨RX7, "readPerson", "()V"⟩
abbrev cX7_readThing : ByteArray := prog_9_method_13_code
def yX7_readThing : MethodName := ⟨RX7, "readThing", "()V"⟩
abbrev cX7_readLike : ByteArray := prog_9_method_14_code
def yX7_readLike : MethodName := ⟨RX7, "readLike", "()V"⟩
abbrev cX7_readItem : ByteArray := prog_9_method_15_code
def yX7_readItem : MethodName := ⟨RX7, "readItem", "()V"⟩
abbrev cX7_begin : ByteArray := prog_9_method_16_code
def yX7_begin : MethodName := ⟨RX7, "begin", "()V"⟩
abbrev cX7_read : ByteArray := prog_9_method_17_code
def yX7_read : MethodName := ⟨RX7, "read", "()I"⟩
abbrev cX7_fault : ByteArray := prog_9_method_18_code
def yX7_fault : MethodName := ⟨RX7, "fault", "()I"⟩
abbrev cX7_tellPerson : ByteArray := prog_9_method_19_code
def yX7_tellPerson : MethodName := ⟨RX7, "tellPerson", "(I)V"⟩
abbrev cX7_tellThing : ByteArray := prog_9_method_20_code
def yX7_tellThing : MethodName := ⟨RX7, "tellThing", "(II)V"⟩
abbrev cX7_tellLike : ByteArray := prog_9_method_21_code
def yX7_tellLike : MethodName := ⟨RX7, "tellLike", "(III)V"⟩
abbrev cX7_first : ByteArray := prog_9_method_22_code
def yX7_first : MethodName := ⟨RX7, "first", "()V"⟩
abbrev cX7_takeDraft : ByteArray := prog_9_method_23_code
def yX7_takeDraft : MethodName := ⟨RX7, "takeDraft", "()V"⟩
abbrev cX7_lay : ByteArray := prog_9_method_24_code
def yX7_lay : MethodName := ⟨RX7, "lay", "()I"⟩
abbrev cX7_take : ByteArray := prog_9_method_25_code
def yX7_take : MethodName := ⟨RX7, "take", "()V"⟩
abbrev cX7_isPerson : ByteArray := prog_9_method_26_code
def yX7_isPerson : MethodName := ⟨RX7, "isPerson", "(I)Z"⟩
abbrev cX7_isThing : ByteArray := prog_9_method_27_code
def yX7_isThing : MethodName := ⟨RX7, "isThing", "(I)Z"⟩
abbrev cX7_hatOf : ByteArray := prog_9_method_28_code
def yX7_hatOf : MethodName := ⟨RX7, "hatOf", "([I)I"⟩
abbrev cX7_hadBy : ByteArray := prog_9_method_29_code
def yX7_hadBy : MethodName := ⟨RX7, "hadBy", "([II)I"⟩
abbrev cX7_worthOf : ByteArray := prog_9_method_30_code
def yX7_worthOf : MethodName := ⟨RX7, "worthOf", "(II)I"⟩
abbrev cX7_worthOfAll : ByteArray := prog_9_method_31_code
def yX7_worthOfAll : MethodName := ⟨RX7, "worthOfAll", "([I)I"⟩
abbrev cX7_thingsHad : ByteArray := prog_9_method_32_code
def yX7_thingsHad : MethodName := ⟨RX7, "thingsHad", "([I)I"⟩
abbrev cX7_person : ByteArray := prog_9_method_33_code
def yX7_person : MethodName := ⟨RX7, "person", "(II)I"⟩
abbrev cX7_thing : ByteArray := prog_9_method_34_code
def yX7_thing : MethodName := ⟨RX7, "thing", "(II)I"⟩
abbrev cX7_likes : ByteArray := prog_9_method_35_code
def yX7_likes : MethodName := ⟨RX7, "likes", "(II)I"⟩
abbrev cX7_know : ByteArray := prog_9_method_36_code
def yX7_know : MethodName := ⟨RX7, "know", "()V"⟩
abbrev cX7_drawOn : ByteArray := prog_9_method_37_code
def yX7_drawOn : MethodName := ⟨RX7, "drawOn", "([II)I"⟩
abbrev cX7_touch : ByteArray := prog_9_method_38_code
def yX7_touch : MethodName := ⟨RX7, "touch", "([II)V"⟩
abbrev cX7_draw : ByteArray := prog_9_method_39_code
def yX7_draw : MethodName := ⟨RX7, "draw", "(I)I"⟩
abbrev cX7_refuse : ByteArray := prog_9_method_40_code
def yX7_refuse : MethodName := ⟨RX7, "refuse", "()I"⟩
abbrev cX7_buy : ByteArray := prog_9_method_41_code
def yX7_buy : MethodName := ⟨RX7, "buy", "(II)I"⟩
abbrev cX7_hand : ByteArray := prog_9_method_42_code
def yX7_hand : MethodName := ⟨RX7, "hand", "(II)I"⟩
abbrev cX7_swap : ByteArray := prog_9_method_43_code
def yX7_swap : MethodName := ⟨RX7, "swap", "(II)I"⟩
abbrev cX7_give : ByteArray := prog_9_method_44_code
def yX7_give : MethodName := ⟨RX7, "give", "(II)I"⟩
abbrev cX7_undo : ByteArray := prog_9_method_45_code
def yX7_undo : MethodName := ⟨RX7, "undo", "()I"⟩
abbrev cX7_common : ByteArray := prog_9_method_46_code
def yX7_common : MethodName := ⟨RX7, "common", "(JJ)J"⟩
abbrev cX7_rows : ByteArray := prog_9_method_47_code
def yX7_rows : MethodName := ⟨RX7, "rows", "(II)J"⟩
abbrev cX7_drawn : ByteArray := prog_9_method_48_code
def yX7_drawn : MethodName := ⟨RX7, "drawn", "(II)I"⟩
abbrev cX7_wins : ByteArray := prog_9_method_49_code
def yX7_wins : MethodName := ⟨RX7, "wins", "(III)I"⟩
abbrev cX7_mean : ByteArray := prog_9_method_50_code
def yX7_mean : MethodName := ⟨RX7, "mean", "(II)J"⟩
abbrev cX7_needs : ByteArray := prog_9_method_51_code
def yX7_needs : MethodName := ⟨RX7, "needs", "(III)I"⟩
abbrev cX7_swaps : ByteArray := prog_9_method_52_code
def yX7_swaps : MethodName := ⟨RX7, "swaps", "()I"⟩
abbrev cX7_gives : ByteArray := prog_9_method_53_code
def yX7_gives : MethodName := ⟨RX7, "gives", "()I"⟩
abbrev cX7_dealBy : ByteArray := prog_9_method_54_code
def yX7_dealBy : MethodName := ⟨RX7, "dealBy", "(I)V"⟩
abbrev cX7_share : ByteArray := prog_9_method_55_code
def yX7_share : MethodName := ⟨RX7, "share", "(I)I"⟩
abbrev cX7_envies : ByteArray := prog_9_method_56_code
def yX7_envies : MethodName := ⟨RX7, "envies", "(II)Z"⟩
abbrev cX7_envy : ByteArray := prog_9_method_57_code
def yX7_envy : MethodName := ⟨RX7, "envy", "()I"⟩
abbrev cX7_ring : ByteArray := prog_9_method_58_code
def yX7_ring : MethodName := ⟨RX7, "ring", "()I"⟩
abbrev cX7_note : ByteArray := prog_9_method_59_code
def yX7_note : MethodName := ⟨RX7, "note", "(I)I"⟩
abbrev cX7_forget : ByteArray := prog_9_method_60_code
def yX7_forget : MethodName := ⟨RX7, "forget", "()I"⟩
abbrev cX7_fair : ByteArray := prog_9_method_61_code
def yX7_fair : MethodName := ⟨RX7, "fair", "(III)J"⟩
abbrev cX7_seats : ByteArray := prog_9_method_62_code
def yX7_seats : MethodName := ⟨RX7, "seats", "(I)J"⟩
abbrev cX7_turn : ByteArray := prog_9_method_63_code
def yX7_turn : MethodName := ⟨RX7, "turn", "(I)V"⟩
abbrev cX7_year : ByteArray := prog_9_method_64_code
def yX7_year : MethodName := ⟨RX7, "year", "(III)I"⟩
abbrev cX7_keep : ByteArray := prog_9_method_65_code
def yX7_keep : MethodName := ⟨RX7, "keep", "()I"⟩
abbrev cX7_back : ByteArray := prog_9_method_66_code
def yX7_back : MethodName := ⟨RX7, "back", "()I"⟩
abbrev cX7_count : ByteArray := prog_9_method_67_code
def yX7_count : MethodName := ⟨RX7, "count", "(I)I"⟩
def RJx145de : String := "java/io/Serializable"
def TJx145de : u_T := fun k => match k with
  | _ => ("", "", "", false)
def tyJx145de : Nat → FieldType := fun k => match k with
  | _ => .int
abbrev wsJx145de0 : List Cond := u_ws RJx145de TJx145de 0
theorem nmJx145de : ∀ a, a < 0 → ∀ b, b < 0 → a ≠ b → (TJx145de a).2.1 ≠ (TJx145de b).2.1 := by decide +kernel
theorem tyJx145de_ok : ∀ k, k < 0 → parseFieldDescriptor (TJx145de k).2.2.1 = some (tyJx145de k) := by decide +kernel
def RJx9f9b0 : String := "java/lang/CharSequence"
def TJx9f9b0 : u_T := fun k => match k with
  | _ => ("", "", "", false)
def tyJx9f9b0 : Nat → FieldType := fun k => match k with
  | _ => .int
abbrev wsJx9f9b00 : List Cond := u_ws RJx9f9b0 TJx9f9b0 0
theorem nmJx9f9b0 : ∀ a, a < 0 → ∀ b, b < 0 → a ≠ b → (TJx9f9b0 a).2.1 ≠ (TJx9f9b0 b).2.1 := by decide +kernel
theorem tyJx9f9b0_ok : ∀ k, k < 0 → parseFieldDescriptor (TJx9f9b0 k).2.2.1 = some (tyJx9f9b0 k) := by decide +kernel
def RJxb160c : String := "java/lang/Comparable"
def TJxb160c : u_T := fun k => match k with
  | _ => ("", "", "", false)
def tyJxb160c : Nat → FieldType := fun k => match k with
  | _ => .int
abbrev wsJxb160c0 : List Cond := u_ws RJxb160c TJxb160c 0
theorem nmJxb160c : ∀ a, a < 0 → ∀ b, b < 0 → a ≠ b → (TJxb160c a).2.1 ≠ (TJxb160c b).2.1 := by decide +kernel
theorem tyJxb160c_ok : ∀ k, k < 0 → parseFieldDescriptor (TJxb160c k).2.2.1 = some (tyJxb160c k) := by decide +kernel
def RJ6 : String := "java/lang/Integer"
def TJ6 : u_T := fun k => match k with
  | _ => ("", "", "", false)
def tyJ6 : Nat → FieldType := fun k => match k with
  | _ => .int
abbrev wsJ60 : List Cond := u_ws RJ6 TJ6 0
theorem nmJ6 : ∀ a, a < 0 → ∀ b, b < 0 → a ≠ b → (TJ6 a).2.1 ≠ (TJ6 b).2.1 := by decide +kernel
theorem tyJ6_ok : ∀ k, k < 0 → parseFieldDescriptor (TJ6 k).2.2.1 = some (tyJ6 k) := by decide +kernel
abbrev cJ6_bitCount_0f7a4 : ByteArray := prog_10_method_49_code
def yJ6_bitCount_0f7a4 : MethodName := ⟨RJ6, "bitCount", "(I)I"⟩
def RJ9 : String := "java/lang/Math"
def TJ9 : u_T := fun k => match k with
  | _ => ("", "", "", false)
def tyJ9 : Nat → FieldType := fun k => match k with
  | _ => .int
abbrev wsJ90 : List Cond := u_ws RJ9 TJ9 0
theorem nmJ9 : ∀ a, a < 0 → ∀ b, b < 0 → a ≠ b → (TJ9 a).2.1 ≠ (TJ9 b).2.1 := by decide +kernel
theorem tyJ9_ok : ∀ k, k < 0 → parseFieldDescriptor (TJ9 k).2.2.1 = some (tyJ9 k) := by decide +kernel
abbrev cJ9_max_7cf53 : ByteArray := prog_11_method_65_code
def yJ9_max_7cf53 : MethodName := ⟨RJ9, "max", "(II)I"⟩
abbrev cJ9_min_7cf53 : ByteArray := prog_11_method_69_code
def yJ9_min_7cf53 : MethodName := ⟨RJ9, "min", "(II)I"⟩
def RJ0 : String := "java/lang/String"
def TJ0 : u_T := fun k => match k with
  | _ => ("", "", "", false)
def tyJ0 : Nat → FieldType := fun k => match k with
  | _ => .int
abbrev wsJ00 : List Cond := u_ws RJ0 TJ0 0
theorem nmJ0 : ∀ a, a < 0 → ∀ b, b < 0 → a ≠ b → (TJ0 a).2.1 ≠ (TJ0 b).2.1 := by decide +kernel
theorem tyJ0_ok : ∀ k, k < 0 → parseFieldDescriptor (TJ0 k).2.2.1 = some (tyJ0 k) := by decide +kernel
abbrev cJ0_length_8abf5 : ByteArray := prog_12_method_54_code
def yJ0_length_8abf5 : MethodName := ⟨RJ0, "length", "()I"⟩
abbrev cJ0_charAt_5068e : ByteArray := prog_12_method_56_code
def yJ0_charAt_5068e : MethodName := ⟨RJ0, "charAt", "(I)C"⟩
abbrev cJ0_coder_7d493 : ByteArray := prog_12_method_152_code
def yJ0_coder_7d493 : MethodName := ⟨RJ0, "coder", "()B"⟩
abbrev cJ0_isLatin1_aae02 : ByteArray := prog_12_method_154_code
def yJ0_isLatin1_aae02 : MethodName := ⟨RJ0, "isLatin1", "()Z"⟩
abbrev cJ0_checkIndex_df160 : ByteArray := prog_12_method_155_code
def yJ0_checkIndex_df160 : MethodName := ⟨RJ0, "checkIndex", "(II)V"⟩
def RJ1 : String := "java/lang/StringLatin1"
def TJ1 : u_T := fun k => match k with
  | _ => ("", "", "", false)
def tyJ1 : Nat → FieldType := fun k => match k with
  | _ => .int
abbrev wsJ10 : List Cond := u_ws RJ1 TJ1 0
theorem nmJ1 : ∀ a, a < 0 → ∀ b, b < 0 → a ≠ b → (TJ1 a).2.1 ≠ (TJ1 b).2.1 := by decide +kernel
theorem tyJ1_ok : ∀ k, k < 0 → parseFieldDescriptor (TJ1 k).2.2.1 = some (tyJ1 k) := by decide +kernel
abbrev cJ1_charAt_3b067 : ByteArray := prog_13_method_2_code
def yJ1_charAt_3b067 : MethodName := ⟨RJ1, "charAt", "([BI)C"⟩
def RJ2 : String := "java/lang/StringUTF16"
def TJ2 : u_T := fun k => match k with
  | _ => ("", "", "", false)
def tyJ2 : Nat → FieldType := fun k => match k with
  | _ => .int
abbrev wsJ20 : List Cond := u_ws RJ2 TJ2 0
theorem nmJ2 : ∀ a, a < 0 → ∀ b, b < 0 → a ≠ b → (TJ2 a).2.1 ≠ (TJ2 b).2.1 := by decide +kernel
theorem tyJ2_ok : ∀ k, k < 0 → parseFieldDescriptor (TJ2 k).2.2.1 = some (tyJ2 k) := by decide +kernel
abbrev cJ2_getChar_3b067 : ByteArray := prog_14_method_5_code
def yJ2_getChar_3b067 : MethodName := ⟨RJ2, "getChar", "([BI)C"⟩
abbrev cJ2_length_9d52b : ByteArray := prog_14_method_6_code
def yJ2_length_9d52b : MethodName := ⟨RJ2, "length", "([B)I"⟩
abbrev cJ2_charAt_3b067 : ByteArray := prog_14_method_83_code
def yJ2_charAt_3b067 : MethodName := ⟨RJ2, "charAt", "([BI)C"⟩
abbrev cJ2_checkIndex_2214a : ByteArray := prog_14_method_91_code
def yJ2_checkIndex_2214a : MethodName := ⟨RJ2, "checkIndex", "(I[B)V"⟩
def RJ10 : String := "java/lang/System"
def TJ10 : u_T := fun k => match k with
  | _ => ("", "", "", false)
def tyJ10 : Nat → FieldType := fun k => match k with
  | _ => .int
abbrev wsJ100 : List Cond := u_ws RJ10 TJ10 0
theorem nmJ10 : ∀ a, a < 0 → ∀ b, b < 0 → a ≠ b → (TJ10 a).2.1 ≠ (TJ10 b).2.1 := by decide +kernel
theorem tyJ10_ok : ∀ k, k < 0 → parseFieldDescriptor (TJ10 k).2.2.1 = some (tyJ10 k) := by decide +kernel
def RJxfd54e : String := "java/lang/constant/Constable"
def TJxfd54e : u_T := fun k => match k with
  | _ => ("", "", "", false)
def tyJxfd54e : Nat → FieldType := fun k => match k with
  | _ => .int
abbrev wsJxfd54e0 : List Cond := u_ws RJxfd54e TJxfd54e 0
theorem nmJxfd54e : ∀ a, a < 0 → ∀ b, b < 0 → a ≠ b → (TJxfd54e a).2.1 ≠ (TJxfd54e b).2.1 := by decide +kernel
theorem tyJxfd54e_ok : ∀ k, k < 0 → parseFieldDescriptor (TJxfd54e k).2.2.1 = some (tyJxfd54e k) := by decide +kernel
def RJx3cf43 : String := "java/lang/constant/ConstantDesc"
def TJx3cf43 : u_T := fun k => match k with
  | _ => ("", "", "", false)
def tyJx3cf43 : Nat → FieldType := fun k => match k with
  | _ => .int
abbrev wsJx3cf430 : List Cond := u_ws RJx3cf43 TJx3cf43 0
theorem nmJx3cf43 : ∀ a, a < 0 → ∀ b, b < 0 → a ≠ b → (TJx3cf43 a).2.1 ≠ (TJx3cf43 b).2.1 := by decide +kernel
theorem tyJx3cf43_ok : ∀ k, k < 0 → parseFieldDescriptor (TJx3cf43 k).2.2.1 = some (tyJx3cf43 k) := by decide +kernel
def RJ7 : String := "java/util/Arrays"
def TJ7 : u_T := fun k => match k with
  | _ => ("", "", "", false)
def tyJ7 : Nat → FieldType := fun k => match k with
  | _ => .int
abbrev wsJ70 : List Cond := u_ws RJ7 TJ7 0
theorem nmJ7 : ∀ a, a < 0 → ∀ b, b < 0 → a ≠ b → (TJ7 a).2.1 ≠ (TJ7 b).2.1 := by decide +kernel
theorem tyJ7_ok : ∀ k, k < 0 → parseFieldDescriptor (TJ7 k).2.2.1 = some (tyJ7 k) := by decide +kernel
abbrev cJ7_fill_53178 : ByteArray := prog_16_method_103_code
def yJ7_fill_53178 : MethodName := ⟨RJ7, "fill", "([II)V"⟩
def RJ3 : String := "jdk/internal/util/Preconditions"
def TJ3 : u_T := fun k => match k with
  | _ => ("", "", "", false)
def tyJ3 : Nat → FieldType := fun k => match k with
  | _ => .int
abbrev wsJ30 : List Cond := u_ws RJ3 TJ3 0
theorem nmJ3 : ∀ a, a < 0 → ∀ b, b < 0 → a ≠ b → (TJ3 a).2.1 ≠ (TJ3 b).2.1 := by decide +kernel
theorem tyJ3_ok : ∀ k, k < 0 → parseFieldDescriptor (TJ3 k).2.2.1 = some (tyJ3 k) := by decide +kernel
abbrev cJ3_checkIndex_8e157 : ByteArray := prog_17_method_11_code
def yJ3_checkIndex_8e157 : MethodName := ⟨RJ3, "checkIndex", "(IILjava/util/function/BiFunction;)I"⟩
def RL : String := "ParishRaffleLaw"
abbrev cL_law : ByteArray := code
def yL_law : MethodName := ⟨RL, "law", "([I)Z"⟩
abbrev vwCl : List vw_C := [(RX0, TX0, 3), (RX1, TX1, 2), (RX2, TX2, 7), (RX3, TX3, 1), (RX4, TX4, 3), (RX5, TX5, 4), (RX6, TX6, 9), (RX7, TX7, 20)]
end
section
theorem dX0_init_0 : decode cX0_init 0 = .ok (.aload_n 0, 1) := by decide +kernel
theorem dX0_init_1 : decode cX0_init 1 = .ok (.invokespecial 5, 3) := by decide +kernel
theorem dX0_init_4 : decode cX0_init 4 = .ok (.aload_n 0, 1) := by decide +kernel
theorem dX0_init_5 : decode cX0_init 5 = .ok (.bipush 64, 2) := by decide +kernel
theorem dX0_init_7 : decode cX0_init 7 = .ok (.newarray .int, 2) := by decide +kernel
theorem dX0_init_9 : decode cX0_init 9 = .ok (.putfield 11, 3) := by decide +kernel
theorem dX0_init_12 : decode cX0_init 12 = .ok (.aload_n 0, 1) := by decide +kernel
theorem dX0_init_13 : decode cX0_init 13 = .ok (.bipush 64, 2) := by decide +kernel
theorem dX0_init_15 : decode cX0_init 15 = .ok (.newarray .int, 2) := by decide +kernel
theorem dX0_init_17 : decode cX0_init 17 = .ok (.putfield 15, 3) := by decide +kernel
theorem dX0_init_20 : decode cX0_init 20 = .ok (.aload_n 0, 1) := by decide +kernel
theorem dX0_init_21 : decode cX0_init 21 = .ok (.iconst 5, 1) := by decide +kernel
theorem dX0_init_22 : decode cX0_init 22 = .ok (.newarray .int, 2) := by decide +kernel
theorem dX0_init_24 : decode cX0_init 24 = .ok (.putfield 18, 3) := by decide +kernel
theorem dX0_init_27 : decode cX0_init 27 = .ok (.return_, 1) := by decide +kernel
theorem dX0_firstSwap_0 : decode cX0_firstSwap 0 = .ok (.iconst 0, 1) := by decide +kernel
theorem dX0_firstSwap_1 : decode cX0_firstSwap 1 = .ok (.istore_n 3, 1) := by decide +kernel
theorem dX0_firstSwap_2 : decode cX0_firstSwap 2 = .ok (.iload_n 3, 1) := by decide +kernel
theorem dX0_firstSwap_3 : decode cX0_firstSwap 3 = .ok (.aload_n 1, 1) := by decide +kernel
theorem dX0_firstSwap_4 : decode cX0_firstSwap 4 = .ok (.getfield 21, 3) := by decide +kernel
theorem dX0_firstSwap_7 : decode cX0_firstSwap 7 = .ok (.if_icmp .ge 48, 3) := by decide +kernel
theorem dX0_firstSwap_10 : decode cX0_firstSwap 10 = .ok (.iload_n 3, 1) := by decide +kernel
theorem dX0_firstSwap_11 : decode cX0_firstSwap 11 = .ok (.iconst 1, 1) := by decide +kernel
theorem dX0_firstSwap_12 : decode cX0_firstSwap 12 = .ok (.iadd, 1) := by decide +kernel
theorem dX0_firstSwap_13 : decode cX0_firstSwap 13 = .ok (.istore 4, 2) := by decide +kernel
theorem dX0_firstSwap_15 : decode cX0_firstSwap 15 = .ok (.iload 4, 2) := by decide +kernel
theorem dX0_firstSwap_17 : decode cX0_firstSwap 17 = .ok (.aload_n 1, 1) := by decide +kernel
theorem dX0_firstSwap_18 : decode cX0_firstSwap 18 = .ok (.getfield 21, 3) := by decide +kernel
theorem dX0_firstSwap_21 : decode cX0_firstSwap 21 = .ok (.if_icmp .ge 28, 3) := by decide +kernel
theorem dX0_firstSwap_24 : decode cX0_firstSwap 24 = .ok (.aload_n 1, 1) := by decide +kernel
theorem dX0_firstSwap_25 : decode cX0_firstSwap 25 = .ok (.aload_n 2, 1) := by decide +kernel
theorem dX0_firstSwap_26 : decode cX0_firstSwap 26 = .ok (.iload_n 3, 1) := by decide +kernel
theorem dX0_firstSwap_27 : decode cX0_firstSwap 27 = .ok (.iload 4, 2) := by decide +kernel
theorem dX0_firstSwap_29 : decode cX0_firstSwap 29 = .ok (.invokestatic 27, 3) := by decide +kernel
theorem dX0_firstSwap_32 : decode cX0_firstSwap 32 = .ok (.ifCond .eq 11, 3) := by decide +kernel
theorem dX0_firstSwap_35 : decode cX0_firstSwap 35 = .ok (.bipush 10, 2) := by decide +kernel
theorem dX0_firstSwap_37 : decode cX0_firstSwap 37 = .ok (.iload_n 3, 1) := by decide +kernel
theorem dX0_firstSwap_38 : decode cX0_firstSwap 38 = .ok (.imul, 1) := by decide +kernel
theorem dX0_firstSwap_39 : decode cX0_firstSwap 39 = .ok (.iload 4, 2) := by decide +kernel
theorem dX0_firstSwap_41 : decode cX0_firstSwap 41 = .ok (.iadd, 1) := by decide +kernel
theorem dX0_firstSwap_42 : decode cX0_firstSwap 42 = .ok (.ireturn, 1) := by decide +kernel
theorem dX0_firstSwap_43 : decode cX0_firstSwap 43 = .ok (.iinc 4 1, 3) := by decide +kernel
theorem dX0_firstSwap_46 : decode cX0_firstSwap 46 = .ok (.goto (-31), 3) := by decide +kernel
theorem dX0_firstSwap_49 : decode cX0_firstSwap 49 = .ok (.iinc 3 1, 3) := by decide +kernel
theorem dX0_firstSwap_52 : decode cX0_firstSwap 52 = .ok (.goto (-50), 3) := by decide +kernel
theorem dX0_firstSwap_55 : decode cX0_firstSwap 55 = .ok (.bipush (-4), 2) := by decide +kernel
theorem dX0_firstSwap_57 : decode cX0_firstSwap 57 = .ok (.ireturn, 1) := by decide +kernel
theorem dX0_bothGain_0 : decode cX0_bothGain 0 = .ok (.aload_n 1, 1) := by decide +kernel
theorem dX0_bothGain_1 : decode cX0_bothGain 1 = .ok (.iload_n 2, 1) := by decide +kernel
theorem dX0_bothGain_2 : decode cX0_bothGain 2 = .ok (.invokevirtual 31, 3) := by decide +kernel
theorem dX0_bothGain_5 : decode cX0_bothGain 5 = .ok (.istore 4, 2) := by decide +kernel
theorem dX0_bothGain_7 : decode cX0_bothGain 7 = .ok (.aload_n 1, 1) := by decide +kernel
theorem dX0_bothGain_8 : decode cX0_bothGain 8 = .ok (.iload_n 3, 1) := by decide +kernel
theorem dX0_bothGain_9 : decode cX0_bothGain 9 = .ok (.invokevirtual 31, 3) := by decide +kernel
theorem dX0_bothGain_12 : decode cX0_bothGain 12 = .ok (.istore 5, 2) := by decide +kernel
theorem dX0_bothGain_14 : decode cX0_bothGain 14 = .ok (.iload 4, 2) := by decide +kernel
theorem dX0_bothGain_16 : decode cX0_bothGain 16 = .ok (.bipush (-4), 2) := by decide +kernel
theorem dX0_bothGain_18 : decode cX0_bothGain 18 = .ok (.if_icmp .eq 17, 3) := by decide +kernel
theorem dX0_bothGain_21 : decode cX0_bothGain 21 = .ok (.iload 5, 2) := by decide +kernel
theorem dX0_bothGain_23 : decode cX0_bothGain 23 = .ok (.bipush (-4), 2) := by decide +kernel
theorem dX0_bothGain_25 : decode cX0_bothGain 25 = .ok (.if_icmp .eq 10, 3) := by decide +kernel
theorem dX0_bothGain_28 : decode cX0_bothGain 28 = .ok (.iload 4, 2) := by decide +kernel
theorem dX0_bothGain_30 : decode cX0_bothGain 30 = .ok (.iload 5, 2) := by decide +kernel
theorem dX0_bothGain_32 : decode cX0_bothGain 32 = .ok (.if_icmp .ne 5, 3) := by decide +kernel
theorem dX0_bothGain_35 : decode cX0_bothGain 35 = .ok (.iconst 0, 1) := by decide +kernel
theorem dX0_bothGain_36 : decode cX0_bothGain 36 = .ok (.ireturn, 1) := by decide +kernel
theorem dX0_bothGain_37 : decode cX0_bothGain 37 = .ok (.iconst 1, 1) := by decide +kernel
theorem dX0_bothGain_38 : decode cX0_bothGain 38 = .ok (.iload_n 2, 1) := by decide +kernel
theorem dX0_bothGain_39 : decode cX0_bothGain 39 = .ok (.ishl, 1) := by decide +kernel
theorem dX0_bothGain_40 : decode cX0_bothGain 40 = .ok (.iconst 1, 1) := by decide +kernel
theorem dX0_bothGain_41 : decode cX0_bothGain 41 = .ok (.iload_n 3, 1) := by decide +kernel
theorem dX0_bothGain_42 : decode cX0_bothGain 42 = .ok (.ishl, 1) := by decide +kernel
theorem dX0_bothGain_43 : decode cX0_bothGain 43 = .ok (.ior, 1) := by decide +kernel
theorem dX0_bothGain_44 : decode cX0_bothGain 44 = .ok (.istore 6, 2) := by decide +kernel
theorem dX0_bothGain_46 : decode cX0_bothGain 46 = .ok (.aload_n 0, 1) := by decide +kernel
theorem dX0_bothGain_47 : decode cX0_bothGain 47 = .ok (.aload_n 1, 1) := by decide +kernel
theorem dX0_bothGain_48 : decode cX0_bothGain 48 = .ok (.iload 4, 2) := by decide +kernel
theorem dX0_bothGain_50 : decode cX0_bothGain 50 = .ok (.iload 6, 2) := by decide +kernel
theorem dX0_bothGain_52 : decode cX0_bothGain 52 = .ok (.invokestatic 37, 3) := by decide +kernel
theorem dX0_bothGain_55 : decode cX0_bothGain 55 = .ok (.ifCond .le 19, 3) := by decide +kernel
theorem dX0_bothGain_58 : decode cX0_bothGain 58 = .ok (.aload_n 0, 1) := by decide +kernel
theorem dX0_bothGain_59 : decode cX0_bothGain 59 = .ok (.aload_n 1, 1) := by decide +kernel
theorem dX0_bothGain_60 : decode cX0_bothGain 60 = .ok (.iload 5, 2) := by decide +kernel
theorem dX0_bothGain_62 : decode cX0_bothGain 62 = .ok (.iload 6, 2) := by decide +kernel
theorem dX0_bothGain_64 : decode cX0_bothGain 64 = .ok (.invokestatic 37, 3) := by decide +kernel
theorem dX0_bothGain_67 : decode cX0_bothGain 67 = .ok (.ifCond .le 7, 3) := by decide +kernel
theorem dX0_bothGain_70 : decode cX0_bothGain 70 = .ok (.iconst 1, 1) := by decide +kernel
theorem dX0_bothGain_71 : decode cX0_bothGain 71 = .ok (.goto 4, 3) := by decide +kernel
theorem dX0_bothGain_74 : decode cX0_bothGain 74 = .ok (.iconst 0, 1) := by decide +kernel
theorem dX0_bothGain_75 : decode cX0_bothGain 75 = .ok (.ireturn, 1) := by decide +kernel
theorem dX0_change_0 : decode cX0_change 0 = .ok (.aload_n 1, 1) := by decide +kernel
theorem dX0_change_1 : decode cX0_change 1 = .ok (.iload_n 2, 1) := by decide +kernel
theorem dX0_change_2 : decode cX0_change 2 = .ok (.invokevirtual 41, 3) := by decide +kernel
theorem dX0_change_5 : decode cX0_change 5 = .ok (.istore 4, 2) := by decide +kernel
theorem dX0_change_7 : decode cX0_change 7 = .ok (.aload_n 0, 1) := by decide +kernel
theorem dX0_change_8 : decode cX0_change 8 = .ok (.iload_n 2, 1) := by decide +kernel
theorem dX0_change_9 : decode cX0_change 9 = .ok (.iload 4, 2) := by decide +kernel
theorem dX0_change_11 : decode cX0_change 11 = .ok (.iload_n 3, 1) := by decide +kernel
theorem dX0_change_12 : decode cX0_change 12 = .ok (.ixor, 1) := by decide +kernel
theorem dX0_change_13 : decode cX0_change 13 = .ok (.invokevirtual 44, 3) := by decide +kernel
theorem dX0_change_16 : decode cX0_change 16 = .ok (.aload_n 0, 1) := by decide +kernel
theorem dX0_change_17 : decode cX0_change 17 = .ok (.iload_n 2, 1) := by decide +kernel
theorem dX0_change_18 : decode cX0_change 18 = .ok (.iload 4, 2) := by decide +kernel
theorem dX0_change_20 : decode cX0_change 20 = .ok (.invokevirtual 44, 3) := by decide +kernel
theorem dX0_change_23 : decode cX0_change 23 = .ok (.isub, 1) := by decide +kernel
theorem dX0_change_24 : decode cX0_change 24 = .ok (.ireturn, 1) := by decide +kernel
theorem dX0_firstGift_0 : decode cX0_firstGift 0 = .ok (.iconst 0, 1) := by decide +kernel
theorem dX0_firstGift_1 : decode cX0_firstGift 1 = .ok (.istore_n 3, 1) := by decide +kernel
theorem dX0_firstGift_2 : decode cX0_firstGift 2 = .ok (.iload_n 3, 1) := by decide +kernel
theorem dX0_firstGift_3 : decode cX0_firstGift 3 = .ok (.aload_n 1, 1) := by decide +kernel
theorem dX0_firstGift_4 : decode cX0_firstGift 4 = .ok (.getfield 21, 3) := by decide +kernel
theorem dX0_firstGift_7 : decode cX0_firstGift 7 = .ok (.if_icmp .ge 46, 3) := by decide +kernel
theorem dX0_firstGift_10 : decode cX0_firstGift 10 = .ok (.iconst 0, 1) := by decide +kernel
theorem dX0_firstGift_11 : decode cX0_firstGift 11 = .ok (.istore 4, 2) := by decide +kernel
theorem dX0_firstGift_13 : decode cX0_firstGift 13 = .ok (.iload 4, 2) := by decide +kernel
theorem dX0_firstGift_15 : decode cX0_firstGift 15 = .ok (.aload_n 1, 1) := by decide +kernel
theorem dX0_firstGift_16 : decode cX0_firstGift 16 = .ok (.getfield 48, 3) := by decide +kernel
theorem dX0_firstGift_19 : decode cX0_firstGift 19 = .ok (.if_icmp .ge 28, 3) := by decide +kernel
theorem dX0_firstGift_22 : decode cX0_firstGift 22 = .ok (.aload_n 1, 1) := by decide +kernel
theorem dX0_firstGift_23 : decode cX0_firstGift 23 = .ok (.aload_n 2, 1) := by decide +kernel
theorem dX0_firstGift_24 : decode cX0_firstGift 24 = .ok (.iload_n 3, 1) := by decide +kernel
theorem dX0_firstGift_25 : decode cX0_firstGift 25 = .ok (.iload 4, 2) := by decide +kernel
theorem dX0_firstGift_27 : decode cX0_firstGift 27 = .ok (.invokestatic 51, 3) := by decide +kernel
theorem dX0_firstGift_30 : decode cX0_firstGift 30 = .ok (.ifCond .eq 11, 3) := by decide +kernel
theorem dX0_firstGift_33 : decode cX0_firstGift 33 = .ok (.bipush 10, 2) := by decide +kernel
theorem dX0_firstGift_35 : decode cX0_firstGift 35 = .ok (.iload_n 3, 1) := by decide +kernel
theorem dX0_firstGift_36 : decode cX0_firstGift 36 = .ok (.imul, 1) := by decide +kernel
theorem dX0_firstGift_37 : decode cX0_firstGift 37 = .ok (.iload 4, 2) := by decide +kernel
theorem dX0_firstGift_39 : decode cX0_firstGift 39 = .ok (.iadd, 1) := by decide +kernel
theorem dX0_firstGift_40 : decode cX0_firstGift 40 = .ok (.ireturn, 1) := by decide +kernel
theorem dX0_firstGift_41 : decode cX0_firstGift 41 = .ok (.iinc 4 1, 3) := by decide +kernel
theorem dX0_firstGift_44 : decode cX0_firstGift 44 = .ok (.goto (-31), 3) := by decide +kernel
theorem dX0_firstGift_47 : decode cX0_firstGift 47 = .ok (.iinc 3 1, 3) := by decide +kernel
theorem dX0_firstGift_50 : decode cX0_firstGift 50 = .ok (.goto (-48), 3) := by decide +kernel
theorem dX0_firstGift_53 : decode cX0_firstGift 53 = .ok (.bipush (-4), 2) := by decide +kernel
theorem dX0_firstGift_55 : decode cX0_firstGift 55 = .ok (.ireturn, 1) := by decide +kernel
theorem dX0_isGoodGift_0 : decode cX0_isGoodGift 0 = .ok (.aload_n 1, 1) := by decide +kernel
theorem dX0_isGoodGift_1 : decode cX0_isGoodGift 1 = .ok (.iload_n 2, 1) := by decide +kernel
theorem dX0_isGoodGift_2 : decode cX0_isGoodGift 2 = .ok (.invokevirtual 31, 3) := by decide +kernel
theorem dX0_isGoodGift_5 : decode cX0_isGoodGift 5 = .ok (.istore 4, 2) := by decide +kernel
theorem dX0_isGoodGift_7 : decode cX0_isGoodGift 7 = .ok (.iload 4, 2) := by decide +kernel
theorem dX0_isGoodGift_9 : decode cX0_isGoodGift 9 = .ok (.bipush (-4), 2) := by decide +kernel
theorem dX0_isGoodGift_11 : decode cX0_isGoodGift 11 = .ok (.if_icmp .eq 9, 3) := by decide +kernel
theorem dX0_isGoodGift_14 : decode cX0_isGoodGift 14 = .ok (.iload 4, 2) := by decide +kernel
theorem dX0_isGoodGift_16 : decode cX0_isGoodGift 16 = .ok (.iload_n 3, 1) := by decide +kernel
theorem dX0_isGoodGift_17 : decode cX0_isGoodGift 17 = .ok (.if_icmp .ne 5, 3) := by decide +kernel
theorem dX0_isGoodGift_20 : decode cX0_isGoodGift 20 = .ok (.iconst 0, 1) := by decide +kernel
theorem dX0_isGoodGift_21 : decode cX0_isGoodGift 21 = .ok (.ireturn, 1) := by decide +kernel
theorem dX0_isGoodGift_22 : decode cX0_isGoodGift 22 = .ok (.aload_n 0, 1) := by decide +kernel
theorem dX0_isGoodGift_23 : decode cX0_isGoodGift 23 = .ok (.aload_n 1, 1) := by decide +kernel
theorem dX0_isGoodGift_24 : decode cX0_isGoodGift 24 = .ok (.iload 4, 2) := by decide +kernel
theorem dX0_isGoodGift_26 : decode cX0_isGoodGift 26 = .ok (.iconst 1, 1) := by decide +kernel
theorem dX0_isGoodGift_27 : decode cX0_isGoodGift 27 = .ok (.iload_n 2, 1) := by decide +kernel
theorem dX0_isGoodGift_28 : decode cX0_isGoodGift 28 = .ok (.ishl, 1) := by decide +kernel
theorem dX0_isGoodGift_29 : decode cX0_isGoodGift 29 = .ok (.invokestatic 37, 3) := by decide +kernel
theorem dX0_isGoodGift_32 : decode cX0_isGoodGift 32 = .ok (.istore 5, 2) := by decide +kernel
theorem dX0_isGoodGift_34 : decode cX0_isGoodGift 34 = .ok (.aload_n 0, 1) := by decide +kernel
theorem dX0_isGoodGift_35 : decode cX0_isGoodGift 35 = .ok (.aload_n 1, 1) := by decide +kernel
theorem dX0_isGoodGift_36 : decode cX0_isGoodGift 36 = .ok (.iload_n 3, 1) := by decide +kernel
theorem dX0_isGoodGift_37 : decode cX0_isGoodGift 37 = .ok (.iconst 1, 1) := by decide +kernel
theorem dX0_isGoodGift_38 : decode cX0_isGoodGift 38 = .ok (.iload_n 2, 1) := by decide +kernel
theorem dX0_isGoodGift_39 : decode cX0_isGoodGift 39 = .ok (.ishl, 1) := by decide +kernel
theorem dX0_isGoodGift_40 : decode cX0_isGoodGift 40 = .ok (.invokestatic 37, 3) := by decide +kernel
theorem dX0_isGoodGift_43 : decode cX0_isGoodGift 43 = .ok (.istore 6, 2) := by decide +kernel
theorem dX0_isGoodGift_45 : decode cX0_isGoodGift 45 = .ok (.iload 5, 2) := by decide +kernel
theorem dX0_isGoodGift_47 : decode cX0_isGoodGift 47 = .ok (.ifCond .lt 20, 3) := by decide +kernel
theorem dX0_isGoodGift_50 : decode cX0_isGoodGift 50 = .ok (.iload 6, 2) := by decide +kernel
theorem dX0_isGoodGift_52 : decode cX0_isGoodGift 52 = .ok (.ifCond .lt 15, 3) := by decide +kernel
theorem dX0_isGoodGift_55 : decode cX0_isGoodGift 55 = .ok (.iload 5, 2) := by decide +kernel
theorem dX0_isGoodGift_57 : decode cX0_isGoodGift 57 = .ok (.iload 6, 2) := by decide +kernel
theorem dX0_isGoodGift_59 : decode cX0_isGoodGift 59 = .ok (.iadd, 1) := by decide +kernel
theorem dX0_isGoodGift_60 : decode cX0_isGoodGift 60 = .ok (.ifCond .le 7, 3) := by decide +kernel
theorem dX0_isGoodGift_63 : decode cX0_isGoodGift 63 = .ok (.iconst 1, 1) := by decide +kernel
theorem dX0_isGoodGift_64 : decode cX0_isGoodGift 64 = .ok (.goto 4, 3) := by decide +kernel
theorem dX0_isGoodGift_67 : decode cX0_isGoodGift 67 = .ok (.iconst 0, 1) := by decide +kernel
theorem dX0_isGoodGift_68 : decode cX0_isGoodGift 68 = .ok (.ireturn, 1) := by decide +kernel
theorem dX0_bestSum_0 : decode cX0_bestSum 0 = .ok (.aload_n 0, 1) := by decide +kernel
theorem dX0_bestSum_1 : decode cX0_bestSum 1 = .ok (.aload_n 1, 1) := by decide +kernel
theorem dX0_bestSum_2 : decode cX0_bestSum 2 = .ok (.aload_n 2, 1) := by decide +kernel
theorem dX0_bestSum_3 : decode cX0_bestSum 3 = .ok (.invokevirtual 54, 3) := by decide +kernel
theorem dX0_bestSum_6 : decode cX0_bestSum 6 = .ok (.invokevirtual 58, 3) := by decide +kernel
theorem dX0_bestSum_9 : decode cX0_bestSum 9 = .ok (.invokestatic 62, 3) := by decide +kernel
theorem dX0_bestSum_12 : decode cX0_bestSum 12 = .ok (.ireturn, 1) := by decide +kernel
theorem dX0_bestOwner_0 : decode cX0_bestOwner 0 = .ok (.aload_n 2, 1) := by decide +kernel
theorem dX0_bestOwner_1 : decode cX0_bestOwner 1 = .ok (.iload_n 3, 1) := by decide +kernel
theorem dX0_bestOwner_2 : decode cX0_bestOwner 2 = .ok (.invokevirtual 31, 3) := by decide +kernel
theorem dX0_bestOwner_5 : decode cX0_bestOwner 5 = .ok (.bipush (-4), 2) := by decide +kernel
theorem dX0_bestOwner_7 : decode cX0_bestOwner 7 = .ok (.if_icmp .ne 6, 3) := by decide +kernel
theorem dX0_bestOwner_10 : decode cX0_bestOwner 10 = .ok (.bipush (-4), 2) := by decide +kernel
theorem dX0_bestOwner_12 : decode cX0_bestOwner 12 = .ok (.ireturn, 1) := by decide +kernel
theorem dX0_bestOwner_13 : decode cX0_bestOwner 13 = .ok (.aload_n 0, 1) := by decide +kernel
theorem dX0_bestOwner_14 : decode cX0_bestOwner 14 = .ok (.aload_n 1, 1) := by decide +kernel
theorem dX0_bestOwner_15 : decode cX0_bestOwner 15 = .ok (.aload_n 2, 1) := by decide +kernel
theorem dX0_bestOwner_16 : decode cX0_bestOwner 16 = .ok (.invokevirtual 54, 3) := by decide +kernel
theorem dX0_bestOwner_19 : decode cX0_bestOwner 19 = .ok (.invokevirtual 58, 3) := by decide +kernel
theorem dX0_bestOwner_22 : decode cX0_bestOwner 22 = .ok (.istore 4, 2) := by decide +kernel
theorem dX0_bestOwner_24 : decode cX0_bestOwner 24 = .ok (.iload 4, 2) := by decide +kernel
theorem dX0_bestOwner_26 : decode cX0_bestOwner 26 = .ok (.invokestatic 62, 3) := by decide +kernel
theorem dX0_bestOwner_29 : decode cX0_bestOwner 29 = .ok (.bipush 18, 2) := by decide +kernel
theorem dX0_bestOwner_31 : decode cX0_bestOwner 31 = .ok (.ishl, 1) := by decide +kernel
theorem dX0_bestOwner_32 : decode cX0_bestOwner 32 = .ok (.iload 4, 2) := by decide +kernel
theorem dX0_bestOwner_34 : decode cX0_bestOwner 34 = .ok (.isub, 1) := by decide +kernel
theorem dX0_bestOwner_35 : decode cX0_bestOwner 35 = .ok (.istore 5, 2) := by decide +kernel
theorem dX0_bestOwner_37 : decode cX0_bestOwner 37 = .ok (.iload 5, 2) := by decide +kernel
theorem dX0_bestOwner_39 : decode cX0_bestOwner 39 = .ok (.iload_n 3, 1) := by decide +kernel
theorem dX0_bestOwner_40 : decode cX0_bestOwner 40 = .ok (.invokestatic 65, 3) := by decide +kernel
theorem dX0_bestOwner_43 : decode cX0_bestOwner 43 = .ok (.ishr, 1) := by decide +kernel
theorem dX0_bestOwner_44 : decode cX0_bestOwner 44 = .ok (.bipush 7, 2) := by decide +kernel
theorem dX0_bestOwner_46 : decode cX0_bestOwner 46 = .ok (.iand, 1) := by decide +kernel
theorem dX0_bestOwner_47 : decode cX0_bestOwner 47 = .ok (.ireturn, 1) := by decide +kernel
theorem dX0_bestSharing_0 : decode cX0_bestSharing 0 = .ok (.iconst 0, 1) := by decide +kernel
theorem dX0_bestSharing_1 : decode cX0_bestSharing 1 = .ok (.istore_n 3, 1) := by decide +kernel
theorem dX0_bestSharing_2 : decode cX0_bestSharing 2 = .ok (.iload_n 3, 1) := by decide +kernel
theorem dX0_bestSharing_3 : decode cX0_bestSharing 3 = .ok (.aload_n 1, 1) := by decide +kernel
theorem dX0_bestSharing_4 : decode cX0_bestSharing 4 = .ok (.getfield 48, 3) := by decide +kernel
theorem dX0_bestSharing_7 : decode cX0_bestSharing 7 = .ok (.if_icmp .ge 66, 3) := by decide +kernel
theorem dX0_bestSharing_10 : decode cX0_bestSharing 10 = .ok (.aload_n 0, 1) := by decide +kernel
theorem dX0_bestSharing_11 : decode cX0_bestSharing 11 = .ok (.aload_n 1, 1) := by decide +kernel
theorem dX0_bestSharing_12 : decode cX0_bestSharing 12 = .ok (.iload_n 3, 1) := by decide +kernel
theorem dX0_bestSharing_13 : decode cX0_bestSharing 13 = .ok (.iload_n 2, 1) := by decide +kernel
theorem dX0_bestSharing_14 : decode cX0_bestSharing 14 = .ok (.invokevirtual 68, 3) := by decide +kernel
theorem dX0_bestSharing_17 : decode cX0_bestSharing 17 = .ok (.iload_n 2, 1) := by decide +kernel
theorem dX0_bestSharing_18 : decode cX0_bestSharing 18 = .ok (.istore 4, 2) := by decide +kernel
theorem dX0_bestSharing_20 : decode cX0_bestSharing 20 = .ok (.iload 4, 2) := by decide +kernel
theorem dX0_bestSharing_22 : decode cX0_bestSharing 22 = .ok (.ifCond .lt 45, 3) := by decide +kernel
theorem dX0_bestSharing_25 : decode cX0_bestSharing 25 = .ok (.iload 4, 2) := by decide +kernel
theorem dX0_bestSharing_27 : decode cX0_bestSharing 27 = .ok (.iload_n 2, 1) := by decide +kernel
theorem dX0_bestSharing_28 : decode cX0_bestSharing 28 = .ok (.iconst (-1), 1) := by decide +kernel
theorem dX0_bestSharing_29 : decode cX0_bestSharing 29 = .ok (.ixor, 1) := by decide +kernel
theorem dX0_bestSharing_30 : decode cX0_bestSharing 30 = .ok (.iand, 1) := by decide +kernel
theorem dX0_bestSharing_31 : decode cX0_bestSharing 31 = .ok (.ifCond .ne 30, 3) := by decide +kernel
theorem dX0_bestSharing_34 : decode cX0_bestSharing 34 = .ok (.aload_n 0, 1) := by decide +kernel
theorem dX0_bestSharing_35 : decode cX0_bestSharing 35 = .ok (.getfield 15, 3) := by decide +kernel
theorem dX0_bestSharing_38 : decode cX0_bestSharing 38 = .ok (.iload 4, 2) := by decide +kernel
theorem dX0_bestSharing_40 : decode cX0_bestSharing 40 = .ok (.iload_n 3, 1) := by decide +kernel
theorem dX0_bestSharing_41 : decode cX0_bestSharing 41 = .ok (.ifCond .ne 13, 3) := by decide +kernel
theorem dX0_bestSharing_44 : decode cX0_bestSharing 44 = .ok (.aload_n 0, 1) := by decide +kernel
theorem dX0_bestSharing_45 : decode cX0_bestSharing 45 = .ok (.getfield 11, 3) := by decide +kernel
theorem dX0_bestSharing_48 : decode cX0_bestSharing 48 = .ok (.iload 4, 2) := by decide +kernel
theorem dX0_bestSharing_50 : decode cX0_bestSharing 50 = .ok (.iaload, 1) := by decide +kernel
theorem dX0_bestSharing_51 : decode cX0_bestSharing 51 = .ok (.goto 9, 3) := by decide +kernel
theorem dX0_bestSharing_54 : decode cX0_bestSharing 54 = .ok (.aload_n 0, 1) := by decide +kernel
theorem dX0_bestSharing_55 : decode cX0_bestSharing 55 = .ok (.iload 4, 2) := by decide +kernel
theorem dX0_bestSharing_57 : decode cX0_bestSharing 57 = .ok (.invokevirtual 72, 3) := by decide +kernel
theorem dX0_bestSharing_60 : decode cX0_bestSharing 60 = .ok (.iastore, 1) := by decide +kernel
theorem dX0_bestSharing_61 : decode cX0_bestSharing 61 = .ok (.iinc 4 (-1), 3) := by decide +kernel
theorem dX0_bestSharing_64 : decode cX0_bestSharing 64 = .ok (.goto (-44), 3) := by decide +kernel
theorem dX0_bestSharing_67 : decode cX0_bestSharing 67 = .ok (.iinc 3 1, 3) := by decide +kernel
theorem dX0_bestSharing_70 : decode cX0_bestSharing 70 = .ok (.goto (-68), 3) := by decide +kernel
theorem dX0_bestSharing_73 : decode cX0_bestSharing 73 = .ok (.aload_n 0, 1) := by decide +kernel
theorem dX0_bestSharing_74 : decode cX0_bestSharing 74 = .ok (.getfield 15, 3) := by decide +kernel
theorem dX0_bestSharing_77 : decode cX0_bestSharing 77 = .ok (.iload_n 2, 1) := by decide +kernel
theorem dX0_bestSharing_78 : decode cX0_bestSharing 78 = .ok (.iaload, 1) := by decide +kernel
theorem dX0_bestSharing_79 : decode cX0_bestSharing 79 = .ok (.ireturn, 1) := by decide +kernel
theorem dX0_tellGains_0 : decode cX0_tellGains 0 = .ok (.iconst 0, 1) := by decide +kernel
theorem dX0_tellGains_1 : decode cX0_tellGains 1 = .ok (.istore 4, 2) := by decide +kernel
theorem dX0_tellGains_3 : decode cX0_tellGains 3 = .ok (.iload 4, 2) := by decide +kernel
theorem dX0_tellGains_5 : decode cX0_tellGains 5 = .ok (.iload_n 3, 1) := by decide +kernel
theorem dX0_tellGains_6 : decode cX0_tellGains 6 = .ok (.if_icmp .gt 70, 3) := by decide +kernel
theorem dX0_tellGains_9 : decode cX0_tellGains 9 = .ok (.iconst 0, 1) := by decide +kernel
theorem dX0_tellGains_10 : decode cX0_tellGains 10 = .ok (.istore 5, 2) := by decide +kernel
theorem dX0_tellGains_12 : decode cX0_tellGains 12 = .ok (.iconst 0, 1) := by decide +kernel
theorem dX0_tellGains_13 : decode cX0_tellGains 13 = .ok (.istore 6, 2) := by decide +kernel
theorem dX0_tellGains_15 : decode cX0_tellGains 15 = .ok (.iload 6, 2) := by decide +kernel
theorem dX0_tellGains_17 : decode cX0_tellGains 17 = .ok (.aload_n 1, 1) := by decide +kernel
theorem dX0_tellGains_18 : decode cX0_tellGains 18 = .ok (.getfield 21, 3) := by decide +kernel
theorem dX0_tellGains_21 : decode cX0_tellGains 21 = .ok (.if_icmp .ge 29, 3) := by decide +kernel
theorem dX0_tellGains_24 : decode cX0_tellGains 24 = .ok (.iload 5, 2) := by decide +kernel
theorem dX0_tellGains_26 : decode cX0_tellGains 26 = .ok (.iload 4, 2) := by decide +kernel
theorem dX0_tellGains_28 : decode cX0_tellGains 28 = .ok (.iload 6, 2) := by decide +kernel
theorem dX0_tellGains_30 : decode cX0_tellGains 30 = .ok (.ishr, 1) := by decide +kernel
theorem dX0_tellGains_31 : decode cX0_tellGains 31 = .ok (.iconst 1, 1) := by decide +kernel
theorem dX0_tellGains_32 : decode cX0_tellGains 32 = .ok (.iand, 1) := by decide +kernel
theorem dX0_tellGains_33 : decode cX0_tellGains 33 = .ok (.iload_n 2, 1) := by decide +kernel
theorem dX0_tellGains_34 : decode cX0_tellGains 34 = .ok (.imul, 1) := by decide +kernel
theorem dX0_tellGains_35 : decode cX0_tellGains 35 = .ok (.iload 6, 2) := by decide +kernel
theorem dX0_tellGains_37 : decode cX0_tellGains 37 = .ok (.invokestatic 65, 3) := by decide +kernel
theorem dX0_tellGains_40 : decode cX0_tellGains 40 = .ok (.ishl, 1) := by decide +kernel
theorem dX0_tellGains_41 : decode cX0_tellGains 41 = .ok (.iadd, 1) := by decide +kernel
theorem dX0_tellGains_42 : decode cX0_tellGains 42 = .ok (.istore 5, 2) := by decide +kernel
theorem dX0_tellGains_44 : decode cX0_tellGains 44 = .ok (.iinc 6 1, 3) := by decide +kernel
theorem dX0_tellGains_47 : decode cX0_tellGains 47 = .ok (.goto (-32), 3) := by decide +kernel
theorem dX0_tellGains_50 : decode cX0_tellGains 50 = .ok (.aload_n 0, 1) := by decide +kernel
theorem dX0_tellGains_51 : decode cX0_tellGains 51 = .ok (.getfield 11, 3) := by decide +kernel
theorem dX0_tellGains_54 : decode cX0_tellGains 54 = .ok (.iload 4, 2) := by decide +kernel
theorem dX0_tellGains_56 : decode cX0_tellGains 56 = .ok (.aload_n 1, 1) := by decide +kernel
theorem dX0_tellGains_57 : decode cX0_tellGains 57 = .ok (.iload_n 2, 1) := by decide +kernel
theorem dX0_tellGains_58 : decode cX0_tellGains 58 = .ok (.iload 4, 2) := by decide +kernel
theorem dX0_tellGains_60 : decode cX0_tellGains 60 = .ok (.invokevirtual 44, 3) := by decide +kernel
theorem dX0_tellGains_63 : decode cX0_tellGains 63 = .ok (.bipush 18, 2) := by decide +kernel
theorem dX0_tellGains_65 : decode cX0_tellGains 65 = .ok (.ishl, 1) := by decide +kernel
theorem dX0_tellGains_66 : decode cX0_tellGains 66 = .ok (.iload 5, 2) := by decide +kernel
theorem dX0_tellGains_68 : decode cX0_tellGains 68 = .ok (.isub, 1) := by decide +kernel
theorem dX0_tellGains_69 : decode cX0_tellGains 69 = .ok (.iastore, 1) := by decide +kernel
theorem dX0_tellGains_70 : decode cX0_tellGains 70 = .ok (.iinc 4 1, 3) := by decide +kernel
theorem dX0_tellGains_73 : decode cX0_tellGains 73 = .ok (.goto (-70), 3) := by decide +kernel
theorem dX0_tellGains_76 : decode cX0_tellGains 76 = .ok (.return_, 1) := by decide +kernel
theorem dX0_bestWith_0 : decode cX0_bestWith 0 = .ok (.aload_n 0, 1) := by decide +kernel
theorem dX0_bestWith_1 : decode cX0_bestWith 1 = .ok (.getfield 15, 3) := by decide +kernel
theorem dX0_bestWith_4 : decode cX0_bestWith 4 = .ok (.iload_n 1, 1) := by decide +kernel
theorem dX0_bestWith_5 : decode cX0_bestWith 5 = .ok (.iaload, 1) := by decide +kernel
theorem dX0_bestWith_6 : decode cX0_bestWith 6 = .ok (.istore_n 2, 1) := by decide +kernel
theorem dX0_bestWith_7 : decode cX0_bestWith 7 = .ok (.iload_n 1, 1) := by decide +kernel
theorem dX0_bestWith_8 : decode cX0_bestWith 8 = .ok (.istore_n 3, 1) := by decide +kernel
theorem dX0_bestWith_9 : decode cX0_bestWith 9 = .ok (.iload_n 3, 1) := by decide +kernel
theorem dX0_bestWith_10 : decode cX0_bestWith 10 = .ok (.ifCond .le 32, 3) := by decide +kernel
theorem dX0_bestWith_13 : decode cX0_bestWith 13 = .ok (.iload_n 2, 1) := by decide +kernel
theorem dX0_bestWith_14 : decode cX0_bestWith 14 = .ok (.aload_n 0, 1) := by decide +kernel
theorem dX0_bestWith_15 : decode cX0_bestWith 15 = .ok (.getfield 11, 3) := by decide +kernel
theorem dX0_bestWith_18 : decode cX0_bestWith 18 = .ok (.iload_n 3, 1) := by decide +kernel
theorem dX0_bestWith_19 : decode cX0_bestWith 19 = .ok (.iaload, 1) := by decide +kernel
theorem dX0_bestWith_20 : decode cX0_bestWith 20 = .ok (.aload_n 0, 1) := by decide +kernel
theorem dX0_bestWith_21 : decode cX0_bestWith 21 = .ok (.getfield 15, 3) := by decide +kernel
theorem dX0_bestWith_24 : decode cX0_bestWith 24 = .ok (.iload_n 1, 1) := by decide +kernel
theorem dX0_bestWith_25 : decode cX0_bestWith 25 = .ok (.iload_n 3, 1) := by decide +kernel
theorem dX0_bestWith_26 : decode cX0_bestWith 26 = .ok (.ixor, 1) := by decide +kernel
theorem dX0_bestWith_27 : decode cX0_bestWith 27 = .ok (.iaload, 1) := by decide +kernel
theorem dX0_bestWith_28 : decode cX0_bestWith 28 = .ok (.iadd, 1) := by decide +kernel
theorem dX0_bestWith_29 : decode cX0_bestWith 29 = .ok (.invokestatic 75, 3) := by decide +kernel
theorem dX0_bestWith_32 : decode cX0_bestWith 32 = .ok (.istore_n 2, 1) := by decide +kernel
theorem dX0_bestWith_33 : decode cX0_bestWith 33 = .ok (.iload_n 3, 1) := by decide +kernel
theorem dX0_bestWith_34 : decode cX0_bestWith 34 = .ok (.iconst 1, 1) := by decide +kernel
theorem dX0_bestWith_35 : decode cX0_bestWith 35 = .ok (.isub, 1) := by decide +kernel
theorem dX0_bestWith_36 : decode cX0_bestWith 36 = .ok (.iload_n 1, 1) := by decide +kernel
theorem dX0_bestWith_37 : decode cX0_bestWith 37 = .ok (.iand, 1) := by decide +kernel
theorem dX0_bestWith_38 : decode cX0_bestWith 38 = .ok (.istore_n 3, 1) := by decide +kernel
theorem dX0_bestWith_39 : decode cX0_bestWith 39 = .ok (.goto (-30), 3) := by decide +kernel
theorem dX0_bestWith_42 : decode cX0_bestWith 42 = .ok (.iload_n 2, 1) := by decide +kernel
theorem dX0_bestWith_43 : decode cX0_bestWith 43 = .ok (.ireturn, 1) := by decide +kernel
theorem dX0_placeOf_0 : decode cX0_placeOf 0 = .ok (.iconst 3, 1) := by decide +kernel
theorem dX0_placeOf_1 : decode cX0_placeOf 1 = .ok (.iconst 5, 1) := by decide +kernel
theorem dX0_placeOf_2 : decode cX0_placeOf 2 = .ok (.iload_n 0, 1) := by decide +kernel
theorem dX0_placeOf_3 : decode cX0_placeOf 3 = .ok (.isub, 1) := by decide +kernel
theorem dX0_placeOf_4 : decode cX0_placeOf 4 = .ok (.imul, 1) := by decide +kernel
theorem dX0_placeOf_5 : decode cX0_placeOf 5 = .ok (.ireturn, 1) := by decide +kernel
theorem dX0_sumIn_0 : decode cX0_sumIn 0 = .ok (.iload_n 0, 1) := by decide +kernel
theorem dX0_sumIn_1 : decode cX0_sumIn 1 = .ok (.ldc 80, 2) := by decide +kernel
theorem dX0_sumIn_3 : decode cX0_sumIn 3 = .ok (.iadd, 1) := by decide +kernel
theorem dX0_sumIn_4 : decode cX0_sumIn 4 = .ok (.iconst 1, 1) := by decide +kernel
theorem dX0_sumIn_5 : decode cX0_sumIn 5 = .ok (.isub, 1) := by decide +kernel
theorem dX0_sumIn_6 : decode cX0_sumIn 6 = .ok (.bipush 18, 2) := by decide +kernel
theorem dX0_sumIn_8 : decode cX0_sumIn 8 = .ok (.ishr, 1) := by decide +kernel
theorem dX0_sumIn_9 : decode cX0_sumIn 9 = .ok (.ireturn, 1) := by decide +kernel
theorem dX0_firstEnvy_0 : decode cX0_firstEnvy 0 = .ok (.iconst 0, 1) := by decide +kernel
theorem dX0_firstEnvy_1 : decode cX0_firstEnvy 1 = .ok (.istore_n 3, 1) := by decide +kernel
theorem dX0_firstEnvy_2 : decode cX0_firstEnvy 2 = .ok (.iload_n 3, 1) := by decide +kernel
theorem dX0_firstEnvy_3 : decode cX0_firstEnvy 3 = .ok (.aload_n 1, 1) := by decide +kernel
theorem dX0_firstEnvy_4 : decode cX0_firstEnvy 4 = .ok (.getfield 48, 3) := by decide +kernel
theorem dX0_firstEnvy_7 : decode cX0_firstEnvy 7 = .ok (.if_icmp .ge 46, 3) := by decide +kernel
theorem dX0_firstEnvy_10 : decode cX0_firstEnvy 10 = .ok (.iconst 0, 1) := by decide +kernel
theorem dX0_firstEnvy_11 : decode cX0_firstEnvy 11 = .ok (.istore 4, 2) := by decide +kernel
theorem dX0_firstEnvy_13 : decode cX0_firstEnvy 13 = .ok (.iload 4, 2) := by decide +kernel
theorem dX0_firstEnvy_15 : decode cX0_firstEnvy 15 = .ok (.aload_n 1, 1) := by decide +kernel
theorem dX0_firstEnvy_16 : decode cX0_firstEnvy 16 = .ok (.getfield 48, 3) := by decide +kernel
theorem dX0_firstEnvy_19 : decode cX0_firstEnvy 19 = .ok (.if_icmp .ge 28, 3) := by decide +kernel
theorem dX0_firstEnvy_22 : decode cX0_firstEnvy 22 = .ok (.aload_n 1, 1) := by decide +kernel
theorem dX0_firstEnvy_23 : decode cX0_firstEnvy 23 = .ok (.aload_n 2, 1) := by decide +kernel
theorem dX0_firstEnvy_24 : decode cX0_firstEnvy 24 = .ok (.iload_n 3, 1) := by decide +kernel
theorem dX0_firstEnvy_25 : decode cX0_firstEnvy 25 = .ok (.iload 4, 2) := by decide +kernel
theorem dX0_firstEnvy_27 : decode cX0_firstEnvy 27 = .ok (.invokestatic 81, 3) := by decide +kernel
theorem dX0_firstEnvy_30 : decode cX0_firstEnvy 30 = .ok (.ifCond .eq 11, 3) := by decide +kernel
theorem dX0_firstEnvy_33 : decode cX0_firstEnvy 33 = .ok (.bipush 10, 2) := by decide +kernel
theorem dX0_firstEnvy_35 : decode cX0_firstEnvy 35 = .ok (.iload_n 3, 1) := by decide +kernel
theorem dX0_firstEnvy_36 : decode cX0_firstEnvy 36 = .ok (.imul, 1) := by decide +kernel
theorem dX0_firstEnvy_37 : decode cX0_firstEnvy 37 = .ok (.iload 4, 2) := by decide +kernel
theorem dX0_firstEnvy_39 : decode cX0_firstEnvy 39 = .ok (.iadd, 1) := by decide +kernel
theorem dX0_firstEnvy_40 : decode cX0_firstEnvy 40 = .ok (.ireturn, 1) := by decide +kernel
theorem dX0_firstEnvy_41 : decode cX0_firstEnvy 41 = .ok (.iinc 4 1, 3) := by decide +kernel
theorem dX0_firstEnvy_44 : decode cX0_firstEnvy 44 = .ok (.goto (-31), 3) := by decide +kernel
theorem dX0_firstEnvy_47 : decode cX0_firstEnvy 47 = .ok (.iinc 3 1, 3) := by decide +kernel
theorem dX0_firstEnvy_50 : decode cX0_firstEnvy 50 = .ok (.goto (-48), 3) := by decide +kernel
theorem dX0_firstEnvy_53 : decode cX0_firstEnvy 53 = .ok (.bipush (-4), 2) := by decide +kernel
theorem dX0_firstEnvy_55 : decode cX0_firstEnvy 55 = .ok (.ireturn, 1) := by decide +kernel
theorem dX0_envies_0 : decode cX0_envies 0 = .ok (.aload_n 0, 1) := by decide +kernel
theorem dX0_envies_1 : decode cX0_envies 1 = .ok (.iload_n 2, 1) := by decide +kernel
theorem dX0_envies_2 : decode cX0_envies 2 = .ok (.aload_n 1, 1) := by decide +kernel
theorem dX0_envies_3 : decode cX0_envies 3 = .ok (.iload_n 3, 1) := by decide +kernel
theorem dX0_envies_4 : decode cX0_envies 4 = .ok (.invokevirtual 41, 3) := by decide +kernel
theorem dX0_envies_7 : decode cX0_envies 7 = .ok (.invokevirtual 44, 3) := by decide +kernel
theorem dX0_envies_10 : decode cX0_envies 10 = .ok (.aload_n 0, 1) := by decide +kernel
theorem dX0_envies_11 : decode cX0_envies 11 = .ok (.iload_n 2, 1) := by decide +kernel
theorem dX0_envies_12 : decode cX0_envies 12 = .ok (.aload_n 1, 1) := by decide +kernel
theorem dX0_envies_13 : decode cX0_envies 13 = .ok (.iload_n 2, 1) := by decide +kernel
theorem dX0_envies_14 : decode cX0_envies 14 = .ok (.invokevirtual 41, 3) := by decide +kernel
theorem dX0_envies_17 : decode cX0_envies 17 = .ok (.invokevirtual 44, 3) := by decide +kernel
theorem dX0_envies_20 : decode cX0_envies 20 = .ok (.if_icmp .le 7, 3) := by decide +kernel
theorem dX0_envies_23 : decode cX0_envies 23 = .ok (.iconst 1, 1) := by decide +kernel
theorem dX0_envies_24 : decode cX0_envies 24 = .ok (.goto 4, 3) := by decide +kernel
theorem dX0_envies_27 : decode cX0_envies 27 = .ok (.iconst 0, 1) := by decide +kernel
theorem dX0_envies_28 : decode cX0_envies 28 = .ok (.ireturn, 1) := by decide +kernel
theorem dX0_shortestRing_0 : decode cX0_shortestRing 0 = .ok (.aload_n 0, 1) := by decide +kernel
theorem dX0_shortestRing_1 : decode cX0_shortestRing 1 = .ok (.aload_n 1, 1) := by decide +kernel
theorem dX0_shortestRing_2 : decode cX0_shortestRing 2 = .ok (.aload_n 2, 1) := by decide +kernel
theorem dX0_shortestRing_3 : decode cX0_shortestRing 3 = .ok (.invokevirtual 84, 3) := by decide +kernel
theorem dX0_shortestRing_6 : decode cX0_shortestRing 6 = .ok (.iconst 2, 1) := by decide +kernel
theorem dX0_shortestRing_7 : decode cX0_shortestRing 7 = .ok (.istore_n 3, 1) := by decide +kernel
theorem dX0_shortestRing_8 : decode cX0_shortestRing 8 = .ok (.iload_n 3, 1) := by decide +kernel
theorem dX0_shortestRing_9 : decode cX0_shortestRing 9 = .ok (.aload_n 1, 1) := by decide +kernel
theorem dX0_shortestRing_10 : decode cX0_shortestRing 10 = .ok (.getfield 48, 3) := by decide +kernel
theorem dX0_shortestRing_13 : decode cX0_shortestRing 13 = .ok (.if_icmp .gt 40, 3) := by decide +kernel
theorem dX0_shortestRing_16 : decode cX0_shortestRing 16 = .ok (.iconst 0, 1) := by decide +kernel
theorem dX0_shortestRing_17 : decode cX0_shortestRing 17 = .ok (.istore 4, 2) := by decide +kernel
theorem dX0_shortestRing_19 : decode cX0_shortestRing 19 = .ok (.iload 4, 2) := by decide +kernel
theorem dX0_shortestRing_21 : decode cX0_shortestRing 21 = .ok (.aload_n 1, 1) := by decide +kernel
theorem dX0_shortestRing_22 : decode cX0_shortestRing 22 = .ok (.getfield 48, 3) := by decide +kernel
theorem dX0_shortestRing_25 : decode cX0_shortestRing 25 = .ok (.if_icmp .ge 22, 3) := by decide +kernel
theorem dX0_shortestRing_28 : decode cX0_shortestRing 28 = .ok (.aload_n 0, 1) := by decide +kernel
theorem dX0_shortestRing_29 : decode cX0_shortestRing 29 = .ok (.aload_n 1, 1) := by decide +kernel
theorem dX0_shortestRing_30 : decode cX0_shortestRing 30 = .ok (.iload 4, 2) := by decide +kernel
theorem dX0_shortestRing_32 : decode cX0_shortestRing 32 = .ok (.iload_n 3, 1) := by decide +kernel
theorem dX0_shortestRing_33 : decode cX0_shortestRing 33 = .ok (.invokevirtual 88, 3) := by decide +kernel
theorem dX0_shortestRing_36 : decode cX0_shortestRing 36 = .ok (.ifCond .eq 5, 3) := by decide +kernel
theorem dX0_shortestRing_39 : decode cX0_shortestRing 39 = .ok (.iload_n 3, 1) := by decide +kernel
theorem dX0_shortestRing_40 : decode cX0_shortestRing 40 = .ok (.ireturn, 1) := by decide +kernel
theorem dX0_shortestRing_41 : decode cX0_shortestRing 41 = .ok (.iinc 4 1, 3) := by decide +kernel
theorem dX0_shortestRing_44 : decode cX0_shortestRing 44 = .ok (.goto (-25), 3) := by decide +kernel
theorem dX0_shortestRing_47 : decode cX0_shortestRing 47 = .ok (.iinc 3 1, 3) := by decide +kernel
theorem dX0_shortestRing_50 : decode cX0_shortestRing 50 = .ok (.goto (-42), 3) := by decide +kernel
theorem dX0_shortestRing_53 : decode cX0_shortestRing 53 = .ok (.bipush (-4), 2) := by decide +kernel
theorem dX0_shortestRing_55 : decode cX0_shortestRing 55 = .ok (.ireturn, 1) := by decide +kernel
theorem dX0_tellEnvied_0 : decode cX0_tellEnvied 0 = .ok (.iconst 0, 1) := by decide +kernel
theorem dX0_tellEnvied_1 : decode cX0_tellEnvied 1 = .ok (.istore_n 3, 1) := by decide +kernel
theorem dX0_tellEnvied_2 : decode cX0_tellEnvied 2 = .ok (.iload_n 3, 1) := by decide +kernel
theorem dX0_tellEnvied_3 : decode cX0_tellEnvied 3 = .ok (.aload_n 1, 1) := by decide +kernel
theorem dX0_tellEnvied_4 : decode cX0_tellEnvied 4 = .ok (.getfield 48, 3) := by decide +kernel
theorem dX0_tellEnvied_7 : decode cX0_tellEnvied 7 = .ok (.if_icmp .ge 58, 3) := by decide +kernel
theorem dX0_tellEnvied_10 : decode cX0_tellEnvied 10 = .ok (.aload_n 0, 1) := by decide +kernel
theorem dX0_tellEnvied_11 : decode cX0_tellEnvied 11 = .ok (.getfield 18, 3) := by decide +kernel
theorem dX0_tellEnvied_14 : decode cX0_tellEnvied 14 = .ok (.iload_n 3, 1) := by decide +kernel
theorem dX0_tellEnvied_15 : decode cX0_tellEnvied 15 = .ok (.iconst 0, 1) := by decide +kernel
theorem dX0_tellEnvied_16 : decode cX0_tellEnvied 16 = .ok (.iastore, 1) := by decide +kernel
theorem dX0_tellEnvied_17 : decode cX0_tellEnvied 17 = .ok (.iconst 0, 1) := by decide +kernel
theorem dX0_tellEnvied_18 : decode cX0_tellEnvied 18 = .ok (.istore 4, 2) := by decide +kernel
theorem dX0_tellEnvied_20 : decode cX0_tellEnvied 20 = .ok (.iload 4, 2) := by decide +kernel
theorem dX0_tellEnvied_22 : decode cX0_tellEnvied 22 = .ok (.aload_n 1, 1) := by decide +kernel
theorem dX0_tellEnvied_23 : decode cX0_tellEnvied 23 = .ok (.getfield 48, 3) := by decide +kernel
theorem dX0_tellEnvied_26 : decode cX0_tellEnvied 26 = .ok (.if_icmp .ge 33, 3) := by decide +kernel
theorem dX0_tellEnvied_29 : decode cX0_tellEnvied 29 = .ok (.aload_n 1, 1) := by decide +kernel
theorem dX0_tellEnvied_30 : decode cX0_tellEnvied 30 = .ok (.aload_n 2, 1) := by decide +kernel
theorem dX0_tellEnvied_31 : decode cX0_tellEnvied 31 = .ok (.iload_n 3, 1) := by decide +kernel
theorem dX0_tellEnvied_32 : decode cX0_tellEnvied 32 = .ok (.iload 4, 2) := by decide +kernel
theorem dX0_tellEnvied_34 : decode cX0_tellEnvied 34 = .ok (.invokestatic 81, 3) := by decide +kernel
theorem dX0_tellEnvied_37 : decode cX0_tellEnvied 37 = .ok (.ifCond .eq 16, 3) := by decide +kernel
theorem dX0_tellEnvied_40 : decode cX0_tellEnvied 40 = .ok (.aload_n 0, 1) := by decide +kernel
theorem dX0_tellEnvied_41 : decode cX0_tellEnvied 41 = .ok (.getfield 18, 3) := by decide +kernel
theorem dX0_tellEnvied_44 : decode cX0_tellEnvied 44 = .ok (.iload_n 3, 1) := by decide +kernel
theorem dX0_tellEnvied_45 : decode cX0_tellEnvied 45 = .ok (.dup2, 1) := by decide +kernel
theorem dX0_tellEnvied_46 : decode cX0_tellEnvied 46 = .ok (.iaload, 1) := by decide +kernel
theorem dX0_tellEnvied_47 : decode cX0_tellEnvied 47 = .ok (.iconst 1, 1) := by decide +kernel
theorem dX0_tellEnvied_48 : decode cX0_tellEnvied 48 = .ok (.iload 4, 2) := by decide +kernel
theorem dX0_tellEnvied_50 : decode cX0_tellEnvied 50 = .ok (.ishl, 1) := by decide +kernel
theorem dX0_tellEnvied_51 : decode cX0_tellEnvied 51 = .ok (.ior, 1) := by decide +kernel
theorem dX0_tellEnvied_52 : decode cX0_tellEnvied 52 = .ok (.iastore, 1) := by decide +kernel
theorem dX0_tellEnvied_53 : decode cX0_tellEnvied 53 = .ok (.iinc 4 1, 3) := by decide +kernel
theorem dX0_tellEnvied_56 : decode cX0_tellEnvied 56 = .ok (.goto (-36), 3) := by decide +kernel
theorem dX0_tellEnvied_59 : decode cX0_tellEnvied 59 = .ok (.iinc 3 1, 3) := by decide +kernel
theorem dX0_tellEnvied_62 : decode cX0_tellEnvied 62 = .ok (.goto (-60), 3) := by decide +kernel
theorem dX0_tellEnvied_65 : decode cX0_tellEnvied 65 = .ok (.return_, 1) := by decide +kernel
theorem dX0_comesBack_0 : decode cX0_comesBack 0 = .ok (.iconst 1, 1) := by decide +kernel
theorem dX0_comesBack_1 : decode cX0_comesBack 1 = .ok (.iload_n 2, 1) := by decide +kernel
theorem dX0_comesBack_2 : decode cX0_comesBack 2 = .ok (.ishl, 1) := by decide +kernel
theorem dX0_comesBack_3 : decode cX0_comesBack 3 = .ok (.istore 4, 2) := by decide +kernel
theorem dX0_comesBack_5 : decode cX0_comesBack 5 = .ok (.iconst 0, 1) := by decide +kernel
theorem dX0_comesBack_6 : decode cX0_comesBack 6 = .ok (.istore 5, 2) := by decide +kernel
theorem dX0_comesBack_8 : decode cX0_comesBack 8 = .ok (.iload 5, 2) := by decide +kernel
theorem dX0_comesBack_10 : decode cX0_comesBack 10 = .ok (.iload_n 3, 1) := by decide +kernel
theorem dX0_comesBack_11 : decode cX0_comesBack 11 = .ok (.if_icmp .ge 56, 3) := by decide +kernel
theorem dX0_comesBack_14 : decode cX0_comesBack 14 = .ok (.iconst 0, 1) := by decide +kernel
theorem dX0_comesBack_15 : decode cX0_comesBack 15 = .ok (.istore 6, 2) := by decide +kernel
theorem dX0_comesBack_17 : decode cX0_comesBack 17 = .ok (.iconst 0, 1) := by decide +kernel
theorem dX0_comesBack_18 : decode cX0_comesBack 18 = .ok (.istore 7, 2) := by decide +kernel
theorem dX0_comesBack_20 : decode cX0_comesBack 20 = .ok (.iload 7, 2) := by decide +kernel
theorem dX0_comesBack_22 : decode cX0_comesBack 22 = .ok (.aload_n 1, 1) := by decide +kernel
theorem dX0_comesBack_23 : decode cX0_comesBack 23 = .ok (.getfield 48, 3) := by decide +kernel
theorem dX0_comesBack_26 : decode cX0_comesBack 26 = .ok (.if_icmp .ge 31, 3) := by decide +kernel
theorem dX0_comesBack_29 : decode cX0_comesBack 29 = .ok (.iload 4, 2) := by decide +kernel
theorem dX0_comesBack_31 : decode cX0_comesBack 31 = .ok (.iload 7, 2) := by decide +kernel
theorem dX0_comesBack_33 : decode cX0_comesBack 33 = .ok (.ishr, 1) := by decide +kernel
theorem dX0_comesBack_34 : decode cX0_comesBack 34 = .ok (.iconst 1, 1) := by decide +kernel
theorem dX0_comesBack_35 : decode cX0_comesBack 35 = .ok (.iand, 1) := by decide +kernel
theorem dX0_comesBack_36 : decode cX0_comesBack 36 = .ok (.ifCond .eq 15, 3) := by decide +kernel
theorem dX0_comesBack_39 : decode cX0_comesBack 39 = .ok (.iload 6, 2) := by decide +kernel
theorem dX0_comesBack_41 : decode cX0_comesBack 41 = .ok (.aload_n 0, 1) := by decide +kernel
theorem dX0_comesBack_42 : decode cX0_comesBack 42 = .ok (.getfield 18, 3) := by decide +kernel
theorem dX0_comesBack_45 : decode cX0_comesBack 45 = .ok (.iload 7, 2) := by decide +kernel
theorem dX0_comesBack_47 : decode cX0_comesBack 47 = .ok (.iaload, 1) := by decide +kernel
theorem dX0_comesBack_48 : decode cX0_comesBack 48 = .ok (.ior, 1) := by decide +kernel
theorem dX0_comesBack_49 : decode cX0_comesBack 49 = .ok (.istore 6, 2) := by decide +kernel
theorem dX0_comesBack_51 : decode cX0_comesBack 51 = .ok (.iinc 7 1, 3) := by decide +kernel
theorem dX0_comesBack_54 : decode cX0_comesBack 54 = .ok (.goto (-34), 3) := by decide +kernel
theorem dX0_comesBack_57 : decode cX0_comesBack 57 = .ok (.iload 6, 2) := by decide +kernel
theorem dX0_comesBack_59 : decode cX0_comesBack 59 = .ok (.istore 4, 2) := by decide +kernel
theorem dX0_comesBack_61 : decode cX0_comesBack 61 = .ok (.iinc 5 1, 3) := by decide +kernel
theorem dX0_comesBack_64 : decode cX0_comesBack 64 = .ok (.goto (-56), 3) := by decide +kernel
theorem dX0_comesBack_67 : decode cX0_comesBack 67 = .ok (.iload 4, 2) := by decide +kernel
theorem dX0_comesBack_69 : decode cX0_comesBack 69 = .ok (.iload_n 2, 1) := by decide +kernel
theorem dX0_comesBack_70 : decode cX0_comesBack 70 = .ok (.ishr, 1) := by decide +kernel
theorem dX0_comesBack_71 : decode cX0_comesBack 71 = .ok (.iconst 1, 1) := by decide +kernel
theorem dX0_comesBack_72 : decode cX0_comesBack 72 = .ok (.iand, 1) := by decide +kernel
theorem dX0_comesBack_73 : decode cX0_comesBack 73 = .ok (.ifCond .eq 7, 3) := by decide +kernel
theorem dX0_comesBack_76 : decode cX0_comesBack 76 = .ok (.iconst 1, 1) := by decide +kernel
theorem dX0_comesBack_77 : decode cX0_comesBack 77 = .ok (.goto 4, 3) := by decide +kernel
theorem dX0_comesBack_80 : decode cX0_comesBack 80 = .ok (.iconst 0, 1) := by decide +kernel
theorem dX0_comesBack_81 : decode cX0_comesBack 81 = .ok (.ireturn, 1) := by decide +kernel
theorem dX1_init_0 : decode cX1_init 0 = .ok (.aload_n 0, 1) := by decide +kernel
theorem dX1_init_1 : decode cX1_init 1 = .ok (.invokespecial 3, 3) := by decide +kernel
theorem dX1_init_4 : decode cX1_init 4 = .ok (.aload_n 0, 1) := by decide +kernel
theorem dX1_init_5 : decode cX1_init 5 = .ok (.iconst 5, 1) := by decide +kernel
theorem dX1_init_6 : decode cX1_init 6 = .ok (.newarray .int, 2) := by decide +kernel
theorem dX1_init_8 : decode cX1_init 8 = .ok (.putfield 9, 3) := by decide +kernel
theorem dX1_init_11 : decode cX1_init 11 = .ok (.return_, 1) := by decide +kernel
theorem dX1_add_0 : decode cX1_add 0 = .ok (.aload_n 0, 1) := by decide +kernel
theorem dX1_add_1 : decode cX1_add 1 = .ok (.getfield 9, 3) := by decide +kernel
theorem dX1_add_4 : decode cX1_add 4 = .ok (.iload_n 1, 1) := by decide +kernel
theorem dX1_add_5 : decode cX1_add 5 = .ok (.dup2, 1) := by decide +kernel
theorem dX1_add_6 : decode cX1_add 6 = .ok (.iaload, 1) := by decide +kernel
theorem dX1_add_7 : decode cX1_add 7 = .ok (.iconst 1, 1) := by decide +kernel
theorem dX1_add_8 : decode cX1_add 8 = .ok (.iadd, 1) := by decide +kernel
theorem dX1_add_9 : decode cX1_add 9 = .ok (.iastore, 1) := by decide +kernel
theorem dX1_add_10 : decode cX1_add 10 = .ok (.aload_n 0, 1) := by decide +kernel
theorem dX1_add_11 : decode cX1_add 11 = .ok (.dup, 1) := by decide +kernel
theorem dX1_add_12 : decode cX1_add 12 = .ok (.getfield 15, 3) := by decide +kernel
theorem dX1_add_15 : decode cX1_add 15 = .ok (.iconst 1, 1) := by decide +kernel
theorem dX1_add_16 : decode cX1_add 16 = .ok (.iadd, 1) := by decide +kernel
theorem dX1_add_17 : decode cX1_add 17 = .ok (.putfield 15, 3) := by decide +kernel
theorem dX1_add_20 : decode cX1_add 20 = .ok (.return_, 1) := by decide +kernel
theorem dX1_clear_0 : decode cX1_clear 0 = .ok (.aload_n 0, 1) := by decide +kernel
theorem dX1_clear_1 : decode cX1_clear 1 = .ok (.getfield 9, 3) := by decide +kernel
theorem dX1_clear_4 : decode cX1_clear 4 = .ok (.iconst 0, 1) := by decide +kernel
theorem dX1_clear_5 : decode cX1_clear 5 = .ok (.invokestatic 19, 3) := by decide +kernel
theorem dX1_clear_8 : decode cX1_clear 8 = .ok (.aload_n 0, 1) := by decide +kernel
theorem dX1_clear_9 : decode cX1_clear 9 = .ok (.iconst 0, 1) := by decide +kernel
theorem dX1_clear_10 : decode cX1_clear 10 = .ok (.putfield 15, 3) := by decide +kernel
theorem dX1_clear_13 : decode cX1_clear 13 = .ok (.return_, 1) := by decide +kernel
theorem dX1_canBe_0 : decode cX1_canBe 0 = .ok (.iconst 0, 1) := by decide +kernel
theorem dX1_canBe_1 : decode cX1_canBe 1 = .ok (.istore_n 2, 1) := by decide +kernel
theorem dX1_canBe_2 : decode cX1_canBe 2 = .ok (.iload_n 2, 1) := by decide +kernel
theorem dX1_canBe_3 : decode cX1_canBe 3 = .ok (.iconst 5, 1) := by decide +kernel
theorem dX1_canBe_4 : decode cX1_canBe 4 = .ok (.if_icmp .ge 29, 3) := by decide +kernel
theorem dX1_canBe_7 : decode cX1_canBe 7 = .ok (.aload_n 0, 1) := by decide +kernel
theorem dX1_canBe_8 : decode cX1_canBe 8 = .ok (.getfield 9, 3) := by decide +kernel
theorem dX1_canBe_11 : decode cX1_canBe 11 = .ok (.iload_n 2, 1) := by decide +kernel
theorem dX1_canBe_12 : decode cX1_canBe 12 = .ok (.iaload, 1) := by decide +kernel
theorem dX1_canBe_13 : decode cX1_canBe 13 = .ok (.ifCond .le 14, 3) := by decide +kernel
theorem dX1_canBe_16 : decode cX1_canBe 16 = .ok (.aload_n 1, 1) := by decide +kernel
theorem dX1_canBe_17 : decode cX1_canBe 17 = .ok (.getfield 25, 3) := by decide +kernel
theorem dX1_canBe_20 : decode cX1_canBe 20 = .ok (.iload_n 2, 1) := by decide +kernel
theorem dX1_canBe_21 : decode cX1_canBe 21 = .ok (.iaload, 1) := by decide +kernel
theorem dX1_canBe_22 : decode cX1_canBe 22 = .ok (.ifCond .ne 5, 3) := by decide +kernel
theorem dX1_canBe_25 : decode cX1_canBe 25 = .ok (.iconst 0, 1) := by decide +kernel
theorem dX1_canBe_26 : decode cX1_canBe 26 = .ok (.ireturn, 1) := by decide +kernel
theorem dX1_canBe_27 : decode cX1_canBe 27 = .ok (.iinc 2 1, 3) := by decide +kernel
theorem dX1_canBe_30 : decode cX1_canBe 30 = .ok (.goto (-28), 3) := by decide +kernel
theorem dX1_canBe_33 : decode cX1_canBe 33 = .ok (.iconst 1, 1) := by decide +kernel
theorem dX1_canBe_34 : decode cX1_canBe 34 = .ok (.ireturn, 1) := by decide +kernel
theorem dX1_loadedWeight_0 : decode cX1_loadedWeight 0 = .ok (.ldc2_w 30, 3) := by decide +kernel
theorem dX1_loadedWeight_3 : decode cX1_loadedWeight 3 = .ok (.aload_n 0, 1) := by decide +kernel
theorem dX1_loadedWeight_4 : decode cX1_loadedWeight 4 = .ok (.getfield 9, 3) := by decide +kernel
theorem dX1_loadedWeight_7 : decode cX1_loadedWeight 7 = .ok (.iload_n 2, 1) := by decide +kernel
theorem dX1_loadedWeight_8 : decode cX1_loadedWeight 8 = .ok (.iaload, 1) := by decide +kernel
theorem dX1_loadedWeight_9 : decode cX1_loadedWeight 9 = .ok (.invokestatic 32, 3) := by decide +kernel
theorem dX1_loadedWeight_12 : decode cX1_loadedWeight 12 = .ok (.aload_n 1, 1) := by decide +kernel
theorem dX1_loadedWeight_13 : decode cX1_loadedWeight 13 = .ok (.invokevirtual 36, 3) := by decide +kernel
theorem dX1_loadedWeight_16 : decode cX1_loadedWeight 16 = .ok (.i2l, 1) := by decide +kernel
theorem dX1_loadedWeight_17 : decode cX1_loadedWeight 17 = .ok (.aload_n 0, 1) := by decide +kernel
theorem dX1_loadedWeight_18 : decode cX1_loadedWeight 18 = .ok (.getfield 15, 3) := by decide +kernel
theorem dX1_loadedWeight_21 : decode cX1_loadedWeight 21 = .ok (.invokestatic 32, 3) := by decide +kernel
theorem dX1_loadedWeight_24 : decode cX1_loadedWeight 24 = .ok (.lmul, 1) := by decide +kernel
theorem dX1_loadedWeight_25 : decode cX1_loadedWeight 25 = .ok (.lreturn, 1) := by decide +kernel
theorem dX1_evenWeight_0 : decode cX1_evenWeight 0 = .ok (.aload_n 1, 1) := by decide +kernel
theorem dX1_evenWeight_1 : decode cX1_evenWeight 1 = .ok (.invokevirtual 36, 3) := by decide +kernel
theorem dX1_evenWeight_4 : decode cX1_evenWeight 4 = .ok (.aload_n 1, 1) := by decide +kernel
theorem dX1_evenWeight_5 : decode cX1_evenWeight 5 = .ok (.getfield 25, 3) := by decide +kernel
theorem dX1_evenWeight_8 : decode cX1_evenWeight 8 = .ok (.iload_n 2, 1) := by decide +kernel
theorem dX1_evenWeight_9 : decode cX1_evenWeight 9 = .ok (.iaload, 1) := by decide +kernel
theorem dX1_evenWeight_10 : decode cX1_evenWeight 10 = .ok (.iadd, 1) := by decide +kernel
theorem dX1_evenWeight_11 : decode cX1_evenWeight 11 = .ok (.i2l, 1) := by decide +kernel
theorem dX1_evenWeight_12 : decode cX1_evenWeight 12 = .ok (.aload_n 0, 1) := by decide +kernel
theorem dX1_evenWeight_13 : decode cX1_evenWeight 13 = .ok (.getfield 15, 3) := by decide +kernel
theorem dX1_evenWeight_16 : decode cX1_evenWeight 16 = .ok (.invokestatic 32, 3) := by decide +kernel
theorem dX1_evenWeight_19 : decode cX1_evenWeight 19 = .ok (.lreturn, 1) := by decide +kernel
theorem dX1_power_0 : decode cX1_power 0 = .ok (.lconst 1, 1) := by decide +kernel
theorem dX1_power_1 : decode cX1_power 1 = .ok (.lstore_n 3, 1) := by decide +kernel
theorem dX1_power_2 : decode cX1_power 2 = .ok (.iconst 0, 1) := by decide +kernel
theorem dX1_power_3 : decode cX1_power 3 = .ok (.istore 5, 2) := by decide +kernel
theorem dX1_power_5 : decode cX1_power 5 = .ok (.iload 5, 2) := by decide +kernel
theorem dX1_power_7 : decode cX1_power 7 = .ok (.iload_n 2, 1) := by decide +kernel
theorem dX1_power_8 : decode cX1_power 8 = .ok (.if_icmp .ge 13, 3) := by decide +kernel
theorem dX1_power_11 : decode cX1_power 11 = .ok (.lload_n 3, 1) := by decide +kernel
theorem dX1_power_12 : decode cX1_power 12 = .ok (.lload_n 0, 1) := by decide +kernel
theorem dX1_power_13 : decode cX1_power 13 = .ok (.lmul, 1) := by decide +kernel
theorem dX1_power_14 : decode cX1_power 14 = .ok (.lstore_n 3, 1) := by decide +kernel
theorem dX1_power_15 : decode cX1_power 15 = .ok (.iinc 5 1, 3) := by decide +kernel
theorem dX1_power_18 : decode cX1_power 18 = .ok (.goto (-13), 3) := by decide +kernel
theorem dX1_power_21 : decode cX1_power 21 = .ok (.lload_n 3, 1) := by decide +kernel
theorem dX1_power_22 : decode cX1_power 22 = .ok (.lreturn, 1) := by decide +kernel
theorem dX2_init_0 : decode cX2_init 0 = .ok (.aload_n 0, 1) := by decide +kernel
theorem dX2_init_1 : decode cX2_init 1 = .ok (.invokespecial 3, 3) := by decide +kernel
theorem dX2_init_4 : decode cX2_init 4 = .ok (.aload_n 0, 1) := by decide +kernel
theorem dX2_init_5 : decode cX2_init 5 = .ok (.iconst 5, 1) := by decide +kernel
theorem dX2_init_6 : decode cX2_init 6 = .ok (.newarray .int, 2) := by decide +kernel
theorem dX2_init_8 : decode cX2_init 8 = .ok (.putfield 9, 3) := by decide +kernel
theorem dX2_init_11 : decode cX2_init 11 = .ok (.aload_n 0, 1) := by decide +kernel
theorem dX2_init_12 : decode cX2_init 12 = .ok (.bipush 6, 2) := by decide +kernel
theorem dX2_init_14 : decode cX2_init 14 = .ok (.newarray .int, 2) := by decide +kernel
theorem dX2_init_16 : decode cX2_init 16 = .ok (.putfield 15, 3) := by decide +kernel
theorem dX2_init_19 : decode cX2_init 19 = .ok (.aload_n 0, 1) := by decide +kernel
theorem dX2_init_20 : decode cX2_init 20 = .ok (.bipush 6, 2) := by decide +kernel
theorem dX2_init_22 : decode cX2_init 22 = .ok (.newarray .int, 2) := by decide +kernel
theorem dX2_init_24 : decode cX2_init 24 = .ok (.putfield 18, 3) := by decide +kernel
theorem dX2_init_27 : decode cX2_init 27 = .ok (.aload_n 0, 1) := by decide +kernel
theorem dX2_init_28 : decode cX2_init 28 = .ok (.bipush 30, 2) := by decide +kernel
theorem dX2_init_30 : decode cX2_init 30 = .ok (.newarray .int, 2) := by decide +kernel
theorem dX2_init_32 : decode cX2_init 32 = .ok (.putfield 21, 3) := by decide +kernel
theorem dX2_init_35 : decode cX2_init 35 = .ok (.aload_n 0, 1) := by decide +kernel
theorem dX2_init_36 : decode cX2_init 36 = .ok (.iconst 5, 1) := by decide +kernel
theorem dX2_init_37 : decode cX2_init 37 = .ok (.newarray .long, 2) := by decide +kernel
theorem dX2_init_39 : decode cX2_init 39 = .ok (.putfield 24, 3) := by decide +kernel
theorem dX2_init_42 : decode cX2_init 42 = .ok (.return_, 1) := by decide +kernel
theorem dX2_clear_0 : decode cX2_clear 0 = .ok (.aload_n 0, 1) := by decide +kernel
theorem dX2_clear_1 : decode cX2_clear 1 = .ok (.iconst 0, 1) := by decide +kernel
theorem dX2_clear_2 : decode cX2_clear 2 = .ok (.putfield 28, 3) := by decide +kernel
theorem dX2_clear_5 : decode cX2_clear 5 = .ok (.aload_n 0, 1) := by decide +kernel
theorem dX2_clear_6 : decode cX2_clear 6 = .ok (.iconst 0, 1) := by decide +kernel
theorem dX2_clear_7 : decode cX2_clear 7 = .ok (.putfield 32, 3) := by decide +kernel
theorem dX2_clear_10 : decode cX2_clear 10 = .ok (.aload_n 0, 1) := by decide +kernel
theorem dX2_clear_11 : decode cX2_clear 11 = .ok (.getfield 9, 3) := by decide +kernel
theorem dX2_clear_14 : decode cX2_clear 14 = .ok (.iconst 0, 1) := by decide +kernel
theorem dX2_clear_15 : decode cX2_clear 15 = .ok (.invokestatic 35, 3) := by decide +kernel
theorem dX2_clear_18 : decode cX2_clear 18 = .ok (.aload_n 0, 1) := by decide +kernel
theorem dX2_clear_19 : decode cX2_clear 19 = .ok (.getfield 21, 3) := by decide +kernel
theorem dX2_clear_22 : decode cX2_clear 22 = .ok (.iconst 0, 1) := by decide +kernel
theorem dX2_clear_23 : decode cX2_clear 23 = .ok (.invokestatic 35, 3) := by decide +kernel
theorem dX2_clear_26 : decode cX2_clear 26 = .ok (.return_, 1) := by decide +kernel
theorem dX2_isPerson_0 : decode cX2_isPerson 0 = .ok (.iload_n 1, 1) := by decide +kernel
theorem dX2_isPerson_1 : decode cX2_isPerson 1 = .ok (.ifCond .lt 15, 3) := by decide +kernel
theorem dX2_isPerson_4 : decode cX2_isPerson 4 = .ok (.iload_n 1, 1) := by decide +kernel
theorem dX2_isPerson_5 : decode cX2_isPerson 5 = .ok (.aload_n 0, 1) := by decide +kernel
theorem dX2_isPerson_6 : decode cX2_isPerson 6 = .ok (.getfield 28, 3) := by decide +kernel
theorem dX2_isPerson_9 : decode cX2_isPerson 9 = .ok (.if_icmp .ge 7, 3) := by decide +kernel
theorem dX2_isPerson_12 : decode cX2_isPerson 12 = .ok (.iconst 1, 1) := by decide +kernel
theorem dX2_isPerson_13 : decode cX2_isPerson 13 = .ok (.goto 4, 3) := by decide +kernel
theorem dX2_isPerson_16 : decode cX2_isPerson 16 = .ok (.iconst 0, 1) := by decide +kernel
theorem dX2_isPerson_17 : decode cX2_isPerson 17 = .ok (.ireturn, 1) := by decide +kernel
theorem dX2_isThing_0 : decode cX2_isThing 0 = .ok (.iload_n 1, 1) := by decide +kernel
theorem dX2_isThing_1 : decode cX2_isThing 1 = .ok (.ifCond .lt 15, 3) := by decide +kernel
theorem dX2_isThing_4 : decode cX2_isThing 4 = .ok (.iload_n 1, 1) := by decide +kernel
theorem dX2_isThing_5 : decode cX2_isThing 5 = .ok (.aload_n 0, 1) := by decide +kernel
theorem dX2_isThing_6 : decode cX2_isThing 6 = .ok (.getfield 32, 3) := by decide +kernel
theorem dX2_isThing_9 : decode cX2_isThing 9 = .ok (.if_icmp .ge 7, 3) := by decide +kernel
theorem dX2_isThing_12 : decode cX2_isThing 12 = .ok (.iconst 1, 1) := by decide +kernel
theorem dX2_isThing_13 : decode cX2_isThing 13 = .ok (.goto 4, 3) := by decide +kernel
theorem dX2_isThing_16 : decode cX2_isThing 16 = .ok (.iconst 0, 1) := by decide +kernel
theorem dX2_isThing_17 : decode cX2_isThing 17 = .ok (.ireturn, 1) := by decide +kernel
theorem dX2_addPerson_0 : decode cX2_addPerson 0 = .ok (.aload_n 0, 1) := by decide +kernel
theorem dX2_addPerson_1 : decode cX2_addPerson 1 = .ok (.getfield 28, 3) := by decide +kernel
theorem dX2_addPerson_4 : decode cX2_addPerson 4 = .ok (.iconst 5, 1) := by decide +kernel
theorem dX2_addPerson_5 : decode cX2_addPerson 5 = .ok (.if_icmp .ge 9, 3) := by decide +kernel
theorem dX2_addPerson_8 : decode cX2_addPerson 8 = .ok (.iload_n 1, 1) := by decide +kernel
theorem dX2_addPerson_9 : decode cX2_addPerson 9 = .ok (.bipush 9, 2) := by decide +kernel
theorem dX2_addPerson_11 : decode cX2_addPerson 11 = .ok (.if_icmp .le 5, 3) := by decide +kernel
theorem dX2_addPerson_14 : decode cX2_addPerson 14 = .ok (.iconst 0, 1) := by decide +kernel
theorem dX2_addPerson_15 : decode cX2_addPerson 15 = .ok (.ireturn, 1) := by decide +kernel
theorem dX2_addPerson_16 : decode cX2_addPerson 16 = .ok (.aload_n 0, 1) := by decide +kernel
theorem dX2_addPerson_17 : decode cX2_addPerson 17 = .ok (.getfield 9, 3) := by decide +kernel
theorem dX2_addPerson_20 : decode cX2_addPerson 20 = .ok (.aload_n 0, 1) := by decide +kernel
theorem dX2_addPerson_21 : decode cX2_addPerson 21 = .ok (.getfield 28, 3) := by decide +kernel
theorem dX2_addPerson_24 : decode cX2_addPerson 24 = .ok (.iload_n 1, 1) := by decide +kernel
theorem dX2_addPerson_25 : decode cX2_addPerson 25 = .ok (.iastore, 1) := by decide +kernel
theorem dX2_addPerson_26 : decode cX2_addPerson 26 = .ok (.aload_n 0, 1) := by decide +kernel
theorem dX2_addPerson_27 : decode cX2_addPerson 27 = .ok (.dup, 1) := by decide +kernel
theorem dX2_addPerson_28 : decode cX2_addPerson 28 = .ok (.getfield 28, 3) := by decide +kernel
theorem dX2_addPerson_31 : decode cX2_addPerson 31 = .ok (.iconst 1, 1) := by decide +kernel
theorem dX2_addPerson_32 : decode cX2_addPerson 32 = .ok (.iadd, 1) := by decide +kernel
theorem dX2_addPerson_33 : decode cX2_addPerson 33 = .ok (.putfield 28, 3) := by decide +kernel
theorem dX2_addPerson_36 : decode cX2_addPerson 36 = .ok (.iconst 1, 1) := by decide +kernel
theorem dX2_addPerson_37 : decode cX2_addPerson 37 = .ok (.ireturn, 1) := by decide +kernel
theorem dX2_addThing_0 : decode cX2_addThing 0 = .ok (.aload_n 0, 1) := by decide +kernel
theorem dX2_addThing_1 : decode cX2_addThing 1 = .ok (.getfield 32, 3) := by decide +kernel
theorem dX2_addThing_4 : decode cX2_addThing 4 = .ok (.bipush 6, 2) := by decide +kernel
theorem dX2_addThing_6 : decode cX2_addThing 6 = .ok (.if_icmp .ge 14, 3) := by decide +kernel
theorem dX2_addThing_9 : decode cX2_addThing 9 = .ok (.iload_n 1, 1) := by decide +kernel
theorem dX2_addThing_10 : decode cX2_addThing 10 = .ok (.iconst 3, 1) := by decide +kernel
theorem dX2_addThing_11 : decode cX2_addThing 11 = .ok (.if_icmp .gt 9, 3) := by decide +kernel
theorem dX2_addThing_14 : decode cX2_addThing 14 = .ok (.iload_n 2, 1) := by decide +kernel
theorem dX2_addThing_15 : decode cX2_addThing 15 = .ok (.bipush 30, 2) := by decide +kernel
theorem dX2_addThing_17 : decode cX2_addThing 17 = .ok (.if_icmp .le 5, 3) := by decide +kernel
theorem dX2_addThing_20 : decode cX2_addThing 20 = .ok (.iconst 0, 1) := by decide +kernel
theorem dX2_addThing_21 : decode cX2_addThing 21 = .ok (.ireturn, 1) := by decide +kernel
theorem dX2_addThing_22 : decode cX2_addThing 22 = .ok (.aload_n 0, 1) := by decide +kernel
theorem dX2_addThing_23 : decode cX2_addThing 23 = .ok (.getfield 15, 3) := by decide +kernel
theorem dX2_addThing_26 : decode cX2_addThing 26 = .ok (.aload_n 0, 1) := by decide +kernel
theorem dX2_addThing_27 : decode cX2_addThing 27 = .ok (.getfield 32, 3) := by decide +kernel
theorem dX2_addThing_30 : decode cX2_addThing 30 = .ok (.iload_n 1, 1) := by decide +kernel
theorem dX2_addThing_31 : decode cX2_addThing 31 = .ok (.iastore, 1) := by decide +kernel
theorem dX2_addThing_32 : decode cX2_addThing 32 = .ok (.aload_n 0, 1) := by decide +kernel
theorem dX2_addThing_33 : decode cX2_addThing 33 = .ok (.getfield 18, 3) := by decide +kernel
theorem dX2_addThing_36 : decode cX2_addThing 36 = .ok (.aload_n 0, 1) := by decide +kernel
theorem dX2_addThing_37 : decode cX2_addThing 37 = .ok (.getfield 32, 3) := by decide +kernel
theorem dX2_addThing_40 : decode cX2_addThing 40 = .ok (.iload_n 2, 1) := by decide +kernel
theorem dX2_addThing_41 : decode cX2_addThing 41 = .ok (.iastore, 1) := by decide +kernel
theorem dX2_addThing_42 : decode cX2_addThing 42 = .ok (.aload_n 0, 1) := by decide +kernel
theorem dX2_addThing_43 : decode cX2_addThing 43 = .ok (.dup, 1) := by decide +kernel
theorem dX2_addThing_44 : decode cX2_addThing 44 = .ok (.getfield 32, 3) := by decide +kernel
theorem dX2_addThing_47 : decode cX2_addThing 47 = .ok (.iconst 1, 1) := by decide +kernel
theorem dX2_addThing_48 : decode cX2_addThing 48 = .ok (.iadd, 1) := by decide +kernel
theorem dX2_addThing_49 : decode cX2_addThing 49 = .ok (.putfield 32, 3) := by decide +kernel
theorem dX2_addThing_52 : decode cX2_addThing 52 = .ok (.iconst 1, 1) := by decide +kernel
theorem dX2_addThing_53 : decode cX2_addThing 53 = .ok (.ireturn, 1) := by decide +kernel
theorem dX2_addLiking_0 : decode cX2_addLiking 0 = .ok (.aload_n 0, 1) := by decide +kernel
theorem dX2_addLiking_1 : decode cX2_addLiking 1 = .ok (.iload_n 1, 1) := by decide +kernel
theorem dX2_addLiking_2 : decode cX2_addLiking 2 = .ok (.invokevirtual 41, 3) := by decide +kernel
theorem dX2_addLiking_5 : decode cX2_addLiking 5 = .ok (.ifCond .eq 17, 3) := by decide +kernel
theorem dX2_addLiking_8 : decode cX2_addLiking 8 = .ok (.aload_n 0, 1) := by decide +kernel
theorem dX2_addLiking_9 : decode cX2_addLiking 9 = .ok (.iload_n 2, 1) := by decide +kernel
theorem dX2_addLiking_10 : decode cX2_addLiking 10 = .ok (.invokevirtual 45, 3) := by decide +kernel
theorem dX2_addLiking_13 : decode cX2_addLiking 13 = .ok (.ifCond .eq 9, 3) := by decide +kernel
theorem dX2_addLiking_16 : decode cX2_addLiking 16 = .ok (.iload_n 3, 1) := by decide +kernel
theorem dX2_addLiking_17 : decode cX2_addLiking 17 = .ok (.bipush 30, 2) := by decide +kernel
theorem dX2_addLiking_19 : decode cX2_addLiking 19 = .ok (.if_icmp .le 5, 3) := by decide +kernel
theorem dX2_addLiking_22 : decode cX2_addLiking 22 = .ok (.iconst 0, 1) := by decide +kernel
theorem dX2_addLiking_23 : decode cX2_addLiking 23 = .ok (.ireturn, 1) := by decide +kernel
theorem dX2_addLiking_24 : decode cX2_addLiking 24 = .ok (.aload_n 0, 1) := by decide +kernel
theorem dX2_addLiking_25 : decode cX2_addLiking 25 = .ok (.getfield 21, 3) := by decide +kernel
theorem dX2_addLiking_28 : decode cX2_addLiking 28 = .ok (.iload_n 1, 1) := by decide +kernel
theorem dX2_addLiking_29 : decode cX2_addLiking 29 = .ok (.bipush 6, 2) := by decide +kernel
theorem dX2_addLiking_31 : decode cX2_addLiking 31 = .ok (.imul, 1) := by decide +kernel
theorem dX2_addLiking_32 : decode cX2_addLiking 32 = .ok (.iload_n 2, 1) := by decide +kernel
theorem dX2_addLiking_33 : decode cX2_addLiking 33 = .ok (.iadd, 1) := by decide +kernel
theorem dX2_addLiking_34 : decode cX2_addLiking 34 = .ok (.iload_n 3, 1) := by decide +kernel
theorem dX2_addLiking_35 : decode cX2_addLiking 35 = .ok (.iastore, 1) := by decide +kernel
theorem dX2_addLiking_36 : decode cX2_addLiking 36 = .ok (.iconst 1, 1) := by decide +kernel
theorem dX2_addLiking_37 : decode cX2_addLiking 37 = .ok (.ireturn, 1) := by decide +kernel
theorem dX2_likingOf_0 : decode cX2_likingOf 0 = .ok (.aload_n 0, 1) := by decide +kernel
theorem dX2_likingOf_1 : decode cX2_likingOf 1 = .ok (.getfield 21, 3) := by decide +kernel
theorem dX2_likingOf_4 : decode cX2_likingOf 4 = .ok (.iload_n 1, 1) := by decide +kernel
theorem dX2_likingOf_5 : decode cX2_likingOf 5 = .ok (.bipush 6, 2) := by decide +kernel
theorem dX2_likingOf_7 : decode cX2_likingOf 7 = .ok (.imul, 1) := by decide +kernel
theorem dX2_likingOf_8 : decode cX2_likingOf 8 = .ok (.iload_n 2, 1) := by decide +kernel
theorem dX2_likingOf_9 : decode cX2_likingOf 9 = .ok (.iadd, 1) := by decide +kernel
theorem dX2_likingOf_10 : decode cX2_likingOf 10 = .ok (.iaload, 1) := by decide +kernel
theorem dX2_likingOf_11 : decode cX2_likingOf 11 = .ok (.ireturn, 1) := by decide +kernel
theorem dX2_allTickets_0 : decode cX2_allTickets 0 = .ok (.iconst 0, 1) := by decide +kernel
theorem dX2_allTickets_1 : decode cX2_allTickets 1 = .ok (.istore_n 1, 1) := by decide +kernel
theorem dX2_allTickets_2 : decode cX2_allTickets 2 = .ok (.iconst 0, 1) := by decide +kernel
theorem dX2_allTickets_3 : decode cX2_allTickets 3 = .ok (.istore_n 2, 1) := by decide +kernel
theorem dX2_allTickets_4 : decode cX2_allTickets 4 = .ok (.iload_n 2, 1) := by decide +kernel
theorem dX2_allTickets_5 : decode cX2_allTickets 5 = .ok (.aload_n 0, 1) := by decide +kernel
theorem dX2_allTickets_6 : decode cX2_allTickets 6 = .ok (.getfield 28, 3) := by decide +kernel
theorem dX2_allTickets_9 : decode cX2_allTickets 9 = .ok (.if_icmp .ge 18, 3) := by decide +kernel
theorem dX2_allTickets_12 : decode cX2_allTickets 12 = .ok (.iload_n 1, 1) := by decide +kernel
theorem dX2_allTickets_13 : decode cX2_allTickets 13 = .ok (.aload_n 0, 1) := by decide +kernel
theorem dX2_allTickets_14 : decode cX2_allTickets 14 = .ok (.getfield 9, 3) := by decide +kernel
theorem dX2_allTickets_17 : decode cX2_allTickets 17 = .ok (.iload_n 2, 1) := by decide +kernel
theorem dX2_allTickets_18 : decode cX2_allTickets 18 = .ok (.iaload, 1) := by decide +kernel
theorem dX2_allTickets_19 : decode cX2_allTickets 19 = .ok (.iadd, 1) := by decide +kernel
theorem dX2_allTickets_20 : decode cX2_allTickets 20 = .ok (.istore_n 1, 1) := by decide +kernel
theorem dX2_allTickets_21 : decode cX2_allTickets 21 = .ok (.iinc 2 1, 3) := by decide +kernel
theorem dX2_allTickets_24 : decode cX2_allTickets 24 = .ok (.goto (-20), 3) := by decide +kernel
theorem dX2_allTickets_27 : decode cX2_allTickets 27 = .ok (.iload_n 1, 1) := by decide +kernel
theorem dX2_allTickets_28 : decode cX2_allTickets 28 = .ok (.ireturn, 1) := by decide +kernel
theorem dX2_worthTo_0 : decode cX2_worthTo 0 = .ok (.aload_n 0, 1) := by decide +kernel
theorem dX2_worthTo_1 : decode cX2_worthTo 1 = .ok (.iconst 0, 1) := by decide +kernel
theorem dX2_worthTo_2 : decode cX2_worthTo 2 = .ok (.iload_n 2, 1) := by decide +kernel
theorem dX2_worthTo_3 : decode cX2_worthTo 3 = .ok (.invokevirtual 48, 3) := by decide +kernel
theorem dX2_worthTo_6 : decode cX2_worthTo 6 = .ok (.istore_n 3, 1) := by decide +kernel
theorem dX2_worthTo_7 : decode cX2_worthTo 7 = .ok (.aload_n 0, 1) := by decide +kernel
theorem dX2_worthTo_8 : decode cX2_worthTo 8 = .ok (.iconst 3, 1) := by decide +kernel
theorem dX2_worthTo_9 : decode cX2_worthTo 9 = .ok (.iload_n 2, 1) := by decide +kernel
theorem dX2_worthTo_10 : decode cX2_worthTo 10 = .ok (.invokevirtual 48, 3) := by decide +kernel
theorem dX2_worthTo_13 : decode cX2_worthTo 13 = .ok (.istore 4, 2) := by decide +kernel
theorem dX2_worthTo_15 : decode cX2_worthTo 15 = .ok (.iconst 0, 1) := by decide +kernel
theorem dX2_worthTo_16 : decode cX2_worthTo 16 = .ok (.istore 5, 2) := by decide +kernel
theorem dX2_worthTo_18 : decode cX2_worthTo 18 = .ok (.iconst 0, 1) := by decide +kernel
theorem dX2_worthTo_19 : decode cX2_worthTo 19 = .ok (.istore 6, 2) := by decide +kernel
theorem dX2_worthTo_21 : decode cX2_worthTo 21 = .ok (.iload 6, 2) := by decide +kernel
theorem dX2_worthTo_23 : decode cX2_worthTo 23 = .ok (.aload_n 0, 1) := by decide +kernel
theorem dX2_worthTo_24 : decode cX2_worthTo 24 = .ok (.getfield 32, 3) := by decide +kernel
theorem dX2_worthTo_27 : decode cX2_worthTo 27 = .ok (.if_icmp .ge 40, 3) := by decide +kernel
theorem dX2_worthTo_30 : decode cX2_worthTo 30 = .ok (.iload_n 2, 1) := by decide +kernel
theorem dX2_worthTo_31 : decode cX2_worthTo 31 = .ok (.iload 6, 2) := by decide +kernel
theorem dX2_worthTo_33 : decode cX2_worthTo 33 = .ok (.ishr, 1) := by decide +kernel
theorem dX2_worthTo_34 : decode cX2_worthTo 34 = .ok (.iconst 1, 1) := by decide +kernel
theorem dX2_worthTo_35 : decode cX2_worthTo 35 = .ok (.iand, 1) := by decide +kernel
theorem dX2_worthTo_36 : decode cX2_worthTo 36 = .ok (.ifCond .eq 25, 3) := by decide +kernel
theorem dX2_worthTo_39 : decode cX2_worthTo 39 = .ok (.iload 5, 2) := by decide +kernel
theorem dX2_worthTo_41 : decode cX2_worthTo 41 = .ok (.aload_n 0, 1) := by decide +kernel
theorem dX2_worthTo_42 : decode cX2_worthTo 42 = .ok (.iload_n 1, 1) := by decide +kernel
theorem dX2_worthTo_43 : decode cX2_worthTo 43 = .ok (.iload 6, 2) := by decide +kernel
theorem dX2_worthTo_45 : decode cX2_worthTo 45 = .ok (.invokevirtual 52, 3) := by decide +kernel
theorem dX2_worthTo_48 : decode cX2_worthTo 48 = .ok (.aload_n 0, 1) := by decide +kernel
theorem dX2_worthTo_49 : decode cX2_worthTo 49 = .ok (.iload 6, 2) := by decide +kernel
theorem dX2_worthTo_51 : decode cX2_worthTo 51 = .ok (.iload_n 3, 1) := by decide +kernel
theorem dX2_worthTo_52 : decode cX2_worthTo 52 = .ok (.iload 4, 2) := by decide +kernel
theorem dX2_worthTo_54 : decode cX2_worthTo 54 = .ok (.invokevirtual 55, 3) := by decide +kernel
theorem dX2_worthTo_57 : decode cX2_worthTo 57 = .ok (.iadd, 1) := by decide +kernel
theorem dX2_worthTo_58 : decode cX2_worthTo 58 = .ok (.iadd, 1) := by decide +kernel
theorem dX2_worthTo_59 : decode cX2_worthTo 59 = .ok (.istore 5, 2) := by decide +kernel
theorem dX2_worthTo_61 : decode cX2_worthTo 61 = .ok (.iinc 6 1, 3) := by decide +kernel
theorem dX2_worthTo_64 : decode cX2_worthTo 64 = .ok (.goto (-43), 3) := by decide +kernel
theorem dX2_worthTo_67 : decode cX2_worthTo 67 = .ok (.iload 5, 2) := by decide +kernel
theorem dX2_worthTo_69 : decode cX2_worthTo 69 = .ok (.ireturn, 1) := by decide +kernel
theorem dX2_countOf_0 : decode cX2_countOf 0 = .ok (.iconst 0, 1) := by decide +kernel
theorem dX2_countOf_1 : decode cX2_countOf 1 = .ok (.istore_n 3, 1) := by decide +kernel
theorem dX2_countOf_2 : decode cX2_countOf 2 = .ok (.iconst 0, 1) := by decide +kernel
theorem dX2_countOf_3 : decode cX2_countOf 3 = .ok (.istore 4, 2) := by decide +kernel
theorem dX2_countOf_5 : decode cX2_countOf 5 = .ok (.iload 4, 2) := by decide +kernel
theorem dX2_countOf_7 : decode cX2_countOf 7 = .ok (.aload_n 0, 1) := by decide +kernel
theorem dX2_countOf_8 : decode cX2_countOf 8 = .ok (.getfield 32, 3) := by decide +kernel
theorem dX2_countOf_11 : decode cX2_countOf 11 = .ok (.if_icmp .ge 32, 3) := by decide +kernel
theorem dX2_countOf_14 : decode cX2_countOf 14 = .ok (.iload_n 2, 1) := by decide +kernel
theorem dX2_countOf_15 : decode cX2_countOf 15 = .ok (.iload 4, 2) := by decide +kernel
theorem dX2_countOf_17 : decode cX2_countOf 17 = .ok (.ishr, 1) := by decide +kernel
theorem dX2_countOf_18 : decode cX2_countOf 18 = .ok (.iconst 1, 1) := by decide +kernel
theorem dX2_countOf_19 : decode cX2_countOf 19 = .ok (.iand, 1) := by decide +kernel
theorem dX2_countOf_20 : decode cX2_countOf 20 = .ok (.ifCond .eq 17, 3) := by decide +kernel
theorem dX2_countOf_23 : decode cX2_countOf 23 = .ok (.aload_n 0, 1) := by decide +kernel
theorem dX2_countOf_24 : decode cX2_countOf 24 = .ok (.getfield 15, 3) := by decide +kernel
theorem dX2_countOf_27 : decode cX2_countOf 27 = .ok (.iload 4, 2) := by decide +kernel
theorem dX2_countOf_29 : decode cX2_countOf 29 = .ok (.iaload, 1) := by decide +kernel
theorem dX2_countOf_30 : decode cX2_countOf 30 = .ok (.iload_n 1, 1) := by decide +kernel
theorem dX2_countOf_31 : decode cX2_countOf 31 = .ok (.if_icmp .ne 6, 3) := by decide +kernel
theorem dX2_countOf_34 : decode cX2_countOf 34 = .ok (.iinc 3 1, 3) := by decide +kernel
theorem dX2_countOf_37 : decode cX2_countOf 37 = .ok (.iinc 4 1, 3) := by decide +kernel
theorem dX2_countOf_40 : decode cX2_countOf 40 = .ok (.goto (-35), 3) := by decide +kernel
theorem dX2_countOf_43 : decode cX2_countOf 43 = .ok (.iload_n 3, 1) := by decide +kernel
theorem dX2_countOf_44 : decode cX2_countOf 44 = .ok (.ireturn, 1) := by decide +kernel
theorem dX2_ownWorth_0 : decode cX2_ownWorth 0 = .ok (.aload_n 0, 1) := by decide +kernel
theorem dX2_ownWorth_1 : decode cX2_ownWorth 1 = .ok (.getfield 15, 3) := by decide +kernel
theorem dX2_ownWorth_4 : decode cX2_ownWorth 4 = .ok (.iload_n 1, 1) := by decide +kernel
theorem dX2_ownWorth_5 : decode cX2_ownWorth 5 = .ok (.iaload, 1) := by decide +kernel
theorem dX2_ownWorth_6 : decode cX2_ownWorth 6 = .ok (.tableswitch 57 0 2 #[26, 33, 41], 26) := by decide +kernel
theorem dX2_ownWorth_32 : decode cX2_ownWorth 32 = .ok (.aload_n 0, 1) := by decide +kernel
theorem dX2_ownWorth_33 : decode cX2_ownWorth 33 = .ok (.getfield 18, 3) := by decide +kernel
theorem dX2_ownWorth_36 : decode cX2_ownWorth 36 = .ok (.iload_n 1, 1) := by decide +kernel
theorem dX2_ownWorth_37 : decode cX2_ownWorth 37 = .ok (.iaload, 1) := by decide +kernel
theorem dX2_ownWorth_38 : decode cX2_ownWorth 38 = .ok (.ireturn, 1) := by decide +kernel
theorem dX2_ownWorth_39 : decode cX2_ownWorth 39 = .ok (.aload_n 0, 1) := by decide +kernel
theorem dX2_ownWorth_40 : decode cX2_ownWorth 40 = .ok (.getfield 18, 3) := by decide +kernel
theorem dX2_ownWorth_43 : decode cX2_ownWorth 43 = .ok (.iload_n 1, 1) := by decide +kernel
theorem dX2_ownWorth_44 : decode cX2_ownWorth 44 = .ok (.iaload, 1) := by decide +kernel
theorem dX2_ownWorth_45 : decode cX2_ownWorth 45 = .ok (.ineg, 1) := by decide +kernel
theorem dX2_ownWorth_46 : decode cX2_ownWorth 46 = .ok (.ireturn, 1) := by decide +kernel
theorem dX2_ownWorth_47 : decode cX2_ownWorth 47 = .ok (.iload_n 2, 1) := by decide +kernel
theorem dX2_ownWorth_48 : decode cX2_ownWorth 48 = .ok (.ifCond .le 7, 3) := by decide +kernel
theorem dX2_ownWorth_51 : decode cX2_ownWorth 51 = .ok (.iconst 0, 1) := by decide +kernel
theorem dX2_ownWorth_52 : decode cX2_ownWorth 52 = .ok (.goto 10, 3) := by decide +kernel
theorem dX2_ownWorth_55 : decode cX2_ownWorth 55 = .ok (.aload_n 0, 1) := by decide +kernel
theorem dX2_ownWorth_56 : decode cX2_ownWorth 56 = .ok (.getfield 18, 3) := by decide +kernel
theorem dX2_ownWorth_59 : decode cX2_ownWorth 59 = .ok (.iload_n 1, 1) := by decide +kernel
theorem dX2_ownWorth_60 : decode cX2_ownWorth 60 = .ok (.iaload, 1) := by decide +kernel
theorem dX2_ownWorth_61 : decode cX2_ownWorth 61 = .ok (.ineg, 1) := by decide +kernel
theorem dX2_ownWorth_62 : decode cX2_ownWorth 62 = .ok (.ireturn, 1) := by decide +kernel
theorem dX2_ownWorth_63 : decode cX2_ownWorth 63 = .ok (.iload_n 3, 1) := by decide +kernel
theorem dX2_ownWorth_64 : decode cX2_ownWorth 64 = .ok (.iconst 1, 1) := by decide +kernel
theorem dX2_ownWorth_65 : decode cX2_ownWorth 65 = .ok (.if_icmp .le 12, 3) := by decide +kernel
theorem dX2_ownWorth_68 : decode cX2_ownWorth 68 = .ok (.aload_n 0, 1) := by decide +kernel
theorem dX2_ownWorth_69 : decode cX2_ownWorth 69 = .ok (.getfield 18, 3) := by decide +kernel
theorem dX2_ownWorth_72 : decode cX2_ownWorth 72 = .ok (.iload_n 1, 1) := by decide +kernel
theorem dX2_ownWorth_73 : decode cX2_ownWorth 73 = .ok (.iaload, 1) := by decide +kernel
theorem dX2_ownWorth_74 : decode cX2_ownWorth 74 = .ok (.goto 4, 3) := by decide +kernel
theorem dX2_ownWorth_77 : decode cX2_ownWorth 77 = .ok (.iconst 0, 1) := by decide +kernel
theorem dX2_ownWorth_78 : decode cX2_ownWorth 78 = .ok (.ireturn, 1) := by decide +kernel
theorem dX2_rowsOf_0 : decode cX2_rowsOf 0 = .ok (.iload_n 1, 1) := by decide +kernel
theorem dX2_rowsOf_1 : decode cX2_rowsOf 1 = .ok (.ifCond .ne 5, 3) := by decide +kernel
theorem dX2_rowsOf_4 : decode cX2_rowsOf 4 = .ok (.lconst 1, 1) := by decide +kernel
theorem dX2_rowsOf_5 : decode cX2_rowsOf 5 = .ok (.lreturn, 1) := by decide +kernel
theorem dX2_rowsOf_6 : decode cX2_rowsOf 6 = .ok (.lconst 0, 1) := by decide +kernel
theorem dX2_rowsOf_7 : decode cX2_rowsOf 7 = .ok (.lstore_n 2, 1) := by decide +kernel
theorem dX2_rowsOf_8 : decode cX2_rowsOf 8 = .ok (.iconst 0, 1) := by decide +kernel
theorem dX2_rowsOf_9 : decode cX2_rowsOf 9 = .ok (.istore 4, 2) := by decide +kernel
theorem dX2_rowsOf_11 : decode cX2_rowsOf 11 = .ok (.iload 4, 2) := by decide +kernel
theorem dX2_rowsOf_13 : decode cX2_rowsOf 13 = .ok (.aload_n 0, 1) := by decide +kernel
theorem dX2_rowsOf_14 : decode cX2_rowsOf 14 = .ok (.getfield 28, 3) := by decide +kernel
theorem dX2_rowsOf_17 : decode cX2_rowsOf 17 = .ok (.if_icmp .ge 34, 3) := by decide +kernel
theorem dX2_rowsOf_20 : decode cX2_rowsOf 20 = .ok (.aload_n 0, 1) := by decide +kernel
theorem dX2_rowsOf_21 : decode cX2_rowsOf 21 = .ok (.getfield 24, 3) := by decide +kernel
theorem dX2_rowsOf_24 : decode cX2_rowsOf 24 = .ok (.iload 4, 2) := by decide +kernel
theorem dX2_rowsOf_26 : decode cX2_rowsOf 26 = .ok (.aload_n 0, 1) := by decide +kernel
theorem dX2_rowsOf_27 : decode cX2_rowsOf 27 = .ok (.getfield 9, 3) := by decide +kernel
theorem dX2_rowsOf_30 : decode cX2_rowsOf 30 = .ok (.iload 4, 2) := by decide +kernel
theorem dX2_rowsOf_32 : decode cX2_rowsOf 32 = .ok (.iaload, 1) := by decide +kernel
theorem dX2_rowsOf_33 : decode cX2_rowsOf 33 = .ok (.i2l, 1) := by decide +kernel
theorem dX2_rowsOf_34 : decode cX2_rowsOf 34 = .ok (.lastore, 1) := by decide +kernel
theorem dX2_rowsOf_35 : decode cX2_rowsOf 35 = .ok (.lload_n 2, 1) := by decide +kernel
theorem dX2_rowsOf_36 : decode cX2_rowsOf 36 = .ok (.aload_n 0, 1) := by decide +kernel
theorem dX2_rowsOf_37 : decode cX2_rowsOf 37 = .ok (.getfield 24, 3) := by decide +kernel
theorem dX2_rowsOf_40 : decode cX2_rowsOf 40 = .ok (.iload 4, 2) := by decide +kernel
theorem dX2_rowsOf_42 : decode cX2_rowsOf 42 = .ok (.laload, 1) := by decide +kernel
theorem dX2_rowsOf_43 : decode cX2_rowsOf 43 = .ok (.ladd, 1) := by decide +kernel
theorem dX2_rowsOf_44 : decode cX2_rowsOf 44 = .ok (.lstore_n 2, 1) := by decide +kernel
theorem dX2_rowsOf_45 : decode cX2_rowsOf 45 = .ok (.iinc 4 1, 3) := by decide +kernel
theorem dX2_rowsOf_48 : decode cX2_rowsOf 48 = .ok (.goto (-37), 3) := by decide +kernel
theorem dX2_rowsOf_51 : decode cX2_rowsOf 51 = .ok (.iconst 1, 1) := by decide +kernel
theorem dX2_rowsOf_52 : decode cX2_rowsOf 52 = .ok (.istore 4, 2) := by decide +kernel
theorem dX2_rowsOf_54 : decode cX2_rowsOf 54 = .ok (.iload 4, 2) := by decide +kernel
theorem dX2_rowsOf_56 : decode cX2_rowsOf 56 = .ok (.iload_n 1, 1) := by decide +kernel
theorem dX2_rowsOf_57 : decode cX2_rowsOf 57 = .ok (.if_icmp .ge 68, 3) := by decide +kernel
theorem dX2_rowsOf_60 : decode cX2_rowsOf 60 = .ok (.lload_n 2, 1) := by decide +kernel
theorem dX2_rowsOf_61 : decode cX2_rowsOf 61 = .ok (.lstore 5, 2) := by decide +kernel
theorem dX2_rowsOf_63 : decode cX2_rowsOf 63 = .ok (.lconst 0, 1) := by decide +kernel
theorem dX2_rowsOf_64 : decode cX2_rowsOf 64 = .ok (.lstore_n 2, 1) := by decide +kernel
theorem dX2_rowsOf_65 : decode cX2_rowsOf 65 = .ok (.iconst 0, 1) := by decide +kernel
theorem dX2_rowsOf_66 : decode cX2_rowsOf 66 = .ok (.istore 7, 2) := by decide +kernel
theorem dX2_rowsOf_68 : decode cX2_rowsOf 68 = .ok (.iload 7, 2) := by decide +kernel
theorem dX2_rowsOf_70 : decode cX2_rowsOf 70 = .ok (.aload_n 0, 1) := by decide +kernel
theorem dX2_rowsOf_71 : decode cX2_rowsOf 71 = .ok (.getfield 28, 3) := by decide +kernel
theorem dX2_rowsOf_74 : decode cX2_rowsOf 74 = .ok (.if_icmp .ge 45, 3) := by decide +kernel
theorem dX2_rowsOf_77 : decode cX2_rowsOf 77 = .ok (.aload_n 0, 1) := by decide +kernel
theorem dX2_rowsOf_78 : decode cX2_rowsOf 78 = .ok (.getfield 24, 3) := by decide +kernel
theorem dX2_rowsOf_81 : decode cX2_rowsOf 81 = .ok (.iload 7, 2) := by decide +kernel
theorem dX2_rowsOf_83 : decode cX2_rowsOf 83 = .ok (.aload_n 0, 1) := by decide +kernel
theorem dX2_rowsOf_84 : decode cX2_rowsOf 84 = .ok (.getfield 9, 3) := by decide +kernel
theorem dX2_rowsOf_87 : decode cX2_rowsOf 87 = .ok (.iload 7, 2) := by decide +kernel
theorem dX2_rowsOf_89 : decode cX2_rowsOf 89 = .ok (.iaload, 1) := by decide +kernel
theorem dX2_rowsOf_90 : decode cX2_rowsOf 90 = .ok (.i2l, 1) := by decide +kernel
theorem dX2_rowsOf_91 : decode cX2_rowsOf 91 = .ok (.lload 5, 2) := by decide +kernel
theorem dX2_rowsOf_93 : decode cX2_rowsOf 93 = .ok (.aload_n 0, 1) := by decide +kernel
theorem dX2_rowsOf_94 : decode cX2_rowsOf 94 = .ok (.getfield 24, 3) := by decide +kernel
theorem dX2_rowsOf_97 : decode cX2_rowsOf 97 = .ok (.iload 7, 2) := by decide +kernel
theorem dX2_rowsOf_99 : decode cX2_rowsOf 99 = .ok (.laload, 1) := by decide +kernel
theorem dX2_rowsOf_100 : decode cX2_rowsOf 100 = .ok (.lsub, 1) := by decide +kernel
theorem dX2_rowsOf_101 : decode cX2_rowsOf 101 = .ok (.lmul, 1) := by decide +kernel
theorem dX2_rowsOf_102 : decode cX2_rowsOf 102 = .ok (.lastore, 1) := by decide +kernel
theorem dX2_rowsOf_103 : decode cX2_rowsOf 103 = .ok (.lload_n 2, 1) := by decide +kernel
theorem dX2_rowsOf_104 : decode cX2_rowsOf 104 = .ok (.aload_n 0, 1) := by decide +kernel
theorem dX2_rowsOf_105 : decode cX2_rowsOf 105 = .ok (.getfield 24, 3) := by decide +kernel
theorem dX2_rowsOf_108 : decode cX2_rowsOf 108 = .ok (.iload 7, 2) := by decide +kernel
theorem dX2_rowsOf_110 : decode cX2_rowsOf 110 = .ok (.laload, 1) := by decide +kernel
theorem dX2_rowsOf_111 : decode cX2_rowsOf 111 = .ok (.ladd, 1) := by decide +kernel
theorem dX2_rowsOf_112 : decode cX2_rowsOf 112 = .ok (.lstore_n 2, 1) := by decide +kernel
theorem dX2_rowsOf_113 : decode cX2_rowsOf 113 = .ok (.iinc 7 1, 3) := by decide +kernel
theorem dX2_rowsOf_116 : decode cX2_rowsOf 116 = .ok (.goto (-48), 3) := by decide +kernel
theorem dX2_rowsOf_119 : decode cX2_rowsOf 119 = .ok (.iinc 4 1, 3) := by decide +kernel
theorem dX2_rowsOf_122 : decode cX2_rowsOf 122 = .ok (.goto (-68), 3) := by decide +kernel
theorem dX2_rowsOf_125 : decode cX2_rowsOf 125 = .ok (.lload_n 2, 1) := by decide +kernel
theorem dX2_rowsOf_126 : decode cX2_rowsOf 126 = .ok (.lreturn, 1) := by decide +kernel
theorem dX3_init_0 : decode cX3_init 0 = .ok (.aload_n 0, 1) := by decide +kernel
theorem dX3_init_1 : decode cX3_init 1 = .ok (.invokespecial 5, 3) := by decide +kernel
theorem dX3_init_4 : decode cX3_init 4 = .ok (.aload_n 0, 1) := by decide +kernel
theorem dX3_init_5 : decode cX3_init 5 = .ok (.bipush 14, 2) := by decide +kernel
theorem dX3_init_7 : decode cX3_init 7 = .ok (.newarray .int, 2) := by decide +kernel
theorem dX3_init_9 : decode cX3_init 9 = .ok (.putfield 11, 3) := by decide +kernel
theorem dX3_init_12 : decode cX3_init 12 = .ok (.return_, 1) := by decide +kernel
theorem dX3_start_0 : decode cX3_start 0 = .ok (.iconst 0, 1) := by decide +kernel
theorem dX3_start_1 : decode cX3_start 1 = .ok (.istore_n 2, 1) := by decide +kernel
theorem dX3_start_2 : decode cX3_start 2 = .ok (.iload_n 2, 1) := by decide +kernel
theorem dX3_start_3 : decode cX3_start 3 = .ok (.iconst 5, 1) := by decide +kernel
theorem dX3_start_4 : decode cX3_start 4 = .ok (.if_icmp .ge 21, 3) := by decide +kernel
theorem dX3_start_7 : decode cX3_start 7 = .ok (.aload_n 0, 1) := by decide +kernel
theorem dX3_start_8 : decode cX3_start 8 = .ok (.getfield 11, 3) := by decide +kernel
theorem dX3_start_11 : decode cX3_start 11 = .ok (.iload_n 2, 1) := by decide +kernel
theorem dX3_start_12 : decode cX3_start 12 = .ok (.aload_n 1, 1) := by decide +kernel
theorem dX3_start_13 : decode cX3_start 13 = .ok (.getfield 15, 3) := by decide +kernel
theorem dX3_start_16 : decode cX3_start 16 = .ok (.iload_n 2, 1) := by decide +kernel
theorem dX3_start_17 : decode cX3_start 17 = .ok (.iaload, 1) := by decide +kernel
theorem dX3_start_18 : decode cX3_start 18 = .ok (.iastore, 1) := by decide +kernel
theorem dX3_start_19 : decode cX3_start 19 = .ok (.iinc 2 1, 3) := by decide +kernel
theorem dX3_start_22 : decode cX3_start 22 = .ok (.goto (-20), 3) := by decide +kernel
theorem dX3_start_25 : decode cX3_start 25 = .ok (.iconst 0, 1) := by decide +kernel
theorem dX3_start_26 : decode cX3_start 26 = .ok (.istore_n 2, 1) := by decide +kernel
theorem dX3_start_27 : decode cX3_start 27 = .ok (.iload_n 2, 1) := by decide +kernel
theorem dX3_start_28 : decode cX3_start 28 = .ok (.bipush 6, 2) := by decide +kernel
theorem dX3_start_30 : decode cX3_start 30 = .ok (.if_icmp .ge 19, 3) := by decide +kernel
theorem dX3_start_33 : decode cX3_start 33 = .ok (.aload_n 0, 1) := by decide +kernel
theorem dX3_start_34 : decode cX3_start 34 = .ok (.getfield 11, 3) := by decide +kernel
theorem dX3_start_37 : decode cX3_start 37 = .ok (.iconst 5, 1) := by decide +kernel
theorem dX3_start_38 : decode cX3_start 38 = .ok (.iload_n 2, 1) := by decide +kernel
theorem dX3_start_39 : decode cX3_start 39 = .ok (.iadd, 1) := by decide +kernel
theorem dX3_start_40 : decode cX3_start 40 = .ok (.bipush (-4), 2) := by decide +kernel
theorem dX3_start_42 : decode cX3_start 42 = .ok (.iastore, 1) := by decide +kernel
theorem dX3_start_43 : decode cX3_start 43 = .ok (.iinc 2 1, 3) := by decide +kernel
theorem dX3_start_46 : decode cX3_start 46 = .ok (.goto (-19), 3) := by decide +kernel
theorem dX3_start_49 : decode cX3_start 49 = .ok (.aload_n 0, 1) := by decide +kernel
theorem dX3_start_50 : decode cX3_start 50 = .ok (.getfield 11, 3) := by decide +kernel
theorem dX3_start_53 : decode cX3_start 53 = .ok (.bipush 11, 2) := by decide +kernel
theorem dX3_start_55 : decode cX3_start 55 = .ok (.iconst 0, 1) := by decide +kernel
theorem dX3_start_56 : decode cX3_start 56 = .ok (.iastore, 1) := by decide +kernel
theorem dX3_start_57 : decode cX3_start 57 = .ok (.aload_n 0, 1) := by decide +kernel
theorem dX3_start_58 : decode cX3_start 58 = .ok (.getfield 11, 3) := by decide +kernel
theorem dX3_start_61 : decode cX3_start 61 = .ok (.bipush 12, 2) := by decide +kernel
theorem dX3_start_63 : decode cX3_start 63 = .ok (.iconst 0, 1) := by decide +kernel
theorem dX3_start_64 : decode cX3_start 64 = .ok (.iastore, 1) := by decide +kernel
theorem dX3_start_65 : decode cX3_start 65 = .ok (.aload_n 0, 1) := by decide +kernel
theorem dX3_start_66 : decode cX3_start 66 = .ok (.getfield 11, 3) := by decide +kernel
theorem dX3_start_69 : decode cX3_start 69 = .ok (.bipush 13, 2) := by decide +kernel
theorem dX3_start_71 : decode cX3_start 71 = .ok (.bipush (-4), 2) := by decide +kernel
theorem dX3_start_73 : decode cX3_start 73 = .ok (.iastore, 1) := by decide +kernel
theorem dX3_start_74 : decode cX3_start 74 = .ok (.return_, 1) := by decide +kernel
theorem dX3_copy_0 : decode cX3_copy 0 = .ok (.aload_n 1, 1) := by decide +kernel
theorem dX3_copy_1 : decode cX3_copy 1 = .ok (.getfield 11, 3) := by decide +kernel
theorem dX3_copy_4 : decode cX3_copy 4 = .ok (.iconst 0, 1) := by decide +kernel
theorem dX3_copy_5 : decode cX3_copy 5 = .ok (.aload_n 0, 1) := by decide +kernel
theorem dX3_copy_6 : decode cX3_copy 6 = .ok (.getfield 11, 3) := by decide +kernel
theorem dX3_copy_9 : decode cX3_copy 9 = .ok (.iconst 0, 1) := by decide +kernel
theorem dX3_copy_10 : decode cX3_copy 10 = .ok (.bipush 14, 2) := by decide +kernel
theorem dX3_copy_12 : decode cX3_copy 12 = .ok (.invokestatic 20, 3) := by decide +kernel
theorem dX3_copy_15 : decode cX3_copy 15 = .ok (.return_, 1) := by decide +kernel
theorem dX3_ticketsOf_0 : decode cX3_ticketsOf 0 = .ok (.aload_n 0, 1) := by decide +kernel
theorem dX3_ticketsOf_1 : decode cX3_ticketsOf 1 = .ok (.getfield 11, 3) := by decide +kernel
theorem dX3_ticketsOf_4 : decode cX3_ticketsOf 4 = .ok (.iload_n 1, 1) := by decide +kernel
theorem dX3_ticketsOf_5 : decode cX3_ticketsOf 5 = .ok (.iaload, 1) := by decide +kernel
theorem dX3_ticketsOf_6 : decode cX3_ticketsOf 6 = .ok (.ireturn, 1) := by decide +kernel
theorem dX3_ownerOf_0 : decode cX3_ownerOf 0 = .ok (.aload_n 0, 1) := by decide +kernel
theorem dX3_ownerOf_1 : decode cX3_ownerOf 1 = .ok (.getfield 11, 3) := by decide +kernel
theorem dX3_ownerOf_4 : decode cX3_ownerOf 4 = .ok (.iconst 5, 1) := by decide +kernel
theorem dX3_ownerOf_5 : decode cX3_ownerOf 5 = .ok (.iload_n 1, 1) := by decide +kernel
theorem dX3_ownerOf_6 : decode cX3_ownerOf 6 = .ok (.iadd, 1) := by decide +kernel
theorem dX3_ownerOf_7 : decode cX3_ownerOf 7 = .ok (.iaload, 1) := by decide +kernel
theorem dX3_ownerOf_8 : decode cX3_ownerOf 8 = .ok (.ireturn, 1) := by decide +kernel
theorem dX3_next_0 : decode cX3_next 0 = .ok (.aload_n 0, 1) := by decide +kernel
theorem dX3_next_1 : decode cX3_next 1 = .ok (.getfield 11, 3) := by decide +kernel
theorem dX3_next_4 : decode cX3_next 4 = .ok (.bipush 11, 2) := by decide +kernel
theorem dX3_next_6 : decode cX3_next 6 = .ok (.iaload, 1) := by decide +kernel
theorem dX3_next_7 : decode cX3_next 7 = .ok (.ireturn, 1) := by decide +kernel
theorem dX3_refusable_0 : decode cX3_refusable 0 = .ok (.aload_n 0, 1) := by decide +kernel
theorem dX3_refusable_1 : decode cX3_refusable 1 = .ok (.getfield 11, 3) := by decide +kernel
theorem dX3_refusable_4 : decode cX3_refusable 4 = .ok (.bipush 13, 2) := by decide +kernel
theorem dX3_refusable_6 : decode cX3_refusable 6 = .ok (.iaload, 1) := by decide +kernel
theorem dX3_refusable_7 : decode cX3_refusable 7 = .ok (.ireturn, 1) := by decide +kernel
theorem dX3_tickets_0 : decode cX3_tickets 0 = .ok (.iconst 0, 1) := by decide +kernel
theorem dX3_tickets_1 : decode cX3_tickets 1 = .ok (.istore_n 1, 1) := by decide +kernel
theorem dX3_tickets_2 : decode cX3_tickets 2 = .ok (.iconst 0, 1) := by decide +kernel
theorem dX3_tickets_3 : decode cX3_tickets 3 = .ok (.istore_n 2, 1) := by decide +kernel
theorem dX3_tickets_4 : decode cX3_tickets 4 = .ok (.iload_n 2, 1) := by decide +kernel
theorem dX3_tickets_5 : decode cX3_tickets 5 = .ok (.iconst 5, 1) := by decide +kernel
theorem dX3_tickets_6 : decode cX3_tickets 6 = .ok (.if_icmp .ge 18, 3) := by decide +kernel
theorem dX3_tickets_9 : decode cX3_tickets 9 = .ok (.iload_n 1, 1) := by decide +kernel
theorem dX3_tickets_10 : decode cX3_tickets 10 = .ok (.aload_n 0, 1) := by decide +kernel
theorem dX3_tickets_11 : decode cX3_tickets 11 = .ok (.getfield 11, 3) := by decide +kernel
theorem dX3_tickets_14 : decode cX3_tickets 14 = .ok (.iload_n 2, 1) := by decide +kernel
theorem dX3_tickets_15 : decode cX3_tickets 15 = .ok (.iaload, 1) := by decide +kernel
theorem dX3_tickets_16 : decode cX3_tickets 16 = .ok (.iadd, 1) := by decide +kernel
theorem dX3_tickets_17 : decode cX3_tickets 17 = .ok (.istore_n 1, 1) := by decide +kernel
theorem dX3_tickets_18 : decode cX3_tickets 18 = .ok (.iinc 2 1, 3) := by decide +kernel
theorem dX3_tickets_21 : decode cX3_tickets 21 = .ok (.goto (-17), 3) := by decide +kernel
theorem dX3_tickets_24 : decode cX3_tickets 24 = .ok (.iload_n 1, 1) := by decide +kernel
theorem dX3_tickets_25 : decode cX3_tickets 25 = .ok (.ireturn, 1) := by decide +kernel
theorem dX3_ticketHolder_0 : decode cX3_ticketHolder 0 = .ok (.iload_n 1, 1) := by decide +kernel
theorem dX3_ticketHolder_1 : decode cX3_ticketHolder 1 = .ok (.istore_n 2, 1) := by decide +kernel
theorem dX3_ticketHolder_2 : decode cX3_ticketHolder 2 = .ok (.iconst 0, 1) := by decide +kernel
theorem dX3_ticketHolder_3 : decode cX3_ticketHolder 3 = .ok (.istore_n 3, 1) := by decide +kernel
theorem dX3_ticketHolder_4 : decode cX3_ticketHolder 4 = .ok (.iload_n 3, 1) := by decide +kernel
theorem dX3_ticketHolder_5 : decode cX3_ticketHolder 5 = .ok (.iconst 5, 1) := by decide +kernel
theorem dX3_ticketHolder_6 : decode cX3_ticketHolder 6 = .ok (.if_icmp .ge 34, 3) := by decide +kernel
theorem dX3_ticketHolder_9 : decode cX3_ticketHolder 9 = .ok (.iload_n 2, 1) := by decide +kernel
theorem dX3_ticketHolder_10 : decode cX3_ticketHolder 10 = .ok (.ifCond .lt 30, 3) := by decide +kernel
theorem dX3_ticketHolder_13 : decode cX3_ticketHolder 13 = .ok (.iload_n 2, 1) := by decide +kernel
theorem dX3_ticketHolder_14 : decode cX3_ticketHolder 14 = .ok (.aload_n 0, 1) := by decide +kernel
theorem dX3_ticketHolder_15 : decode cX3_ticketHolder 15 = .ok (.getfield 11, 3) := by decide +kernel
theorem dX3_ticketHolder_18 : decode cX3_ticketHolder 18 = .ok (.iload_n 3, 1) := by decide +kernel
theorem dX3_ticketHolder_19 : decode cX3_ticketHolder 19 = .ok (.iaload, 1) := by decide +kernel
theorem dX3_ticketHolder_20 : decode cX3_ticketHolder 20 = .ok (.if_icmp .ge 5, 3) := by decide +kernel
theorem dX3_ticketHolder_23 : decode cX3_ticketHolder 23 = .ok (.iload_n 3, 1) := by decide +kernel
theorem dX3_ticketHolder_24 : decode cX3_ticketHolder 24 = .ok (.ireturn, 1) := by decide +kernel
theorem dX3_ticketHolder_25 : decode cX3_ticketHolder 25 = .ok (.iload_n 2, 1) := by decide +kernel
theorem dX3_ticketHolder_26 : decode cX3_ticketHolder 26 = .ok (.aload_n 0, 1) := by decide +kernel
theorem dX3_ticketHolder_27 : decode cX3_ticketHolder 27 = .ok (.getfield 11, 3) := by decide +kernel
theorem dX3_ticketHolder_30 : decode cX3_ticketHolder 30 = .ok (.iload_n 3, 1) := by decide +kernel
theorem dX3_ticketHolder_31 : decode cX3_ticketHolder 31 = .ok (.iaload, 1) := by decide +kernel
theorem dX3_ticketHolder_32 : decode cX3_ticketHolder 32 = .ok (.isub, 1) := by decide +kernel
theorem dX3_ticketHolder_33 : decode cX3_ticketHolder 33 = .ok (.istore_n 2, 1) := by decide +kernel
theorem dX3_ticketHolder_34 : decode cX3_ticketHolder 34 = .ok (.iinc 3 1, 3) := by decide +kernel
theorem dX3_ticketHolder_37 : decode cX3_ticketHolder 37 = .ok (.goto (-33), 3) := by decide +kernel
theorem dX3_ticketHolder_40 : decode cX3_ticketHolder 40 = .ok (.bipush (-4), 2) := by decide +kernel
theorem dX3_ticketHolder_42 : decode cX3_ticketHolder 42 = .ok (.ireturn, 1) := by decide +kernel
theorem dX3_setOf_0 : decode cX3_setOf 0 = .ok (.iconst 0, 1) := by decide +kernel
theorem dX3_setOf_1 : decode cX3_setOf 1 = .ok (.istore_n 2, 1) := by decide +kernel
theorem dX3_setOf_2 : decode cX3_setOf 2 = .ok (.iconst 0, 1) := by decide +kernel
theorem dX3_setOf_3 : decode cX3_setOf 3 = .ok (.istore_n 3, 1) := by decide +kernel
theorem dX3_setOf_4 : decode cX3_setOf 4 = .ok (.iload_n 3, 1) := by decide +kernel
theorem dX3_setOf_5 : decode cX3_setOf 5 = .ok (.bipush 6, 2) := by decide +kernel
theorem dX3_setOf_7 : decode cX3_setOf 7 = .ok (.if_icmp .ge 24, 3) := by decide +kernel
theorem dX3_setOf_10 : decode cX3_setOf 10 = .ok (.aload_n 0, 1) := by decide +kernel
theorem dX3_setOf_11 : decode cX3_setOf 11 = .ok (.iload_n 3, 1) := by decide +kernel
theorem dX3_setOf_12 : decode cX3_setOf 12 = .ok (.invokevirtual 26, 3) := by decide +kernel
theorem dX3_setOf_15 : decode cX3_setOf 15 = .ok (.iload_n 1, 1) := by decide +kernel
theorem dX3_setOf_16 : decode cX3_setOf 16 = .ok (.if_icmp .ne 9, 3) := by decide +kernel
theorem dX3_setOf_19 : decode cX3_setOf 19 = .ok (.iload_n 2, 1) := by decide +kernel
theorem dX3_setOf_20 : decode cX3_setOf 20 = .ok (.iconst 1, 1) := by decide +kernel
theorem dX3_setOf_21 : decode cX3_setOf 21 = .ok (.iload_n 3, 1) := by decide +kernel
theorem dX3_setOf_22 : decode cX3_setOf 22 = .ok (.ishl, 1) := by decide +kernel
theorem dX3_setOf_23 : decode cX3_setOf 23 = .ok (.ior, 1) := by decide +kernel
theorem dX3_setOf_24 : decode cX3_setOf 24 = .ok (.istore_n 2, 1) := by decide +kernel
theorem dX3_setOf_25 : decode cX3_setOf 25 = .ok (.iinc 3 1, 3) := by decide +kernel
theorem dX3_setOf_28 : decode cX3_setOf 28 = .ok (.goto (-24), 3) := by decide +kernel
theorem dX3_setOf_31 : decode cX3_setOf 31 = .ok (.iload_n 2, 1) := by decide +kernel
theorem dX3_setOf_32 : decode cX3_setOf 32 = .ok (.ireturn, 1) := by decide +kernel
theorem dX3_ownedSet_0 : decode cX3_ownedSet 0 = .ok (.iconst 0, 1) := by decide +kernel
theorem dX3_ownedSet_1 : decode cX3_ownedSet 1 = .ok (.istore_n 1, 1) := by decide +kernel
theorem dX3_ownedSet_2 : decode cX3_ownedSet 2 = .ok (.iconst 0, 1) := by decide +kernel
theorem dX3_ownedSet_3 : decode cX3_ownedSet 3 = .ok (.istore_n 2, 1) := by decide +kernel
theorem dX3_ownedSet_4 : decode cX3_ownedSet 4 = .ok (.iload_n 2, 1) := by decide +kernel
theorem dX3_ownedSet_5 : decode cX3_ownedSet 5 = .ok (.bipush 6, 2) := by decide +kernel
theorem dX3_ownedSet_7 : decode cX3_ownedSet 7 = .ok (.if_icmp .ge 25, 3) := by decide +kernel
theorem dX3_ownedSet_10 : decode cX3_ownedSet 10 = .ok (.aload_n 0, 1) := by decide +kernel
theorem dX3_ownedSet_11 : decode cX3_ownedSet 11 = .ok (.iload_n 2, 1) := by decide +kernel
theorem dX3_ownedSet_12 : decode cX3_ownedSet 12 = .ok (.invokevirtual 26, 3) := by decide +kernel
theorem dX3_ownedSet_15 : decode cX3_ownedSet 15 = .ok (.bipush (-4), 2) := by decide +kernel
theorem dX3_ownedSet_17 : decode cX3_ownedSet 17 = .ok (.if_icmp .eq 9, 3) := by decide +kernel
theorem dX3_ownedSet_20 : decode cX3_ownedSet 20 = .ok (.iload_n 1, 1) := by decide +kernel
theorem dX3_ownedSet_21 : decode cX3_ownedSet 21 = .ok (.iconst 1, 1) := by decide +kernel
theorem dX3_ownedSet_22 : decode cX3_ownedSet 22 = .ok (.iload_n 2, 1) := by decide +kernel
theorem dX3_ownedSet_23 : decode cX3_ownedSet 23 = .ok (.ishl, 1) := by decide +kernel
theorem dX3_ownedSet_24 : decode cX3_ownedSet 24 = .ok (.ior, 1) := by decide +kernel
theorem dX3_ownedSet_25 : decode cX3_ownedSet 25 = .ok (.istore_n 1, 1) := by decide +kernel
theorem dX3_ownedSet_26 : decode cX3_ownedSet 26 = .ok (.iinc 2 1, 3) := by decide +kernel
theorem dX3_ownedSet_29 : decode cX3_ownedSet 29 = .ok (.goto (-25), 3) := by decide +kernel
theorem dX3_ownedSet_32 : decode cX3_ownedSet 32 = .ok (.iload_n 1, 1) := by decide +kernel
theorem dX3_ownedSet_33 : decode cX3_ownedSet 33 = .ok (.ireturn, 1) := by decide +kernel
theorem dX3_ownedThings_0 : decode cX3_ownedThings 0 = .ok (.aload_n 0, 1) := by decide +kernel
theorem dX3_ownedThings_1 : decode cX3_ownedThings 1 = .ok (.invokevirtual 30, 3) := by decide +kernel
theorem dX3_ownedThings_4 : decode cX3_ownedThings 4 = .ok (.invokestatic 34, 3) := by decide +kernel
theorem dX3_ownedThings_7 : decode cX3_ownedThings 7 = .ok (.ireturn, 1) := by decide +kernel
theorem dX3_takeNext_0 : decode cX3_takeNext 0 = .ok (.aload_n 0, 1) := by decide +kernel
theorem dX3_takeNext_1 : decode cX3_takeNext 1 = .ok (.getfield 11, 3) := by decide +kernel
theorem dX3_takeNext_4 : decode cX3_takeNext 4 = .ok (.bipush 11, 2) := by decide +kernel
theorem dX3_takeNext_6 : decode cX3_takeNext 6 = .ok (.iaload, 1) := by decide +kernel
theorem dX3_takeNext_7 : decode cX3_takeNext 7 = .ok (.istore_n 2, 1) := by decide +kernel
theorem dX3_takeNext_8 : decode cX3_takeNext 8 = .ok (.iload_n 2, 1) := by decide +kernel
theorem dX3_takeNext_9 : decode cX3_takeNext 9 = .ok (.ifCond .lt 18, 3) := by decide +kernel
theorem dX3_takeNext_12 : decode cX3_takeNext 12 = .ok (.iload_n 2, 1) := by decide +kernel
theorem dX3_takeNext_13 : decode cX3_takeNext 13 = .ok (.bipush 6, 2) := by decide +kernel
theorem dX3_takeNext_15 : decode cX3_takeNext 15 = .ok (.if_icmp .ge 12, 3) := by decide +kernel
theorem dX3_takeNext_18 : decode cX3_takeNext 18 = .ok (.iload_n 1, 1) := by decide +kernel
theorem dX3_takeNext_19 : decode cX3_takeNext 19 = .ok (.ifCond .lt 8, 3) := by decide +kernel
theorem dX3_takeNext_22 : decode cX3_takeNext 22 = .ok (.iload_n 1, 1) := by decide +kernel
theorem dX3_takeNext_23 : decode cX3_takeNext 23 = .ok (.iconst 5, 1) := by decide +kernel
theorem dX3_takeNext_24 : decode cX3_takeNext 24 = .ok (.if_icmp .lt 4, 3) := by decide +kernel
theorem dX3_takeNext_27 : decode cX3_takeNext 27 = .ok (.return_, 1) := by decide +kernel
theorem dX3_takeNext_28 : decode cX3_takeNext 28 = .ok (.aload_n 0, 1) := by decide +kernel
theorem dX3_takeNext_29 : decode cX3_takeNext 29 = .ok (.getfield 11, 3) := by decide +kernel
theorem dX3_takeNext_32 : decode cX3_takeNext 32 = .ok (.iload_n 1, 1) := by decide +kernel
theorem dX3_takeNext_33 : decode cX3_takeNext 33 = .ok (.dup2, 1) := by decide +kernel
theorem dX3_takeNext_34 : decode cX3_takeNext 34 = .ok (.iaload, 1) := by decide +kernel
theorem dX3_takeNext_35 : decode cX3_takeNext 35 = .ok (.iconst 1, 1) := by decide +kernel
theorem dX3_takeNext_36 : decode cX3_takeNext 36 = .ok (.isub, 1) := by decide +kernel
theorem dX3_takeNext_37 : decode cX3_takeNext 37 = .ok (.iastore, 1) := by decide +kernel
theorem dX3_takeNext_38 : decode cX3_takeNext 38 = .ok (.aload_n 0, 1) := by decide +kernel
theorem dX3_takeNext_39 : decode cX3_takeNext 39 = .ok (.getfield 11, 3) := by decide +kernel
theorem dX3_takeNext_42 : decode cX3_takeNext 42 = .ok (.iconst 5, 1) := by decide +kernel
theorem dX3_takeNext_43 : decode cX3_takeNext 43 = .ok (.iload_n 2, 1) := by decide +kernel
theorem dX3_takeNext_44 : decode cX3_takeNext 44 = .ok (.iadd, 1) := by decide +kernel
theorem dX3_takeNext_45 : decode cX3_takeNext 45 = .ok (.iload_n 1, 1) := by decide +kernel
theorem dX3_takeNext_46 : decode cX3_takeNext 46 = .ok (.iastore, 1) := by decide +kernel
theorem dX3_takeNext_47 : decode cX3_takeNext 47 = .ok (.aload_n 0, 1) := by decide +kernel
theorem dX3_takeNext_48 : decode cX3_takeNext 48 = .ok (.getfield 11, 3) := by decide +kernel
theorem dX3_takeNext_51 : decode cX3_takeNext 51 = .ok (.bipush 11, 2) := by decide +kernel
theorem dX3_takeNext_53 : decode cX3_takeNext 53 = .ok (.iload_n 2, 1) := by decide +kernel
theorem dX3_takeNext_54 : decode cX3_takeNext 54 = .ok (.iconst 1, 1) := by decide +kernel
theorem dX3_takeNext_55 : decode cX3_takeNext 55 = .ok (.iadd, 1) := by decide +kernel
theorem dX3_takeNext_56 : decode cX3_takeNext 56 = .ok (.iastore, 1) := by decide +kernel
theorem dX3_takeNext_57 : decode cX3_takeNext 57 = .ok (.aload_n 0, 1) := by decide +kernel
theorem dX3_takeNext_58 : decode cX3_takeNext 58 = .ok (.getfield 11, 3) := by decide +kernel
theorem dX3_takeNext_61 : decode cX3_takeNext 61 = .ok (.bipush 13, 2) := by decide +kernel
theorem dX3_takeNext_63 : decode cX3_takeNext 63 = .ok (.aload_n 0, 1) := by decide +kernel
theorem dX3_takeNext_64 : decode cX3_takeNext 64 = .ok (.getfield 11, 3) := by decide +kernel
theorem dX3_takeNext_67 : decode cX3_takeNext 67 = .ok (.bipush 12, 2) := by decide +kernel
theorem dX3_takeNext_69 : decode cX3_takeNext 69 = .ok (.iaload, 1) := by decide +kernel
theorem dX3_takeNext_70 : decode cX3_takeNext 70 = .ok (.iload_n 2, 1) := by decide +kernel
theorem dX3_takeNext_71 : decode cX3_takeNext 71 = .ok (.ishr, 1) := by decide +kernel
theorem dX3_takeNext_72 : decode cX3_takeNext 72 = .ok (.iconst 1, 1) := by decide +kernel
theorem dX3_takeNext_73 : decode cX3_takeNext 73 = .ok (.iand, 1) := by decide +kernel
theorem dX3_takeNext_74 : decode cX3_takeNext 74 = .ok (.ifCond .eq 8, 3) := by decide +kernel
theorem dX3_takeNext_77 : decode cX3_takeNext 77 = .ok (.bipush (-4), 2) := by decide +kernel
theorem dX3_takeNext_79 : decode cX3_takeNext 79 = .ok (.goto 4, 3) := by decide +kernel
theorem dX3_takeNext_82 : decode cX3_takeNext 82 = .ok (.iload_n 2, 1) := by decide +kernel
theorem dX3_takeNext_83 : decode cX3_takeNext 83 = .ok (.iastore, 1) := by decide +kernel
theorem dX3_takeNext_84 : decode cX3_takeNext 84 = .ok (.return_, 1) := by decide +kernel
theorem dX3_putBack_0 : decode cX3_putBack 0 = .ok (.aload_n 0, 1) := by decide +kernel
theorem dX3_putBack_1 : decode cX3_putBack 1 = .ok (.getfield 11, 3) := by decide +kernel
theorem dX3_putBack_4 : decode cX3_putBack 4 = .ok (.iconst 5, 1) := by decide +kernel
theorem dX3_putBack_5 : decode cX3_putBack 5 = .ok (.iload_n 1, 1) := by decide +kernel
theorem dX3_putBack_6 : decode cX3_putBack 6 = .ok (.iadd, 1) := by decide +kernel
theorem dX3_putBack_7 : decode cX3_putBack 7 = .ok (.bipush (-4), 2) := by decide +kernel
theorem dX3_putBack_9 : decode cX3_putBack 9 = .ok (.iastore, 1) := by decide +kernel
theorem dX3_putBack_10 : decode cX3_putBack 10 = .ok (.aload_n 0, 1) := by decide +kernel
theorem dX3_putBack_11 : decode cX3_putBack 11 = .ok (.getfield 11, 3) := by decide +kernel
theorem dX3_putBack_14 : decode cX3_putBack 14 = .ok (.bipush 11, 2) := by decide +kernel
theorem dX3_putBack_16 : decode cX3_putBack 16 = .ok (.iload_n 1, 1) := by decide +kernel
theorem dX3_putBack_17 : decode cX3_putBack 17 = .ok (.iastore, 1) := by decide +kernel
theorem dX3_putBack_18 : decode cX3_putBack 18 = .ok (.aload_n 0, 1) := by decide +kernel
theorem dX3_putBack_19 : decode cX3_putBack 19 = .ok (.getfield 11, 3) := by decide +kernel
theorem dX3_putBack_22 : decode cX3_putBack 22 = .ok (.bipush 12, 2) := by decide +kernel
theorem dX3_putBack_24 : decode cX3_putBack 24 = .ok (.dup2, 1) := by decide +kernel
theorem dX3_putBack_25 : decode cX3_putBack 25 = .ok (.iaload, 1) := by decide +kernel
theorem dX3_putBack_26 : decode cX3_putBack 26 = .ok (.iconst 1, 1) := by decide +kernel
theorem dX3_putBack_27 : decode cX3_putBack 27 = .ok (.iload_n 1, 1) := by decide +kernel
theorem dX3_putBack_28 : decode cX3_putBack 28 = .ok (.ishl, 1) := by decide +kernel
theorem dX3_putBack_29 : decode cX3_putBack 29 = .ok (.ior, 1) := by decide +kernel
theorem dX3_putBack_30 : decode cX3_putBack 30 = .ok (.iastore, 1) := by decide +kernel
theorem dX3_putBack_31 : decode cX3_putBack 31 = .ok (.aload_n 0, 1) := by decide +kernel
theorem dX3_putBack_32 : decode cX3_putBack 32 = .ok (.getfield 11, 3) := by decide +kernel
theorem dX3_putBack_35 : decode cX3_putBack 35 = .ok (.bipush 13, 2) := by decide +kernel
theorem dX3_putBack_37 : decode cX3_putBack 37 = .ok (.bipush (-4), 2) := by decide +kernel
theorem dX3_putBack_39 : decode cX3_putBack 39 = .ok (.iastore, 1) := by decide +kernel
theorem dX3_putBack_40 : decode cX3_putBack 40 = .ok (.return_, 1) := by decide +kernel
theorem dX3_addTickets_0 : decode cX3_addTickets 0 = .ok (.aload_n 0, 1) := by decide +kernel
theorem dX3_addTickets_1 : decode cX3_addTickets 1 = .ok (.getfield 11, 3) := by decide +kernel
theorem dX3_addTickets_4 : decode cX3_addTickets 4 = .ok (.iload_n 1, 1) := by decide +kernel
theorem dX3_addTickets_5 : decode cX3_addTickets 5 = .ok (.dup2, 1) := by decide +kernel
theorem dX3_addTickets_6 : decode cX3_addTickets 6 = .ok (.iaload, 1) := by decide +kernel
theorem dX3_addTickets_7 : decode cX3_addTickets 7 = .ok (.iload_n 2, 1) := by decide +kernel
theorem dX3_addTickets_8 : decode cX3_addTickets 8 = .ok (.iadd, 1) := by decide +kernel
theorem dX3_addTickets_9 : decode cX3_addTickets 9 = .ok (.iastore, 1) := by decide +kernel
theorem dX3_addTickets_10 : decode cX3_addTickets 10 = .ok (.return_, 1) := by decide +kernel
theorem dX3_pass_0 : decode cX3_pass 0 = .ok (.aload_n 0, 1) := by decide +kernel
theorem dX3_pass_1 : decode cX3_pass 1 = .ok (.iload_n 1, 1) := by decide +kernel
theorem dX3_pass_2 : decode cX3_pass 2 = .ok (.invokevirtual 26, 3) := by decide +kernel
theorem dX3_pass_5 : decode cX3_pass 5 = .ok (.iload_n 2, 1) := by decide +kernel
theorem dX3_pass_6 : decode cX3_pass 6 = .ok (.if_icmp .ne 4, 3) := by decide +kernel
theorem dX3_pass_9 : decode cX3_pass 9 = .ok (.return_, 1) := by decide +kernel
theorem dX3_pass_10 : decode cX3_pass 10 = .ok (.aload_n 0, 1) := by decide +kernel
theorem dX3_pass_11 : decode cX3_pass 11 = .ok (.getfield 11, 3) := by decide +kernel
theorem dX3_pass_14 : decode cX3_pass 14 = .ok (.iconst 5, 1) := by decide +kernel
theorem dX3_pass_15 : decode cX3_pass 15 = .ok (.iload_n 1, 1) := by decide +kernel
theorem dX3_pass_16 : decode cX3_pass 16 = .ok (.iadd, 1) := by decide +kernel
theorem dX3_pass_17 : decode cX3_pass 17 = .ok (.iload_n 2, 1) := by decide +kernel
theorem dX3_pass_18 : decode cX3_pass 18 = .ok (.iastore, 1) := by decide +kernel
theorem dX3_pass_19 : decode cX3_pass 19 = .ok (.aload_n 0, 1) := by decide +kernel
theorem dX3_pass_20 : decode cX3_pass 20 = .ok (.getfield 11, 3) := by decide +kernel
theorem dX3_pass_23 : decode cX3_pass 23 = .ok (.bipush 13, 2) := by decide +kernel
theorem dX3_pass_25 : decode cX3_pass 25 = .ok (.iaload, 1) := by decide +kernel
theorem dX3_pass_26 : decode cX3_pass 26 = .ok (.iload_n 1, 1) := by decide +kernel
theorem dX3_pass_27 : decode cX3_pass 27 = .ok (.if_icmp .ne 12, 3) := by decide +kernel
theorem dX3_pass_30 : decode cX3_pass 30 = .ok (.aload_n 0, 1) := by decide +kernel
theorem dX3_pass_31 : decode cX3_pass 31 = .ok (.getfield 11, 3) := by decide +kernel
theorem dX3_pass_34 : decode cX3_pass 34 = .ok (.bipush 13, 2) := by decide +kernel
theorem dX3_pass_36 : decode cX3_pass 36 = .ok (.bipush (-4), 2) := by decide +kernel
theorem dX3_pass_38 : decode cX3_pass 38 = .ok (.iastore, 1) := by decide +kernel
theorem dX3_pass_39 : decode cX3_pass 39 = .ok (.return_, 1) := by decide +kernel
theorem dX4_init_0 : decode cX4_init 0 = .ok (.aload_n 0, 1) := by decide +kernel
theorem dX4_init_1 : decode cX4_init 1 = .ok (.invokespecial 1, 3) := by decide +kernel
theorem dX4_init_4 : decode cX4_init 4 = .ok (.aload_n 0, 1) := by decide +kernel
theorem dX4_init_5 : decode cX4_init 5 = .ok (.iload_n 1, 1) := by decide +kernel
theorem dX4_init_6 : decode cX4_init 6 = .ok (.iconst 1, 1) := by decide +kernel
theorem dX4_init_7 : decode cX4_init 7 = .ok (.invokestatic 7, 3) := by decide +kernel
theorem dX4_init_10 : decode cX4_init 10 = .ok (.putfield 13, 3) := by decide +kernel
theorem dX4_init_13 : decode cX4_init 13 = .ok (.aload_n 0, 1) := by decide +kernel
theorem dX4_init_14 : decode cX4_init 14 = .ok (.aload_n 0, 1) := by decide +kernel
theorem dX4_init_15 : decode cX4_init 15 = .ok (.getfield 13, 3) := by decide +kernel
theorem dX4_init_18 : decode cX4_init 18 = .ok (.bipush 14, 2) := by decide +kernel
theorem dX4_init_20 : decode cX4_init 20 = .ok (.imul, 1) := by decide +kernel
theorem dX4_init_21 : decode cX4_init 21 = .ok (.newarray .int, 2) := by decide +kernel
theorem dX4_init_23 : decode cX4_init 23 = .ok (.putfield 21, 3) := by decide +kernel
theorem dX4_init_26 : decode cX4_init 26 = .ok (.return_, 1) := by decide +kernel
theorem dX4_isFull_0 : decode cX4_isFull 0 = .ok (.aload_n 0, 1) := by decide +kernel
theorem dX4_isFull_1 : decode cX4_isFull 1 = .ok (.getfield 25, 3) := by decide +kernel
theorem dX4_isFull_4 : decode cX4_isFull 4 = .ok (.aload_n 0, 1) := by decide +kernel
theorem dX4_isFull_5 : decode cX4_isFull 5 = .ok (.getfield 13, 3) := by decide +kernel
theorem dX4_isFull_8 : decode cX4_isFull 8 = .ok (.if_icmp .lt 7, 3) := by decide +kernel
theorem dX4_isFull_11 : decode cX4_isFull 11 = .ok (.iconst 1, 1) := by decide +kernel
theorem dX4_isFull_12 : decode cX4_isFull 12 = .ok (.goto 4, 3) := by decide +kernel
theorem dX4_isFull_15 : decode cX4_isFull 15 = .ok (.iconst 0, 1) := by decide +kernel
theorem dX4_isFull_16 : decode cX4_isFull 16 = .ok (.ireturn, 1) := by decide +kernel
theorem dX4_clear_0 : decode cX4_clear 0 = .ok (.aload_n 0, 1) := by decide +kernel
theorem dX4_clear_1 : decode cX4_clear 1 = .ok (.iconst 0, 1) := by decide +kernel
theorem dX4_clear_2 : decode cX4_clear 2 = .ok (.putfield 25, 3) := by decide +kernel
theorem dX4_clear_5 : decode cX4_clear 5 = .ok (.return_, 1) := by decide +kernel
theorem dX4_push_0 : decode cX4_push 0 = .ok (.aload_n 0, 1) := by decide +kernel
theorem dX4_push_1 : decode cX4_push 1 = .ok (.invokevirtual 28, 3) := by decide +kernel
theorem dX4_push_4 : decode cX4_push 4 = .ok (.ifCond .eq 34, 3) := by decide +kernel
theorem dX4_push_7 : decode cX4_push 7 = .ok (.aload_n 0, 1) := by decide +kernel
theorem dX4_push_8 : decode cX4_push 8 = .ok (.aload_n 0, 1) := by decide +kernel
theorem dX4_push_9 : decode cX4_push 9 = .ok (.getfield 13, 3) := by decide +kernel
theorem dX4_push_12 : decode cX4_push 12 = .ok (.iconst 1, 1) := by decide +kernel
theorem dX4_push_13 : decode cX4_push 13 = .ok (.isub, 1) := by decide +kernel
theorem dX4_push_14 : decode cX4_push 14 = .ok (.putfield 25, 3) := by decide +kernel
theorem dX4_push_17 : decode cX4_push 17 = .ok (.aload_n 0, 1) := by decide +kernel
theorem dX4_push_18 : decode cX4_push 18 = .ok (.getfield 21, 3) := by decide +kernel
theorem dX4_push_21 : decode cX4_push 21 = .ok (.bipush 14, 2) := by decide +kernel
theorem dX4_push_23 : decode cX4_push 23 = .ok (.aload_n 0, 1) := by decide +kernel
theorem dX4_push_24 : decode cX4_push 24 = .ok (.getfield 21, 3) := by decide +kernel
theorem dX4_push_27 : decode cX4_push 27 = .ok (.iconst 0, 1) := by decide +kernel
theorem dX4_push_28 : decode cX4_push 28 = .ok (.aload_n 0, 1) := by decide +kernel
theorem dX4_push_29 : decode cX4_push 29 = .ok (.getfield 25, 3) := by decide +kernel
theorem dX4_push_32 : decode cX4_push 32 = .ok (.bipush 14, 2) := by decide +kernel
theorem dX4_push_34 : decode cX4_push 34 = .ok (.imul, 1) := by decide +kernel
theorem dX4_push_35 : decode cX4_push 35 = .ok (.invokestatic 32, 3) := by decide +kernel
theorem dX4_push_38 : decode cX4_push 38 = .ok (.aload_n 1, 1) := by decide +kernel
theorem dX4_push_39 : decode cX4_push 39 = .ok (.getfield 38, 3) := by decide +kernel
theorem dX4_push_42 : decode cX4_push 42 = .ok (.iconst 0, 1) := by decide +kernel
theorem dX4_push_43 : decode cX4_push 43 = .ok (.aload_n 0, 1) := by decide +kernel
theorem dX4_push_44 : decode cX4_push 44 = .ok (.getfield 21, 3) := by decide +kernel
theorem dX4_push_47 : decode cX4_push 47 = .ok (.aload_n 0, 1) := by decide +kernel
theorem dX4_push_48 : decode cX4_push 48 = .ok (.getfield 25, 3) := by decide +kernel
theorem dX4_push_51 : decode cX4_push 51 = .ok (.bipush 14, 2) := by decide +kernel
theorem dX4_push_53 : decode cX4_push 53 = .ok (.imul, 1) := by decide +kernel
theorem dX4_push_54 : decode cX4_push 54 = .ok (.bipush 14, 2) := by decide +kernel
theorem dX4_push_56 : decode cX4_push 56 = .ok (.invokestatic 32, 3) := by decide +kernel
theorem dX4_push_59 : decode cX4_push 59 = .ok (.aload_n 0, 1) := by decide +kernel
theorem dX4_push_60 : decode cX4_push 60 = .ok (.dup, 1) := by decide +kernel
theorem dX4_push_61 : decode cX4_push 61 = .ok (.getfield 25, 3) := by decide +kernel
theorem dX4_push_64 : decode cX4_push 64 = .ok (.iconst 1, 1) := by decide +kernel
theorem dX4_push_65 : decode cX4_push 65 = .ok (.iadd, 1) := by decide +kernel
theorem dX4_push_66 : decode cX4_push 66 = .ok (.putfield 25, 3) := by decide +kernel
theorem dX4_push_69 : decode cX4_push 69 = .ok (.return_, 1) := by decide +kernel
theorem dX4_pop_0 : decode cX4_pop 0 = .ok (.aload_n 0, 1) := by decide +kernel
theorem dX4_pop_1 : decode cX4_pop 1 = .ok (.getfield 25, 3) := by decide +kernel
theorem dX4_pop_4 : decode cX4_pop 4 = .ok (.ifCond .ne 5, 3) := by decide +kernel
theorem dX4_pop_7 : decode cX4_pop 7 = .ok (.iconst 0, 1) := by decide +kernel
theorem dX4_pop_8 : decode cX4_pop 8 = .ok (.ireturn, 1) := by decide +kernel
theorem dX4_pop_9 : decode cX4_pop 9 = .ok (.aload_n 0, 1) := by decide +kernel
theorem dX4_pop_10 : decode cX4_pop 10 = .ok (.dup, 1) := by decide +kernel
theorem dX4_pop_11 : decode cX4_pop 11 = .ok (.getfield 25, 3) := by decide +kernel
theorem dX4_pop_14 : decode cX4_pop 14 = .ok (.iconst 1, 1) := by decide +kernel
theorem dX4_pop_15 : decode cX4_pop 15 = .ok (.isub, 1) := by decide +kernel
theorem dX4_pop_16 : decode cX4_pop 16 = .ok (.putfield 25, 3) := by decide +kernel
theorem dX4_pop_19 : decode cX4_pop 19 = .ok (.aload_n 0, 1) := by decide +kernel
theorem dX4_pop_20 : decode cX4_pop 20 = .ok (.getfield 21, 3) := by decide +kernel
theorem dX4_pop_23 : decode cX4_pop 23 = .ok (.aload_n 0, 1) := by decide +kernel
theorem dX4_pop_24 : decode cX4_pop 24 = .ok (.getfield 25, 3) := by decide +kernel
theorem dX4_pop_27 : decode cX4_pop 27 = .ok (.bipush 14, 2) := by decide +kernel
theorem dX4_pop_29 : decode cX4_pop 29 = .ok (.imul, 1) := by decide +kernel
theorem dX4_pop_30 : decode cX4_pop 30 = .ok (.aload_n 1, 1) := by decide +kernel
theorem dX4_pop_31 : decode cX4_pop 31 = .ok (.getfield 38, 3) := by decide +kernel
theorem dX4_pop_34 : decode cX4_pop 34 = .ok (.iconst 0, 1) := by decide +kernel
theorem dX4_pop_35 : decode cX4_pop 35 = .ok (.bipush 14, 2) := by decide +kernel
theorem dX4_pop_37 : decode cX4_pop 37 = .ok (.invokestatic 32, 3) := by decide +kernel
theorem dX4_pop_40 : decode cX4_pop 40 = .ok (.iconst 1, 1) := by decide +kernel
theorem dX4_pop_41 : decode cX4_pop 41 = .ok (.ireturn, 1) := by decide +kernel
theorem dX5_init_0 : decode cX5_init 0 = .ok (.aload_n 0, 1) := by decide +kernel
theorem dX5_init_1 : decode cX5_init 1 = .ok (.invokespecial 3, 3) := by decide +kernel
theorem dX5_init_4 : decode cX5_init 4 = .ok (.aload_n 0, 1) := by decide +kernel
theorem dX5_init_5 : decode cX5_init 5 = .ok (.sipush 200, 3) := by decide +kernel
theorem dX5_init_8 : decode cX5_init 8 = .ok (.newarray .char, 2) := by decide +kernel
theorem dX5_init_10 : decode cX5_init 10 = .ok (.putfield 9, 3) := by decide +kernel
theorem dX5_init_13 : decode cX5_init 13 = .ok (.aload_n 0, 1) := by decide +kernel
theorem dX5_init_14 : decode cX5_init 14 = .ok (.iconst 3, 1) := by decide +kernel
theorem dX5_init_15 : decode cX5_init 15 = .ok (.newarray .int, 2) := by decide +kernel
theorem dX5_init_17 : decode cX5_init 17 = .ok (.putfield 15, 3) := by decide +kernel
theorem dX5_init_20 : decode cX5_init 20 = .ok (.return_, 1) := by decide +kernel
theorem dX5_append_0 : decode cX5_append 0 = .ok (.aload_n 0, 1) := by decide +kernel
theorem dX5_append_1 : decode cX5_append 1 = .ok (.getfield 19, 3) := by decide +kernel
theorem dX5_append_4 : decode cX5_append 4 = .ok (.sipush 200, 3) := by decide +kernel
theorem dX5_append_7 : decode cX5_append 7 = .ok (.if_icmp .lt 5, 3) := by decide +kernel
theorem dX5_append_10 : decode cX5_append 10 = .ok (.iconst 0, 1) := by decide +kernel
theorem dX5_append_11 : decode cX5_append 11 = .ok (.ireturn, 1) := by decide +kernel
theorem dX5_append_12 : decode cX5_append 12 = .ok (.aload_n 0, 1) := by decide +kernel
theorem dX5_append_13 : decode cX5_append 13 = .ok (.getfield 9, 3) := by decide +kernel
theorem dX5_append_16 : decode cX5_append 16 = .ok (.aload_n 0, 1) := by decide +kernel
theorem dX5_append_17 : decode cX5_append 17 = .ok (.getfield 19, 3) := by decide +kernel
theorem dX5_append_20 : decode cX5_append 20 = .ok (.iload_n 1, 1) := by decide +kernel
theorem dX5_append_21 : decode cX5_append 21 = .ok (.castore, 1) := by decide +kernel
theorem dX5_append_22 : decode cX5_append 22 = .ok (.aload_n 0, 1) := by decide +kernel
theorem dX5_append_23 : decode cX5_append 23 = .ok (.dup, 1) := by decide +kernel
theorem dX5_append_24 : decode cX5_append 24 = .ok (.getfield 19, 3) := by decide +kernel
theorem dX5_append_27 : decode cX5_append 27 = .ok (.iconst 1, 1) := by decide +kernel
theorem dX5_append_28 : decode cX5_append 28 = .ok (.iadd, 1) := by decide +kernel
theorem dX5_append_29 : decode cX5_append 29 = .ok (.putfield 19, 3) := by decide +kernel
theorem dX5_append_32 : decode cX5_append 32 = .ok (.iconst 1, 1) := by decide +kernel
theorem dX5_append_33 : decode cX5_append 33 = .ok (.ireturn, 1) := by decide +kernel
theorem dX5_clear_0 : decode cX5_clear 0 = .ok (.aload_n 0, 1) := by decide +kernel
theorem dX5_clear_1 : decode cX5_clear 1 = .ok (.iconst 0, 1) := by decide +kernel
theorem dX5_clear_2 : decode cX5_clear 2 = .ok (.putfield 19, 3) := by decide +kernel
theorem dX5_clear_5 : decode cX5_clear 5 = .ok (.return_, 1) := by decide +kernel
theorem dX5_tell_0 : decode cX5_tell 0 = .ok (.aload_n 1, 1) := by decide +kernel
theorem dX5_tell_1 : decode cX5_tell 1 = .ok (.invokevirtual 23, 3) := by decide +kernel
theorem dX5_tell_4 : decode cX5_tell 4 = .ok (.aload_n 0, 1) := by decide +kernel
theorem dX5_tell_5 : decode cX5_tell 5 = .ok (.iconst 0, 1) := by decide +kernel
theorem dX5_tell_6 : decode cX5_tell 6 = .ok (.putfield 28, 3) := by decide +kernel
theorem dX5_tell_9 : decode cX5_tell 9 = .ok (.iconst 0, 1) := by decide +kernel
theorem dX5_tell_10 : decode cX5_tell 10 = .ok (.istore_n 2, 1) := by decide +kernel
theorem dX5_tell_11 : decode cX5_tell 11 = .ok (.iload_n 2, 1) := by decide +kernel
theorem dX5_tell_12 : decode cX5_tell 12 = .ok (.sipush 200, 3) := by decide +kernel
theorem dX5_tell_15 : decode cX5_tell 15 = .ok (.if_icmp .ge 35, 3) := by decide +kernel
theorem dX5_tell_18 : decode cX5_tell 18 = .ok (.aload_n 0, 1) := by decide +kernel
theorem dX5_tell_19 : decode cX5_tell 19 = .ok (.getfield 28, 3) := by decide +kernel
theorem dX5_tell_22 : decode cX5_tell 22 = .ok (.aload_n 0, 1) := by decide +kernel
theorem dX5_tell_23 : decode cX5_tell 23 = .ok (.getfield 19, 3) := by decide +kernel
theorem dX5_tell_26 : decode cX5_tell 26 = .ok (.if_icmp .ge 24, 3) := by decide +kernel
theorem dX5_tell_29 : decode cX5_tell 29 = .ok (.aload_n 0, 1) := by decide +kernel
theorem dX5_tell_30 : decode cX5_tell 30 = .ok (.getfield 28, 3) := by decide +kernel
theorem dX5_tell_33 : decode cX5_tell 33 = .ok (.istore_n 3, 1) := by decide +kernel
theorem dX5_tell_34 : decode cX5_tell 34 = .ok (.aload_n 0, 1) := by decide +kernel
theorem dX5_tell_35 : decode cX5_tell 35 = .ok (.aload_n 1, 1) := by decide +kernel
theorem dX5_tell_36 : decode cX5_tell 36 = .ok (.invokevirtual 31, 3) := by decide +kernel
theorem dX5_tell_39 : decode cX5_tell 39 = .ok (.ifCond .ne 5, 3) := by decide +kernel
theorem dX5_tell_42 : decode cX5_tell 42 = .ok (.iload_n 3, 1) := by decide +kernel
theorem dX5_tell_43 : decode cX5_tell 43 = .ok (.ireturn, 1) := by decide +kernel
theorem dX5_tell_44 : decode cX5_tell 44 = .ok (.iinc 2 1, 3) := by decide +kernel
theorem dX5_tell_47 : decode cX5_tell 47 = .ok (.goto (-36), 3) := by decide +kernel
theorem dX5_tell_50 : decode cX5_tell 50 = .ok (.bipush (-4), 2) := by decide +kernel
theorem dX5_tell_52 : decode cX5_tell 52 = .ok (.ireturn, 1) := by decide +kernel
theorem dX5_tellItem_0 : decode cX5_tellItem 0 = .ok (.aload_n 0, 1) := by decide +kernel
theorem dX5_tellItem_1 : decode cX5_tellItem 1 = .ok (.invokevirtual 35, 3) := by decide +kernel
theorem dX5_tellItem_4 : decode cX5_tellItem 4 = .ok (.lookupswitch 135 #[(108, 96), (112, 36), (116, 63)], 36) := by decide +kernel
theorem dX5_tellItem_40 : decode cX5_tellItem 40 = .ok (.aload_n 0, 1) := by decide +kernel
theorem dX5_tellItem_41 : decode cX5_tellItem 41 = .ok (.iconst 1, 1) := by decide +kernel
theorem dX5_tellItem_42 : decode cX5_tellItem 42 = .ok (.invokevirtual 39, 3) := by decide +kernel
theorem dX5_tellItem_45 : decode cX5_tellItem 45 = .ok (.ifCond .eq 20, 3) := by decide +kernel
theorem dX5_tellItem_48 : decode cX5_tellItem 48 = .ok (.aload_n 1, 1) := by decide +kernel
theorem dX5_tellItem_49 : decode cX5_tellItem 49 = .ok (.aload_n 0, 1) := by decide +kernel
theorem dX5_tellItem_50 : decode cX5_tellItem 50 = .ok (.getfield 15, 3) := by decide +kernel
theorem dX5_tellItem_53 : decode cX5_tellItem 53 = .ok (.iconst 0, 1) := by decide +kernel
theorem dX5_tellItem_54 : decode cX5_tellItem 54 = .ok (.iaload, 1) := by decide +kernel
theorem dX5_tellItem_55 : decode cX5_tellItem 55 = .ok (.invokevirtual 43, 3) := by decide +kernel
theorem dX5_tellItem_58 : decode cX5_tellItem 58 = .ok (.ifCond .eq 7, 3) := by decide +kernel
theorem dX5_tellItem_61 : decode cX5_tellItem 61 = .ok (.iconst 1, 1) := by decide +kernel
theorem dX5_tellItem_62 : decode cX5_tellItem 62 = .ok (.goto 4, 3) := by decide +kernel
theorem dX5_tellItem_65 : decode cX5_tellItem 65 = .ok (.iconst 0, 1) := by decide +kernel
theorem dX5_tellItem_66 : decode cX5_tellItem 66 = .ok (.ireturn, 1) := by decide +kernel
theorem dX5_tellItem_67 : decode cX5_tellItem 67 = .ok (.aload_n 0, 1) := by decide +kernel
theorem dX5_tellItem_68 : decode cX5_tellItem 68 = .ok (.iconst 2, 1) := by decide +kernel
theorem dX5_tellItem_69 : decode cX5_tellItem 69 = .ok (.invokevirtual 39, 3) := by decide +kernel
theorem dX5_tellItem_72 : decode cX5_tellItem 72 = .ok (.ifCond .eq 26, 3) := by decide +kernel
theorem dX5_tellItem_75 : decode cX5_tellItem 75 = .ok (.aload_n 1, 1) := by decide +kernel
theorem dX5_tellItem_76 : decode cX5_tellItem 76 = .ok (.aload_n 0, 1) := by decide +kernel
theorem dX5_tellItem_77 : decode cX5_tellItem 77 = .ok (.getfield 15, 3) := by decide +kernel
theorem dX5_tellItem_80 : decode cX5_tellItem 80 = .ok (.iconst 0, 1) := by decide +kernel
theorem dX5_tellItem_81 : decode cX5_tellItem 81 = .ok (.iaload, 1) := by decide +kernel
theorem dX5_tellItem_82 : decode cX5_tellItem 82 = .ok (.aload_n 0, 1) := by decide +kernel
theorem dX5_tellItem_83 : decode cX5_tellItem 83 = .ok (.getfield 15, 3) := by decide +kernel
theorem dX5_tellItem_86 : decode cX5_tellItem 86 = .ok (.iconst 1, 1) := by decide +kernel
theorem dX5_tellItem_87 : decode cX5_tellItem 87 = .ok (.iaload, 1) := by decide +kernel
theorem dX5_tellItem_88 : decode cX5_tellItem 88 = .ok (.invokevirtual 46, 3) := by decide +kernel
theorem dX5_tellItem_91 : decode cX5_tellItem 91 = .ok (.ifCond .eq 7, 3) := by decide +kernel
theorem dX5_tellItem_94 : decode cX5_tellItem 94 = .ok (.iconst 1, 1) := by decide +kernel
theorem dX5_tellItem_95 : decode cX5_tellItem 95 = .ok (.goto 4, 3) := by decide +kernel
theorem dX5_tellItem_98 : decode cX5_tellItem 98 = .ok (.iconst 0, 1) := by decide +kernel
theorem dX5_tellItem_99 : decode cX5_tellItem 99 = .ok (.ireturn, 1) := by decide +kernel
theorem dX5_tellItem_100 : decode cX5_tellItem 100 = .ok (.aload_n 0, 1) := by decide +kernel
theorem dX5_tellItem_101 : decode cX5_tellItem 101 = .ok (.iconst 3, 1) := by decide +kernel
theorem dX5_tellItem_102 : decode cX5_tellItem 102 = .ok (.invokevirtual 39, 3) := by decide +kernel
theorem dX5_tellItem_105 : decode cX5_tellItem 105 = .ok (.ifCond .eq 32, 3) := by decide +kernel
theorem dX5_tellItem_108 : decode cX5_tellItem 108 = .ok (.aload_n 1, 1) := by decide +kernel
theorem dX5_tellItem_109 : decode cX5_tellItem 109 = .ok (.aload_n 0, 1) := by decide +kernel
theorem dX5_tellItem_110 : decode cX5_tellItem 110 = .ok (.getfield 15, 3) := by decide +kernel
theorem dX5_tellItem_113 : decode cX5_tellItem 113 = .ok (.iconst 0, 1) := by decide +kernel
theorem dX5_tellItem_114 : decode cX5_tellItem 114 = .ok (.iaload, 1) := by decide +kernel
theorem dX5_tellItem_115 : decode cX5_tellItem 115 = .ok (.aload_n 0, 1) := by decide +kernel
theorem dX5_tellItem_116 : decode cX5_tellItem 116 = .ok (.getfield 15, 3) := by decide +kernel
theorem dX5_tellItem_119 : decode cX5_tellItem 119 = .ok (.iconst 1, 1) := by decide +kernel
theorem dX5_tellItem_120 : decode cX5_tellItem 120 = .ok (.iaload, 1) := by decide +kernel
theorem dX5_tellItem_121 : decode cX5_tellItem 121 = .ok (.aload_n 0, 1) := by decide +kernel
theorem dX5_tellItem_122 : decode cX5_tellItem 122 = .ok (.getfield 15, 3) := by decide +kernel
theorem dX5_tellItem_125 : decode cX5_tellItem 125 = .ok (.iconst 2, 1) := by decide +kernel
theorem dX5_tellItem_126 : decode cX5_tellItem 126 = .ok (.iaload, 1) := by decide +kernel
theorem dX5_tellItem_127 : decode cX5_tellItem 127 = .ok (.invokevirtual 50, 3) := by decide +kernel
theorem dX5_tellItem_130 : decode cX5_tellItem 130 = .ok (.ifCond .eq 7, 3) := by decide +kernel
theorem dX5_tellItem_133 : decode cX5_tellItem 133 = .ok (.iconst 1, 1) := by decide +kernel
theorem dX5_tellItem_134 : decode cX5_tellItem 134 = .ok (.goto 4, 3) := by decide +kernel
theorem dX5_tellItem_137 : decode cX5_tellItem 137 = .ok (.iconst 0, 1) := by decide +kernel
theorem dX5_tellItem_138 : decode cX5_tellItem 138 = .ok (.ireturn, 1) := by decide +kernel
theorem dX5_tellItem_139 : decode cX5_tellItem 139 = .ok (.iconst 0, 1) := by decide +kernel
theorem dX5_tellItem_140 : decode cX5_tellItem 140 = .ok (.ireturn, 1) := by decide +kernel
theorem dX5_readNumbers_0 : decode cX5_readNumbers 0 = .ok (.iconst 0, 1) := by decide +kernel
theorem dX5_readNumbers_1 : decode cX5_readNumbers 1 = .ok (.istore_n 2, 1) := by decide +kernel
theorem dX5_readNumbers_2 : decode cX5_readNumbers 2 = .ok (.iload_n 2, 1) := by decide +kernel
theorem dX5_readNumbers_3 : decode cX5_readNumbers 3 = .ok (.iload_n 1, 1) := by decide +kernel
theorem dX5_readNumbers_4 : decode cX5_readNumbers 4 = .ok (.if_icmp .ge 85, 3) := by decide +kernel
theorem dX5_readNumbers_7 : decode cX5_readNumbers 7 = .ok (.iload_n 2, 1) := by decide +kernel
theorem dX5_readNumbers_8 : decode cX5_readNumbers 8 = .ok (.aload_n 0, 1) := by decide +kernel
theorem dX5_readNumbers_9 : decode cX5_readNumbers 9 = .ok (.getfield 15, 3) := by decide +kernel
theorem dX5_readNumbers_12 : decode cX5_readNumbers 12 = .ok (.arraylength, 1) := by decide +kernel
theorem dX5_readNumbers_13 : decode cX5_readNumbers 13 = .ok (.if_icmp .ge 76, 3) := by decide +kernel
theorem dX5_readNumbers_16 : decode cX5_readNumbers 16 = .ok (.aload_n 0, 1) := by decide +kernel
theorem dX5_readNumbers_17 : decode cX5_readNumbers 17 = .ok (.invokevirtual 54, 3) := by decide +kernel
theorem dX5_readNumbers_20 : decode cX5_readNumbers 20 = .ok (.ifCond .ne 5, 3) := by decide +kernel
theorem dX5_readNumbers_23 : decode cX5_readNumbers 23 = .ok (.iconst 0, 1) := by decide +kernel
theorem dX5_readNumbers_24 : decode cX5_readNumbers 24 = .ok (.ireturn, 1) := by decide +kernel
theorem dX5_readNumbers_25 : decode cX5_readNumbers 25 = .ok (.aload_n 0, 1) := by decide +kernel
theorem dX5_readNumbers_26 : decode cX5_readNumbers 26 = .ok (.invokevirtual 35, 3) := by decide +kernel
theorem dX5_readNumbers_29 : decode cX5_readNumbers 29 = .ok (.bipush 48, 2) := by decide +kernel
theorem dX5_readNumbers_31 : decode cX5_readNumbers 31 = .ok (.isub, 1) := by decide +kernel
theorem dX5_readNumbers_32 : decode cX5_readNumbers 32 = .ok (.istore_n 3, 1) := by decide +kernel
theorem dX5_readNumbers_33 : decode cX5_readNumbers 33 = .ok (.aload_n 0, 1) := by decide +kernel
theorem dX5_readNumbers_34 : decode cX5_readNumbers 34 = .ok (.invokevirtual 54, 3) := by decide +kernel
theorem dX5_readNumbers_37 : decode cX5_readNumbers 37 = .ok (.ifCond .eq 16, 3) := by decide +kernel
theorem dX5_readNumbers_40 : decode cX5_readNumbers 40 = .ok (.bipush 10, 2) := by decide +kernel
theorem dX5_readNumbers_42 : decode cX5_readNumbers 42 = .ok (.iload_n 3, 1) := by decide +kernel
theorem dX5_readNumbers_43 : decode cX5_readNumbers 43 = .ok (.imul, 1) := by decide +kernel
theorem dX5_readNumbers_44 : decode cX5_readNumbers 44 = .ok (.aload_n 0, 1) := by decide +kernel
theorem dX5_readNumbers_45 : decode cX5_readNumbers 45 = .ok (.invokevirtual 35, 3) := by decide +kernel
theorem dX5_readNumbers_48 : decode cX5_readNumbers 48 = .ok (.iadd, 1) := by decide +kernel
theorem dX5_readNumbers_49 : decode cX5_readNumbers 49 = .ok (.bipush 48, 2) := by decide +kernel
theorem dX5_readNumbers_51 : decode cX5_readNumbers 51 = .ok (.isub, 1) := by decide +kernel
theorem dX5_readNumbers_52 : decode cX5_readNumbers 52 = .ok (.istore_n 3, 1) := by decide +kernel
theorem dX5_readNumbers_53 : decode cX5_readNumbers 53 = .ok (.aload_n 0, 1) := by decide +kernel
theorem dX5_readNumbers_54 : decode cX5_readNumbers 54 = .ok (.getfield 15, 3) := by decide +kernel
theorem dX5_readNumbers_57 : decode cX5_readNumbers 57 = .ok (.iload_n 2, 1) := by decide +kernel
theorem dX5_readNumbers_58 : decode cX5_readNumbers 58 = .ok (.iload_n 3, 1) := by decide +kernel
theorem dX5_readNumbers_59 : decode cX5_readNumbers 59 = .ok (.iastore, 1) := by decide +kernel
theorem dX5_readNumbers_60 : decode cX5_readNumbers 60 = .ok (.aload_n 0, 1) := by decide +kernel
theorem dX5_readNumbers_61 : decode cX5_readNumbers 61 = .ok (.invokevirtual 35, 3) := by decide +kernel
theorem dX5_readNumbers_64 : decode cX5_readNumbers 64 = .ok (.iload_n 2, 1) := by decide +kernel
theorem dX5_readNumbers_65 : decode cX5_readNumbers 65 = .ok (.iload_n 1, 1) := by decide +kernel
theorem dX5_readNumbers_66 : decode cX5_readNumbers 66 = .ok (.iconst 1, 1) := by decide +kernel
theorem dX5_readNumbers_67 : decode cX5_readNumbers 67 = .ok (.isub, 1) := by decide +kernel
theorem dX5_readNumbers_68 : decode cX5_readNumbers 68 = .ok (.if_icmp .ge 8, 3) := by decide +kernel
theorem dX5_readNumbers_71 : decode cX5_readNumbers 71 = .ok (.bipush 44, 2) := by decide +kernel
theorem dX5_readNumbers_73 : decode cX5_readNumbers 73 = .ok (.goto 5, 3) := by decide +kernel
theorem dX5_readNumbers_76 : decode cX5_readNumbers 76 = .ok (.bipush 59, 2) := by decide +kernel
theorem dX5_readNumbers_78 : decode cX5_readNumbers 78 = .ok (.if_icmp .eq 5, 3) := by decide +kernel
theorem dX5_readNumbers_81 : decode cX5_readNumbers 81 = .ok (.iconst 0, 1) := by decide +kernel
theorem dX5_readNumbers_82 : decode cX5_readNumbers 82 = .ok (.ireturn, 1) := by decide +kernel
theorem dX5_readNumbers_83 : decode cX5_readNumbers 83 = .ok (.iinc 2 1, 3) := by decide +kernel
theorem dX5_readNumbers_86 : decode cX5_readNumbers 86 = .ok (.goto (-84), 3) := by decide +kernel
theorem dX5_readNumbers_89 : decode cX5_readNumbers 89 = .ok (.iconst 1, 1) := by decide +kernel
theorem dX5_readNumbers_90 : decode cX5_readNumbers 90 = .ok (.ireturn, 1) := by decide +kernel
theorem dX5_isFigure_0 : decode cX5_isFigure 0 = .ok (.aload_n 0, 1) := by decide +kernel
theorem dX5_isFigure_1 : decode cX5_isFigure 1 = .ok (.getfield 28, 3) := by decide +kernel
theorem dX5_isFigure_4 : decode cX5_isFigure 4 = .ok (.aload_n 0, 1) := by decide +kernel
theorem dX5_isFigure_5 : decode cX5_isFigure 5 = .ok (.getfield 19, 3) := by decide +kernel
theorem dX5_isFigure_8 : decode cX5_isFigure 8 = .ok (.if_icmp .ge 35, 3) := by decide +kernel
theorem dX5_isFigure_11 : decode cX5_isFigure 11 = .ok (.aload_n 0, 1) := by decide +kernel
theorem dX5_isFigure_12 : decode cX5_isFigure 12 = .ok (.getfield 9, 3) := by decide +kernel
theorem dX5_isFigure_15 : decode cX5_isFigure 15 = .ok (.aload_n 0, 1) := by decide +kernel
theorem dX5_isFigure_16 : decode cX5_isFigure 16 = .ok (.getfield 28, 3) := by decide +kernel
theorem dX5_isFigure_19 : decode cX5_isFigure 19 = .ok (.caload, 1) := by decide +kernel
theorem dX5_isFigure_20 : decode cX5_isFigure 20 = .ok (.bipush 48, 2) := by decide +kernel
theorem dX5_isFigure_22 : decode cX5_isFigure 22 = .ok (.if_icmp .lt 21, 3) := by decide +kernel
theorem dX5_isFigure_25 : decode cX5_isFigure 25 = .ok (.aload_n 0, 1) := by decide +kernel
theorem dX5_isFigure_26 : decode cX5_isFigure 26 = .ok (.getfield 9, 3) := by decide +kernel
theorem dX5_isFigure_29 : decode cX5_isFigure 29 = .ok (.aload_n 0, 1) := by decide +kernel
theorem dX5_isFigure_30 : decode cX5_isFigure 30 = .ok (.getfield 28, 3) := by decide +kernel
theorem dX5_isFigure_33 : decode cX5_isFigure 33 = .ok (.caload, 1) := by decide +kernel
theorem dX5_isFigure_34 : decode cX5_isFigure 34 = .ok (.bipush 57, 2) := by decide +kernel
theorem dX5_isFigure_36 : decode cX5_isFigure 36 = .ok (.if_icmp .gt 7, 3) := by decide +kernel
theorem dX5_isFigure_39 : decode cX5_isFigure 39 = .ok (.iconst 1, 1) := by decide +kernel
theorem dX5_isFigure_40 : decode cX5_isFigure 40 = .ok (.goto 4, 3) := by decide +kernel
theorem dX5_isFigure_43 : decode cX5_isFigure 43 = .ok (.iconst 0, 1) := by decide +kernel
theorem dX5_isFigure_44 : decode cX5_isFigure 44 = .ok (.ireturn, 1) := by decide +kernel
theorem dX5_nextLetter_0 : decode cX5_nextLetter 0 = .ok (.aload_n 0, 1) := by decide +kernel
theorem dX5_nextLetter_1 : decode cX5_nextLetter 1 = .ok (.getfield 28, 3) := by decide +kernel
theorem dX5_nextLetter_4 : decode cX5_nextLetter 4 = .ok (.aload_n 0, 1) := by decide +kernel
theorem dX5_nextLetter_5 : decode cX5_nextLetter 5 = .ok (.getfield 19, 3) := by decide +kernel
theorem dX5_nextLetter_8 : decode cX5_nextLetter 8 = .ok (.if_icmp .lt 5, 3) := by decide +kernel
theorem dX5_nextLetter_11 : decode cX5_nextLetter 11 = .ok (.iconst 0, 1) := by decide +kernel
theorem dX5_nextLetter_12 : decode cX5_nextLetter 12 = .ok (.ireturn, 1) := by decide +kernel
theorem dX5_nextLetter_13 : decode cX5_nextLetter 13 = .ok (.aload_n 0, 1) := by decide +kernel
theorem dX5_nextLetter_14 : decode cX5_nextLetter 14 = .ok (.getfield 9, 3) := by decide +kernel
theorem dX5_nextLetter_17 : decode cX5_nextLetter 17 = .ok (.aload_n 0, 1) := by decide +kernel
theorem dX5_nextLetter_18 : decode cX5_nextLetter 18 = .ok (.getfield 28, 3) := by decide +kernel
theorem dX5_nextLetter_21 : decode cX5_nextLetter 21 = .ok (.caload, 1) := by decide +kernel
theorem dX5_nextLetter_22 : decode cX5_nextLetter 22 = .ok (.istore_n 1, 1) := by decide +kernel
theorem dX5_nextLetter_23 : decode cX5_nextLetter 23 = .ok (.aload_n 0, 1) := by decide +kernel
theorem dX5_nextLetter_24 : decode cX5_nextLetter 24 = .ok (.dup, 1) := by decide +kernel
theorem dX5_nextLetter_25 : decode cX5_nextLetter 25 = .ok (.getfield 28, 3) := by decide +kernel
theorem dX5_nextLetter_28 : decode cX5_nextLetter 28 = .ok (.iconst 1, 1) := by decide +kernel
theorem dX5_nextLetter_29 : decode cX5_nextLetter 29 = .ok (.iadd, 1) := by decide +kernel
theorem dX5_nextLetter_30 : decode cX5_nextLetter 30 = .ok (.putfield 28, 3) := by decide +kernel
theorem dX5_nextLetter_33 : decode cX5_nextLetter 33 = .ok (.iload_n 1, 1) := by decide +kernel
theorem dX5_nextLetter_34 : decode cX5_nextLetter 34 = .ok (.ireturn, 1) := by decide +kernel
end
section
theorem dX6_init_0 : decode cX6_init 0 = .ok (.aload_n 0, 1) := by decide +kernel
theorem dX6_init_1 : decode cX6_init 1 = .ok (.invokespecial 1, 3) := by decide +kernel
theorem dX6_init_4 : decode cX6_init 4 = .ok (.aload_n 0, 1) := by decide +kernel
theorem dX6_init_5 : decode cX6_init 5 = .ok (.new 7, 3) := by decide +kernel
theorem dX6_init_8 : decode cX6_init 8 = .ok (.dup, 1) := by decide +kernel
theorem dX6_init_9 : decode cX6_init 9 = .ok (.invokespecial 9, 3) := by decide +kernel
theorem dX6_init_12 : decode cX6_init 12 = .ok (.putfield 10, 3) := by decide +kernel
theorem dX6_init_15 : decode cX6_init 15 = .ok (.aload_n 0, 1) := by decide +kernel
theorem dX6_init_16 : decode cX6_init 16 = .ok (.new 16, 3) := by decide +kernel
theorem dX6_init_19 : decode cX6_init 19 = .ok (.dup, 1) := by decide +kernel
theorem dX6_init_20 : decode cX6_init 20 = .ok (.invokespecial 18, 3) := by decide +kernel
theorem dX6_init_23 : decode cX6_init 23 = .ok (.putfield 19, 3) := by decide +kernel
theorem dX6_init_26 : decode cX6_init 26 = .ok (.aload_n 0, 1) := by decide +kernel
theorem dX6_init_27 : decode cX6_init 27 = .ok (.new 16, 3) := by decide +kernel
theorem dX6_init_30 : decode cX6_init 30 = .ok (.dup, 1) := by decide +kernel
theorem dX6_init_31 : decode cX6_init 31 = .ok (.invokespecial 18, 3) := by decide +kernel
theorem dX6_init_34 : decode cX6_init 34 = .ok (.putfield 23, 3) := by decide +kernel
theorem dX6_init_37 : decode cX6_init 37 = .ok (.aload_n 0, 1) := by decide +kernel
theorem dX6_init_38 : decode cX6_init 38 = .ok (.new 26, 3) := by decide +kernel
theorem dX6_init_41 : decode cX6_init 41 = .ok (.dup, 1) := by decide +kernel
theorem dX6_init_42 : decode cX6_init 42 = .ok (.bipush 8, 2) := by decide +kernel
theorem dX6_init_44 : decode cX6_init 44 = .ok (.invokespecial 28, 3) := by decide +kernel
theorem dX6_init_47 : decode cX6_init 47 = .ok (.putfield 31, 3) := by decide +kernel
theorem dX6_init_50 : decode cX6_init 50 = .ok (.aload_n 0, 1) := by decide +kernel
theorem dX6_init_51 : decode cX6_init 51 = .ok (.new 26, 3) := by decide +kernel
theorem dX6_init_54 : decode cX6_init 54 = .ok (.dup, 1) := by decide +kernel
theorem dX6_init_55 : decode cX6_init 55 = .ok (.iconst 2, 1) := by decide +kernel
theorem dX6_init_56 : decode cX6_init 56 = .ok (.invokespecial 28, 3) := by decide +kernel
theorem dX6_init_59 : decode cX6_init 59 = .ok (.putfield 35, 3) := by decide +kernel
theorem dX6_init_62 : decode cX6_init 62 = .ok (.aload_n 0, 1) := by decide +kernel
theorem dX6_init_63 : decode cX6_init 63 = .ok (.new 38, 3) := by decide +kernel
theorem dX6_init_66 : decode cX6_init 66 = .ok (.dup, 1) := by decide +kernel
theorem dX6_init_67 : decode cX6_init 67 = .ok (.invokespecial 40, 3) := by decide +kernel
theorem dX6_init_70 : decode cX6_init 70 = .ok (.putfield 41, 3) := by decide +kernel
theorem dX6_init_73 : decode cX6_init 73 = .ok (.aload_n 0, 1) := by decide +kernel
theorem dX6_init_74 : decode cX6_init 74 = .ok (.new 45, 3) := by decide +kernel
theorem dX6_init_77 : decode cX6_init 77 = .ok (.dup, 1) := by decide +kernel
theorem dX6_init_78 : decode cX6_init 78 = .ok (.invokespecial 47, 3) := by decide +kernel
theorem dX6_init_81 : decode cX6_init 81 = .ok (.putfield 48, 3) := by decide +kernel
theorem dX6_init_84 : decode cX6_init 84 = .ok (.aload_n 0, 1) := by decide +kernel
theorem dX6_init_85 : decode cX6_init 85 = .ok (.new 52, 3) := by decide +kernel
theorem dX6_init_88 : decode cX6_init 88 = .ok (.dup, 1) := by decide +kernel
theorem dX6_init_89 : decode cX6_init 89 = .ok (.invokespecial 54, 3) := by decide +kernel
theorem dX6_init_92 : decode cX6_init 92 = .ok (.putfield 55, 3) := by decide +kernel
theorem dX6_init_95 : decode cX6_init 95 = .ok (.aload_n 0, 1) := by decide +kernel
theorem dX6_init_96 : decode cX6_init 96 = .ok (.new 52, 3) := by decide +kernel
theorem dX6_init_99 : decode cX6_init 99 = .ok (.dup, 1) := by decide +kernel
theorem dX6_init_100 : decode cX6_init 100 = .ok (.invokespecial 54, 3) := by decide +kernel
theorem dX6_init_103 : decode cX6_init 103 = .ok (.putfield 59, 3) := by decide +kernel
theorem dX6_init_106 : decode cX6_init 106 = .ok (.iconst 0, 1) := by decide +kernel
theorem dX6_init_107 : decode cX6_init 107 = .ok (.istore_n 1, 1) := by decide +kernel
theorem dX6_init_108 : decode cX6_init 108 = .ok (.iload_n 1, 1) := by decide +kernel
theorem dX6_init_109 : decode cX6_init 109 = .ok (.ldc 62, 2) := by decide +kernel
theorem dX6_init_111 : decode cX6_init 111 = .ok (.invokevirtual 64, 3) := by decide +kernel
theorem dX6_init_114 : decode cX6_init 114 = .ok (.if_icmp .ge 23, 3) := by decide +kernel
theorem dX6_init_117 : decode cX6_init 117 = .ok (.aload_n 0, 1) := by decide +kernel
theorem dX6_init_118 : decode cX6_init 118 = .ok (.getfield 10, 3) := by decide +kernel
theorem dX6_init_121 : decode cX6_init 121 = .ok (.ldc 62, 2) := by decide +kernel
theorem dX6_init_123 : decode cX6_init 123 = .ok (.iload_n 1, 1) := by decide +kernel
theorem dX6_init_124 : decode cX6_init 124 = .ok (.invokevirtual 70, 3) := by decide +kernel
theorem dX6_init_127 : decode cX6_init 127 = .ok (.invokevirtual 74, 3) := by decide +kernel
theorem dX6_init_130 : decode cX6_init 130 = .ok (.pop, 1) := by decide +kernel
theorem dX6_init_131 : decode cX6_init 131 = .ok (.iinc 1 1, 3) := by decide +kernel
theorem dX6_init_134 : decode cX6_init 134 = .ok (.goto (-26), 3) := by decide +kernel
theorem dX6_init_137 : decode cX6_init 137 = .ok (.aload_n 0, 1) := by decide +kernel
theorem dX6_init_138 : decode cX6_init 138 = .ok (.getfield 10, 3) := by decide +kernel
theorem dX6_init_141 : decode cX6_init 141 = .ok (.aload_n 0, 1) := by decide +kernel
theorem dX6_init_142 : decode cX6_init 142 = .ok (.getfield 55, 3) := by decide +kernel
theorem dX6_init_145 : decode cX6_init 145 = .ok (.invokevirtual 78, 3) := by decide +kernel
theorem dX6_init_148 : decode cX6_init 148 = .ok (.pop, 1) := by decide +kernel
theorem dX6_init_149 : decode cX6_init 149 = .ok (.aload_n 0, 1) := by decide +kernel
theorem dX6_init_150 : decode cX6_init 150 = .ok (.getfield 10, 3) := by decide +kernel
theorem dX6_init_153 : decode cX6_init 153 = .ok (.invokevirtual 82, 3) := by decide +kernel
theorem dX6_init_156 : decode cX6_init 156 = .ok (.aload_n 0, 1) := by decide +kernel
theorem dX6_init_157 : decode cX6_init 157 = .ok (.getfield 19, 3) := by decide +kernel
theorem dX6_init_160 : decode cX6_init 160 = .ok (.aload_n 0, 1) := by decide +kernel
theorem dX6_init_161 : decode cX6_init 161 = .ok (.getfield 55, 3) := by decide +kernel
theorem dX6_init_164 : decode cX6_init 164 = .ok (.invokevirtual 85, 3) := by decide +kernel
theorem dX6_init_167 : decode cX6_init 167 = .ok (.return_, 1) := by decide +kernel
theorem dX6_write_0 : decode cX6_write 0 = .ok (.iload_n 1, 1) := by decide +kernel
theorem dX6_write_1 : decode cX6_write 1 = .ok (.bipush 32, 2) := by decide +kernel
theorem dX6_write_3 : decode cX6_write 3 = .ok (.if_icmp .lt 9, 3) := by decide +kernel
theorem dX6_write_6 : decode cX6_write 6 = .ok (.iload_n 1, 1) := by decide +kernel
theorem dX6_write_7 : decode cX6_write 7 = .ok (.bipush 126, 2) := by decide +kernel
theorem dX6_write_9 : decode cX6_write 9 = .ok (.if_icmp .le 5, 3) := by decide +kernel
theorem dX6_write_12 : decode cX6_write 12 = .ok (.iconst (-1), 1) := by decide +kernel
theorem dX6_write_13 : decode cX6_write 13 = .ok (.ireturn, 1) := by decide +kernel
theorem dX6_write_14 : decode cX6_write 14 = .ok (.aload_n 0, 1) := by decide +kernel
theorem dX6_write_15 : decode cX6_write 15 = .ok (.getfield 10, 3) := by decide +kernel
theorem dX6_write_18 : decode cX6_write 18 = .ok (.iload_n 1, 1) := by decide +kernel
theorem dX6_write_19 : decode cX6_write 19 = .ok (.i2c, 1) := by decide +kernel
theorem dX6_write_20 : decode cX6_write 20 = .ok (.invokevirtual 74, 3) := by decide +kernel
theorem dX6_write_23 : decode cX6_write 23 = .ok (.ifCond .ne 6, 3) := by decide +kernel
theorem dX6_write_26 : decode cX6_write 26 = .ok (.bipush (-3), 2) := by decide +kernel
theorem dX6_write_28 : decode cX6_write 28 = .ok (.ireturn, 1) := by decide +kernel
theorem dX6_write_29 : decode cX6_write 29 = .ok (.aload_n 0, 1) := by decide +kernel
theorem dX6_write_30 : decode cX6_write 30 = .ok (.getfield 10, 3) := by decide +kernel
theorem dX6_write_33 : decode cX6_write 33 = .ok (.getfield 89, 3) := by decide +kernel
theorem dX6_write_36 : decode cX6_write 36 = .ok (.ireturn, 1) := by decide +kernel
theorem dX6_wipe_0 : decode cX6_wipe 0 = .ok (.aload_n 0, 1) := by decide +kernel
theorem dX6_wipe_1 : decode cX6_wipe 1 = .ok (.getfield 10, 3) := by decide +kernel
theorem dX6_wipe_4 : decode cX6_wipe 4 = .ok (.getfield 89, 3) := by decide +kernel
theorem dX6_wipe_7 : decode cX6_wipe 7 = .ok (.istore_n 1, 1) := by decide +kernel
theorem dX6_wipe_8 : decode cX6_wipe 8 = .ok (.aload_n 0, 1) := by decide +kernel
theorem dX6_wipe_9 : decode cX6_wipe 9 = .ok (.getfield 10, 3) := by decide +kernel
theorem dX6_wipe_12 : decode cX6_wipe 12 = .ok (.invokevirtual 82, 3) := by decide +kernel
theorem dX6_wipe_15 : decode cX6_wipe 15 = .ok (.iload_n 1, 1) := by decide +kernel
theorem dX6_wipe_16 : decode cX6_wipe 16 = .ok (.ireturn, 1) := by decide +kernel
theorem dX6_fault_0 : decode cX6_fault 0 = .ok (.aload_n 0, 1) := by decide +kernel
theorem dX6_fault_1 : decode cX6_fault 1 = .ok (.getfield 10, 3) := by decide +kernel
theorem dX6_fault_4 : decode cX6_fault 4 = .ok (.aload_n 0, 1) := by decide +kernel
theorem dX6_fault_5 : decode cX6_fault 5 = .ok (.getfield 59, 3) := by decide +kernel
theorem dX6_fault_8 : decode cX6_fault 8 = .ok (.invokevirtual 78, 3) := by decide +kernel
theorem dX6_fault_11 : decode cX6_fault 11 = .ok (.ireturn, 1) := by decide +kernel
theorem dX6_lay_0 : decode cX6_lay 0 = .ok (.aload_n 0, 1) := by decide +kernel
theorem dX6_lay_1 : decode cX6_lay 1 = .ok (.getfield 10, 3) := by decide +kernel
theorem dX6_lay_4 : decode cX6_lay 4 = .ok (.aload_n 0, 1) := by decide +kernel
theorem dX6_lay_5 : decode cX6_lay 5 = .ok (.getfield 59, 3) := by decide +kernel
theorem dX6_lay_8 : decode cX6_lay 8 = .ok (.invokevirtual 78, 3) := by decide +kernel
theorem dX6_lay_11 : decode cX6_lay 11 = .ok (.bipush (-4), 2) := by decide +kernel
theorem dX6_lay_13 : decode cX6_lay 13 = .ok (.if_icmp .ne 13, 3) := by decide +kernel
theorem dX6_lay_16 : decode cX6_lay 16 = .ok (.aload_n 0, 1) := by decide +kernel
theorem dX6_lay_17 : decode cX6_lay 17 = .ok (.getfield 59, 3) := by decide +kernel
theorem dX6_lay_20 : decode cX6_lay 20 = .ok (.getfield 92, 3) := by decide +kernel
theorem dX6_lay_23 : decode cX6_lay 23 = .ok (.ifCond .ne 6, 3) := by decide +kernel
theorem dX6_lay_26 : decode cX6_lay 26 = .ok (.bipush (-2), 2) := by decide +kernel
theorem dX6_lay_28 : decode cX6_lay 28 = .ok (.ireturn, 1) := by decide +kernel
theorem dX6_lay_29 : decode cX6_lay 29 = .ok (.aload_n 0, 1) := by decide +kernel
theorem dX6_lay_30 : decode cX6_lay 30 = .ok (.getfield 59, 3) := by decide +kernel
theorem dX6_lay_33 : decode cX6_lay 33 = .ok (.astore_n 1, 1) := by decide +kernel
theorem dX6_lay_34 : decode cX6_lay 34 = .ok (.aload_n 0, 1) := by decide +kernel
theorem dX6_lay_35 : decode cX6_lay 35 = .ok (.aload_n 0, 1) := by decide +kernel
theorem dX6_lay_36 : decode cX6_lay 36 = .ok (.getfield 55, 3) := by decide +kernel
theorem dX6_lay_39 : decode cX6_lay 39 = .ok (.putfield 59, 3) := by decide +kernel
theorem dX6_lay_42 : decode cX6_lay 42 = .ok (.aload_n 0, 1) := by decide +kernel
theorem dX6_lay_43 : decode cX6_lay 43 = .ok (.aload_n 1, 1) := by decide +kernel
theorem dX6_lay_44 : decode cX6_lay 44 = .ok (.putfield 55, 3) := by decide +kernel
theorem dX6_lay_47 : decode cX6_lay 47 = .ok (.aload_n 0, 1) := by decide +kernel
theorem dX6_lay_48 : decode cX6_lay 48 = .ok (.getfield 19, 3) := by decide +kernel
theorem dX6_lay_51 : decode cX6_lay 51 = .ok (.aload_n 0, 1) := by decide +kernel
theorem dX6_lay_52 : decode cX6_lay 52 = .ok (.getfield 55, 3) := by decide +kernel
theorem dX6_lay_55 : decode cX6_lay 55 = .ok (.invokevirtual 85, 3) := by decide +kernel
theorem dX6_lay_58 : decode cX6_lay 58 = .ok (.aload_n 0, 1) := by decide +kernel
theorem dX6_lay_59 : decode cX6_lay 59 = .ok (.getfield 31, 3) := by decide +kernel
theorem dX6_lay_62 : decode cX6_lay 62 = .ok (.invokevirtual 95, 3) := by decide +kernel
theorem dX6_lay_65 : decode cX6_lay 65 = .ok (.aload_n 0, 1) := by decide +kernel
theorem dX6_lay_66 : decode cX6_lay 66 = .ok (.getfield 35, 3) := by decide +kernel
theorem dX6_lay_69 : decode cX6_lay 69 = .ok (.invokevirtual 95, 3) := by decide +kernel
theorem dX6_lay_72 : decode cX6_lay 72 = .ok (.aload_n 0, 1) := by decide +kernel
theorem dX6_lay_73 : decode cX6_lay 73 = .ok (.getfield 41, 3) := by decide +kernel
theorem dX6_lay_76 : decode cX6_lay 76 = .ok (.invokevirtual 96, 3) := by decide +kernel
theorem dX6_lay_79 : decode cX6_lay 79 = .ok (.aload_n 0, 1) := by decide +kernel
theorem dX6_lay_80 : decode cX6_lay 80 = .ok (.getfield 55, 3) := by decide +kernel
theorem dX6_lay_83 : decode cX6_lay 83 = .ok (.getfield 92, 3) := by decide +kernel
theorem dX6_lay_86 : decode cX6_lay 86 = .ok (.ireturn, 1) := by decide +kernel
theorem dX6_person_0 : decode cX6_person 0 = .ok (.aload_n 0, 1) := by decide +kernel
theorem dX6_person_1 : decode cX6_person 1 = .ok (.getfield 55, 3) := by decide +kernel
theorem dX6_person_4 : decode cX6_person 4 = .ok (.iload_n 1, 1) := by decide +kernel
theorem dX6_person_5 : decode cX6_person 5 = .ok (.invokevirtual 97, 3) := by decide +kernel
theorem dX6_person_8 : decode cX6_person 8 = .ok (.ifCond .ne 5, 3) := by decide +kernel
theorem dX6_person_11 : decode cX6_person 11 = .ok (.iconst (-1), 1) := by decide +kernel
theorem dX6_person_12 : decode cX6_person 12 = .ok (.ireturn, 1) := by decide +kernel
theorem dX6_person_13 : decode cX6_person 13 = .ok (.iload_n 2, 1) := by decide +kernel
theorem dX6_person_14 : decode cX6_person 14 = .ok (.tableswitch 79 0 3 #[30, 39, 49, 58], 30) := by decide +kernel
theorem dX6_person_44 : decode cX6_person 44 = .ok (.aload_n 0, 1) := by decide +kernel
theorem dX6_person_45 : decode cX6_person 45 = .ok (.getfield 19, 3) := by decide +kernel
theorem dX6_person_48 : decode cX6_person 48 = .ok (.iload_n 1, 1) := by decide +kernel
theorem dX6_person_49 : decode cX6_person 49 = .ok (.invokevirtual 101, 3) := by decide +kernel
theorem dX6_person_52 : decode cX6_person 52 = .ok (.ireturn, 1) := by decide +kernel
theorem dX6_person_53 : decode cX6_person 53 = .ok (.aload_n 0, 1) := by decide +kernel
theorem dX6_person_54 : decode cX6_person 54 = .ok (.getfield 55, 3) := by decide +kernel
theorem dX6_person_57 : decode cX6_person 57 = .ok (.getfield 105, 3) := by decide +kernel
theorem dX6_person_60 : decode cX6_person 60 = .ok (.iload_n 1, 1) := by decide +kernel
theorem dX6_person_61 : decode cX6_person 61 = .ok (.iaload, 1) := by decide +kernel
theorem dX6_person_62 : decode cX6_person 62 = .ok (.ireturn, 1) := by decide +kernel
theorem dX6_person_63 : decode cX6_person 63 = .ok (.aload_n 0, 1) := by decide +kernel
theorem dX6_person_64 : decode cX6_person 64 = .ok (.getfield 19, 3) := by decide +kernel
theorem dX6_person_67 : decode cX6_person 67 = .ok (.iload_n 1, 1) := by decide +kernel
theorem dX6_person_68 : decode cX6_person 68 = .ok (.invokevirtual 109, 3) := by decide +kernel
theorem dX6_person_71 : decode cX6_person 71 = .ok (.ireturn, 1) := by decide +kernel
theorem dX6_person_72 : decode cX6_person 72 = .ok (.sipush 1000, 3) := by decide +kernel
theorem dX6_person_75 : decode cX6_person 75 = .ok (.aload_n 0, 1) := by decide +kernel
theorem dX6_person_76 : decode cX6_person 76 = .ok (.getfield 55, 3) := by decide +kernel
theorem dX6_person_79 : decode cX6_person 79 = .ok (.iload_n 1, 1) := by decide +kernel
theorem dX6_person_80 : decode cX6_person 80 = .ok (.aload_n 0, 1) := by decide +kernel
theorem dX6_person_81 : decode cX6_person 81 = .ok (.getfield 19, 3) := by decide +kernel
theorem dX6_person_84 : decode cX6_person 84 = .ok (.iload_n 1, 1) := by decide +kernel
theorem dX6_person_85 : decode cX6_person 85 = .ok (.invokevirtual 109, 3) := by decide +kernel
theorem dX6_person_88 : decode cX6_person 88 = .ok (.invokevirtual 112, 3) := by decide +kernel
theorem dX6_person_91 : decode cX6_person 91 = .ok (.iadd, 1) := by decide +kernel
theorem dX6_person_92 : decode cX6_person 92 = .ok (.ireturn, 1) := by decide +kernel
theorem dX6_person_93 : decode cX6_person 93 = .ok (.iconst (-1), 1) := by decide +kernel
theorem dX6_person_94 : decode cX6_person 94 = .ok (.ireturn, 1) := by decide +kernel
theorem dX6_thing_0 : decode cX6_thing 0 = .ok (.aload_n 0, 1) := by decide +kernel
theorem dX6_thing_1 : decode cX6_thing 1 = .ok (.getfield 55, 3) := by decide +kernel
theorem dX6_thing_4 : decode cX6_thing 4 = .ok (.iload_n 1, 1) := by decide +kernel
theorem dX6_thing_5 : decode cX6_thing 5 = .ok (.invokevirtual 116, 3) := by decide +kernel
theorem dX6_thing_8 : decode cX6_thing 8 = .ok (.ifCond .ne 5, 3) := by decide +kernel
theorem dX6_thing_11 : decode cX6_thing 11 = .ok (.iconst (-1), 1) := by decide +kernel
theorem dX6_thing_12 : decode cX6_thing 12 = .ok (.ireturn, 1) := by decide +kernel
theorem dX6_thing_13 : decode cX6_thing 13 = .ok (.iload_n 2, 1) := by decide +kernel
theorem dX6_thing_14 : decode cX6_thing 14 = .ok (.tableswitch 97 0 4 #[34, 44, 54, 63, 80], 34) := by decide +kernel
theorem dX6_thing_48 : decode cX6_thing 48 = .ok (.aload_n 0, 1) := by decide +kernel
theorem dX6_thing_49 : decode cX6_thing 49 = .ok (.getfield 55, 3) := by decide +kernel
theorem dX6_thing_52 : decode cX6_thing 52 = .ok (.getfield 119, 3) := by decide +kernel
theorem dX6_thing_55 : decode cX6_thing 55 = .ok (.iload_n 1, 1) := by decide +kernel
theorem dX6_thing_56 : decode cX6_thing 56 = .ok (.iaload, 1) := by decide +kernel
theorem dX6_thing_57 : decode cX6_thing 57 = .ok (.ireturn, 1) := by decide +kernel
theorem dX6_thing_58 : decode cX6_thing 58 = .ok (.aload_n 0, 1) := by decide +kernel
theorem dX6_thing_59 : decode cX6_thing 59 = .ok (.getfield 55, 3) := by decide +kernel
theorem dX6_thing_62 : decode cX6_thing 62 = .ok (.getfield 122, 3) := by decide +kernel
theorem dX6_thing_65 : decode cX6_thing 65 = .ok (.iload_n 1, 1) := by decide +kernel
theorem dX6_thing_66 : decode cX6_thing 66 = .ok (.iaload, 1) := by decide +kernel
theorem dX6_thing_67 : decode cX6_thing 67 = .ok (.ireturn, 1) := by decide +kernel
theorem dX6_thing_68 : decode cX6_thing 68 = .ok (.aload_n 0, 1) := by decide +kernel
theorem dX6_thing_69 : decode cX6_thing 69 = .ok (.getfield 19, 3) := by decide +kernel
theorem dX6_thing_72 : decode cX6_thing 72 = .ok (.iload_n 1, 1) := by decide +kernel
theorem dX6_thing_73 : decode cX6_thing 73 = .ok (.invokevirtual 125, 3) := by decide +kernel
theorem dX6_thing_76 : decode cX6_thing 76 = .ok (.ireturn, 1) := by decide +kernel
theorem dX6_thing_77 : decode cX6_thing 77 = .ok (.iload_n 1, 1) := by decide +kernel
theorem dX6_thing_78 : decode cX6_thing 78 = .ok (.aload_n 0, 1) := by decide +kernel
theorem dX6_thing_79 : decode cX6_thing 79 = .ok (.getfield 19, 3) := by decide +kernel
theorem dX6_thing_82 : decode cX6_thing 82 = .ok (.invokevirtual 128, 3) := by decide +kernel
theorem dX6_thing_85 : decode cX6_thing 85 = .ok (.if_icmp .ge 7, 3) := by decide +kernel
theorem dX6_thing_88 : decode cX6_thing 88 = .ok (.iconst 1, 1) := by decide +kernel
theorem dX6_thing_89 : decode cX6_thing 89 = .ok (.goto 4, 3) := by decide +kernel
theorem dX6_thing_92 : decode cX6_thing 92 = .ok (.iconst 0, 1) := by decide +kernel
theorem dX6_thing_93 : decode cX6_thing 93 = .ok (.ireturn, 1) := by decide +kernel
theorem dX6_thing_94 : decode cX6_thing 94 = .ok (.iload_n 1, 1) := by decide +kernel
theorem dX6_thing_95 : decode cX6_thing 95 = .ok (.aload_n 0, 1) := by decide +kernel
theorem dX6_thing_96 : decode cX6_thing 96 = .ok (.getfield 19, 3) := by decide +kernel
theorem dX6_thing_99 : decode cX6_thing 99 = .ok (.invokevirtual 131, 3) := by decide +kernel
theorem dX6_thing_102 : decode cX6_thing 102 = .ok (.if_icmp .ne 7, 3) := by decide +kernel
theorem dX6_thing_105 : decode cX6_thing 105 = .ok (.iconst 1, 1) := by decide +kernel
theorem dX6_thing_106 : decode cX6_thing 106 = .ok (.goto 4, 3) := by decide +kernel
theorem dX6_thing_109 : decode cX6_thing 109 = .ok (.iconst 0, 1) := by decide +kernel
theorem dX6_thing_110 : decode cX6_thing 110 = .ok (.ireturn, 1) := by decide +kernel
theorem dX6_thing_111 : decode cX6_thing 111 = .ok (.iconst (-1), 1) := by decide +kernel
theorem dX6_thing_112 : decode cX6_thing 112 = .ok (.ireturn, 1) := by decide +kernel
theorem dX6_likes_0 : decode cX6_likes 0 = .ok (.aload_n 0, 1) := by decide +kernel
theorem dX6_likes_1 : decode cX6_likes 1 = .ok (.getfield 55, 3) := by decide +kernel
theorem dX6_likes_4 : decode cX6_likes 4 = .ok (.iload_n 1, 1) := by decide +kernel
theorem dX6_likes_5 : decode cX6_likes 5 = .ok (.invokevirtual 97, 3) := by decide +kernel
theorem dX6_likes_8 : decode cX6_likes 8 = .ok (.ifCond .eq 14, 3) := by decide +kernel
theorem dX6_likes_11 : decode cX6_likes 11 = .ok (.aload_n 0, 1) := by decide +kernel
theorem dX6_likes_12 : decode cX6_likes 12 = .ok (.getfield 55, 3) := by decide +kernel
theorem dX6_likes_15 : decode cX6_likes 15 = .ok (.iload_n 2, 1) := by decide +kernel
theorem dX6_likes_16 : decode cX6_likes 16 = .ok (.invokevirtual 116, 3) := by decide +kernel
theorem dX6_likes_19 : decode cX6_likes 19 = .ok (.ifCond .ne 5, 3) := by decide +kernel
theorem dX6_likes_22 : decode cX6_likes 22 = .ok (.iconst (-1), 1) := by decide +kernel
theorem dX6_likes_23 : decode cX6_likes 23 = .ok (.ireturn, 1) := by decide +kernel
theorem dX6_likes_24 : decode cX6_likes 24 = .ok (.aload_n 0, 1) := by decide +kernel
theorem dX6_likes_25 : decode cX6_likes 25 = .ok (.getfield 55, 3) := by decide +kernel
theorem dX6_likes_28 : decode cX6_likes 28 = .ok (.iload_n 1, 1) := by decide +kernel
theorem dX6_likes_29 : decode cX6_likes 29 = .ok (.iload_n 2, 1) := by decide +kernel
theorem dX6_likes_30 : decode cX6_likes 30 = .ok (.invokevirtual 134, 3) := by decide +kernel
theorem dX6_likes_33 : decode cX6_likes 33 = .ok (.ireturn, 1) := by decide +kernel
theorem dX6_draw_0 : decode cX6_draw 0 = .ok (.aload_n 0, 1) := by decide +kernel
theorem dX6_draw_1 : decode cX6_draw 1 = .ok (.getfield 19, 3) := by decide +kernel
theorem dX6_draw_4 : decode cX6_draw 4 = .ok (.iload_n 1, 1) := by decide +kernel
theorem dX6_draw_5 : decode cX6_draw 5 = .ok (.invokevirtual 137, 3) := by decide +kernel
theorem dX6_draw_8 : decode cX6_draw 8 = .ok (.istore_n 2, 1) := by decide +kernel
theorem dX6_draw_9 : decode cX6_draw 9 = .ok (.iload_n 2, 1) := by decide +kernel
theorem dX6_draw_10 : decode cX6_draw 10 = .ok (.bipush (-4), 2) := by decide +kernel
theorem dX6_draw_12 : decode cX6_draw 12 = .ok (.if_icmp .ne 5, 3) := by decide +kernel
theorem dX6_draw_15 : decode cX6_draw 15 = .ok (.iconst (-1), 1) := by decide +kernel
theorem dX6_draw_16 : decode cX6_draw 16 = .ok (.ireturn, 1) := by decide +kernel
theorem dX6_draw_17 : decode cX6_draw 17 = .ok (.aload_n 0, 1) := by decide +kernel
theorem dX6_draw_18 : decode cX6_draw 18 = .ok (.getfield 19, 3) := by decide +kernel
theorem dX6_draw_21 : decode cX6_draw 21 = .ok (.invokevirtual 128, 3) := by decide +kernel
theorem dX6_draw_24 : decode cX6_draw 24 = .ok (.aload_n 0, 1) := by decide +kernel
theorem dX6_draw_25 : decode cX6_draw 25 = .ok (.getfield 55, 3) := by decide +kernel
theorem dX6_draw_28 : decode cX6_draw 28 = .ok (.getfield 140, 3) := by decide +kernel
theorem dX6_draw_31 : decode cX6_draw 31 = .ok (.if_icmp .lt 6, 3) := by decide +kernel
theorem dX6_draw_34 : decode cX6_draw 34 = .ok (.bipush (-2), 2) := by decide +kernel
theorem dX6_draw_36 : decode cX6_draw 36 = .ok (.ireturn, 1) := by decide +kernel
theorem dX6_draw_37 : decode cX6_draw 37 = .ok (.aload_n 0, 1) := by decide +kernel
theorem dX6_draw_38 : decode cX6_draw 38 = .ok (.getfield 31, 3) := by decide +kernel
theorem dX6_draw_41 : decode cX6_draw 41 = .ok (.aload_n 0, 1) := by decide +kernel
theorem dX6_draw_42 : decode cX6_draw 42 = .ok (.getfield 19, 3) := by decide +kernel
theorem dX6_draw_45 : decode cX6_draw 45 = .ok (.invokevirtual 143, 3) := by decide +kernel
theorem dX6_draw_48 : decode cX6_draw 48 = .ok (.aload_n 0, 1) := by decide +kernel
theorem dX6_draw_49 : decode cX6_draw 49 = .ok (.getfield 19, 3) := by decide +kernel
theorem dX6_draw_52 : decode cX6_draw 52 = .ok (.iload_n 2, 1) := by decide +kernel
theorem dX6_draw_53 : decode cX6_draw 53 = .ok (.invokevirtual 147, 3) := by decide +kernel
theorem dX6_draw_56 : decode cX6_draw 56 = .ok (.iload_n 2, 1) := by decide +kernel
theorem dX6_draw_57 : decode cX6_draw 57 = .ok (.ireturn, 1) := by decide +kernel
theorem dX6_refuse_0 : decode cX6_refuse 0 = .ok (.aload_n 0, 1) := by decide +kernel
theorem dX6_refuse_1 : decode cX6_refuse 1 = .ok (.getfield 19, 3) := by decide +kernel
theorem dX6_refuse_4 : decode cX6_refuse 4 = .ok (.invokevirtual 131, 3) := by decide +kernel
theorem dX6_refuse_7 : decode cX6_refuse 7 = .ok (.istore_n 1, 1) := by decide +kernel
theorem dX6_refuse_8 : decode cX6_refuse 8 = .ok (.iload_n 1, 1) := by decide +kernel
theorem dX6_refuse_9 : decode cX6_refuse 9 = .ok (.bipush (-4), 2) := by decide +kernel
theorem dX6_refuse_11 : decode cX6_refuse 11 = .ok (.if_icmp .ne 6, 3) := by decide +kernel
theorem dX6_refuse_14 : decode cX6_refuse 14 = .ok (.bipush (-2), 2) := by decide +kernel
theorem dX6_refuse_16 : decode cX6_refuse 16 = .ok (.ireturn, 1) := by decide +kernel
theorem dX6_refuse_17 : decode cX6_refuse 17 = .ok (.aload_n 0, 1) := by decide +kernel
theorem dX6_refuse_18 : decode cX6_refuse 18 = .ok (.getfield 31, 3) := by decide +kernel
theorem dX6_refuse_21 : decode cX6_refuse 21 = .ok (.aload_n 0, 1) := by decide +kernel
theorem dX6_refuse_22 : decode cX6_refuse 22 = .ok (.getfield 19, 3) := by decide +kernel
theorem dX6_refuse_25 : decode cX6_refuse 25 = .ok (.invokevirtual 143, 3) := by decide +kernel
theorem dX6_refuse_28 : decode cX6_refuse 28 = .ok (.aload_n 0, 1) := by decide +kernel
theorem dX6_refuse_29 : decode cX6_refuse 29 = .ok (.getfield 19, 3) := by decide +kernel
theorem dX6_refuse_32 : decode cX6_refuse 32 = .ok (.iload_n 1, 1) := by decide +kernel
theorem dX6_refuse_33 : decode cX6_refuse 33 = .ok (.invokevirtual 150, 3) := by decide +kernel
theorem dX6_refuse_36 : decode cX6_refuse 36 = .ok (.iload_n 1, 1) := by decide +kernel
theorem dX6_refuse_37 : decode cX6_refuse 37 = .ok (.ireturn, 1) := by decide +kernel
theorem dX6_buy_0 : decode cX6_buy 0 = .ok (.aload_n 0, 1) := by decide +kernel
theorem dX6_buy_1 : decode cX6_buy 1 = .ok (.getfield 55, 3) := by decide +kernel
theorem dX6_buy_4 : decode cX6_buy 4 = .ok (.iload_n 1, 1) := by decide +kernel
theorem dX6_buy_5 : decode cX6_buy 5 = .ok (.invokevirtual 97, 3) := by decide +kernel
theorem dX6_buy_8 : decode cX6_buy 8 = .ok (.ifCond .eq 14, 3) := by decide +kernel
theorem dX6_buy_11 : decode cX6_buy 11 = .ok (.iload_n 2, 1) := by decide +kernel
theorem dX6_buy_12 : decode cX6_buy 12 = .ok (.iconst 1, 1) := by decide +kernel
theorem dX6_buy_13 : decode cX6_buy 13 = .ok (.if_icmp .lt 9, 3) := by decide +kernel
theorem dX6_buy_16 : decode cX6_buy 16 = .ok (.iload_n 2, 1) := by decide +kernel
theorem dX6_buy_17 : decode cX6_buy 17 = .ok (.bipush 9, 2) := by decide +kernel
theorem dX6_buy_19 : decode cX6_buy 19 = .ok (.if_icmp .le 5, 3) := by decide +kernel
theorem dX6_buy_22 : decode cX6_buy 22 = .ok (.iconst (-1), 1) := by decide +kernel
theorem dX6_buy_23 : decode cX6_buy 23 = .ok (.ireturn, 1) := by decide +kernel
theorem dX6_buy_24 : decode cX6_buy 24 = .ok (.aload_n 0, 1) := by decide +kernel
theorem dX6_buy_25 : decode cX6_buy 25 = .ok (.getfield 19, 3) := by decide +kernel
theorem dX6_buy_28 : decode cX6_buy 28 = .ok (.iload_n 1, 1) := by decide +kernel
theorem dX6_buy_29 : decode cX6_buy 29 = .ok (.invokevirtual 101, 3) := by decide +kernel
theorem dX6_buy_32 : decode cX6_buy 32 = .ok (.iload_n 2, 1) := by decide +kernel
theorem dX6_buy_33 : decode cX6_buy 33 = .ok (.iadd, 1) := by decide +kernel
theorem dX6_buy_34 : decode cX6_buy 34 = .ok (.bipush 9, 2) := by decide +kernel
theorem dX6_buy_36 : decode cX6_buy 36 = .ok (.if_icmp .le 6, 3) := by decide +kernel
theorem dX6_buy_39 : decode cX6_buy 39 = .ok (.bipush (-3), 2) := by decide +kernel
theorem dX6_buy_41 : decode cX6_buy 41 = .ok (.ireturn, 1) := by decide +kernel
theorem dX6_buy_42 : decode cX6_buy 42 = .ok (.aload_n 0, 1) := by decide +kernel
theorem dX6_buy_43 : decode cX6_buy 43 = .ok (.getfield 31, 3) := by decide +kernel
theorem dX6_buy_46 : decode cX6_buy 46 = .ok (.aload_n 0, 1) := by decide +kernel
theorem dX6_buy_47 : decode cX6_buy 47 = .ok (.getfield 19, 3) := by decide +kernel
theorem dX6_buy_50 : decode cX6_buy 50 = .ok (.invokevirtual 143, 3) := by decide +kernel
theorem dX6_buy_53 : decode cX6_buy 53 = .ok (.aload_n 0, 1) := by decide +kernel
theorem dX6_buy_54 : decode cX6_buy 54 = .ok (.getfield 19, 3) := by decide +kernel
theorem dX6_buy_57 : decode cX6_buy 57 = .ok (.iload_n 1, 1) := by decide +kernel
theorem dX6_buy_58 : decode cX6_buy 58 = .ok (.iload_n 2, 1) := by decide +kernel
theorem dX6_buy_59 : decode cX6_buy 59 = .ok (.invokevirtual 153, 3) := by decide +kernel
theorem dX6_buy_62 : decode cX6_buy 62 = .ok (.aload_n 0, 1) := by decide +kernel
theorem dX6_buy_63 : decode cX6_buy 63 = .ok (.getfield 19, 3) := by decide +kernel
theorem dX6_buy_66 : decode cX6_buy 66 = .ok (.iload_n 1, 1) := by decide +kernel
theorem dX6_buy_67 : decode cX6_buy 67 = .ok (.invokevirtual 101, 3) := by decide +kernel
theorem dX6_buy_70 : decode cX6_buy 70 = .ok (.ireturn, 1) := by decide +kernel
theorem dX6_hand_0 : decode cX6_hand 0 = .ok (.aload_n 0, 1) := by decide +kernel
theorem dX6_hand_1 : decode cX6_hand 1 = .ok (.getfield 55, 3) := by decide +kernel
theorem dX6_hand_4 : decode cX6_hand 4 = .ok (.iload_n 1, 1) := by decide +kernel
theorem dX6_hand_5 : decode cX6_hand 5 = .ok (.invokevirtual 97, 3) := by decide +kernel
theorem dX6_hand_8 : decode cX6_hand 8 = .ok (.ifCond .eq 19, 3) := by decide +kernel
theorem dX6_hand_11 : decode cX6_hand 11 = .ok (.aload_n 0, 1) := by decide +kernel
theorem dX6_hand_12 : decode cX6_hand 12 = .ok (.getfield 55, 3) := by decide +kernel
theorem dX6_hand_15 : decode cX6_hand 15 = .ok (.iload_n 2, 1) := by decide +kernel
theorem dX6_hand_16 : decode cX6_hand 16 = .ok (.invokevirtual 97, 3) := by decide +kernel
theorem dX6_hand_19 : decode cX6_hand 19 = .ok (.ifCond .eq 8, 3) := by decide +kernel
theorem dX6_hand_22 : decode cX6_hand 22 = .ok (.iload_n 1, 1) := by decide +kernel
theorem dX6_hand_23 : decode cX6_hand 23 = .ok (.iload_n 2, 1) := by decide +kernel
theorem dX6_hand_24 : decode cX6_hand 24 = .ok (.if_icmp .ne 5, 3) := by decide +kernel
theorem dX6_hand_27 : decode cX6_hand 27 = .ok (.iconst (-1), 1) := by decide +kernel
theorem dX6_hand_28 : decode cX6_hand 28 = .ok (.ireturn, 1) := by decide +kernel
theorem dX6_hand_29 : decode cX6_hand 29 = .ok (.aload_n 0, 1) := by decide +kernel
theorem dX6_hand_30 : decode cX6_hand 30 = .ok (.getfield 19, 3) := by decide +kernel
theorem dX6_hand_33 : decode cX6_hand 33 = .ok (.iload_n 1, 1) := by decide +kernel
theorem dX6_hand_34 : decode cX6_hand 34 = .ok (.invokevirtual 101, 3) := by decide +kernel
theorem dX6_hand_37 : decode cX6_hand 37 = .ok (.ifCond .ne 6, 3) := by decide +kernel
theorem dX6_hand_40 : decode cX6_hand 40 = .ok (.bipush (-2), 2) := by decide +kernel
theorem dX6_hand_42 : decode cX6_hand 42 = .ok (.ireturn, 1) := by decide +kernel
theorem dX6_hand_43 : decode cX6_hand 43 = .ok (.aload_n 0, 1) := by decide +kernel
theorem dX6_hand_44 : decode cX6_hand 44 = .ok (.getfield 19, 3) := by decide +kernel
theorem dX6_hand_47 : decode cX6_hand 47 = .ok (.iload_n 2, 1) := by decide +kernel
theorem dX6_hand_48 : decode cX6_hand 48 = .ok (.invokevirtual 101, 3) := by decide +kernel
theorem dX6_hand_51 : decode cX6_hand 51 = .ok (.bipush 9, 2) := by decide +kernel
theorem dX6_hand_53 : decode cX6_hand 53 = .ok (.if_icmp .lt 6, 3) := by decide +kernel
theorem dX6_hand_56 : decode cX6_hand 56 = .ok (.bipush (-3), 2) := by decide +kernel
theorem dX6_hand_58 : decode cX6_hand 58 = .ok (.ireturn, 1) := by decide +kernel
theorem dX6_hand_59 : decode cX6_hand 59 = .ok (.aload_n 0, 1) := by decide +kernel
theorem dX6_hand_60 : decode cX6_hand 60 = .ok (.getfield 31, 3) := by decide +kernel
theorem dX6_hand_63 : decode cX6_hand 63 = .ok (.aload_n 0, 1) := by decide +kernel
theorem dX6_hand_64 : decode cX6_hand 64 = .ok (.getfield 19, 3) := by decide +kernel
theorem dX6_hand_67 : decode cX6_hand 67 = .ok (.invokevirtual 143, 3) := by decide +kernel
theorem dX6_hand_70 : decode cX6_hand 70 = .ok (.aload_n 0, 1) := by decide +kernel
theorem dX6_hand_71 : decode cX6_hand 71 = .ok (.getfield 19, 3) := by decide +kernel
theorem dX6_hand_74 : decode cX6_hand 74 = .ok (.iload_n 1, 1) := by decide +kernel
theorem dX6_hand_75 : decode cX6_hand 75 = .ok (.iconst (-1), 1) := by decide +kernel
theorem dX6_hand_76 : decode cX6_hand 76 = .ok (.invokevirtual 153, 3) := by decide +kernel
theorem dX6_hand_79 : decode cX6_hand 79 = .ok (.aload_n 0, 1) := by decide +kernel
theorem dX6_hand_80 : decode cX6_hand 80 = .ok (.getfield 19, 3) := by decide +kernel
theorem dX6_hand_83 : decode cX6_hand 83 = .ok (.iload_n 2, 1) := by decide +kernel
theorem dX6_hand_84 : decode cX6_hand 84 = .ok (.iconst 1, 1) := by decide +kernel
theorem dX6_hand_85 : decode cX6_hand 85 = .ok (.invokevirtual 153, 3) := by decide +kernel
theorem dX6_hand_88 : decode cX6_hand 88 = .ok (.aload_n 0, 1) := by decide +kernel
theorem dX6_hand_89 : decode cX6_hand 89 = .ok (.getfield 19, 3) := by decide +kernel
theorem dX6_hand_92 : decode cX6_hand 92 = .ok (.iload_n 2, 1) := by decide +kernel
theorem dX6_hand_93 : decode cX6_hand 93 = .ok (.invokevirtual 101, 3) := by decide +kernel
theorem dX6_hand_96 : decode cX6_hand 96 = .ok (.ireturn, 1) := by decide +kernel
theorem dX6_swap_0 : decode cX6_swap 0 = .ok (.aload_n 0, 1) := by decide +kernel
theorem dX6_swap_1 : decode cX6_swap 1 = .ok (.getfield 55, 3) := by decide +kernel
theorem dX6_swap_4 : decode cX6_swap 4 = .ok (.iload_n 1, 1) := by decide +kernel
theorem dX6_swap_5 : decode cX6_swap 5 = .ok (.invokevirtual 116, 3) := by decide +kernel
theorem dX6_swap_8 : decode cX6_swap 8 = .ok (.ifCond .eq 19, 3) := by decide +kernel
theorem dX6_swap_11 : decode cX6_swap 11 = .ok (.aload_n 0, 1) := by decide +kernel
theorem dX6_swap_12 : decode cX6_swap 12 = .ok (.getfield 55, 3) := by decide +kernel
theorem dX6_swap_15 : decode cX6_swap 15 = .ok (.iload_n 2, 1) := by decide +kernel
theorem dX6_swap_16 : decode cX6_swap 16 = .ok (.invokevirtual 116, 3) := by decide +kernel
theorem dX6_swap_19 : decode cX6_swap 19 = .ok (.ifCond .eq 8, 3) := by decide +kernel
theorem dX6_swap_22 : decode cX6_swap 22 = .ok (.iload_n 1, 1) := by decide +kernel
theorem dX6_swap_23 : decode cX6_swap 23 = .ok (.iload_n 2, 1) := by decide +kernel
theorem dX6_swap_24 : decode cX6_swap 24 = .ok (.if_icmp .ne 5, 3) := by decide +kernel
theorem dX6_swap_27 : decode cX6_swap 27 = .ok (.iconst (-1), 1) := by decide +kernel
theorem dX6_swap_28 : decode cX6_swap 28 = .ok (.ireturn, 1) := by decide +kernel
theorem dX6_swap_29 : decode cX6_swap 29 = .ok (.aload_n 0, 1) := by decide +kernel
theorem dX6_swap_30 : decode cX6_swap 30 = .ok (.getfield 19, 3) := by decide +kernel
theorem dX6_swap_33 : decode cX6_swap 33 = .ok (.iload_n 1, 1) := by decide +kernel
theorem dX6_swap_34 : decode cX6_swap 34 = .ok (.invokevirtual 125, 3) := by decide +kernel
theorem dX6_swap_37 : decode cX6_swap 37 = .ok (.istore_n 3, 1) := by decide +kernel
theorem dX6_swap_38 : decode cX6_swap 38 = .ok (.aload_n 0, 1) := by decide +kernel
theorem dX6_swap_39 : decode cX6_swap 39 = .ok (.getfield 19, 3) := by decide +kernel
theorem dX6_swap_42 : decode cX6_swap 42 = .ok (.iload_n 2, 1) := by decide +kernel
theorem dX6_swap_43 : decode cX6_swap 43 = .ok (.invokevirtual 125, 3) := by decide +kernel
theorem dX6_swap_46 : decode cX6_swap 46 = .ok (.istore 4, 2) := by decide +kernel
theorem dX6_swap_48 : decode cX6_swap 48 = .ok (.iload_n 3, 1) := by decide +kernel
theorem dX6_swap_49 : decode cX6_swap 49 = .ok (.bipush (-4), 2) := by decide +kernel
theorem dX6_swap_51 : decode cX6_swap 51 = .ok (.if_icmp .eq 16, 3) := by decide +kernel
theorem dX6_swap_54 : decode cX6_swap 54 = .ok (.iload 4, 2) := by decide +kernel
theorem dX6_swap_56 : decode cX6_swap 56 = .ok (.bipush (-4), 2) := by decide +kernel
theorem dX6_swap_58 : decode cX6_swap 58 = .ok (.if_icmp .eq 9, 3) := by decide +kernel
theorem dX6_swap_61 : decode cX6_swap 61 = .ok (.iload_n 3, 1) := by decide +kernel
theorem dX6_swap_62 : decode cX6_swap 62 = .ok (.iload 4, 2) := by decide +kernel
theorem dX6_swap_64 : decode cX6_swap 64 = .ok (.if_icmp .ne 6, 3) := by decide +kernel
theorem dX6_swap_67 : decode cX6_swap 67 = .ok (.bipush (-2), 2) := by decide +kernel
theorem dX6_swap_69 : decode cX6_swap 69 = .ok (.ireturn, 1) := by decide +kernel
theorem dX6_swap_70 : decode cX6_swap 70 = .ok (.aload_n 0, 1) := by decide +kernel
theorem dX6_swap_71 : decode cX6_swap 71 = .ok (.getfield 31, 3) := by decide +kernel
theorem dX6_swap_74 : decode cX6_swap 74 = .ok (.aload_n 0, 1) := by decide +kernel
theorem dX6_swap_75 : decode cX6_swap 75 = .ok (.getfield 19, 3) := by decide +kernel
theorem dX6_swap_78 : decode cX6_swap 78 = .ok (.invokevirtual 143, 3) := by decide +kernel
theorem dX6_swap_81 : decode cX6_swap 81 = .ok (.aload_n 0, 1) := by decide +kernel
theorem dX6_swap_82 : decode cX6_swap 82 = .ok (.getfield 19, 3) := by decide +kernel
theorem dX6_swap_85 : decode cX6_swap 85 = .ok (.iload_n 1, 1) := by decide +kernel
theorem dX6_swap_86 : decode cX6_swap 86 = .ok (.iload 4, 2) := by decide +kernel
theorem dX6_swap_88 : decode cX6_swap 88 = .ok (.invokevirtual 157, 3) := by decide +kernel
theorem dX6_swap_91 : decode cX6_swap 91 = .ok (.aload_n 0, 1) := by decide +kernel
theorem dX6_swap_92 : decode cX6_swap 92 = .ok (.getfield 19, 3) := by decide +kernel
theorem dX6_swap_95 : decode cX6_swap 95 = .ok (.iload_n 2, 1) := by decide +kernel
theorem dX6_swap_96 : decode cX6_swap 96 = .ok (.iload_n 3, 1) := by decide +kernel
theorem dX6_swap_97 : decode cX6_swap 97 = .ok (.invokevirtual 157, 3) := by decide +kernel
theorem dX6_swap_100 : decode cX6_swap 100 = .ok (.iload 4, 2) := by decide +kernel
theorem dX6_swap_102 : decode cX6_swap 102 = .ok (.ireturn, 1) := by decide +kernel
theorem dX6_give_0 : decode cX6_give 0 = .ok (.aload_n 0, 1) := by decide +kernel
theorem dX6_give_1 : decode cX6_give 1 = .ok (.getfield 55, 3) := by decide +kernel
theorem dX6_give_4 : decode cX6_give 4 = .ok (.iload_n 1, 1) := by decide +kernel
theorem dX6_give_5 : decode cX6_give 5 = .ok (.invokevirtual 116, 3) := by decide +kernel
theorem dX6_give_8 : decode cX6_give 8 = .ok (.ifCond .eq 14, 3) := by decide +kernel
theorem dX6_give_11 : decode cX6_give 11 = .ok (.aload_n 0, 1) := by decide +kernel
theorem dX6_give_12 : decode cX6_give 12 = .ok (.getfield 55, 3) := by decide +kernel
theorem dX6_give_15 : decode cX6_give 15 = .ok (.iload_n 2, 1) := by decide +kernel
theorem dX6_give_16 : decode cX6_give 16 = .ok (.invokevirtual 97, 3) := by decide +kernel
theorem dX6_give_19 : decode cX6_give 19 = .ok (.ifCond .ne 5, 3) := by decide +kernel
theorem dX6_give_22 : decode cX6_give 22 = .ok (.iconst (-1), 1) := by decide +kernel
theorem dX6_give_23 : decode cX6_give 23 = .ok (.ireturn, 1) := by decide +kernel
theorem dX6_give_24 : decode cX6_give 24 = .ok (.aload_n 0, 1) := by decide +kernel
theorem dX6_give_25 : decode cX6_give 25 = .ok (.getfield 19, 3) := by decide +kernel
theorem dX6_give_28 : decode cX6_give 28 = .ok (.iload_n 1, 1) := by decide +kernel
theorem dX6_give_29 : decode cX6_give 29 = .ok (.invokevirtual 125, 3) := by decide +kernel
theorem dX6_give_32 : decode cX6_give 32 = .ok (.istore_n 3, 1) := by decide +kernel
theorem dX6_give_33 : decode cX6_give 33 = .ok (.iload_n 3, 1) := by decide +kernel
theorem dX6_give_34 : decode cX6_give 34 = .ok (.bipush (-4), 2) := by decide +kernel
theorem dX6_give_36 : decode cX6_give 36 = .ok (.if_icmp .eq 8, 3) := by decide +kernel
theorem dX6_give_39 : decode cX6_give 39 = .ok (.iload_n 3, 1) := by decide +kernel
theorem dX6_give_40 : decode cX6_give 40 = .ok (.iload_n 2, 1) := by decide +kernel
theorem dX6_give_41 : decode cX6_give 41 = .ok (.if_icmp .ne 6, 3) := by decide +kernel
theorem dX6_give_44 : decode cX6_give 44 = .ok (.bipush (-2), 2) := by decide +kernel
theorem dX6_give_46 : decode cX6_give 46 = .ok (.ireturn, 1) := by decide +kernel
theorem dX6_give_47 : decode cX6_give 47 = .ok (.aload_n 0, 1) := by decide +kernel
theorem dX6_give_48 : decode cX6_give 48 = .ok (.getfield 31, 3) := by decide +kernel
theorem dX6_give_51 : decode cX6_give 51 = .ok (.aload_n 0, 1) := by decide +kernel
theorem dX6_give_52 : decode cX6_give 52 = .ok (.getfield 19, 3) := by decide +kernel
theorem dX6_give_55 : decode cX6_give 55 = .ok (.invokevirtual 143, 3) := by decide +kernel
theorem dX6_give_58 : decode cX6_give 58 = .ok (.aload_n 0, 1) := by decide +kernel
theorem dX6_give_59 : decode cX6_give 59 = .ok (.getfield 19, 3) := by decide +kernel
theorem dX6_give_62 : decode cX6_give 62 = .ok (.iload_n 1, 1) := by decide +kernel
theorem dX6_give_63 : decode cX6_give 63 = .ok (.iload_n 2, 1) := by decide +kernel
theorem dX6_give_64 : decode cX6_give 64 = .ok (.invokevirtual 157, 3) := by decide +kernel
theorem dX6_give_67 : decode cX6_give 67 = .ok (.iload_n 3, 1) := by decide +kernel
theorem dX6_give_68 : decode cX6_give 68 = .ok (.ireturn, 1) := by decide +kernel
theorem dX6_undo_0 : decode cX6_undo 0 = .ok (.aload_n 0, 1) := by decide +kernel
theorem dX6_undo_1 : decode cX6_undo 1 = .ok (.getfield 31, 3) := by decide +kernel
theorem dX6_undo_4 : decode cX6_undo 4 = .ok (.aload_n 0, 1) := by decide +kernel
theorem dX6_undo_5 : decode cX6_undo 5 = .ok (.getfield 19, 3) := by decide +kernel
theorem dX6_undo_8 : decode cX6_undo 8 = .ok (.invokevirtual 160, 3) := by decide +kernel
theorem dX6_undo_11 : decode cX6_undo 11 = .ok (.ifCond .ne 6, 3) := by decide +kernel
theorem dX6_undo_14 : decode cX6_undo 14 = .ok (.bipush (-2), 2) := by decide +kernel
theorem dX6_undo_16 : decode cX6_undo 16 = .ok (.ireturn, 1) := by decide +kernel
theorem dX6_undo_17 : decode cX6_undo 17 = .ok (.aload_n 0, 1) := by decide +kernel
theorem dX6_undo_18 : decode cX6_undo 18 = .ok (.getfield 31, 3) := by decide +kernel
theorem dX6_undo_21 : decode cX6_undo 21 = .ok (.getfield 164, 3) := by decide +kernel
theorem dX6_undo_24 : decode cX6_undo 24 = .ok (.ireturn, 1) := by decide +kernel
theorem dX6_wins_0 : decode cX6_wins 0 = .ok (.aload_n 0, 1) := by decide +kernel
theorem dX6_wins_1 : decode cX6_wins 1 = .ok (.getfield 55, 3) := by decide +kernel
theorem dX6_wins_4 : decode cX6_wins 4 = .ok (.iload_n 1, 1) := by decide +kernel
theorem dX6_wins_5 : decode cX6_wins 5 = .ok (.invokevirtual 97, 3) := by decide +kernel
theorem dX6_wins_8 : decode cX6_wins 8 = .ok (.ifCond .eq 21, 3) := by decide +kernel
theorem dX6_wins_11 : decode cX6_wins 11 = .ok (.iload_n 2, 1) := by decide +kernel
theorem dX6_wins_12 : decode cX6_wins 12 = .ok (.iconst 1, 1) := by decide +kernel
theorem dX6_wins_13 : decode cX6_wins 13 = .ok (.if_icmp .lt 16, 3) := by decide +kernel
theorem dX6_wins_16 : decode cX6_wins 16 = .ok (.iload_n 2, 1) := by decide +kernel
theorem dX6_wins_17 : decode cX6_wins 17 = .ok (.bipush 6, 2) := by decide +kernel
theorem dX6_wins_19 : decode cX6_wins 19 = .ok (.if_icmp .gt 10, 3) := by decide +kernel
theorem dX6_wins_22 : decode cX6_wins 22 = .ok (.iload_n 3, 1) := by decide +kernel
theorem dX6_wins_23 : decode cX6_wins 23 = .ok (.invokestatic 167, 3) := by decide +kernel
theorem dX6_wins_26 : decode cX6_wins 26 = .ok (.ifCond .ne 5, 3) := by decide +kernel
theorem dX6_wins_29 : decode cX6_wins 29 = .ok (.iconst (-1), 1) := by decide +kernel
theorem dX6_wins_30 : decode cX6_wins 30 = .ok (.ireturn, 1) := by decide +kernel
theorem dX6_wins_31 : decode cX6_wins 31 = .ok (.aload_n 0, 1) := by decide +kernel
theorem dX6_wins_32 : decode cX6_wins 32 = .ok (.getfield 19, 3) := by decide +kernel
theorem dX6_wins_35 : decode cX6_wins 35 = .ok (.invokevirtual 170, 3) := by decide +kernel
theorem dX6_wins_38 : decode cX6_wins 38 = .ok (.istore 4, 2) := by decide +kernel
theorem dX6_wins_40 : decode cX6_wins 40 = .ok (.aload_n 0, 1) := by decide +kernel
theorem dX6_wins_41 : decode cX6_wins 41 = .ok (.iload_n 2, 1) := by decide +kernel
theorem dX6_wins_42 : decode cX6_wins 42 = .ok (.iload 4, 2) := by decide +kernel
theorem dX6_wins_44 : decode cX6_wins 44 = .ok (.invokevirtual 172, 3) := by decide +kernel
theorem dX6_wins_47 : decode cX6_wins 47 = .ok (.istore 5, 2) := by decide +kernel
theorem dX6_wins_49 : decode cX6_wins 49 = .ok (.iload 4, 2) := by decide +kernel
theorem dX6_wins_51 : decode cX6_wins 51 = .ok (.iload 5, 2) := by decide +kernel
theorem dX6_wins_53 : decode cX6_wins 53 = .ok (.invokestatic 175, 3) := by decide +kernel
theorem dX6_wins_56 : decode cX6_wins 56 = .ok (.lstore 6, 2) := by decide +kernel
theorem dX6_wins_58 : decode cX6_wins 58 = .ok (.iload 4, 2) := by decide +kernel
theorem dX6_wins_60 : decode cX6_wins 60 = .ok (.aload_n 0, 1) := by decide +kernel
theorem dX6_wins_61 : decode cX6_wins 61 = .ok (.getfield 19, 3) := by decide +kernel
theorem dX6_wins_64 : decode cX6_wins 64 = .ok (.iload_n 1, 1) := by decide +kernel
theorem dX6_wins_65 : decode cX6_wins 65 = .ok (.invokevirtual 101, 3) := by decide +kernel
theorem dX6_wins_68 : decode cX6_wins 68 = .ok (.isub, 1) := by decide +kernel
theorem dX6_wins_69 : decode cX6_wins 69 = .ok (.iload 5, 2) := by decide +kernel
theorem dX6_wins_71 : decode cX6_wins 71 = .ok (.invokestatic 175, 3) := by decide +kernel
theorem dX6_wins_74 : decode cX6_wins 74 = .ok (.lstore 8, 2) := by decide +kernel
theorem dX6_wins_76 : decode cX6_wins 76 = .ok (.lload 6, 2) := by decide +kernel
theorem dX6_wins_78 : decode cX6_wins 78 = .ok (.lload 8, 2) := by decide +kernel
theorem dX6_wins_80 : decode cX6_wins 80 = .ok (.lsub, 1) := by decide +kernel
theorem dX6_wins_81 : decode cX6_wins 81 = .ok (.lload 6, 2) := by decide +kernel
theorem dX6_wins_83 : decode cX6_wins 83 = .ok (.iload_n 3, 1) := by decide +kernel
theorem dX6_wins_84 : decode cX6_wins 84 = .ok (.invokestatic 179, 3) := by decide +kernel
theorem dX6_wins_87 : decode cX6_wins 87 = .ok (.l2i, 1) := by decide +kernel
theorem dX6_wins_88 : decode cX6_wins 88 = .ok (.ireturn, 1) := by decide +kernel
theorem dX6_mean_0 : decode cX6_mean 0 = .ok (.aload_n 0, 1) := by decide +kernel
theorem dX6_mean_1 : decode cX6_mean 1 = .ok (.getfield 55, 3) := by decide +kernel
theorem dX6_mean_4 : decode cX6_mean 4 = .ok (.iload_n 1, 1) := by decide +kernel
theorem dX6_mean_5 : decode cX6_mean 5 = .ok (.invokevirtual 97, 3) := by decide +kernel
theorem dX6_mean_8 : decode cX6_mean 8 = .ok (.ifCond .eq 10, 3) := by decide +kernel
theorem dX6_mean_11 : decode cX6_mean 11 = .ok (.iload_n 2, 1) := by decide +kernel
theorem dX6_mean_12 : decode cX6_mean 12 = .ok (.invokestatic 167, 3) := by decide +kernel
theorem dX6_mean_15 : decode cX6_mean 15 = .ok (.ifCond .ne 7, 3) := by decide +kernel
theorem dX6_mean_18 : decode cX6_mean 18 = .ok (.ldc2_w 183, 3) := by decide +kernel
theorem dX6_mean_21 : decode cX6_mean 21 = .ok (.lreturn, 1) := by decide +kernel
theorem dX6_mean_22 : decode cX6_mean 22 = .ok (.aload_n 0, 1) := by decide +kernel
theorem dX6_mean_23 : decode cX6_mean 23 = .ok (.getfield 19, 3) := by decide +kernel
theorem dX6_mean_26 : decode cX6_mean 26 = .ok (.invokevirtual 170, 3) := by decide +kernel
theorem dX6_mean_29 : decode cX6_mean 29 = .ok (.istore_n 3, 1) := by decide +kernel
theorem dX6_mean_30 : decode cX6_mean 30 = .ok (.aload_n 0, 1) := by decide +kernel
theorem dX6_mean_31 : decode cX6_mean 31 = .ok (.bipush 6, 2) := by decide +kernel
theorem dX6_mean_33 : decode cX6_mean 33 = .ok (.iload_n 3, 1) := by decide +kernel
theorem dX6_mean_34 : decode cX6_mean 34 = .ok (.invokevirtual 172, 3) := by decide +kernel
theorem dX6_mean_37 : decode cX6_mean 37 = .ok (.istore 4, 2) := by decide +kernel
theorem dX6_mean_39 : decode cX6_mean 39 = .ok (.iload_n 3, 1) := by decide +kernel
theorem dX6_mean_40 : decode cX6_mean 40 = .ok (.iload 4, 2) := by decide +kernel
theorem dX6_mean_42 : decode cX6_mean 42 = .ok (.invokestatic 175, 3) := by decide +kernel
theorem dX6_mean_45 : decode cX6_mean 45 = .ok (.lstore 5, 2) := by decide +kernel
theorem dX6_mean_47 : decode cX6_mean 47 = .ok (.ldc2_w 185, 3) := by decide +kernel
theorem dX6_mean_50 : decode cX6_mean 50 = .ok (.lload 5, 2) := by decide +kernel
theorem dX6_mean_52 : decode cX6_mean 52 = .ok (.lmul, 1) := by decide +kernel
theorem dX6_mean_53 : decode cX6_mean 53 = .ok (.aload_n 0, 1) := by decide +kernel
theorem dX6_mean_54 : decode cX6_mean 54 = .ok (.iload_n 1, 1) := by decide +kernel
theorem dX6_mean_55 : decode cX6_mean 55 = .ok (.iload_n 3, 1) := by decide +kernel
theorem dX6_mean_56 : decode cX6_mean 56 = .ok (.iload 4, 2) := by decide +kernel
theorem dX6_mean_58 : decode cX6_mean 58 = .ok (.invokevirtual 187, 3) := by decide +kernel
theorem dX6_mean_61 : decode cX6_mean 61 = .ok (.ladd, 1) := by decide +kernel
theorem dX6_mean_62 : decode cX6_mean 62 = .ok (.lload 5, 2) := by decide +kernel
theorem dX6_mean_64 : decode cX6_mean 64 = .ok (.iload_n 2, 1) := by decide +kernel
theorem dX6_mean_65 : decode cX6_mean 65 = .ok (.invokestatic 179, 3) := by decide +kernel
theorem dX6_mean_68 : decode cX6_mean 68 = .ok (.lreturn, 1) := by decide +kernel
theorem dX6_needs_0 : decode cX6_needs 0 = .ok (.aload_n 0, 1) := by decide +kernel
theorem dX6_needs_1 : decode cX6_needs 1 = .ok (.getfield 55, 3) := by decide +kernel
theorem dX6_needs_4 : decode cX6_needs 4 = .ok (.iload_n 1, 1) := by decide +kernel
theorem dX6_needs_5 : decode cX6_needs 5 = .ok (.invokevirtual 97, 3) := by decide +kernel
theorem dX6_needs_8 : decode cX6_needs 8 = .ok (.ifCond .eq 25, 3) := by decide +kernel
theorem dX6_needs_11 : decode cX6_needs 11 = .ok (.iload_n 2, 1) := by decide +kernel
theorem dX6_needs_12 : decode cX6_needs 12 = .ok (.iconst 1, 1) := by decide +kernel
theorem dX6_needs_13 : decode cX6_needs 13 = .ok (.if_icmp .lt 20, 3) := by decide +kernel
theorem dX6_needs_16 : decode cX6_needs 16 = .ok (.iload_n 2, 1) := by decide +kernel
theorem dX6_needs_17 : decode cX6_needs 17 = .ok (.bipush 6, 2) := by decide +kernel
theorem dX6_needs_19 : decode cX6_needs 19 = .ok (.if_icmp .gt 14, 3) := by decide +kernel
theorem dX6_needs_22 : decode cX6_needs 22 = .ok (.iload_n 3, 1) := by decide +kernel
theorem dX6_needs_23 : decode cX6_needs 23 = .ok (.iconst 1, 1) := by decide +kernel
theorem dX6_needs_24 : decode cX6_needs 24 = .ok (.if_icmp .lt 9, 3) := by decide +kernel
theorem dX6_needs_27 : decode cX6_needs 27 = .ok (.iload_n 3, 1) := by decide +kernel
theorem dX6_needs_28 : decode cX6_needs 28 = .ok (.bipush 10, 2) := by decide +kernel
theorem dX6_needs_30 : decode cX6_needs 30 = .ok (.if_icmp .le 5, 3) := by decide +kernel
theorem dX6_needs_33 : decode cX6_needs 33 = .ok (.iconst (-1), 1) := by decide +kernel
theorem dX6_needs_34 : decode cX6_needs 34 = .ok (.ireturn, 1) := by decide +kernel
theorem dX6_needs_35 : decode cX6_needs 35 = .ok (.aload_n 0, 1) := by decide +kernel
theorem dX6_needs_36 : decode cX6_needs 36 = .ok (.getfield 19, 3) := by decide +kernel
theorem dX6_needs_39 : decode cX6_needs 39 = .ok (.invokevirtual 170, 3) := by decide +kernel
theorem dX6_needs_42 : decode cX6_needs 42 = .ok (.aload_n 0, 1) := by decide +kernel
theorem dX6_needs_43 : decode cX6_needs 43 = .ok (.getfield 19, 3) := by decide +kernel
theorem dX6_needs_46 : decode cX6_needs 46 = .ok (.iload_n 1, 1) := by decide +kernel
theorem dX6_needs_47 : decode cX6_needs 47 = .ok (.invokevirtual 101, 3) := by decide +kernel
theorem dX6_needs_50 : decode cX6_needs 50 = .ok (.isub, 1) := by decide +kernel
theorem dX6_needs_51 : decode cX6_needs 51 = .ok (.istore 4, 2) := by decide +kernel
theorem dX6_needs_53 : decode cX6_needs 53 = .ok (.iconst 0, 1) := by decide +kernel
theorem dX6_needs_54 : decode cX6_needs 54 = .ok (.istore 5, 2) := by decide +kernel
theorem dX6_needs_56 : decode cX6_needs 56 = .ok (.iload 5, 2) := by decide +kernel
theorem dX6_needs_58 : decode cX6_needs 58 = .ok (.bipush 9, 2) := by decide +kernel
theorem dX6_needs_60 : decode cX6_needs 60 = .ok (.if_icmp .gt 63, 3) := by decide +kernel
theorem dX6_needs_63 : decode cX6_needs 63 = .ok (.aload_n 0, 1) := by decide +kernel
theorem dX6_needs_64 : decode cX6_needs 64 = .ok (.iload_n 2, 1) := by decide +kernel
theorem dX6_needs_65 : decode cX6_needs 65 = .ok (.iload 4, 2) := by decide +kernel
theorem dX6_needs_67 : decode cX6_needs 67 = .ok (.iload 5, 2) := by decide +kernel
theorem dX6_needs_69 : decode cX6_needs 69 = .ok (.iadd, 1) := by decide +kernel
theorem dX6_needs_70 : decode cX6_needs 70 = .ok (.invokevirtual 172, 3) := by decide +kernel
theorem dX6_needs_73 : decode cX6_needs 73 = .ok (.istore 6, 2) := by decide +kernel
theorem dX6_needs_75 : decode cX6_needs 75 = .ok (.iload 4, 2) := by decide +kernel
theorem dX6_needs_77 : decode cX6_needs 77 = .ok (.iload 5, 2) := by decide +kernel
theorem dX6_needs_79 : decode cX6_needs 79 = .ok (.iadd, 1) := by decide +kernel
theorem dX6_needs_80 : decode cX6_needs 80 = .ok (.iload 6, 2) := by decide +kernel
theorem dX6_needs_82 : decode cX6_needs 82 = .ok (.invokestatic 175, 3) := by decide +kernel
theorem dX6_needs_85 : decode cX6_needs 85 = .ok (.lstore 7, 2) := by decide +kernel
theorem dX6_needs_87 : decode cX6_needs 87 = .ok (.lload 7, 2) := by decide +kernel
theorem dX6_needs_89 : decode cX6_needs 89 = .ok (.iload 4, 2) := by decide +kernel
theorem dX6_needs_91 : decode cX6_needs 91 = .ok (.iload 6, 2) := by decide +kernel
theorem dX6_needs_93 : decode cX6_needs 93 = .ok (.invokestatic 175, 3) := by decide +kernel
theorem dX6_needs_96 : decode cX6_needs 96 = .ok (.lsub, 1) := by decide +kernel
theorem dX6_needs_97 : decode cX6_needs 97 = .ok (.lstore 9, 2) := by decide +kernel
theorem dX6_needs_99 : decode cX6_needs 99 = .ok (.ldc2_w 191, 3) := by decide +kernel
theorem dX6_needs_102 : decode cX6_needs 102 = .ok (.lload 9, 2) := by decide +kernel
theorem dX6_needs_104 : decode cX6_needs 104 = .ok (.lmul, 1) := by decide +kernel
theorem dX6_needs_105 : decode cX6_needs 105 = .ok (.iload_n 3, 1) := by decide +kernel
theorem dX6_needs_106 : decode cX6_needs 106 = .ok (.i2l, 1) := by decide +kernel
theorem dX6_needs_107 : decode cX6_needs 107 = .ok (.lload 7, 2) := by decide +kernel
theorem dX6_needs_109 : decode cX6_needs 109 = .ok (.lmul, 1) := by decide +kernel
theorem dX6_needs_110 : decode cX6_needs 110 = .ok (.lcmp, 1) := by decide +kernel
theorem dX6_needs_111 : decode cX6_needs 111 = .ok (.ifCond .lt 6, 3) := by decide +kernel
theorem dX6_needs_114 : decode cX6_needs 114 = .ok (.iload 5, 2) := by decide +kernel
theorem dX6_needs_116 : decode cX6_needs 116 = .ok (.ireturn, 1) := by decide +kernel
theorem dX6_needs_117 : decode cX6_needs 117 = .ok (.iinc 5 1, 3) := by decide +kernel
theorem dX6_needs_120 : decode cX6_needs 120 = .ok (.goto (-64), 3) := by decide +kernel
theorem dX6_needs_123 : decode cX6_needs 123 = .ok (.bipush (-4), 2) := by decide +kernel
theorem dX6_needs_125 : decode cX6_needs 125 = .ok (.ireturn, 1) := by decide +kernel
theorem dX6_swaps_0 : decode cX6_swaps 0 = .ok (.aload_n 0, 1) := by decide +kernel
theorem dX6_swaps_1 : decode cX6_swaps 1 = .ok (.getfield 48, 3) := by decide +kernel
theorem dX6_swaps_4 : decode cX6_swaps 4 = .ok (.aload_n 0, 1) := by decide +kernel
theorem dX6_swaps_5 : decode cX6_swaps 5 = .ok (.getfield 55, 3) := by decide +kernel
theorem dX6_swaps_8 : decode cX6_swaps 8 = .ok (.aload_n 0, 1) := by decide +kernel
theorem dX6_swaps_9 : decode cX6_swaps 9 = .ok (.getfield 19, 3) := by decide +kernel
theorem dX6_swaps_12 : decode cX6_swaps 12 = .ok (.invokevirtual 193, 3) := by decide +kernel
theorem dX6_swaps_15 : decode cX6_swaps 15 = .ok (.ireturn, 1) := by decide +kernel
theorem dX6_gives_0 : decode cX6_gives 0 = .ok (.aload_n 0, 1) := by decide +kernel
theorem dX6_gives_1 : decode cX6_gives 1 = .ok (.getfield 48, 3) := by decide +kernel
theorem dX6_gives_4 : decode cX6_gives 4 = .ok (.aload_n 0, 1) := by decide +kernel
theorem dX6_gives_5 : decode cX6_gives 5 = .ok (.getfield 55, 3) := by decide +kernel
theorem dX6_gives_8 : decode cX6_gives 8 = .ok (.aload_n 0, 1) := by decide +kernel
theorem dX6_gives_9 : decode cX6_gives 9 = .ok (.getfield 19, 3) := by decide +kernel
theorem dX6_gives_12 : decode cX6_gives 12 = .ok (.invokevirtual 197, 3) := by decide +kernel
theorem dX6_gives_15 : decode cX6_gives 15 = .ok (.ireturn, 1) := by decide +kernel
theorem dX6_share_0 : decode cX6_share 0 = .ok (.iload_n 1, 1) := by decide +kernel
theorem dX6_share_1 : decode cX6_share 1 = .ok (.iconst (-1), 1) := by decide +kernel
theorem dX6_share_2 : decode cX6_share 2 = .ok (.if_icmp .eq 16, 3) := by decide +kernel
theorem dX6_share_5 : decode cX6_share 5 = .ok (.aload_n 0, 1) := by decide +kernel
theorem dX6_share_6 : decode cX6_share 6 = .ok (.getfield 55, 3) := by decide +kernel
theorem dX6_share_9 : decode cX6_share 9 = .ok (.iload_n 1, 1) := by decide +kernel
theorem dX6_share_10 : decode cX6_share 10 = .ok (.invokevirtual 116, 3) := by decide +kernel
theorem dX6_share_13 : decode cX6_share 13 = .ok (.ifCond .ne 5, 3) := by decide +kernel
theorem dX6_share_16 : decode cX6_share 16 = .ok (.iconst (-1), 1) := by decide +kernel
theorem dX6_share_17 : decode cX6_share 17 = .ok (.ireturn, 1) := by decide +kernel
theorem dX6_share_18 : decode cX6_share 18 = .ok (.iload_n 1, 1) := by decide +kernel
theorem dX6_share_19 : decode cX6_share 19 = .ok (.iconst (-1), 1) := by decide +kernel
theorem dX6_share_20 : decode cX6_share 20 = .ok (.if_icmp .ne 23, 3) := by decide +kernel
theorem dX6_share_23 : decode cX6_share 23 = .ok (.sipush 1000, 3) := by decide +kernel
theorem dX6_share_26 : decode cX6_share 26 = .ok (.aload_n 0, 1) := by decide +kernel
theorem dX6_share_27 : decode cX6_share 27 = .ok (.getfield 48, 3) := by decide +kernel
theorem dX6_share_30 : decode cX6_share 30 = .ok (.aload_n 0, 1) := by decide +kernel
theorem dX6_share_31 : decode cX6_share 31 = .ok (.getfield 55, 3) := by decide +kernel
theorem dX6_share_34 : decode cX6_share 34 = .ok (.aload_n 0, 1) := by decide +kernel
theorem dX6_share_35 : decode cX6_share 35 = .ok (.getfield 19, 3) := by decide +kernel
theorem dX6_share_38 : decode cX6_share 38 = .ok (.invokevirtual 200, 3) := by decide +kernel
theorem dX6_share_41 : decode cX6_share 41 = .ok (.iadd, 1) := by decide +kernel
theorem dX6_share_42 : decode cX6_share 42 = .ok (.ireturn, 1) := by decide +kernel
theorem dX6_share_43 : decode cX6_share 43 = .ok (.aload_n 0, 1) := by decide +kernel
theorem dX6_share_44 : decode cX6_share 44 = .ok (.getfield 48, 3) := by decide +kernel
theorem dX6_share_47 : decode cX6_share 47 = .ok (.aload_n 0, 1) := by decide +kernel
theorem dX6_share_48 : decode cX6_share 48 = .ok (.getfield 55, 3) := by decide +kernel
theorem dX6_share_51 : decode cX6_share 51 = .ok (.aload_n 0, 1) := by decide +kernel
theorem dX6_share_52 : decode cX6_share 52 = .ok (.getfield 19, 3) := by decide +kernel
theorem dX6_share_55 : decode cX6_share 55 = .ok (.iload_n 1, 1) := by decide +kernel
theorem dX6_share_56 : decode cX6_share 56 = .ok (.invokevirtual 203, 3) := by decide +kernel
theorem dX6_share_59 : decode cX6_share 59 = .ok (.ireturn, 1) := by decide +kernel
theorem dX6_envy_0 : decode cX6_envy 0 = .ok (.aload_n 0, 1) := by decide +kernel
theorem dX6_envy_1 : decode cX6_envy 1 = .ok (.getfield 48, 3) := by decide +kernel
theorem dX6_envy_4 : decode cX6_envy 4 = .ok (.aload_n 0, 1) := by decide +kernel
theorem dX6_envy_5 : decode cX6_envy 5 = .ok (.getfield 55, 3) := by decide +kernel
theorem dX6_envy_8 : decode cX6_envy 8 = .ok (.aload_n 0, 1) := by decide +kernel
theorem dX6_envy_9 : decode cX6_envy 9 = .ok (.getfield 19, 3) := by decide +kernel
theorem dX6_envy_12 : decode cX6_envy 12 = .ok (.invokevirtual 207, 3) := by decide +kernel
theorem dX6_envy_15 : decode cX6_envy 15 = .ok (.ireturn, 1) := by decide +kernel
theorem dX6_ring_0 : decode cX6_ring 0 = .ok (.aload_n 0, 1) := by decide +kernel
theorem dX6_ring_1 : decode cX6_ring 1 = .ok (.getfield 48, 3) := by decide +kernel
theorem dX6_ring_4 : decode cX6_ring 4 = .ok (.aload_n 0, 1) := by decide +kernel
theorem dX6_ring_5 : decode cX6_ring 5 = .ok (.getfield 55, 3) := by decide +kernel
theorem dX6_ring_8 : decode cX6_ring 8 = .ok (.aload_n 0, 1) := by decide +kernel
theorem dX6_ring_9 : decode cX6_ring 9 = .ok (.getfield 19, 3) := by decide +kernel
theorem dX6_ring_12 : decode cX6_ring 12 = .ok (.invokevirtual 210, 3) := by decide +kernel
theorem dX6_ring_15 : decode cX6_ring 15 = .ok (.ireturn, 1) := by decide +kernel
theorem dX6_note_0 : decode cX6_note 0 = .ok (.aload_n 0, 1) := by decide +kernel
theorem dX6_note_1 : decode cX6_note 1 = .ok (.getfield 55, 3) := by decide +kernel
theorem dX6_note_4 : decode cX6_note 4 = .ok (.iload_n 1, 1) := by decide +kernel
theorem dX6_note_5 : decode cX6_note 5 = .ok (.invokevirtual 97, 3) := by decide +kernel
theorem dX6_note_8 : decode cX6_note 8 = .ok (.ifCond .ne 5, 3) := by decide +kernel
theorem dX6_note_11 : decode cX6_note 11 = .ok (.iconst (-1), 1) := by decide +kernel
theorem dX6_note_12 : decode cX6_note 12 = .ok (.ireturn, 1) := by decide +kernel
theorem dX6_note_13 : decode cX6_note 13 = .ok (.aload_n 0, 1) := by decide +kernel
theorem dX6_note_14 : decode cX6_note 14 = .ok (.getfield 41, 3) := by decide +kernel
theorem dX6_note_17 : decode cX6_note 17 = .ok (.getfield 213, 3) := by decide +kernel
theorem dX6_note_20 : decode cX6_note 20 = .ok (.bipush 8, 2) := by decide +kernel
theorem dX6_note_22 : decode cX6_note 22 = .ok (.if_icmp .lt 6, 3) := by decide +kernel
theorem dX6_note_25 : decode cX6_note 25 = .ok (.bipush (-3), 2) := by decide +kernel
theorem dX6_note_27 : decode cX6_note 27 = .ok (.ireturn, 1) := by decide +kernel
theorem dX6_note_28 : decode cX6_note 28 = .ok (.aload_n 0, 1) := by decide +kernel
theorem dX6_note_29 : decode cX6_note 29 = .ok (.getfield 41, 3) := by decide +kernel
theorem dX6_note_32 : decode cX6_note 32 = .ok (.iload_n 1, 1) := by decide +kernel
theorem dX6_note_33 : decode cX6_note 33 = .ok (.invokevirtual 214, 3) := by decide +kernel
theorem dX6_note_36 : decode cX6_note 36 = .ok (.aload_n 0, 1) := by decide +kernel
theorem dX6_note_37 : decode cX6_note 37 = .ok (.getfield 41, 3) := by decide +kernel
theorem dX6_note_40 : decode cX6_note 40 = .ok (.getfield 213, 3) := by decide +kernel
theorem dX6_note_43 : decode cX6_note 43 = .ok (.ireturn, 1) := by decide +kernel
theorem dX6_forget_0 : decode cX6_forget 0 = .ok (.aload_n 0, 1) := by decide +kernel
theorem dX6_forget_1 : decode cX6_forget 1 = .ok (.getfield 41, 3) := by decide +kernel
theorem dX6_forget_4 : decode cX6_forget 4 = .ok (.getfield 213, 3) := by decide +kernel
theorem dX6_forget_7 : decode cX6_forget 7 = .ok (.istore_n 1, 1) := by decide +kernel
theorem dX6_forget_8 : decode cX6_forget 8 = .ok (.aload_n 0, 1) := by decide +kernel
theorem dX6_forget_9 : decode cX6_forget 9 = .ok (.getfield 41, 3) := by decide +kernel
theorem dX6_forget_12 : decode cX6_forget 12 = .ok (.invokevirtual 96, 3) := by decide +kernel
theorem dX6_forget_15 : decode cX6_forget 15 = .ok (.iload_n 1, 1) := by decide +kernel
theorem dX6_forget_16 : decode cX6_forget 16 = .ok (.ireturn, 1) := by decide +kernel
theorem dX6_fair_0 : decode cX6_fair 0 = .ok (.aload_n 0, 1) := by decide +kernel
theorem dX6_fair_1 : decode cX6_fair 1 = .ok (.getfield 55, 3) := by decide +kernel
theorem dX6_fair_4 : decode cX6_fair 4 = .ok (.iload_n 1, 1) := by decide +kernel
theorem dX6_fair_5 : decode cX6_fair 5 = .ok (.invokevirtual 97, 3) := by decide +kernel
theorem dX6_fair_8 : decode cX6_fair 8 = .ok (.ifCond .eq 21, 3) := by decide +kernel
theorem dX6_fair_11 : decode cX6_fair 11 = .ok (.iload_n 2, 1) := by decide +kernel
theorem dX6_fair_12 : decode cX6_fair 12 = .ok (.iconst 1, 1) := by decide +kernel
theorem dX6_fair_13 : decode cX6_fair 13 = .ok (.if_icmp .lt 16, 3) := by decide +kernel
theorem dX6_fair_16 : decode cX6_fair 16 = .ok (.iload_n 2, 1) := by decide +kernel
theorem dX6_fair_17 : decode cX6_fair 17 = .ok (.bipush 9, 2) := by decide +kernel
theorem dX6_fair_19 : decode cX6_fair 19 = .ok (.if_icmp .gt 10, 3) := by decide +kernel
theorem dX6_fair_22 : decode cX6_fair 22 = .ok (.iload_n 3, 1) := by decide +kernel
theorem dX6_fair_23 : decode cX6_fair 23 = .ok (.invokestatic 167, 3) := by decide +kernel
theorem dX6_fair_26 : decode cX6_fair 26 = .ok (.ifCond .ne 7, 3) := by decide +kernel
theorem dX6_fair_29 : decode cX6_fair 29 = .ok (.ldc2_w 183, 3) := by decide +kernel
theorem dX6_fair_32 : decode cX6_fair 32 = .ok (.lreturn, 1) := by decide +kernel
theorem dX6_fair_33 : decode cX6_fair 33 = .ok (.aload_n 0, 1) := by decide +kernel
theorem dX6_fair_34 : decode cX6_fair 34 = .ok (.getfield 41, 3) := by decide +kernel
theorem dX6_fair_37 : decode cX6_fair 37 = .ok (.aload_n 0, 1) := by decide +kernel
theorem dX6_fair_38 : decode cX6_fair 38 = .ok (.getfield 55, 3) := by decide +kernel
theorem dX6_fair_41 : decode cX6_fair 41 = .ok (.invokevirtual 217, 3) := by decide +kernel
theorem dX6_fair_44 : decode cX6_fair 44 = .ok (.ifCond .ne 7, 3) := by decide +kernel
theorem dX6_fair_47 : decode cX6_fair 47 = .ok (.ldc2_w 221, 3) := by decide +kernel
theorem dX6_fair_50 : decode cX6_fair 50 = .ok (.lreturn, 1) := by decide +kernel
theorem dX6_fair_51 : decode cX6_fair 51 = .ok (.iload_n 2, 1) := by decide +kernel
theorem dX6_fair_52 : decode cX6_fair 52 = .ok (.i2l, 1) := by decide +kernel
theorem dX6_fair_53 : decode cX6_fair 53 = .ok (.aload_n 0, 1) := by decide +kernel
theorem dX6_fair_54 : decode cX6_fair 54 = .ok (.getfield 41, 3) := by decide +kernel
theorem dX6_fair_57 : decode cX6_fair 57 = .ok (.aload_n 0, 1) := by decide +kernel
theorem dX6_fair_58 : decode cX6_fair 58 = .ok (.getfield 55, 3) := by decide +kernel
theorem dX6_fair_61 : decode cX6_fair 61 = .ok (.iload_n 1, 1) := by decide +kernel
theorem dX6_fair_62 : decode cX6_fair 62 = .ok (.invokevirtual 223, 3) := by decide +kernel
theorem dX6_fair_65 : decode cX6_fair 65 = .ok (.lmul, 1) := by decide +kernel
theorem dX6_fair_66 : decode cX6_fair 66 = .ok (.lstore 4, 2) := by decide +kernel
theorem dX6_fair_68 : decode cX6_fair 68 = .ok (.bipush 10, 2) := by decide +kernel
theorem dX6_fair_70 : decode cX6_fair 70 = .ok (.iload_n 2, 1) := by decide +kernel
theorem dX6_fair_71 : decode cX6_fair 71 = .ok (.isub, 1) := by decide +kernel
theorem dX6_fair_72 : decode cX6_fair 72 = .ok (.i2l, 1) := by decide +kernel
theorem dX6_fair_73 : decode cX6_fair 73 = .ok (.aload_n 0, 1) := by decide +kernel
theorem dX6_fair_74 : decode cX6_fair 74 = .ok (.getfield 41, 3) := by decide +kernel
theorem dX6_fair_77 : decode cX6_fair 77 = .ok (.aload_n 0, 1) := by decide +kernel
theorem dX6_fair_78 : decode cX6_fair 78 = .ok (.getfield 55, 3) := by decide +kernel
theorem dX6_fair_81 : decode cX6_fair 81 = .ok (.iload_n 1, 1) := by decide +kernel
theorem dX6_fair_82 : decode cX6_fair 82 = .ok (.invokevirtual 227, 3) := by decide +kernel
theorem dX6_fair_85 : decode cX6_fair 85 = .ok (.lmul, 1) := by decide +kernel
theorem dX6_fair_86 : decode cX6_fair 86 = .ok (.lstore 6, 2) := by decide +kernel
theorem dX6_fair_88 : decode cX6_fair 88 = .ok (.lload 4, 2) := by decide +kernel
theorem dX6_fair_90 : decode cX6_fair 90 = .ok (.lload 4, 2) := by decide +kernel
theorem dX6_fair_92 : decode cX6_fair 92 = .ok (.lload 6, 2) := by decide +kernel
theorem dX6_fair_94 : decode cX6_fair 94 = .ok (.ladd, 1) := by decide +kernel
theorem dX6_fair_95 : decode cX6_fair 95 = .ok (.iload_n 3, 1) := by decide +kernel
theorem dX6_fair_96 : decode cX6_fair 96 = .ok (.invokestatic 179, 3) := by decide +kernel
theorem dX6_fair_99 : decode cX6_fair 99 = .ok (.lreturn, 1) := by decide +kernel
theorem dX6_seats_0 : decode cX6_seats 0 = .ok (.iload_n 1, 1) := by decide +kernel
theorem dX6_seats_1 : decode cX6_seats 1 = .ok (.ifCond .lt 9, 3) := by decide +kernel
theorem dX6_seats_4 : decode cX6_seats 4 = .ok (.iload_n 1, 1) := by decide +kernel
theorem dX6_seats_5 : decode cX6_seats 5 = .ok (.bipush 8, 2) := by decide +kernel
theorem dX6_seats_7 : decode cX6_seats 7 = .ok (.if_icmp .le 7, 3) := by decide +kernel
theorem dX6_seats_10 : decode cX6_seats 10 = .ok (.ldc2_w 183, 3) := by decide +kernel
theorem dX6_seats_13 : decode cX6_seats 13 = .ok (.lreturn, 1) := by decide +kernel
theorem dX6_seats_14 : decode cX6_seats 14 = .ok (.aload_n 0, 1) := by decide +kernel
theorem dX6_seats_15 : decode cX6_seats 15 = .ok (.getfield 55, 3) := by decide +kernel
theorem dX6_seats_18 : decode cX6_seats 18 = .ok (.iload_n 1, 1) := by decide +kernel
theorem dX6_seats_19 : decode cX6_seats 19 = .ok (.invokevirtual 230, 3) := by decide +kernel
theorem dX6_seats_22 : decode cX6_seats 22 = .ok (.lreturn, 1) := by decide +kernel
theorem dX6_year_0 : decode cX6_year 0 = .ok (.iload_n 1, 1) := by decide +kernel
theorem dX6_year_1 : decode cX6_year 1 = .ok (.ifCond .lt 30, 3) := by decide +kernel
theorem dX6_year_4 : decode cX6_year 4 = .ok (.iload_n 1, 1) := by decide +kernel
theorem dX6_year_5 : decode cX6_year 5 = .ok (.sipush 9999, 3) := by decide +kernel
theorem dX6_year_8 : decode cX6_year 8 = .ok (.if_icmp .gt 23, 3) := by decide +kernel
theorem dX6_year_11 : decode cX6_year 11 = .ok (.iload_n 2, 1) := by decide +kernel
theorem dX6_year_12 : decode cX6_year 12 = .ok (.iconst 1, 1) := by decide +kernel
theorem dX6_year_13 : decode cX6_year 13 = .ok (.if_icmp .lt 18, 3) := by decide +kernel
theorem dX6_year_16 : decode cX6_year 16 = .ok (.iload_n 2, 1) := by decide +kernel
theorem dX6_year_17 : decode cX6_year 17 = .ok (.bipush 60, 2) := by decide +kernel
theorem dX6_year_19 : decode cX6_year 19 = .ok (.if_icmp .gt 12, 3) := by decide +kernel
theorem dX6_year_22 : decode cX6_year 22 = .ok (.iload_n 3, 1) := by decide +kernel
theorem dX6_year_23 : decode cX6_year 23 = .ok (.ifCond .lt 8, 3) := by decide +kernel
theorem dX6_year_26 : decode cX6_year 26 = .ok (.iload_n 3, 1) := by decide +kernel
theorem dX6_year_27 : decode cX6_year 27 = .ok (.iconst 1, 1) := by decide +kernel
theorem dX6_year_28 : decode cX6_year 28 = .ok (.if_icmp .le 5, 3) := by decide +kernel
theorem dX6_year_31 : decode cX6_year 31 = .ok (.iconst (-1), 1) := by decide +kernel
theorem dX6_year_32 : decode cX6_year 32 = .ok (.ireturn, 1) := by decide +kernel
theorem dX6_year_33 : decode cX6_year 33 = .ok (.aload_n 0, 1) := by decide +kernel
theorem dX6_year_34 : decode cX6_year 34 = .ok (.getfield 23, 3) := by decide +kernel
theorem dX6_year_37 : decode cX6_year 37 = .ok (.aload_n 0, 1) := by decide +kernel
theorem dX6_year_38 : decode cX6_year 38 = .ok (.getfield 19, 3) := by decide +kernel
theorem dX6_year_41 : decode cX6_year 41 = .ok (.invokevirtual 234, 3) := by decide +kernel
theorem dX6_year_44 : decode cX6_year 44 = .ok (.iconst 0, 1) := by decide +kernel
theorem dX6_year_45 : decode cX6_year 45 = .ok (.istore 4, 2) := by decide +kernel
theorem dX6_year_47 : decode cX6_year 47 = .ok (.iload 4, 2) := by decide +kernel
theorem dX6_year_49 : decode cX6_year 49 = .ok (.iload_n 2, 1) := by decide +kernel
theorem dX6_year_50 : decode cX6_year 50 = .ok (.if_icmp .ge 41, 3) := by decide +kernel
theorem dX6_year_53 : decode cX6_year 53 = .ok (.ldc2_w 237, 3) := by decide +kernel
theorem dX6_year_56 : decode cX6_year 56 = .ok (.iload_n 1, 1) := by decide +kernel
theorem dX6_year_57 : decode cX6_year 57 = .ok (.i2l, 1) := by decide +kernel
theorem dX6_year_58 : decode cX6_year 58 = .ok (.lmul, 1) := by decide +kernel
theorem dX6_year_59 : decode cX6_year 59 = .ok (.ldc2_w 239, 3) := by decide +kernel
theorem dX6_year_62 : decode cX6_year 62 = .ok (.iload 4, 2) := by decide +kernel
theorem dX6_year_64 : decode cX6_year 64 = .ok (.i2l, 1) := by decide +kernel
theorem dX6_year_65 : decode cX6_year 65 = .ok (.lmul, 1) := by decide +kernel
theorem dX6_year_66 : decode cX6_year 66 = .ok (.ladd, 1) := by decide +kernel
theorem dX6_year_67 : decode cX6_year 67 = .ok (.lconst 1, 1) := by decide +kernel
theorem dX6_year_68 : decode cX6_year 68 = .ok (.ladd, 1) := by decide +kernel
theorem dX6_year_69 : decode cX6_year 69 = .ok (.lstore 5, 2) := by decide +kernel
theorem dX6_year_71 : decode cX6_year 71 = .ok (.aload_n 0, 1) := by decide +kernel
theorem dX6_year_72 : decode cX6_year 72 = .ok (.lload 5, 2) := by decide +kernel
theorem dX6_year_74 : decode cX6_year 74 = .ok (.lload 5, 2) := by decide +kernel
theorem dX6_year_76 : decode cX6_year 76 = .ok (.lmul, 1) := by decide +kernel
theorem dX6_year_77 : decode cX6_year 77 = .ok (.ldc2_w 241, 3) := by decide +kernel
theorem dX6_year_80 : decode cX6_year 80 = .ok (.lrem, 1) := by decide +kernel
theorem dX6_year_81 : decode cX6_year 81 = .ok (.l2i, 1) := by decide +kernel
theorem dX6_year_82 : decode cX6_year 82 = .ok (.invokevirtual 243, 3) := by decide +kernel
theorem dX6_year_85 : decode cX6_year 85 = .ok (.iinc 4 1, 3) := by decide +kernel
theorem dX6_year_88 : decode cX6_year 88 = .ok (.goto (-41), 3) := by decide +kernel
theorem dX6_year_91 : decode cX6_year 91 = .ok (.iload_n 3, 1) := by decide +kernel
theorem dX6_year_92 : decode cX6_year 92 = .ok (.ifCond .ne 13, 3) := by decide +kernel
theorem dX6_year_95 : decode cX6_year 95 = .ok (.aload_n 0, 1) := by decide +kernel
theorem dX6_year_96 : decode cX6_year 96 = .ok (.getfield 23, 3) := by decide +kernel
theorem dX6_year_99 : decode cX6_year 99 = .ok (.invokevirtual 246, 3) := by decide +kernel
theorem dX6_year_102 : decode cX6_year 102 = .ok (.goto 15, 3) := by decide +kernel
theorem dX6_year_105 : decode cX6_year 105 = .ok (.sipush 1000, 3) := by decide +kernel
theorem dX6_year_108 : decode cX6_year 108 = .ok (.aload_n 0, 1) := by decide +kernel
theorem dX6_year_109 : decode cX6_year 109 = .ok (.aload_n 0, 1) := by decide +kernel
theorem dX6_year_110 : decode cX6_year 110 = .ok (.getfield 23, 3) := by decide +kernel
theorem dX6_year_113 : decode cX6_year 113 = .ok (.invokevirtual 249, 3) := by decide +kernel
theorem dX6_year_116 : decode cX6_year 116 = .ok (.iadd, 1) := by decide +kernel
theorem dX6_year_117 : decode cX6_year 117 = .ok (.ireturn, 1) := by decide +kernel
theorem dX6_keep_0 : decode cX6_keep 0 = .ok (.aload_n 0, 1) := by decide +kernel
theorem dX6_keep_1 : decode cX6_keep 1 = .ok (.getfield 35, 3) := by decide +kernel
theorem dX6_keep_4 : decode cX6_keep 4 = .ok (.invokevirtual 253, 3) := by decide +kernel
theorem dX6_keep_7 : decode cX6_keep 7 = .ok (.ifCond .eq 6, 3) := by decide +kernel
theorem dX6_keep_10 : decode cX6_keep 10 = .ok (.bipush (-3), 2) := by decide +kernel
theorem dX6_keep_12 : decode cX6_keep 12 = .ok (.ireturn, 1) := by decide +kernel
theorem dX6_keep_13 : decode cX6_keep 13 = .ok (.aload_n 0, 1) := by decide +kernel
theorem dX6_keep_14 : decode cX6_keep 14 = .ok (.getfield 35, 3) := by decide +kernel
theorem dX6_keep_17 : decode cX6_keep 17 = .ok (.aload_n 0, 1) := by decide +kernel
theorem dX6_keep_18 : decode cX6_keep 18 = .ok (.getfield 19, 3) := by decide +kernel
theorem dX6_keep_21 : decode cX6_keep 21 = .ok (.invokevirtual 143, 3) := by decide +kernel
theorem dX6_keep_24 : decode cX6_keep 24 = .ok (.aload_n 0, 1) := by decide +kernel
theorem dX6_keep_25 : decode cX6_keep 25 = .ok (.getfield 35, 3) := by decide +kernel
theorem dX6_keep_28 : decode cX6_keep 28 = .ok (.getfield 164, 3) := by decide +kernel
theorem dX6_keep_31 : decode cX6_keep 31 = .ok (.ireturn, 1) := by decide +kernel
theorem dX6_back_0 : decode cX6_back 0 = .ok (.aload_n 0, 1) := by decide +kernel
theorem dX6_back_1 : decode cX6_back 1 = .ok (.getfield 35, 3) := by decide +kernel
theorem dX6_back_4 : decode cX6_back 4 = .ok (.aload_n 0, 1) := by decide +kernel
theorem dX6_back_5 : decode cX6_back 5 = .ok (.getfield 19, 3) := by decide +kernel
theorem dX6_back_8 : decode cX6_back 8 = .ok (.invokevirtual 160, 3) := by decide +kernel
theorem dX6_back_11 : decode cX6_back 11 = .ok (.ifCond .ne 6, 3) := by decide +kernel
theorem dX6_back_14 : decode cX6_back 14 = .ok (.bipush (-2), 2) := by decide +kernel
theorem dX6_back_16 : decode cX6_back 16 = .ok (.ireturn, 1) := by decide +kernel
theorem dX6_back_17 : decode cX6_back 17 = .ok (.aload_n 0, 1) := by decide +kernel
theorem dX6_back_18 : decode cX6_back 18 = .ok (.getfield 31, 3) := by decide +kernel
theorem dX6_back_21 : decode cX6_back 21 = .ok (.invokevirtual 95, 3) := by decide +kernel
theorem dX6_back_24 : decode cX6_back 24 = .ok (.aload_n 0, 1) := by decide +kernel
theorem dX6_back_25 : decode cX6_back 25 = .ok (.getfield 35, 3) := by decide +kernel
theorem dX6_back_28 : decode cX6_back 28 = .ok (.getfield 164, 3) := by decide +kernel
theorem dX6_back_31 : decode cX6_back 31 = .ok (.ireturn, 1) := by decide +kernel
theorem dX6_count_0 : decode cX6_count 0 = .ok (.iload_n 1, 1) := by decide +kernel
theorem dX6_count_1 : decode cX6_count 1 = .ok (.tableswitch 162 0 9 #[55, 63, 71, 79, 109, 117, 130, 138, 146, 154], 55) := by decide +kernel
theorem dX6_count_56 : decode cX6_count 56 = .ok (.aload_n 0, 1) := by decide +kernel
theorem dX6_count_57 : decode cX6_count 57 = .ok (.getfield 55, 3) := by decide +kernel
theorem dX6_count_60 : decode cX6_count 60 = .ok (.getfield 92, 3) := by decide +kernel
theorem dX6_count_63 : decode cX6_count 63 = .ok (.ireturn, 1) := by decide +kernel
theorem dX6_count_64 : decode cX6_count 64 = .ok (.aload_n 0, 1) := by decide +kernel
theorem dX6_count_65 : decode cX6_count 65 = .ok (.getfield 55, 3) := by decide +kernel
theorem dX6_count_68 : decode cX6_count 68 = .ok (.getfield 140, 3) := by decide +kernel
theorem dX6_count_71 : decode cX6_count 71 = .ok (.ireturn, 1) := by decide +kernel
theorem dX6_count_72 : decode cX6_count 72 = .ok (.aload_n 0, 1) := by decide +kernel
theorem dX6_count_73 : decode cX6_count 73 = .ok (.getfield 19, 3) := by decide +kernel
theorem dX6_count_76 : decode cX6_count 76 = .ok (.invokevirtual 170, 3) := by decide +kernel
theorem dX6_count_79 : decode cX6_count 79 = .ok (.ireturn, 1) := by decide +kernel
theorem dX6_count_80 : decode cX6_count 80 = .ok (.aload_n 0, 1) := by decide +kernel
theorem dX6_count_81 : decode cX6_count 81 = .ok (.getfield 19, 3) := by decide +kernel
theorem dX6_count_84 : decode cX6_count 84 = .ok (.invokevirtual 128, 3) := by decide +kernel
theorem dX6_count_87 : decode cX6_count 87 = .ok (.aload_n 0, 1) := by decide +kernel
theorem dX6_count_88 : decode cX6_count 88 = .ok (.getfield 55, 3) := by decide +kernel
theorem dX6_count_91 : decode cX6_count 91 = .ok (.getfield 140, 3) := by decide +kernel
theorem dX6_count_94 : decode cX6_count 94 = .ok (.if_icmp .ge 13, 3) := by decide +kernel
theorem dX6_count_97 : decode cX6_count 97 = .ok (.aload_n 0, 1) := by decide +kernel
theorem dX6_count_98 : decode cX6_count 98 = .ok (.getfield 19, 3) := by decide +kernel
theorem dX6_count_101 : decode cX6_count 101 = .ok (.invokevirtual 128, 3) := by decide +kernel
theorem dX6_count_104 : decode cX6_count 104 = .ok (.goto 5, 3) := by decide +kernel
theorem dX6_count_107 : decode cX6_count 107 = .ok (.bipush (-4), 2) := by decide +kernel
theorem dX6_count_109 : decode cX6_count 109 = .ok (.ireturn, 1) := by decide +kernel
theorem dX6_count_110 : decode cX6_count 110 = .ok (.aload_n 0, 1) := by decide +kernel
theorem dX6_count_111 : decode cX6_count 111 = .ok (.getfield 19, 3) := by decide +kernel
theorem dX6_count_114 : decode cX6_count 114 = .ok (.invokevirtual 246, 3) := by decide +kernel
theorem dX6_count_117 : decode cX6_count 117 = .ok (.ireturn, 1) := by decide +kernel
theorem dX6_count_118 : decode cX6_count 118 = .ok (.sipush 1000, 3) := by decide +kernel
theorem dX6_count_121 : decode cX6_count 121 = .ok (.aload_n 0, 1) := by decide +kernel
theorem dX6_count_122 : decode cX6_count 122 = .ok (.aload_n 0, 1) := by decide +kernel
theorem dX6_count_123 : decode cX6_count 123 = .ok (.getfield 19, 3) := by decide +kernel
theorem dX6_count_126 : decode cX6_count 126 = .ok (.invokevirtual 249, 3) := by decide +kernel
theorem dX6_count_129 : decode cX6_count 129 = .ok (.iadd, 1) := by decide +kernel
theorem dX6_count_130 : decode cX6_count 130 = .ok (.ireturn, 1) := by decide +kernel
theorem dX6_count_131 : decode cX6_count 131 = .ok (.aload_n 0, 1) := by decide +kernel
theorem dX6_count_132 : decode cX6_count 132 = .ok (.getfield 41, 3) := by decide +kernel
theorem dX6_count_135 : decode cX6_count 135 = .ok (.getfield 213, 3) := by decide +kernel
theorem dX6_count_138 : decode cX6_count 138 = .ok (.ireturn, 1) := by decide +kernel
theorem dX6_count_139 : decode cX6_count 139 = .ok (.aload_n 0, 1) := by decide +kernel
theorem dX6_count_140 : decode cX6_count 140 = .ok (.getfield 31, 3) := by decide +kernel
theorem dX6_count_143 : decode cX6_count 143 = .ok (.getfield 164, 3) := by decide +kernel
theorem dX6_count_146 : decode cX6_count 146 = .ok (.ireturn, 1) := by decide +kernel
theorem dX6_count_147 : decode cX6_count 147 = .ok (.aload_n 0, 1) := by decide +kernel
theorem dX6_count_148 : decode cX6_count 148 = .ok (.getfield 35, 3) := by decide +kernel
theorem dX6_count_151 : decode cX6_count 151 = .ok (.getfield 164, 3) := by decide +kernel
theorem dX6_count_154 : decode cX6_count 154 = .ok (.ireturn, 1) := by decide +kernel
theorem dX6_count_155 : decode cX6_count 155 = .ok (.aload_n 0, 1) := by decide +kernel
theorem dX6_count_156 : decode cX6_count 156 = .ok (.getfield 10, 3) := by decide +kernel
theorem dX6_count_159 : decode cX6_count 159 = .ok (.getfield 89, 3) := by decide +kernel
theorem dX6_count_162 : decode cX6_count 162 = .ok (.ireturn, 1) := by decide +kernel
theorem dX6_count_163 : decode cX6_count 163 = .ok (.iconst (-1), 1) := by decide +kernel
theorem dX6_count_164 : decode cX6_count 164 = .ok (.ireturn, 1) := by decide +kernel
theorem dX6_isPart_0 : decode cX6_isPart 0 = .ok (.iload_n 0, 1) := by decide +kernel
theorem dX6_isPart_1 : decode cX6_isPart 1 = .ok (.ifCond .eq 8, 3) := by decide +kernel
theorem dX6_isPart_4 : decode cX6_isPart 4 = .ok (.iload_n 0, 1) := by decide +kernel
theorem dX6_isPart_5 : decode cX6_isPart 5 = .ok (.iconst 1, 1) := by decide +kernel
theorem dX6_isPart_6 : decode cX6_isPart 6 = .ok (.if_icmp .ne 7, 3) := by decide +kernel
theorem dX6_isPart_9 : decode cX6_isPart 9 = .ok (.iconst 1, 1) := by decide +kernel
theorem dX6_isPart_10 : decode cX6_isPart 10 = .ok (.goto 4, 3) := by decide +kernel
theorem dX6_isPart_13 : decode cX6_isPart 13 = .ok (.iconst 0, 1) := by decide +kernel
theorem dX6_isPart_14 : decode cX6_isPart 14 = .ok (.ireturn, 1) := by decide +kernel
theorem dX6_drawsAhead_0 : decode cX6_drawsAhead 0 = .ok (.iload_n 1, 1) := by decide +kernel
theorem dX6_drawsAhead_1 : decode cX6_drawsAhead 1 = .ok (.aload_n 0, 1) := by decide +kernel
theorem dX6_drawsAhead_2 : decode cX6_drawsAhead 2 = .ok (.getfield 55, 3) := by decide +kernel
theorem dX6_drawsAhead_5 : decode cX6_drawsAhead 5 = .ok (.getfield 140, 3) := by decide +kernel
theorem dX6_drawsAhead_8 : decode cX6_drawsAhead 8 = .ok (.aload_n 0, 1) := by decide +kernel
theorem dX6_drawsAhead_9 : decode cX6_drawsAhead 9 = .ok (.getfield 19, 3) := by decide +kernel
theorem dX6_drawsAhead_12 : decode cX6_drawsAhead 12 = .ok (.invokevirtual 128, 3) := by decide +kernel
theorem dX6_drawsAhead_15 : decode cX6_drawsAhead 15 = .ok (.isub, 1) := by decide +kernel
theorem dX6_drawsAhead_16 : decode cX6_drawsAhead 16 = .ok (.iload_n 2, 1) := by decide +kernel
theorem dX6_drawsAhead_17 : decode cX6_drawsAhead 17 = .ok (.invokestatic 257, 3) := by decide +kernel
theorem dX6_drawsAhead_20 : decode cX6_drawsAhead 20 = .ok (.invokestatic 257, 3) := by decide +kernel
theorem dX6_drawsAhead_23 : decode cX6_drawsAhead 23 = .ok (.ireturn, 1) := by decide +kernel
theorem dX6_worthOverWays_0 : decode cX6_worthOverWays 0 = .ok (.aload_n 0, 1) := by decide +kernel
theorem dX6_worthOverWays_1 : decode cX6_worthOverWays 1 = .ok (.getfield 19, 3) := by decide +kernel
theorem dX6_worthOverWays_4 : decode cX6_worthOverWays 4 = .ok (.iload_n 1, 1) := by decide +kernel
theorem dX6_worthOverWays_5 : decode cX6_worthOverWays 5 = .ok (.invokevirtual 101, 3) := by decide +kernel
theorem dX6_worthOverWays_8 : decode cX6_worthOverWays 8 = .ok (.istore 4, 2) := by decide +kernel
theorem dX6_worthOverWays_10 : decode cX6_worthOverWays 10 = .ok (.aload_n 0, 1) := by decide +kernel
theorem dX6_worthOverWays_11 : decode cX6_worthOverWays 11 = .ok (.getfield 19, 3) := by decide +kernel
theorem dX6_worthOverWays_14 : decode cX6_worthOverWays 14 = .ok (.iload_n 1, 1) := by decide +kernel
theorem dX6_worthOverWays_15 : decode cX6_worthOverWays 15 = .ok (.invokevirtual 109, 3) := by decide +kernel
theorem dX6_worthOverWays_18 : decode cX6_worthOverWays 18 = .ok (.istore 5, 2) := by decide +kernel
theorem dX6_worthOverWays_20 : decode cX6_worthOverWays 20 = .ok (.lconst 0, 1) := by decide +kernel
theorem dX6_worthOverWays_21 : decode cX6_worthOverWays 21 = .ok (.lstore 6, 2) := by decide +kernel
theorem dX6_worthOverWays_23 : decode cX6_worthOverWays 23 = .ok (.iconst 0, 1) := by decide +kernel
theorem dX6_worthOverWays_24 : decode cX6_worthOverWays 24 = .ok (.istore 8, 2) := by decide +kernel
theorem dX6_worthOverWays_26 : decode cX6_worthOverWays 26 = .ok (.iload 8, 2) := by decide +kernel
theorem dX6_worthOverWays_28 : decode cX6_worthOverWays 28 = .ok (.iconst 1, 1) := by decide +kernel
theorem dX6_worthOverWays_29 : decode cX6_worthOverWays 29 = .ok (.iload_n 3, 1) := by decide +kernel
theorem dX6_worthOverWays_30 : decode cX6_worthOverWays 30 = .ok (.ishl, 1) := by decide +kernel
theorem dX6_worthOverWays_31 : decode cX6_worthOverWays 31 = .ok (.if_icmp .ge 67, 3) := by decide +kernel
theorem dX6_worthOverWays_34 : decode cX6_worthOverWays 34 = .ok (.iload 8, 2) := by decide +kernel
theorem dX6_worthOverWays_36 : decode cX6_worthOverWays 36 = .ok (.invokestatic 262, 3) := by decide +kernel
theorem dX6_worthOverWays_39 : decode cX6_worthOverWays 39 = .ok (.istore 9, 2) := by decide +kernel
theorem dX6_worthOverWays_41 : decode cX6_worthOverWays 41 = .ok (.iload 4, 2) := by decide +kernel
theorem dX6_worthOverWays_43 : decode cX6_worthOverWays 43 = .ok (.iload 9, 2) := by decide +kernel
theorem dX6_worthOverWays_45 : decode cX6_worthOverWays 45 = .ok (.invokestatic 175, 3) := by decide +kernel
theorem dX6_worthOverWays_48 : decode cX6_worthOverWays 48 = .ok (.iload_n 2, 1) := by decide +kernel
theorem dX6_worthOverWays_49 : decode cX6_worthOverWays 49 = .ok (.iload 4, 2) := by decide +kernel
theorem dX6_worthOverWays_51 : decode cX6_worthOverWays 51 = .ok (.isub, 1) := by decide +kernel
theorem dX6_worthOverWays_52 : decode cX6_worthOverWays 52 = .ok (.iload_n 3, 1) := by decide +kernel
theorem dX6_worthOverWays_53 : decode cX6_worthOverWays 53 = .ok (.iload 9, 2) := by decide +kernel
theorem dX6_worthOverWays_55 : decode cX6_worthOverWays 55 = .ok (.isub, 1) := by decide +kernel
theorem dX6_worthOverWays_56 : decode cX6_worthOverWays 56 = .ok (.invokestatic 175, 3) := by decide +kernel
theorem dX6_worthOverWays_59 : decode cX6_worthOverWays 59 = .ok (.lmul, 1) := by decide +kernel
theorem dX6_worthOverWays_60 : decode cX6_worthOverWays 60 = .ok (.lstore 10, 2) := by decide +kernel
theorem dX6_worthOverWays_62 : decode cX6_worthOverWays 62 = .ok (.lload 6, 2) := by decide +kernel
theorem dX6_worthOverWays_64 : decode cX6_worthOverWays 64 = .ok (.lload 10, 2) := by decide +kernel
theorem dX6_worthOverWays_66 : decode cX6_worthOverWays 66 = .ok (.aload_n 0, 1) := by decide +kernel
theorem dX6_worthOverWays_67 : decode cX6_worthOverWays 67 = .ok (.getfield 55, 3) := by decide +kernel
theorem dX6_worthOverWays_70 : decode cX6_worthOverWays 70 = .ok (.iload_n 1, 1) := by decide +kernel
theorem dX6_worthOverWays_71 : decode cX6_worthOverWays 71 = .ok (.iload 5, 2) := by decide +kernel
theorem dX6_worthOverWays_73 : decode cX6_worthOverWays 73 = .ok (.iload 8, 2) := by decide +kernel
theorem dX6_worthOverWays_75 : decode cX6_worthOverWays 75 = .ok (.aload_n 0, 1) := by decide +kernel
theorem dX6_worthOverWays_76 : decode cX6_worthOverWays 76 = .ok (.getfield 19, 3) := by decide +kernel
theorem dX6_worthOverWays_79 : decode cX6_worthOverWays 79 = .ok (.invokevirtual 128, 3) := by decide +kernel
theorem dX6_worthOverWays_82 : decode cX6_worthOverWays 82 = .ok (.ishl, 1) := by decide +kernel
theorem dX6_worthOverWays_83 : decode cX6_worthOverWays 83 = .ok (.ior, 1) := by decide +kernel
theorem dX6_worthOverWays_84 : decode cX6_worthOverWays 84 = .ok (.invokevirtual 112, 3) := by decide +kernel
theorem dX6_worthOverWays_87 : decode cX6_worthOverWays 87 = .ok (.i2l, 1) := by decide +kernel
theorem dX6_worthOverWays_88 : decode cX6_worthOverWays 88 = .ok (.lmul, 1) := by decide +kernel
theorem dX6_worthOverWays_89 : decode cX6_worthOverWays 89 = .ok (.ladd, 1) := by decide +kernel
theorem dX6_worthOverWays_90 : decode cX6_worthOverWays 90 = .ok (.lstore 6, 2) := by decide +kernel
theorem dX6_worthOverWays_92 : decode cX6_worthOverWays 92 = .ok (.iinc 8 1, 3) := by decide +kernel
theorem dX6_worthOverWays_95 : decode cX6_worthOverWays 95 = .ok (.goto (-69), 3) := by decide +kernel
theorem dX6_worthOverWays_98 : decode cX6_worthOverWays 98 = .ok (.lload 6, 2) := by decide +kernel
theorem dX6_worthOverWays_100 : decode cX6_worthOverWays 100 = .ok (.lreturn, 1) := by decide +kernel
theorem dX6_worthOfAll_0 : decode cX6_worthOfAll 0 = .ok (.iconst 0, 1) := by decide +kernel
theorem dX6_worthOfAll_1 : decode cX6_worthOfAll 1 = .ok (.istore_n 2, 1) := by decide +kernel
theorem dX6_worthOfAll_2 : decode cX6_worthOfAll 2 = .ok (.iconst 0, 1) := by decide +kernel
theorem dX6_worthOfAll_3 : decode cX6_worthOfAll 3 = .ok (.istore_n 3, 1) := by decide +kernel
theorem dX6_worthOfAll_4 : decode cX6_worthOfAll 4 = .ok (.iload_n 3, 1) := by decide +kernel
theorem dX6_worthOfAll_5 : decode cX6_worthOfAll 5 = .ok (.aload_n 0, 1) := by decide +kernel
theorem dX6_worthOfAll_6 : decode cX6_worthOfAll 6 = .ok (.getfield 55, 3) := by decide +kernel
theorem dX6_worthOfAll_9 : decode cX6_worthOfAll 9 = .ok (.getfield 92, 3) := by decide +kernel
theorem dX6_worthOfAll_12 : decode cX6_worthOfAll 12 = .ok (.if_icmp .ge 25, 3) := by decide +kernel
theorem dX6_worthOfAll_15 : decode cX6_worthOfAll 15 = .ok (.iload_n 2, 1) := by decide +kernel
theorem dX6_worthOfAll_16 : decode cX6_worthOfAll 16 = .ok (.aload_n 0, 1) := by decide +kernel
theorem dX6_worthOfAll_17 : decode cX6_worthOfAll 17 = .ok (.getfield 55, 3) := by decide +kernel
theorem dX6_worthOfAll_20 : decode cX6_worthOfAll 20 = .ok (.iload_n 3, 1) := by decide +kernel
theorem dX6_worthOfAll_21 : decode cX6_worthOfAll 21 = .ok (.aload_n 1, 1) := by decide +kernel
theorem dX6_worthOfAll_22 : decode cX6_worthOfAll 22 = .ok (.iload_n 3, 1) := by decide +kernel
theorem dX6_worthOfAll_23 : decode cX6_worthOfAll 23 = .ok (.invokevirtual 109, 3) := by decide +kernel
theorem dX6_worthOfAll_26 : decode cX6_worthOfAll 26 = .ok (.invokevirtual 112, 3) := by decide +kernel
theorem dX6_worthOfAll_29 : decode cX6_worthOfAll 29 = .ok (.iadd, 1) := by decide +kernel
theorem dX6_worthOfAll_30 : decode cX6_worthOfAll 30 = .ok (.istore_n 2, 1) := by decide +kernel
theorem dX6_worthOfAll_31 : decode cX6_worthOfAll 31 = .ok (.iinc 3 1, 3) := by decide +kernel
theorem dX6_worthOfAll_34 : decode cX6_worthOfAll 34 = .ok (.goto (-30), 3) := by decide +kernel
theorem dX6_worthOfAll_37 : decode cX6_worthOfAll 37 = .ok (.iload_n 2, 1) := by decide +kernel
theorem dX6_worthOfAll_38 : decode cX6_worthOfAll 38 = .ok (.ireturn, 1) := by decide +kernel
theorem dX6_takeTurn_0 : decode cX6_takeTurn 0 = .ok (.iload_n 1, 1) := by decide +kernel
theorem dX6_takeTurn_1 : decode cX6_takeTurn 1 = .ok (.iconst 4, 1) := by decide +kernel
theorem dX6_takeTurn_2 : decode cX6_takeTurn 2 = .ok (.idiv, 1) := by decide +kernel
theorem dX6_takeTurn_3 : decode cX6_takeTurn 3 = .ok (.istore_n 2, 1) := by decide +kernel
theorem dX6_takeTurn_4 : decode cX6_takeTurn 4 = .ok (.iload_n 1, 1) := by decide +kernel
theorem dX6_takeTurn_5 : decode cX6_takeTurn 5 = .ok (.bipush 64, 2) := by decide +kernel
theorem dX6_takeTurn_7 : decode cX6_takeTurn 7 = .ok (.idiv, 1) := by decide +kernel
theorem dX6_takeTurn_8 : decode cX6_takeTurn 8 = .ok (.istore_n 3, 1) := by decide +kernel
theorem dX6_takeTurn_9 : decode cX6_takeTurn 9 = .ok (.iload_n 1, 1) := by decide +kernel
theorem dX6_takeTurn_10 : decode cX6_takeTurn 10 = .ok (.iconst 4, 1) := by decide +kernel
theorem dX6_takeTurn_11 : decode cX6_takeTurn 11 = .ok (.irem, 1) := by decide +kernel
theorem dX6_takeTurn_12 : decode cX6_takeTurn 12 = .ok (.tableswitch 58 0 2 #[28, 36, 49], 28) := by decide +kernel
theorem dX6_takeTurn_40 : decode cX6_takeTurn 40 = .ok (.aload_n 0, 1) := by decide +kernel
theorem dX6_takeTurn_41 : decode cX6_takeTurn 41 = .ok (.iload_n 2, 1) := by decide +kernel
theorem dX6_takeTurn_42 : decode cX6_takeTurn 42 = .ok (.invokevirtual 267, 3) := by decide +kernel
theorem dX6_takeTurn_45 : decode cX6_takeTurn 45 = .ok (.goto 25, 3) := by decide +kernel
theorem dX6_takeTurn_48 : decode cX6_takeTurn 48 = .ok (.aload_n 0, 1) := by decide +kernel
theorem dX6_takeTurn_49 : decode cX6_takeTurn 49 = .ok (.iload_n 2, 1) := by decide +kernel
theorem dX6_takeTurn_50 : decode cX6_takeTurn 50 = .ok (.iload_n 3, 1) := by decide +kernel
theorem dX6_takeTurn_51 : decode cX6_takeTurn 51 = .ok (.iconst 3, 1) := by decide +kernel
theorem dX6_takeTurn_52 : decode cX6_takeTurn 52 = .ok (.irem, 1) := by decide +kernel
theorem dX6_takeTurn_53 : decode cX6_takeTurn 53 = .ok (.iconst 1, 1) := by decide +kernel
theorem dX6_takeTurn_54 : decode cX6_takeTurn 54 = .ok (.iadd, 1) := by decide +kernel
theorem dX6_takeTurn_55 : decode cX6_takeTurn 55 = .ok (.invokevirtual 270, 3) := by decide +kernel
theorem dX6_takeTurn_58 : decode cX6_takeTurn 58 = .ok (.goto 12, 3) := by decide +kernel
theorem dX6_takeTurn_61 : decode cX6_takeTurn 61 = .ok (.aload_n 0, 1) := by decide +kernel
theorem dX6_takeTurn_62 : decode cX6_takeTurn 62 = .ok (.iload_n 2, 1) := by decide +kernel
theorem dX6_takeTurn_63 : decode cX6_takeTurn 63 = .ok (.iload_n 3, 1) := by decide +kernel
theorem dX6_takeTurn_64 : decode cX6_takeTurn 64 = .ok (.invokevirtual 273, 3) := by decide +kernel
theorem dX6_takeTurn_67 : decode cX6_takeTurn 67 = .ok (.goto 3, 3) := by decide +kernel
theorem dX6_takeTurn_70 : decode cX6_takeTurn 70 = .ok (.return_, 1) := by decide +kernel
theorem dX6_tryDraw_0 : decode cX6_tryDraw 0 = .ok (.aload_n 0, 1) := by decide +kernel
theorem dX6_tryDraw_1 : decode cX6_tryDraw 1 = .ok (.getfield 23, 3) := by decide +kernel
theorem dX6_tryDraw_4 : decode cX6_tryDraw 4 = .ok (.invokevirtual 170, 3) := by decide +kernel
theorem dX6_tryDraw_7 : decode cX6_tryDraw 7 = .ok (.istore_n 2, 1) := by decide +kernel
theorem dX6_tryDraw_8 : decode cX6_tryDraw 8 = .ok (.iload_n 2, 1) := by decide +kernel
theorem dX6_tryDraw_9 : decode cX6_tryDraw 9 = .ok (.ifCond .le 37, 3) := by decide +kernel
theorem dX6_tryDraw_12 : decode cX6_tryDraw 12 = .ok (.aload_n 0, 1) := by decide +kernel
theorem dX6_tryDraw_13 : decode cX6_tryDraw 13 = .ok (.getfield 23, 3) := by decide +kernel
theorem dX6_tryDraw_16 : decode cX6_tryDraw 16 = .ok (.invokevirtual 128, 3) := by decide +kernel
theorem dX6_tryDraw_19 : decode cX6_tryDraw 19 = .ok (.aload_n 0, 1) := by decide +kernel
theorem dX6_tryDraw_20 : decode cX6_tryDraw 20 = .ok (.getfield 55, 3) := by decide +kernel
theorem dX6_tryDraw_23 : decode cX6_tryDraw 23 = .ok (.getfield 140, 3) := by decide +kernel
theorem dX6_tryDraw_26 : decode cX6_tryDraw 26 = .ok (.if_icmp .ge 20, 3) := by decide +kernel
theorem dX6_tryDraw_29 : decode cX6_tryDraw 29 = .ok (.aload_n 0, 1) := by decide +kernel
theorem dX6_tryDraw_30 : decode cX6_tryDraw 30 = .ok (.getfield 23, 3) := by decide +kernel
theorem dX6_tryDraw_33 : decode cX6_tryDraw 33 = .ok (.aload_n 0, 1) := by decide +kernel
theorem dX6_tryDraw_34 : decode cX6_tryDraw 34 = .ok (.getfield 23, 3) := by decide +kernel
theorem dX6_tryDraw_37 : decode cX6_tryDraw 37 = .ok (.iload_n 1, 1) := by decide +kernel
theorem dX6_tryDraw_38 : decode cX6_tryDraw 38 = .ok (.iload_n 2, 1) := by decide +kernel
theorem dX6_tryDraw_39 : decode cX6_tryDraw 39 = .ok (.irem, 1) := by decide +kernel
theorem dX6_tryDraw_40 : decode cX6_tryDraw 40 = .ok (.invokevirtual 137, 3) := by decide +kernel
theorem dX6_tryDraw_43 : decode cX6_tryDraw 43 = .ok (.invokevirtual 147, 3) := by decide +kernel
theorem dX6_tryDraw_46 : decode cX6_tryDraw 46 = .ok (.return_, 1) := by decide +kernel
theorem dX6_tryBuy_0 : decode cX6_tryBuy 0 = .ok (.aload_n 0, 1) := by decide +kernel
theorem dX6_tryBuy_1 : decode cX6_tryBuy 1 = .ok (.getfield 55, 3) := by decide +kernel
theorem dX6_tryBuy_4 : decode cX6_tryBuy 4 = .ok (.getfield 92, 3) := by decide +kernel
theorem dX6_tryBuy_7 : decode cX6_tryBuy 7 = .ok (.ifCond .le 37, 3) := by decide +kernel
theorem dX6_tryBuy_10 : decode cX6_tryBuy 10 = .ok (.iload_n 1, 1) := by decide +kernel
theorem dX6_tryBuy_11 : decode cX6_tryBuy 11 = .ok (.aload_n 0, 1) := by decide +kernel
theorem dX6_tryBuy_12 : decode cX6_tryBuy 12 = .ok (.getfield 55, 3) := by decide +kernel
theorem dX6_tryBuy_15 : decode cX6_tryBuy 15 = .ok (.getfield 92, 3) := by decide +kernel
theorem dX6_tryBuy_18 : decode cX6_tryBuy 18 = .ok (.irem, 1) := by decide +kernel
theorem dX6_tryBuy_19 : decode cX6_tryBuy 19 = .ok (.istore_n 3, 1) := by decide +kernel
theorem dX6_tryBuy_20 : decode cX6_tryBuy 20 = .ok (.aload_n 0, 1) := by decide +kernel
theorem dX6_tryBuy_21 : decode cX6_tryBuy 21 = .ok (.getfield 23, 3) := by decide +kernel
theorem dX6_tryBuy_24 : decode cX6_tryBuy 24 = .ok (.iload_n 3, 1) := by decide +kernel
theorem dX6_tryBuy_25 : decode cX6_tryBuy 25 = .ok (.invokevirtual 101, 3) := by decide +kernel
theorem dX6_tryBuy_28 : decode cX6_tryBuy 28 = .ok (.iload_n 2, 1) := by decide +kernel
theorem dX6_tryBuy_29 : decode cX6_tryBuy 29 = .ok (.iadd, 1) := by decide +kernel
theorem dX6_tryBuy_30 : decode cX6_tryBuy 30 = .ok (.bipush 9, 2) := by decide +kernel
theorem dX6_tryBuy_32 : decode cX6_tryBuy 32 = .ok (.if_icmp .gt 12, 3) := by decide +kernel
theorem dX6_tryBuy_35 : decode cX6_tryBuy 35 = .ok (.aload_n 0, 1) := by decide +kernel
theorem dX6_tryBuy_36 : decode cX6_tryBuy 36 = .ok (.getfield 23, 3) := by decide +kernel
theorem dX6_tryBuy_39 : decode cX6_tryBuy 39 = .ok (.iload_n 3, 1) := by decide +kernel
theorem dX6_tryBuy_40 : decode cX6_tryBuy 40 = .ok (.iload_n 2, 1) := by decide +kernel
theorem dX6_tryBuy_41 : decode cX6_tryBuy 41 = .ok (.invokevirtual 153, 3) := by decide +kernel
theorem dX6_tryBuy_44 : decode cX6_tryBuy 44 = .ok (.return_, 1) := by decide +kernel
theorem dX6_tryGive_0 : decode cX6_tryGive 0 = .ok (.aload_n 0, 1) := by decide +kernel
theorem dX6_tryGive_1 : decode cX6_tryGive 1 = .ok (.getfield 55, 3) := by decide +kernel
theorem dX6_tryGive_4 : decode cX6_tryGive 4 = .ok (.getfield 140, 3) := by decide +kernel
theorem dX6_tryGive_7 : decode cX6_tryGive 7 = .ok (.ifCond .le 53, 3) := by decide +kernel
theorem dX6_tryGive_10 : decode cX6_tryGive 10 = .ok (.aload_n 0, 1) := by decide +kernel
theorem dX6_tryGive_11 : decode cX6_tryGive 11 = .ok (.getfield 55, 3) := by decide +kernel
theorem dX6_tryGive_14 : decode cX6_tryGive 14 = .ok (.getfield 92, 3) := by decide +kernel
theorem dX6_tryGive_17 : decode cX6_tryGive 17 = .ok (.ifCond .le 43, 3) := by decide +kernel
theorem dX6_tryGive_20 : decode cX6_tryGive 20 = .ok (.iload_n 1, 1) := by decide +kernel
theorem dX6_tryGive_21 : decode cX6_tryGive 21 = .ok (.aload_n 0, 1) := by decide +kernel
theorem dX6_tryGive_22 : decode cX6_tryGive 22 = .ok (.getfield 55, 3) := by decide +kernel
theorem dX6_tryGive_25 : decode cX6_tryGive 25 = .ok (.getfield 140, 3) := by decide +kernel
theorem dX6_tryGive_28 : decode cX6_tryGive 28 = .ok (.irem, 1) := by decide +kernel
theorem dX6_tryGive_29 : decode cX6_tryGive 29 = .ok (.istore_n 3, 1) := by decide +kernel
theorem dX6_tryGive_30 : decode cX6_tryGive 30 = .ok (.aload_n 0, 1) := by decide +kernel
theorem dX6_tryGive_31 : decode cX6_tryGive 31 = .ok (.getfield 23, 3) := by decide +kernel
theorem dX6_tryGive_34 : decode cX6_tryGive 34 = .ok (.iload_n 3, 1) := by decide +kernel
theorem dX6_tryGive_35 : decode cX6_tryGive 35 = .ok (.invokevirtual 125, 3) := by decide +kernel
theorem dX6_tryGive_38 : decode cX6_tryGive 38 = .ok (.bipush (-4), 2) := by decide +kernel
theorem dX6_tryGive_40 : decode cX6_tryGive 40 = .ok (.if_icmp .eq 20, 3) := by decide +kernel
theorem dX6_tryGive_43 : decode cX6_tryGive 43 = .ok (.aload_n 0, 1) := by decide +kernel
theorem dX6_tryGive_44 : decode cX6_tryGive 44 = .ok (.getfield 23, 3) := by decide +kernel
theorem dX6_tryGive_47 : decode cX6_tryGive 47 = .ok (.iload_n 3, 1) := by decide +kernel
theorem dX6_tryGive_48 : decode cX6_tryGive 48 = .ok (.iload_n 2, 1) := by decide +kernel
theorem dX6_tryGive_49 : decode cX6_tryGive 49 = .ok (.aload_n 0, 1) := by decide +kernel
theorem dX6_tryGive_50 : decode cX6_tryGive 50 = .ok (.getfield 55, 3) := by decide +kernel
theorem dX6_tryGive_53 : decode cX6_tryGive 53 = .ok (.getfield 92, 3) := by decide +kernel
theorem dX6_tryGive_56 : decode cX6_tryGive 56 = .ok (.irem, 1) := by decide +kernel
theorem dX6_tryGive_57 : decode cX6_tryGive 57 = .ok (.invokevirtual 157, 3) := by decide +kernel
theorem dX6_tryGive_60 : decode cX6_tryGive 60 = .ok (.return_, 1) := by decide +kernel
theorem dX6_falling_0 : decode cX6_falling 0 = .ok (.lconst 1, 1) := by decide +kernel
theorem dX6_falling_1 : decode cX6_falling 1 = .ok (.lstore_n 2, 1) := by decide +kernel
theorem dX6_falling_2 : decode cX6_falling 2 = .ok (.iconst 0, 1) := by decide +kernel
theorem dX6_falling_3 : decode cX6_falling 3 = .ok (.istore 4, 2) := by decide +kernel
theorem dX6_falling_5 : decode cX6_falling 5 = .ok (.iload 4, 2) := by decide +kernel
theorem dX6_falling_7 : decode cX6_falling 7 = .ok (.iload_n 1, 1) := by decide +kernel
theorem dX6_falling_8 : decode cX6_falling 8 = .ok (.if_icmp .ge 17, 3) := by decide +kernel
theorem dX6_falling_11 : decode cX6_falling 11 = .ok (.lload_n 2, 1) := by decide +kernel
theorem dX6_falling_12 : decode cX6_falling 12 = .ok (.iload_n 0, 1) := by decide +kernel
theorem dX6_falling_13 : decode cX6_falling 13 = .ok (.iload 4, 2) := by decide +kernel
theorem dX6_falling_15 : decode cX6_falling 15 = .ok (.isub, 1) := by decide +kernel
theorem dX6_falling_16 : decode cX6_falling 16 = .ok (.i2l, 1) := by decide +kernel
theorem dX6_falling_17 : decode cX6_falling 17 = .ok (.lmul, 1) := by decide +kernel
theorem dX6_falling_18 : decode cX6_falling 18 = .ok (.lstore_n 2, 1) := by decide +kernel
theorem dX6_falling_19 : decode cX6_falling 19 = .ok (.iinc 4 1, 3) := by decide +kernel
theorem dX6_falling_22 : decode cX6_falling 22 = .ok (.goto (-17), 3) := by decide +kernel
theorem dX6_falling_25 : decode cX6_falling 25 = .ok (.lload_n 2, 1) := by decide +kernel
theorem dX6_falling_26 : decode cX6_falling 26 = .ok (.lreturn, 1) := by decide +kernel
theorem dX6_lowest_0 : decode cX6_lowest 0 = .ok (.lload_n 0, 1) := by decide +kernel
theorem dX6_lowest_1 : decode cX6_lowest 1 = .ok (.lload_n 2, 1) := by decide +kernel
theorem dX6_lowest_2 : decode cX6_lowest 2 = .ok (.invokestatic 276, 3) := by decide +kernel
theorem dX6_lowest_5 : decode cX6_lowest 5 = .ok (.lstore 5, 2) := by decide +kernel
theorem dX6_lowest_7 : decode cX6_lowest 7 = .ok (.lload 5, 2) := by decide +kernel
theorem dX6_lowest_9 : decode cX6_lowest 9 = .ok (.lconst 0, 1) := by decide +kernel
theorem dX6_lowest_10 : decode cX6_lowest 10 = .ok (.lcmp, 1) := by decide +kernel
theorem dX6_lowest_11 : decode cX6_lowest 11 = .ok (.ifCond .ne 5, 3) := by decide +kernel
theorem dX6_lowest_14 : decode cX6_lowest 14 = .ok (.lconst 0, 1) := by decide +kernel
theorem dX6_lowest_15 : decode cX6_lowest 15 = .ok (.lreturn, 1) := by decide +kernel
theorem dX6_lowest_16 : decode cX6_lowest 16 = .ok (.iload 4, 2) := by decide +kernel
theorem dX6_lowest_18 : decode cX6_lowest 18 = .ok (.ifCond .ne 7, 3) := by decide +kernel
theorem dX6_lowest_21 : decode cX6_lowest 21 = .ok (.lload_n 0, 1) := by decide +kernel
theorem dX6_lowest_22 : decode cX6_lowest 22 = .ok (.goto 4, 3) := by decide +kernel
theorem dX6_lowest_25 : decode cX6_lowest 25 = .ok (.lload_n 2, 1) := by decide +kernel
theorem dX6_lowest_26 : decode cX6_lowest 26 = .ok (.lload 5, 2) := by decide +kernel
theorem dX6_lowest_28 : decode cX6_lowest 28 = .ok (.ldiv, 1) := by decide +kernel
theorem dX6_lowest_29 : decode cX6_lowest 29 = .ok (.lreturn, 1) := by decide +kernel
theorem dX6_commonDivisor_0 : decode cX6_commonDivisor 0 = .ok (.lload_n 0, 1) := by decide +kernel
theorem dX6_commonDivisor_1 : decode cX6_commonDivisor 1 = .ok (.lstore 4, 2) := by decide +kernel
theorem dX6_commonDivisor_3 : decode cX6_commonDivisor 3 = .ok (.lload_n 2, 1) := by decide +kernel
theorem dX6_commonDivisor_4 : decode cX6_commonDivisor 4 = .ok (.lstore 6, 2) := by decide +kernel
theorem dX6_commonDivisor_6 : decode cX6_commonDivisor 6 = .ok (.iconst 0, 1) := by decide +kernel
theorem dX6_commonDivisor_7 : decode cX6_commonDivisor 7 = .ok (.istore 8, 2) := by decide +kernel
theorem dX6_commonDivisor_9 : decode cX6_commonDivisor 9 = .ok (.iload 8, 2) := by decide +kernel
theorem dX6_commonDivisor_11 : decode cX6_commonDivisor 11 = .ok (.bipush 100, 2) := by decide +kernel
theorem dX6_commonDivisor_13 : decode cX6_commonDivisor 13 = .ok (.if_icmp .ge 31, 3) := by decide +kernel
theorem dX6_commonDivisor_16 : decode cX6_commonDivisor 16 = .ok (.lload 6, 2) := by decide +kernel
theorem dX6_commonDivisor_18 : decode cX6_commonDivisor 18 = .ok (.lconst 0, 1) := by decide +kernel
theorem dX6_commonDivisor_19 : decode cX6_commonDivisor 19 = .ok (.lcmp, 1) := by decide +kernel
theorem dX6_commonDivisor_20 : decode cX6_commonDivisor 20 = .ok (.ifCond .eq 24, 3) := by decide +kernel
theorem dX6_commonDivisor_23 : decode cX6_commonDivisor 23 = .ok (.lload 4, 2) := by decide +kernel
theorem dX6_commonDivisor_25 : decode cX6_commonDivisor 25 = .ok (.lload 6, 2) := by decide +kernel
theorem dX6_commonDivisor_27 : decode cX6_commonDivisor 27 = .ok (.lrem, 1) := by decide +kernel
theorem dX6_commonDivisor_28 : decode cX6_commonDivisor 28 = .ok (.lstore 9, 2) := by decide +kernel
theorem dX6_commonDivisor_30 : decode cX6_commonDivisor 30 = .ok (.lload 6, 2) := by decide +kernel
theorem dX6_commonDivisor_32 : decode cX6_commonDivisor 32 = .ok (.lstore 4, 2) := by decide +kernel
theorem dX6_commonDivisor_34 : decode cX6_commonDivisor 34 = .ok (.lload 9, 2) := by decide +kernel
theorem dX6_commonDivisor_36 : decode cX6_commonDivisor 36 = .ok (.lstore 6, 2) := by decide +kernel
theorem dX6_commonDivisor_38 : decode cX6_commonDivisor 38 = .ok (.iinc 8 1, 3) := by decide +kernel
theorem dX6_commonDivisor_41 : decode cX6_commonDivisor 41 = .ok (.goto (-32), 3) := by decide +kernel
theorem dX6_commonDivisor_44 : decode cX6_commonDivisor 44 = .ok (.lload 4, 2) := by decide +kernel
theorem dX6_commonDivisor_46 : decode cX6_commonDivisor 46 = .ok (.lreturn, 1) := by decide +kernel
end
section
theorem dX7_init_0 : decode cX7_init 0 = .ok (.aload_n 0, 1) := by decide +kernel
theorem dX7_init_1 : decode cX7_init 1 = .ok (.invokespecial 1, 3) := by decide +kernel
theorem dX7_init_4 : decode cX7_init 4 = .ok (.aload_n 0, 1) := by decide +kernel
theorem dX7_init_5 : decode cX7_init 5 = .ok (.sipush 200, 3) := by decide +kernel
theorem dX7_init_8 : decode cX7_init 8 = .ok (.newarray .byte, 2) := by decide +kernel
theorem dX7_init_10 : decode cX7_init 10 = .ok (.putfield 7, 3) := by decide +kernel
theorem dX7_init_13 : decode cX7_init 13 = .ok (.aload_n 0, 1) := by decide +kernel
theorem dX7_init_14 : decode cX7_init 14 = .ok (.iconst 2, 1) := by decide +kernel
theorem dX7_init_15 : decode cX7_init 15 = .ok (.newarray .int, 2) := by decide +kernel
theorem dX7_init_17 : decode cX7_init 17 = .ok (.putfield 13, 3) := by decide +kernel
theorem dX7_init_20 : decode cX7_init 20 = .ok (.aload_n 0, 1) := by decide +kernel
theorem dX7_init_21 : decode cX7_init 21 = .ok (.iconst 2, 1) := by decide +kernel
theorem dX7_init_22 : decode cX7_init 22 = .ok (.newarray .int, 2) := by decide +kernel
theorem dX7_init_24 : decode cX7_init 24 = .ok (.putfield 17, 3) := by decide +kernel
theorem dX7_init_27 : decode cX7_init 27 = .ok (.aload_n 0, 1) := by decide +kernel
theorem dX7_init_28 : decode cX7_init 28 = .ok (.bipush 10, 2) := by decide +kernel
theorem dX7_init_30 : decode cX7_init 30 = .ok (.newarray .int, 2) := by decide +kernel
theorem dX7_init_32 : decode cX7_init 32 = .ok (.putfield 20, 3) := by decide +kernel
theorem dX7_init_35 : decode cX7_init 35 = .ok (.aload_n 0, 1) := by decide +kernel
theorem dX7_init_36 : decode cX7_init 36 = .ok (.bipush 12, 2) := by decide +kernel
theorem dX7_init_38 : decode cX7_init 38 = .ok (.newarray .int, 2) := by decide +kernel
theorem dX7_init_40 : decode cX7_init 40 = .ok (.putfield 23, 3) := by decide +kernel
theorem dX7_init_43 : decode cX7_init 43 = .ok (.aload_n 0, 1) := by decide +kernel
theorem dX7_init_44 : decode cX7_init 44 = .ok (.bipush 12, 2) := by decide +kernel
theorem dX7_init_46 : decode cX7_init 46 = .ok (.newarray .int, 2) := by decide +kernel
theorem dX7_init_48 : decode cX7_init 48 = .ok (.putfield 26, 3) := by decide +kernel
theorem dX7_init_51 : decode cX7_init 51 = .ok (.aload_n 0, 1) := by decide +kernel
theorem dX7_init_52 : decode cX7_init 52 = .ok (.bipush 60, 2) := by decide +kernel
theorem dX7_init_54 : decode cX7_init 54 = .ok (.newarray .int, 2) := by decide +kernel
theorem dX7_init_56 : decode cX7_init 56 = .ok (.putfield 29, 3) := by decide +kernel
theorem dX7_init_59 : decode cX7_init 59 = .ok (.aload_n 0, 1) := by decide +kernel
theorem dX7_init_60 : decode cX7_init 60 = .ok (.bipush 14, 2) := by decide +kernel
theorem dX7_init_62 : decode cX7_init 62 = .ok (.newarray .int, 2) := by decide +kernel
theorem dX7_init_64 : decode cX7_init 64 = .ok (.putfield 32, 3) := by decide +kernel
theorem dX7_init_67 : decode cX7_init 67 = .ok (.aload_n 0, 1) := by decide +kernel
theorem dX7_init_68 : decode cX7_init 68 = .ok (.bipush 112, 2) := by decide +kernel
theorem dX7_init_70 : decode cX7_init 70 = .ok (.newarray .int, 2) := by decide +kernel
theorem dX7_init_72 : decode cX7_init 72 = .ok (.putfield 35, 3) := by decide +kernel
theorem dX7_init_75 : decode cX7_init 75 = .ok (.aload_n 0, 1) := by decide +kernel
theorem dX7_init_76 : decode cX7_init 76 = .ok (.bipush 28, 2) := by decide +kernel
theorem dX7_init_78 : decode cX7_init 78 = .ok (.newarray .int, 2) := by decide +kernel
theorem dX7_init_80 : decode cX7_init 80 = .ok (.putfield 38, 3) := by decide +kernel
theorem dX7_init_83 : decode cX7_init 83 = .ok (.aload_n 0, 1) := by decide +kernel
theorem dX7_init_84 : decode cX7_init 84 = .ok (.bipush 14, 2) := by decide +kernel
theorem dX7_init_86 : decode cX7_init 86 = .ok (.newarray .int, 2) := by decide +kernel
theorem dX7_init_88 : decode cX7_init 88 = .ok (.putfield 41, 3) := by decide +kernel
theorem dX7_init_91 : decode cX7_init 91 = .ok (.aload_n 0, 1) := by decide +kernel
theorem dX7_init_92 : decode cX7_init 92 = .ok (.bipush 8, 2) := by decide +kernel
theorem dX7_init_94 : decode cX7_init 94 = .ok (.newarray .int, 2) := by decide +kernel
theorem dX7_init_96 : decode cX7_init 96 = .ok (.putfield 44, 3) := by decide +kernel
theorem dX7_init_99 : decode cX7_init 99 = .ok (.aload_n 0, 1) := by decide +kernel
theorem dX7_init_100 : decode cX7_init 100 = .ok (.iconst 5, 1) := by decide +kernel
theorem dX7_init_101 : decode cX7_init 101 = .ok (.newarray .long, 2) := by decide +kernel
theorem dX7_init_103 : decode cX7_init 103 = .ok (.putfield 47, 3) := by decide +kernel
theorem dX7_init_106 : decode cX7_init 106 = .ok (.aload_n 0, 1) := by decide +kernel
theorem dX7_init_107 : decode cX7_init 107 = .ok (.iconst 5, 1) := by decide +kernel
theorem dX7_init_108 : decode cX7_init 108 = .ok (.newarray .long, 2) := by decide +kernel
theorem dX7_init_110 : decode cX7_init 110 = .ok (.putfield 51, 3) := by decide +kernel
theorem dX7_init_113 : decode cX7_init 113 = .ok (.aload_n 0, 1) := by decide +kernel
theorem dX7_init_114 : decode cX7_init 114 = .ok (.invokevirtual 54, 3) := by decide +kernel
theorem dX7_init_117 : decode cX7_init 117 = .ok (.aload_n 0, 1) := by decide +kernel
theorem dX7_init_118 : decode cX7_init 118 = .ok (.invokevirtual 57, 3) := by decide +kernel
theorem dX7_init_121 : decode cX7_init 121 = .ok (.return_, 1) := by decide +kernel
theorem dX7_in_0 : decode cX7_in 0 = .ok (.iload_n 0, 1) := by decide +kernel
theorem dX7_in_1 : decode cX7_in 1 = .ok (.iload_n 1, 1) := by decide +kernel
theorem dX7_in_2 : decode cX7_in 2 = .ok (.if_icmp .lt 12, 3) := by decide +kernel
theorem dX7_in_5 : decode cX7_in 5 = .ok (.iload_n 0, 1) := by decide +kernel
theorem dX7_in_6 : decode cX7_in 6 = .ok (.iload_n 2, 1) := by decide +kernel
theorem dX7_in_7 : decode cX7_in 7 = .ok (.if_icmp .gt 7, 3) := by decide +kernel
theorem dX7_in_10 : decode cX7_in 10 = .ok (.iconst 1, 1) := by decide +kernel
theorem dX7_in_11 : decode cX7_in 11 = .ok (.goto 4, 3) := by decide +kernel
theorem dX7_in_14 : decode cX7_in 14 = .ok (.iconst 0, 1) := by decide +kernel
theorem dX7_in_15 : decode cX7_in 15 = .ok (.ireturn, 1) := by decide +kernel
theorem dX7_has_0 : decode cX7_has 0 = .ok (.iload_n 0, 1) := by decide +kernel
theorem dX7_has_1 : decode cX7_has 1 = .ok (.iload_n 1, 1) := by decide +kernel
theorem dX7_has_2 : decode cX7_has 2 = .ok (.ishr, 1) := by decide +kernel
theorem dX7_has_3 : decode cX7_has 3 = .ok (.iconst 1, 1) := by decide +kernel
theorem dX7_has_4 : decode cX7_has 4 = .ok (.iand, 1) := by decide +kernel
theorem dX7_has_5 : decode cX7_has 5 = .ok (.iconst 1, 1) := by decide +kernel
theorem dX7_has_6 : decode cX7_has 6 = .ok (.if_icmp .ne 7, 3) := by decide +kernel
theorem dX7_has_9 : decode cX7_has 9 = .ok (.iconst 1, 1) := by decide +kernel
theorem dX7_has_10 : decode cX7_has 10 = .ok (.goto 4, 3) := by decide +kernel
theorem dX7_has_13 : decode cX7_has 13 = .ok (.iconst 0, 1) := by decide +kernel
theorem dX7_has_14 : decode cX7_has 14 = .ok (.ireturn, 1) := by decide +kernel
theorem dX7_bitsOf_0 : decode cX7_bitsOf 0 = .ok (.iconst 0, 1) := by decide +kernel
theorem dX7_bitsOf_1 : decode cX7_bitsOf 1 = .ok (.istore_n 1, 1) := by decide +kernel
theorem dX7_bitsOf_2 : decode cX7_bitsOf 2 = .ok (.iconst 0, 1) := by decide +kernel
theorem dX7_bitsOf_3 : decode cX7_bitsOf 3 = .ok (.istore_n 2, 1) := by decide +kernel
theorem dX7_bitsOf_4 : decode cX7_bitsOf 4 = .ok (.iload_n 2, 1) := by decide +kernel
theorem dX7_bitsOf_5 : decode cX7_bitsOf 5 = .ok (.bipush 8, 2) := by decide +kernel
theorem dX7_bitsOf_7 : decode cX7_bitsOf 7 = .ok (.if_icmp .ge 17, 3) := by decide +kernel
theorem dX7_bitsOf_10 : decode cX7_bitsOf 10 = .ok (.iload_n 1, 1) := by decide +kernel
theorem dX7_bitsOf_11 : decode cX7_bitsOf 11 = .ok (.iload_n 0, 1) := by decide +kernel
theorem dX7_bitsOf_12 : decode cX7_bitsOf 12 = .ok (.iload_n 2, 1) := by decide +kernel
theorem dX7_bitsOf_13 : decode cX7_bitsOf 13 = .ok (.ishr, 1) := by decide +kernel
theorem dX7_bitsOf_14 : decode cX7_bitsOf 14 = .ok (.iconst 1, 1) := by decide +kernel
theorem dX7_bitsOf_15 : decode cX7_bitsOf 15 = .ok (.iand, 1) := by decide +kernel
theorem dX7_bitsOf_16 : decode cX7_bitsOf 16 = .ok (.iadd, 1) := by decide +kernel
theorem dX7_bitsOf_17 : decode cX7_bitsOf 17 = .ok (.istore_n 1, 1) := by decide +kernel
theorem dX7_bitsOf_18 : decode cX7_bitsOf 18 = .ok (.iinc 2 1, 3) := by decide +kernel
theorem dX7_bitsOf_21 : decode cX7_bitsOf 21 = .ok (.goto (-17), 3) := by decide +kernel
theorem dX7_bitsOf_24 : decode cX7_bitsOf 24 = .ok (.iload_n 1, 1) := by decide +kernel
theorem dX7_bitsOf_25 : decode cX7_bitsOf 25 = .ok (.ireturn, 1) := by decide +kernel
theorem dX7_write_0 : decode cX7_write 0 = .ok (.iload_n 1, 1) := by decide +kernel
theorem dX7_write_1 : decode cX7_write 1 = .ok (.bipush 32, 2) := by decide +kernel
theorem dX7_write_3 : decode cX7_write 3 = .ok (.bipush 126, 2) := by decide +kernel
theorem dX7_write_5 : decode cX7_write 5 = .ok (.invokestatic 60, 3) := by decide +kernel
theorem dX7_write_8 : decode cX7_write 8 = .ok (.ifCond .ne 5, 3) := by decide +kernel
theorem dX7_write_11 : decode cX7_write 11 = .ok (.iconst (-1), 1) := by decide +kernel
theorem dX7_write_12 : decode cX7_write 12 = .ok (.ireturn, 1) := by decide +kernel
theorem dX7_write_13 : decode cX7_write 13 = .ok (.aload_n 0, 1) := by decide +kernel
theorem dX7_write_14 : decode cX7_write 14 = .ok (.getfield 64, 3) := by decide +kernel
theorem dX7_write_17 : decode cX7_write 17 = .ok (.sipush 200, 3) := by decide +kernel
theorem dX7_write_20 : decode cX7_write 20 = .ok (.if_icmp .ne 6, 3) := by decide +kernel
theorem dX7_write_23 : decode cX7_write 23 = .ok (.bipush (-3), 2) := by decide +kernel
theorem dX7_write_25 : decode cX7_write 25 = .ok (.ireturn, 1) := by decide +kernel
theorem dX7_write_26 : decode cX7_write 26 = .ok (.aload_n 0, 1) := by decide +kernel
theorem dX7_write_27 : decode cX7_write 27 = .ok (.getfield 7, 3) := by decide +kernel
theorem dX7_write_30 : decode cX7_write 30 = .ok (.aload_n 0, 1) := by decide +kernel
theorem dX7_write_31 : decode cX7_write 31 = .ok (.getfield 64, 3) := by decide +kernel
theorem dX7_write_34 : decode cX7_write 34 = .ok (.iload_n 1, 1) := by decide +kernel
theorem dX7_write_35 : decode cX7_write 35 = .ok (.i2b, 1) := by decide +kernel
theorem dX7_write_36 : decode cX7_write 36 = .ok (.bastore, 1) := by decide +kernel
theorem dX7_write_37 : decode cX7_write 37 = .ok (.aload_n 0, 1) := by decide +kernel
theorem dX7_write_38 : decode cX7_write 38 = .ok (.dup, 1) := by decide +kernel
theorem dX7_write_39 : decode cX7_write 39 = .ok (.getfield 64, 3) := by decide +kernel
theorem dX7_write_42 : decode cX7_write 42 = .ok (.iconst 1, 1) := by decide +kernel
theorem dX7_write_43 : decode cX7_write 43 = .ok (.iadd, 1) := by decide +kernel
theorem dX7_write_44 : decode cX7_write 44 = .ok (.putfield 64, 3) := by decide +kernel
theorem dX7_write_47 : decode cX7_write 47 = .ok (.aload_n 0, 1) := by decide +kernel
theorem dX7_write_48 : decode cX7_write 48 = .ok (.getfield 64, 3) := by decide +kernel
theorem dX7_write_51 : decode cX7_write 51 = .ok (.ireturn, 1) := by decide +kernel
theorem dX7_wipe_0 : decode cX7_wipe 0 = .ok (.aload_n 0, 1) := by decide +kernel
theorem dX7_wipe_1 : decode cX7_wipe 1 = .ok (.getfield 64, 3) := by decide +kernel
theorem dX7_wipe_4 : decode cX7_wipe 4 = .ok (.istore_n 1, 1) := by decide +kernel
theorem dX7_wipe_5 : decode cX7_wipe 5 = .ok (.aload_n 0, 1) := by decide +kernel
theorem dX7_wipe_6 : decode cX7_wipe 6 = .ok (.iconst 0, 1) := by decide +kernel
theorem dX7_wipe_7 : decode cX7_wipe 7 = .ok (.putfield 64, 3) := by decide +kernel
theorem dX7_wipe_10 : decode cX7_wipe 10 = .ok (.iload_n 1, 1) := by decide +kernel
theorem dX7_wipe_11 : decode cX7_wipe 11 = .ok (.ireturn, 1) := by decide +kernel
theorem dX7_here_0 : decode cX7_here 0 = .ok (.aload_n 0, 1) := by decide +kernel
theorem dX7_here_1 : decode cX7_here 1 = .ok (.getfield 68, 3) := by decide +kernel
theorem dX7_here_4 : decode cX7_here 4 = .ok (.aload_n 0, 1) := by decide +kernel
theorem dX7_here_5 : decode cX7_here 5 = .ok (.getfield 64, 3) := by decide +kernel
theorem dX7_here_8 : decode cX7_here 8 = .ok (.if_icmp .ge 15, 3) := by decide +kernel
theorem dX7_here_11 : decode cX7_here 11 = .ok (.aload_n 0, 1) := by decide +kernel
theorem dX7_here_12 : decode cX7_here 12 = .ok (.getfield 7, 3) := by decide +kernel
theorem dX7_here_15 : decode cX7_here 15 = .ok (.aload_n 0, 1) := by decide +kernel
theorem dX7_here_16 : decode cX7_here 16 = .ok (.getfield 68, 3) := by decide +kernel
theorem dX7_here_19 : decode cX7_here 19 = .ok (.baload, 1) := by decide +kernel
theorem dX7_here_20 : decode cX7_here 20 = .ok (.goto 5, 3) := by decide +kernel
theorem dX7_here_23 : decode cX7_here 23 = .ok (.bipush (-4), 2) := by decide +kernel
theorem dX7_here_25 : decode cX7_here 25 = .ok (.ireturn, 1) := by decide +kernel
theorem dX7_isFigure_0 : decode cX7_isFigure 0 = .ok (.aload_n 0, 1) := by decide +kernel
theorem dX7_isFigure_1 : decode cX7_isFigure 1 = .ok (.invokevirtual 71, 3) := by decide +kernel
theorem dX7_isFigure_4 : decode cX7_isFigure 4 = .ok (.bipush 48, 2) := by decide +kernel
theorem dX7_isFigure_6 : decode cX7_isFigure 6 = .ok (.bipush 57, 2) := by decide +kernel
theorem dX7_isFigure_8 : decode cX7_isFigure 8 = .ok (.invokestatic 60, 3) := by decide +kernel
theorem dX7_isFigure_11 : decode cX7_isFigure 11 = .ok (.ireturn, 1) := by decide +kernel
theorem dX7_due_0 : decode cX7_due 0 = .ok (.aload_n 0, 1) := by decide +kernel
theorem dX7_due_1 : decode cX7_due 1 = .ok (.aload_n 0, 1) := by decide +kernel
theorem dX7_due_2 : decode cX7_due 2 = .ok (.getfield 75, 3) := by decide +kernel
theorem dX7_due_5 : decode cX7_due 5 = .ok (.ifCond .ne 11, 3) := by decide +kernel
theorem dX7_due_8 : decode cX7_due 8 = .ok (.aload_n 0, 1) := by decide +kernel
theorem dX7_due_9 : decode cX7_due 9 = .ok (.invokevirtual 71, 3) := by decide +kernel
theorem dX7_due_12 : decode cX7_due 12 = .ok (.iload_n 1, 1) := by decide +kernel
theorem dX7_due_13 : decode cX7_due 13 = .ok (.if_icmp .eq 7, 3) := by decide +kernel
theorem dX7_due_16 : decode cX7_due 16 = .ok (.iconst 1, 1) := by decide +kernel
theorem dX7_due_17 : decode cX7_due 17 = .ok (.goto 4, 3) := by decide +kernel
theorem dX7_due_20 : decode cX7_due 20 = .ok (.iconst 0, 1) := by decide +kernel
theorem dX7_due_21 : decode cX7_due 21 = .ok (.putfield 75, 3) := by decide +kernel
theorem dX7_due_24 : decode cX7_due 24 = .ok (.aload_n 0, 1) := by decide +kernel
theorem dX7_due_25 : decode cX7_due 25 = .ok (.dup, 1) := by decide +kernel
theorem dX7_due_26 : decode cX7_due 26 = .ok (.getfield 68, 3) := by decide +kernel
theorem dX7_due_29 : decode cX7_due 29 = .ok (.iconst 1, 1) := by decide +kernel
theorem dX7_due_30 : decode cX7_due 30 = .ok (.iadd, 1) := by decide +kernel
theorem dX7_due_31 : decode cX7_due 31 = .ok (.putfield 68, 3) := by decide +kernel
theorem dX7_due_34 : decode cX7_due 34 = .ok (.return_, 1) := by decide +kernel
theorem dX7_number_0 : decode cX7_number 0 = .ok (.bipush (-4), 2) := by decide +kernel
theorem dX7_number_2 : decode cX7_number 2 = .ok (.istore_n 3, 1) := by decide +kernel
theorem dX7_number_3 : decode cX7_number 3 = .ok (.iconst 0, 1) := by decide +kernel
theorem dX7_number_4 : decode cX7_number 4 = .ok (.istore 4, 2) := by decide +kernel
theorem dX7_number_6 : decode cX7_number 6 = .ok (.iload 4, 2) := by decide +kernel
theorem dX7_number_8 : decode cX7_number 8 = .ok (.iconst 2, 1) := by decide +kernel
theorem dX7_number_9 : decode cX7_number 9 = .ok (.if_icmp .ge 49, 3) := by decide +kernel
theorem dX7_number_12 : decode cX7_number 12 = .ok (.aload_n 0, 1) := by decide +kernel
theorem dX7_number_13 : decode cX7_number 13 = .ok (.invokevirtual 79, 3) := by decide +kernel
theorem dX7_number_16 : decode cX7_number 16 = .ok (.ifCond .eq 42, 3) := by decide +kernel
theorem dX7_number_19 : decode cX7_number 19 = .ok (.iload_n 3, 1) := by decide +kernel
theorem dX7_number_20 : decode cX7_number 20 = .ok (.bipush (-4), 2) := by decide +kernel
theorem dX7_number_22 : decode cX7_number 22 = .ok (.if_icmp .ne 7, 3) := by decide +kernel
theorem dX7_number_25 : decode cX7_number 25 = .ok (.iconst 0, 1) := by decide +kernel
theorem dX7_number_26 : decode cX7_number 26 = .ok (.goto 7, 3) := by decide +kernel
theorem dX7_number_29 : decode cX7_number 29 = .ok (.bipush 10, 2) := by decide +kernel
theorem dX7_number_31 : decode cX7_number 31 = .ok (.iload_n 3, 1) := by decide +kernel
theorem dX7_number_32 : decode cX7_number 32 = .ok (.imul, 1) := by decide +kernel
theorem dX7_number_33 : decode cX7_number 33 = .ok (.aload_n 0, 1) := by decide +kernel
theorem dX7_number_34 : decode cX7_number 34 = .ok (.invokevirtual 71, 3) := by decide +kernel
theorem dX7_number_37 : decode cX7_number 37 = .ok (.iadd, 1) := by decide +kernel
theorem dX7_number_38 : decode cX7_number 38 = .ok (.bipush 48, 2) := by decide +kernel
theorem dX7_number_40 : decode cX7_number 40 = .ok (.isub, 1) := by decide +kernel
theorem dX7_number_41 : decode cX7_number 41 = .ok (.istore_n 3, 1) := by decide +kernel
theorem dX7_number_42 : decode cX7_number 42 = .ok (.aload_n 0, 1) := by decide +kernel
theorem dX7_number_43 : decode cX7_number 43 = .ok (.dup, 1) := by decide +kernel
theorem dX7_number_44 : decode cX7_number 44 = .ok (.getfield 68, 3) := by decide +kernel
theorem dX7_number_47 : decode cX7_number 47 = .ok (.iconst 1, 1) := by decide +kernel
theorem dX7_number_48 : decode cX7_number 48 = .ok (.iadd, 1) := by decide +kernel
theorem dX7_number_49 : decode cX7_number 49 = .ok (.putfield 68, 3) := by decide +kernel
theorem dX7_number_52 : decode cX7_number 52 = .ok (.iinc 4 1, 3) := by decide +kernel
theorem dX7_number_55 : decode cX7_number 55 = .ok (.goto (-49), 3) := by decide +kernel
theorem dX7_number_58 : decode cX7_number 58 = .ok (.iload_n 3, 1) := by decide +kernel
theorem dX7_number_59 : decode cX7_number 59 = .ok (.iload_n 1, 1) := by decide +kernel
theorem dX7_number_60 : decode cX7_number 60 = .ok (.iload_n 2, 1) := by decide +kernel
theorem dX7_number_61 : decode cX7_number 61 = .ok (.invokestatic 60, 3) := by decide +kernel
theorem dX7_number_64 : decode cX7_number 64 = .ok (.istore 4, 2) := by decide +kernel
theorem dX7_number_66 : decode cX7_number 66 = .ok (.aload_n 0, 1) := by decide +kernel
theorem dX7_number_67 : decode cX7_number 67 = .ok (.aload_n 0, 1) := by decide +kernel
theorem dX7_number_68 : decode cX7_number 68 = .ok (.getfield 75, 3) := by decide +kernel
theorem dX7_number_71 : decode cX7_number 71 = .ok (.ifCond .ne 8, 3) := by decide +kernel
theorem dX7_number_74 : decode cX7_number 74 = .ok (.iload 4, 2) := by decide +kernel
theorem dX7_number_76 : decode cX7_number 76 = .ok (.ifCond .ne 7, 3) := by decide +kernel
theorem dX7_number_79 : decode cX7_number 79 = .ok (.iconst 1, 1) := by decide +kernel
theorem dX7_number_80 : decode cX7_number 80 = .ok (.goto 4, 3) := by decide +kernel
theorem dX7_number_83 : decode cX7_number 83 = .ok (.iconst 0, 1) := by decide +kernel
theorem dX7_number_84 : decode cX7_number 84 = .ok (.putfield 75, 3) := by decide +kernel
theorem dX7_number_87 : decode cX7_number 87 = .ok (.iload 4, 2) := by decide +kernel
theorem dX7_number_89 : decode cX7_number 89 = .ok (.ifCond .eq 7, 3) := by decide +kernel
theorem dX7_number_92 : decode cX7_number 92 = .ok (.iload_n 3, 1) := by decide +kernel
theorem dX7_number_93 : decode cX7_number 93 = .ok (.goto 4, 3) := by decide +kernel
theorem dX7_number_96 : decode cX7_number 96 = .ok (.iconst 0, 1) := by decide +kernel
theorem dX7_number_97 : decode cX7_number 97 = .ok (.ireturn, 1) := by decide +kernel
theorem dX7_readPerson_0 : decode cX7_readPerson 0 = .ok (.aload_n 0, 1) := by decide +kernel
theorem dX7_readPerson_1 : decode cX7_readPerson 1 = .ok (.getfield 13, 3) := by decide +kernel
theorem dX7_readPerson_4 : decode cX7_readPerson 4 = .ok (.iconst 1, 1) := by decide +kernel
theorem dX7_readPerson_5 : decode cX7_readPerson 5 = .ok (.iaload, 1) := by decide +kernel
theorem dX7_readPerson_6 : decode cX7_readPerson 6 = .ok (.iconst 5, 1) := by decide +kernel
theorem dX7_readPerson_7 : decode cX7_readPerson 7 = .ok (.if_icmp .ne 9, 3) := by decide +kernel
theorem dX7_readPerson_10 : decode cX7_readPerson 10 = .ok (.aload_n 0, 1) := by decide +kernel
theorem dX7_readPerson_11 : decode cX7_readPerson 11 = .ok (.iconst 1, 1) := by decide +kernel
theorem dX7_readPerson_12 : decode cX7_readPerson 12 = .ok (.putfield 75, 3) := by decide +kernel
theorem dX7_readPerson_15 : decode cX7_readPerson 15 = .ok (.return_, 1) := by decide +kernel
theorem dX7_readPerson_16 : decode cX7_readPerson 16 = .ok (.aload_n 0, 1) := by decide +kernel
theorem dX7_readPerson_17 : decode cX7_readPerson 17 = .ok (.getfield 20, 3) := by decide +kernel
theorem dX7_readPerson_20 : decode cX7_readPerson 20 = .ok (.iconst 5, 1) := by decide +kernel
theorem dX7_readPerson_21 : decode cX7_readPerson 21 = .ok (.aload_n 0, 1) := by decide +kernel
theorem dX7_readPerson_22 : decode cX7_readPerson 22 = .ok (.getfield 13, 3) := by decide +kernel
theorem dX7_readPerson_25 : decode cX7_readPerson 25 = .ok (.iconst 1, 1) := by decide +kernel
theorem dX7_readPerson_26 : decode cX7_readPerson 26 = .ok (.iaload, 1) := by decide +kernel
theorem dX7_readPerson_27 : decode cX7_readPerson 27 = .ok (.iadd, 1) := by decide +kernel
theorem dX7_readPerson_28 : decode cX7_readPerson 28 = .ok (.aload_n 0, 1) := by decide +kernel
theorem dX7_readPerson_29 : decode cX7_readPerson 29 = .ok (.iconst 0, 1) := by decide +kernel
theorem dX7_readPerson_30 : decode cX7_readPerson 30 = .ok (.bipush 9, 2) := by decide +kernel
theorem dX7_readPerson_32 : decode cX7_readPerson 32 = .ok (.invokevirtual 83, 3) := by decide +kernel
theorem dX7_readPerson_35 : decode cX7_readPerson 35 = .ok (.iastore, 1) := by decide +kernel
theorem dX7_readPerson_36 : decode cX7_readPerson 36 = .ok (.aload_n 0, 1) := by decide +kernel
theorem dX7_readPerson_37 : decode cX7_readPerson 37 = .ok (.getfield 13, 3) := by decide +kernel
theorem dX7_readPerson_40 : decode cX7_readPerson 40 = .ok (.iconst 1, 1) := by decide +kernel
theorem dX7_readPerson_41 : decode cX7_readPerson 41 = .ok (.dup2, 1) := by decide +kernel
theorem dX7_readPerson_42 : decode cX7_readPerson 42 = .ok (.iaload, 1) := by decide +kernel
theorem dX7_readPerson_43 : decode cX7_readPerson 43 = .ok (.iconst 1, 1) := by decide +kernel
theorem dX7_readPerson_44 : decode cX7_readPerson 44 = .ok (.iadd, 1) := by decide +kernel
theorem dX7_readPerson_45 : decode cX7_readPerson 45 = .ok (.iastore, 1) := by decide +kernel
theorem dX7_readPerson_46 : decode cX7_readPerson 46 = .ok (.return_, 1) := by decide +kernel
theorem dX7_readThing_0 : decode cX7_readThing 0 = .ok (.aload_n 0, 1) := by decide +kernel
theorem dX7_readThing_1 : decode cX7_readThing 1 = .ok (.getfield 17, 3) := by decide +kernel
theorem dX7_readThing_4 : decode cX7_readThing 4 = .ok (.iconst 1, 1) := by decide +kernel
theorem dX7_readThing_5 : decode cX7_readThing 5 = .ok (.iaload, 1) := by decide +kernel
theorem dX7_readThing_6 : decode cX7_readThing 6 = .ok (.bipush 6, 2) := by decide +kernel
theorem dX7_readThing_8 : decode cX7_readThing 8 = .ok (.if_icmp .ne 9, 3) := by decide +kernel
theorem dX7_readThing_11 : decode cX7_readThing 11 = .ok (.aload_n 0, 1) := by decide +kernel
theorem dX7_readThing_12 : decode cX7_readThing 12 = .ok (.iconst 1, 1) := by decide +kernel
theorem dX7_readThing_13 : decode cX7_readThing 13 = .ok (.putfield 75, 3) := by decide +kernel
theorem dX7_readThing_16 : decode cX7_readThing 16 = .ok (.return_, 1) := by decide +kernel
theorem dX7_readThing_17 : decode cX7_readThing 17 = .ok (.aload_n 0, 1) := by decide +kernel
theorem dX7_readThing_18 : decode cX7_readThing 18 = .ok (.getfield 23, 3) := by decide +kernel
theorem dX7_readThing_21 : decode cX7_readThing 21 = .ok (.bipush 6, 2) := by decide +kernel
theorem dX7_readThing_23 : decode cX7_readThing 23 = .ok (.aload_n 0, 1) := by decide +kernel
theorem dX7_readThing_24 : decode cX7_readThing 24 = .ok (.getfield 17, 3) := by decide +kernel
theorem dX7_readThing_27 : decode cX7_readThing 27 = .ok (.iconst 1, 1) := by decide +kernel
theorem dX7_readThing_28 : decode cX7_readThing 28 = .ok (.iaload, 1) := by decide +kernel
theorem dX7_readThing_29 : decode cX7_readThing 29 = .ok (.iadd, 1) := by decide +kernel
theorem dX7_readThing_30 : decode cX7_readThing 30 = .ok (.aload_n 0, 1) := by decide +kernel
theorem dX7_readThing_31 : decode cX7_readThing 31 = .ok (.iconst 0, 1) := by decide +kernel
theorem dX7_readThing_32 : decode cX7_readThing 32 = .ok (.iconst 3, 1) := by decide +kernel
theorem dX7_readThing_33 : decode cX7_readThing 33 = .ok (.invokevirtual 83, 3) := by decide +kernel
theorem dX7_readThing_36 : decode cX7_readThing 36 = .ok (.iastore, 1) := by decide +kernel
theorem dX7_readThing_37 : decode cX7_readThing 37 = .ok (.aload_n 0, 1) := by decide +kernel
theorem dX7_readThing_38 : decode cX7_readThing 38 = .ok (.bipush 44, 2) := by decide +kernel
theorem dX7_readThing_40 : decode cX7_readThing 40 = .ok (.invokevirtual 87, 3) := by decide +kernel
theorem dX7_readThing_43 : decode cX7_readThing 43 = .ok (.aload_n 0, 1) := by decide +kernel
theorem dX7_readThing_44 : decode cX7_readThing 44 = .ok (.getfield 26, 3) := by decide +kernel
theorem dX7_readThing_47 : decode cX7_readThing 47 = .ok (.bipush 6, 2) := by decide +kernel
theorem dX7_readThing_49 : decode cX7_readThing 49 = .ok (.aload_n 0, 1) := by decide +kernel
theorem dX7_readThing_50 : decode cX7_readThing 50 = .ok (.getfield 17, 3) := by decide +kernel
theorem dX7_readThing_53 : decode cX7_readThing 53 = .ok (.iconst 1, 1) := by decide +kernel
theorem dX7_readThing_54 : decode cX7_readThing 54 = .ok (.iaload, 1) := by decide +kernel
theorem dX7_readThing_55 : decode cX7_readThing 55 = .ok (.iadd, 1) := by decide +kernel
theorem dX7_readThing_56 : decode cX7_readThing 56 = .ok (.aload_n 0, 1) := by decide +kernel
theorem dX7_readThing_57 : decode cX7_readThing 57 = .ok (.iconst 0, 1) := by decide +kernel
theorem dX7_readThing_58 : decode cX7_readThing 58 = .ok (.bipush 30, 2) := by decide +kernel
theorem dX7_readThing_60 : decode cX7_readThing 60 = .ok (.invokevirtual 83, 3) := by decide +kernel
theorem dX7_readThing_63 : decode cX7_readThing 63 = .ok (.iastore, 1) := by decide +kernel
theorem dX7_readThing_64 : decode cX7_readThing 64 = .ok (.aload_n 0, 1) := by decide +kernel
theorem dX7_readThing_65 : decode cX7_readThing 65 = .ok (.getfield 17, 3) := by decide +kernel
theorem dX7_readThing_68 : decode cX7_readThing 68 = .ok (.iconst 1, 1) := by decide +kernel
theorem dX7_readThing_69 : decode cX7_readThing 69 = .ok (.dup2, 1) := by decide +kernel
theorem dX7_readThing_70 : decode cX7_readThing 70 = .ok (.iaload, 1) := by decide +kernel
theorem dX7_readThing_71 : decode cX7_readThing 71 = .ok (.iconst 1, 1) := by decide +kernel
theorem dX7_readThing_72 : decode cX7_readThing 72 = .ok (.iadd, 1) := by decide +kernel
theorem dX7_readThing_73 : decode cX7_readThing 73 = .ok (.iastore, 1) := by decide +kernel
theorem dX7_readThing_74 : decode cX7_readThing 74 = .ok (.return_, 1) := by decide +kernel
theorem dX7_readLike_0 : decode cX7_readLike 0 = .ok (.aload_n 0, 1) := by decide +kernel
theorem dX7_readLike_1 : decode cX7_readLike 1 = .ok (.iconst 0, 1) := by decide +kernel
theorem dX7_readLike_2 : decode cX7_readLike 2 = .ok (.aload_n 0, 1) := by decide +kernel
theorem dX7_readLike_3 : decode cX7_readLike 3 = .ok (.getfield 13, 3) := by decide +kernel
theorem dX7_readLike_6 : decode cX7_readLike 6 = .ok (.iconst 1, 1) := by decide +kernel
theorem dX7_readLike_7 : decode cX7_readLike 7 = .ok (.iaload, 1) := by decide +kernel
theorem dX7_readLike_8 : decode cX7_readLike 8 = .ok (.iconst 1, 1) := by decide +kernel
theorem dX7_readLike_9 : decode cX7_readLike 9 = .ok (.isub, 1) := by decide +kernel
theorem dX7_readLike_10 : decode cX7_readLike 10 = .ok (.invokevirtual 83, 3) := by decide +kernel
theorem dX7_readLike_13 : decode cX7_readLike 13 = .ok (.istore_n 1, 1) := by decide +kernel
theorem dX7_readLike_14 : decode cX7_readLike 14 = .ok (.aload_n 0, 1) := by decide +kernel
theorem dX7_readLike_15 : decode cX7_readLike 15 = .ok (.bipush 44, 2) := by decide +kernel
theorem dX7_readLike_17 : decode cX7_readLike 17 = .ok (.invokevirtual 87, 3) := by decide +kernel
theorem dX7_readLike_20 : decode cX7_readLike 20 = .ok (.aload_n 0, 1) := by decide +kernel
theorem dX7_readLike_21 : decode cX7_readLike 21 = .ok (.iconst 0, 1) := by decide +kernel
theorem dX7_readLike_22 : decode cX7_readLike 22 = .ok (.aload_n 0, 1) := by decide +kernel
theorem dX7_readLike_23 : decode cX7_readLike 23 = .ok (.getfield 17, 3) := by decide +kernel
theorem dX7_readLike_26 : decode cX7_readLike 26 = .ok (.iconst 1, 1) := by decide +kernel
theorem dX7_readLike_27 : decode cX7_readLike 27 = .ok (.iaload, 1) := by decide +kernel
theorem dX7_readLike_28 : decode cX7_readLike 28 = .ok (.iconst 1, 1) := by decide +kernel
theorem dX7_readLike_29 : decode cX7_readLike 29 = .ok (.isub, 1) := by decide +kernel
theorem dX7_readLike_30 : decode cX7_readLike 30 = .ok (.invokevirtual 83, 3) := by decide +kernel
theorem dX7_readLike_33 : decode cX7_readLike 33 = .ok (.istore_n 2, 1) := by decide +kernel
theorem dX7_readLike_34 : decode cX7_readLike 34 = .ok (.aload_n 0, 1) := by decide +kernel
theorem dX7_readLike_35 : decode cX7_readLike 35 = .ok (.bipush 44, 2) := by decide +kernel
theorem dX7_readLike_37 : decode cX7_readLike 37 = .ok (.invokevirtual 87, 3) := by decide +kernel
theorem dX7_readLike_40 : decode cX7_readLike 40 = .ok (.aload_n 0, 1) := by decide +kernel
theorem dX7_readLike_41 : decode cX7_readLike 41 = .ok (.iconst 0, 1) := by decide +kernel
theorem dX7_readLike_42 : decode cX7_readLike 42 = .ok (.bipush 30, 2) := by decide +kernel
theorem dX7_readLike_44 : decode cX7_readLike 44 = .ok (.invokevirtual 83, 3) := by decide +kernel
theorem dX7_readLike_47 : decode cX7_readLike 47 = .ok (.istore_n 3, 1) := by decide +kernel
theorem dX7_readLike_48 : decode cX7_readLike 48 = .ok (.aload_n 0, 1) := by decide +kernel
theorem dX7_readLike_49 : decode cX7_readLike 49 = .ok (.getfield 75, 3) := by decide +kernel
theorem dX7_readLike_52 : decode cX7_readLike 52 = .ok (.ifCond .ne 18, 3) := by decide +kernel
theorem dX7_readLike_55 : decode cX7_readLike 55 = .ok (.aload_n 0, 1) := by decide +kernel
theorem dX7_readLike_56 : decode cX7_readLike 56 = .ok (.getfield 29, 3) := by decide +kernel
theorem dX7_readLike_59 : decode cX7_readLike 59 = .ok (.bipush 30, 2) := by decide +kernel
theorem dX7_readLike_61 : decode cX7_readLike 61 = .ok (.bipush 6, 2) := by decide +kernel
theorem dX7_readLike_63 : decode cX7_readLike 63 = .ok (.iload_n 1, 1) := by decide +kernel
theorem dX7_readLike_64 : decode cX7_readLike 64 = .ok (.imul, 1) := by decide +kernel
theorem dX7_readLike_65 : decode cX7_readLike 65 = .ok (.iadd, 1) := by decide +kernel
theorem dX7_readLike_66 : decode cX7_readLike 66 = .ok (.iload_n 2, 1) := by decide +kernel
theorem dX7_readLike_67 : decode cX7_readLike 67 = .ok (.iadd, 1) := by decide +kernel
theorem dX7_readLike_68 : decode cX7_readLike 68 = .ok (.iload_n 3, 1) := by decide +kernel
theorem dX7_readLike_69 : decode cX7_readLike 69 = .ok (.iastore, 1) := by decide +kernel
theorem dX7_readLike_70 : decode cX7_readLike 70 = .ok (.return_, 1) := by decide +kernel
theorem dX7_readItem_0 : decode cX7_readItem 0 = .ok (.aload_n 0, 1) := by decide +kernel
theorem dX7_readItem_1 : decode cX7_readItem 1 = .ok (.invokevirtual 71, 3) := by decide +kernel
theorem dX7_readItem_4 : decode cX7_readItem 4 = .ok (.istore_n 1, 1) := by decide +kernel
theorem dX7_readItem_5 : decode cX7_readItem 5 = .ok (.aload_n 0, 1) := by decide +kernel
theorem dX7_readItem_6 : decode cX7_readItem 6 = .ok (.dup, 1) := by decide +kernel
theorem dX7_readItem_7 : decode cX7_readItem 7 = .ok (.getfield 68, 3) := by decide +kernel
theorem dX7_readItem_10 : decode cX7_readItem 10 = .ok (.iconst 1, 1) := by decide +kernel
theorem dX7_readItem_11 : decode cX7_readItem 11 = .ok (.iadd, 1) := by decide +kernel
theorem dX7_readItem_12 : decode cX7_readItem 12 = .ok (.putfield 68, 3) := by decide +kernel
theorem dX7_readItem_15 : decode cX7_readItem 15 = .ok (.iload_n 1, 1) := by decide +kernel
theorem dX7_readItem_16 : decode cX7_readItem 16 = .ok (.lookupswitch 57 #[(108, 50), (112, 36), (116, 43)], 36) := by decide +kernel
theorem dX7_readItem_52 : decode cX7_readItem 52 = .ok (.aload_n 0, 1) := by decide +kernel
theorem dX7_readItem_53 : decode cX7_readItem 53 = .ok (.invokevirtual 91, 3) := by decide +kernel
theorem dX7_readItem_56 : decode cX7_readItem 56 = .ok (.goto 22, 3) := by decide +kernel
theorem dX7_readItem_59 : decode cX7_readItem 59 = .ok (.aload_n 0, 1) := by decide +kernel
theorem dX7_readItem_60 : decode cX7_readItem 60 = .ok (.invokevirtual 94, 3) := by decide +kernel
theorem dX7_readItem_63 : decode cX7_readItem 63 = .ok (.goto 15, 3) := by decide +kernel
theorem dX7_readItem_66 : decode cX7_readItem 66 = .ok (.aload_n 0, 1) := by decide +kernel
theorem dX7_readItem_67 : decode cX7_readItem 67 = .ok (.invokevirtual 97, 3) := by decide +kernel
theorem dX7_readItem_70 : decode cX7_readItem 70 = .ok (.goto 8, 3) := by decide +kernel
theorem dX7_readItem_73 : decode cX7_readItem 73 = .ok (.aload_n 0, 1) := by decide +kernel
theorem dX7_readItem_74 : decode cX7_readItem 74 = .ok (.iconst 1, 1) := by decide +kernel
theorem dX7_readItem_75 : decode cX7_readItem 75 = .ok (.putfield 75, 3) := by decide +kernel
theorem dX7_readItem_78 : decode cX7_readItem 78 = .ok (.aload_n 0, 1) := by decide +kernel
theorem dX7_readItem_79 : decode cX7_readItem 79 = .ok (.bipush 59, 2) := by decide +kernel
theorem dX7_readItem_81 : decode cX7_readItem 81 = .ok (.invokevirtual 87, 3) := by decide +kernel
theorem dX7_readItem_84 : decode cX7_readItem 84 = .ok (.return_, 1) := by decide +kernel
theorem dX7_begin_0 : decode cX7_begin 0 = .ok (.aload_n 0, 1) := by decide +kernel
theorem dX7_begin_1 : decode cX7_begin 1 = .ok (.iconst 0, 1) := by decide +kernel
theorem dX7_begin_2 : decode cX7_begin 2 = .ok (.putfield 75, 3) := by decide +kernel
theorem dX7_begin_5 : decode cX7_begin 5 = .ok (.aload_n 0, 1) := by decide +kernel
theorem dX7_begin_6 : decode cX7_begin 6 = .ok (.getfield 13, 3) := by decide +kernel
theorem dX7_begin_9 : decode cX7_begin 9 = .ok (.iconst 1, 1) := by decide +kernel
theorem dX7_begin_10 : decode cX7_begin 10 = .ok (.iconst 0, 1) := by decide +kernel
theorem dX7_begin_11 : decode cX7_begin 11 = .ok (.iastore, 1) := by decide +kernel
theorem dX7_begin_12 : decode cX7_begin 12 = .ok (.aload_n 0, 1) := by decide +kernel
theorem dX7_begin_13 : decode cX7_begin 13 = .ok (.getfield 17, 3) := by decide +kernel
theorem dX7_begin_16 : decode cX7_begin 16 = .ok (.iconst 1, 1) := by decide +kernel
theorem dX7_begin_17 : decode cX7_begin 17 = .ok (.iconst 0, 1) := by decide +kernel
theorem dX7_begin_18 : decode cX7_begin 18 = .ok (.iastore, 1) := by decide +kernel
theorem dX7_begin_19 : decode cX7_begin 19 = .ok (.iconst 0, 1) := by decide +kernel
theorem dX7_begin_20 : decode cX7_begin 20 = .ok (.istore_n 1, 1) := by decide +kernel
theorem dX7_begin_21 : decode cX7_begin 21 = .ok (.iload_n 1, 1) := by decide +kernel
theorem dX7_begin_22 : decode cX7_begin 22 = .ok (.bipush 30, 2) := by decide +kernel
theorem dX7_begin_24 : decode cX7_begin 24 = .ok (.if_icmp .ge 19, 3) := by decide +kernel
theorem dX7_begin_27 : decode cX7_begin 27 = .ok (.aload_n 0, 1) := by decide +kernel
theorem dX7_begin_28 : decode cX7_begin 28 = .ok (.getfield 29, 3) := by decide +kernel
theorem dX7_begin_31 : decode cX7_begin 31 = .ok (.bipush 30, 2) := by decide +kernel
theorem dX7_begin_33 : decode cX7_begin 33 = .ok (.iload_n 1, 1) := by decide +kernel
theorem dX7_begin_34 : decode cX7_begin 34 = .ok (.iadd, 1) := by decide +kernel
theorem dX7_begin_35 : decode cX7_begin 35 = .ok (.iconst 0, 1) := by decide +kernel
theorem dX7_begin_36 : decode cX7_begin 36 = .ok (.iastore, 1) := by decide +kernel
theorem dX7_begin_37 : decode cX7_begin 37 = .ok (.iinc 1 1, 3) := by decide +kernel
theorem dX7_begin_40 : decode cX7_begin 40 = .ok (.goto (-19), 3) := by decide +kernel
theorem dX7_begin_43 : decode cX7_begin 43 = .ok (.return_, 1) := by decide +kernel
theorem dX7_read_0 : decode cX7_read 0 = .ok (.aload_n 0, 1) := by decide +kernel
theorem dX7_read_1 : decode cX7_read 1 = .ok (.iconst 0, 1) := by decide +kernel
theorem dX7_read_2 : decode cX7_read 2 = .ok (.putfield 68, 3) := by decide +kernel
theorem dX7_read_5 : decode cX7_read 5 = .ok (.aload_n 0, 1) := by decide +kernel
theorem dX7_read_6 : decode cX7_read 6 = .ok (.invokevirtual 100, 3) := by decide +kernel
theorem dX7_read_9 : decode cX7_read 9 = .ok (.aload_n 0, 1) := by decide +kernel
theorem dX7_read_10 : decode cX7_read 10 = .ok (.getfield 68, 3) := by decide +kernel
theorem dX7_read_13 : decode cX7_read 13 = .ok (.aload_n 0, 1) := by decide +kernel
theorem dX7_read_14 : decode cX7_read 14 = .ok (.getfield 64, 3) := by decide +kernel
theorem dX7_read_17 : decode cX7_read 17 = .ok (.if_icmp .ge 24, 3) := by decide +kernel
theorem dX7_read_20 : decode cX7_read 20 = .ok (.aload_n 0, 1) := by decide +kernel
theorem dX7_read_21 : decode cX7_read 21 = .ok (.getfield 68, 3) := by decide +kernel
theorem dX7_read_24 : decode cX7_read 24 = .ok (.istore_n 1, 1) := by decide +kernel
theorem dX7_read_25 : decode cX7_read 25 = .ok (.aload_n 0, 1) := by decide +kernel
theorem dX7_read_26 : decode cX7_read 26 = .ok (.invokevirtual 103, 3) := by decide +kernel
theorem dX7_read_29 : decode cX7_read 29 = .ok (.aload_n 0, 1) := by decide +kernel
theorem dX7_read_30 : decode cX7_read 30 = .ok (.getfield 75, 3) := by decide +kernel
theorem dX7_read_33 : decode cX7_read 33 = .ok (.ifCond .eq 5, 3) := by decide +kernel
theorem dX7_read_36 : decode cX7_read 36 = .ok (.iload_n 1, 1) := by decide +kernel
theorem dX7_read_37 : decode cX7_read 37 = .ok (.ireturn, 1) := by decide +kernel
theorem dX7_read_38 : decode cX7_read 38 = .ok (.goto (-29), 3) := by decide +kernel
theorem dX7_read_41 : decode cX7_read 41 = .ok (.bipush (-4), 2) := by decide +kernel
theorem dX7_read_43 : decode cX7_read 43 = .ok (.ireturn, 1) := by decide +kernel
theorem dX7_fault_0 : decode cX7_fault 0 = .ok (.aload_n 0, 1) := by decide +kernel
theorem dX7_fault_1 : decode cX7_fault 1 = .ok (.invokevirtual 106, 3) := by decide +kernel
theorem dX7_fault_4 : decode cX7_fault 4 = .ok (.ireturn, 1) := by decide +kernel
theorem dX7_tellPerson_0 : decode cX7_tellPerson 0 = .ok (.aload_n 0, 1) := by decide +kernel
theorem dX7_tellPerson_1 : decode cX7_tellPerson 1 = .ok (.getfield 20, 3) := by decide +kernel
theorem dX7_tellPerson_4 : decode cX7_tellPerson 4 = .ok (.iconst 5, 1) := by decide +kernel
theorem dX7_tellPerson_5 : decode cX7_tellPerson 5 = .ok (.aload_n 0, 1) := by decide +kernel
theorem dX7_tellPerson_6 : decode cX7_tellPerson 6 = .ok (.getfield 13, 3) := by decide +kernel
theorem dX7_tellPerson_9 : decode cX7_tellPerson 9 = .ok (.iconst 1, 1) := by decide +kernel
theorem dX7_tellPerson_10 : decode cX7_tellPerson 10 = .ok (.iaload, 1) := by decide +kernel
theorem dX7_tellPerson_11 : decode cX7_tellPerson 11 = .ok (.iadd, 1) := by decide +kernel
theorem dX7_tellPerson_12 : decode cX7_tellPerson 12 = .ok (.iload_n 1, 1) := by decide +kernel
theorem dX7_tellPerson_13 : decode cX7_tellPerson 13 = .ok (.iastore, 1) := by decide +kernel
theorem dX7_tellPerson_14 : decode cX7_tellPerson 14 = .ok (.aload_n 0, 1) := by decide +kernel
theorem dX7_tellPerson_15 : decode cX7_tellPerson 15 = .ok (.getfield 13, 3) := by decide +kernel
theorem dX7_tellPerson_18 : decode cX7_tellPerson 18 = .ok (.iconst 1, 1) := by decide +kernel
theorem dX7_tellPerson_19 : decode cX7_tellPerson 19 = .ok (.dup2, 1) := by decide +kernel
theorem dX7_tellPerson_20 : decode cX7_tellPerson 20 = .ok (.iaload, 1) := by decide +kernel
theorem dX7_tellPerson_21 : decode cX7_tellPerson 21 = .ok (.iconst 1, 1) := by decide +kernel
theorem dX7_tellPerson_22 : decode cX7_tellPerson 22 = .ok (.iadd, 1) := by decide +kernel
theorem dX7_tellPerson_23 : decode cX7_tellPerson 23 = .ok (.iastore, 1) := by decide +kernel
theorem dX7_tellPerson_24 : decode cX7_tellPerson 24 = .ok (.return_, 1) := by decide +kernel
theorem dX7_tellThing_0 : decode cX7_tellThing 0 = .ok (.aload_n 0, 1) := by decide +kernel
theorem dX7_tellThing_1 : decode cX7_tellThing 1 = .ok (.getfield 23, 3) := by decide +kernel
theorem dX7_tellThing_4 : decode cX7_tellThing 4 = .ok (.bipush 6, 2) := by decide +kernel
theorem dX7_tellThing_6 : decode cX7_tellThing 6 = .ok (.aload_n 0, 1) := by decide +kernel
theorem dX7_tellThing_7 : decode cX7_tellThing 7 = .ok (.getfield 17, 3) := by decide +kernel
theorem dX7_tellThing_10 : decode cX7_tellThing 10 = .ok (.iconst 1, 1) := by decide +kernel
theorem dX7_tellThing_11 : decode cX7_tellThing 11 = .ok (.iaload, 1) := by decide +kernel
theorem dX7_tellThing_12 : decode cX7_tellThing 12 = .ok (.iadd, 1) := by decide +kernel
theorem dX7_tellThing_13 : decode cX7_tellThing 13 = .ok (.iload_n 1, 1) := by decide +kernel
theorem dX7_tellThing_14 : decode cX7_tellThing 14 = .ok (.iastore, 1) := by decide +kernel
theorem dX7_tellThing_15 : decode cX7_tellThing 15 = .ok (.aload_n 0, 1) := by decide +kernel
theorem dX7_tellThing_16 : decode cX7_tellThing 16 = .ok (.getfield 26, 3) := by decide +kernel
theorem dX7_tellThing_19 : decode cX7_tellThing 19 = .ok (.bipush 6, 2) := by decide +kernel
theorem dX7_tellThing_21 : decode cX7_tellThing 21 = .ok (.aload_n 0, 1) := by decide +kernel
theorem dX7_tellThing_22 : decode cX7_tellThing 22 = .ok (.getfield 17, 3) := by decide +kernel
theorem dX7_tellThing_25 : decode cX7_tellThing 25 = .ok (.iconst 1, 1) := by decide +kernel
theorem dX7_tellThing_26 : decode cX7_tellThing 26 = .ok (.iaload, 1) := by decide +kernel
theorem dX7_tellThing_27 : decode cX7_tellThing 27 = .ok (.iadd, 1) := by decide +kernel
theorem dX7_tellThing_28 : decode cX7_tellThing 28 = .ok (.iload_n 2, 1) := by decide +kernel
theorem dX7_tellThing_29 : decode cX7_tellThing 29 = .ok (.iastore, 1) := by decide +kernel
theorem dX7_tellThing_30 : decode cX7_tellThing 30 = .ok (.aload_n 0, 1) := by decide +kernel
theorem dX7_tellThing_31 : decode cX7_tellThing 31 = .ok (.getfield 17, 3) := by decide +kernel
theorem dX7_tellThing_34 : decode cX7_tellThing 34 = .ok (.iconst 1, 1) := by decide +kernel
theorem dX7_tellThing_35 : decode cX7_tellThing 35 = .ok (.dup2, 1) := by decide +kernel
theorem dX7_tellThing_36 : decode cX7_tellThing 36 = .ok (.iaload, 1) := by decide +kernel
theorem dX7_tellThing_37 : decode cX7_tellThing 37 = .ok (.iconst 1, 1) := by decide +kernel
theorem dX7_tellThing_38 : decode cX7_tellThing 38 = .ok (.iadd, 1) := by decide +kernel
theorem dX7_tellThing_39 : decode cX7_tellThing 39 = .ok (.iastore, 1) := by decide +kernel
theorem dX7_tellThing_40 : decode cX7_tellThing 40 = .ok (.return_, 1) := by decide +kernel
theorem dX7_tellLike_0 : decode cX7_tellLike 0 = .ok (.aload_n 0, 1) := by decide +kernel
theorem dX7_tellLike_1 : decode cX7_tellLike 1 = .ok (.getfield 29, 3) := by decide +kernel
theorem dX7_tellLike_4 : decode cX7_tellLike 4 = .ok (.bipush 30, 2) := by decide +kernel
theorem dX7_tellLike_6 : decode cX7_tellLike 6 = .ok (.bipush 6, 2) := by decide +kernel
theorem dX7_tellLike_8 : decode cX7_tellLike 8 = .ok (.iload_n 1, 1) := by decide +kernel
theorem dX7_tellLike_9 : decode cX7_tellLike 9 = .ok (.imul, 1) := by decide +kernel
theorem dX7_tellLike_10 : decode cX7_tellLike 10 = .ok (.iadd, 1) := by decide +kernel
theorem dX7_tellLike_11 : decode cX7_tellLike 11 = .ok (.iload_n 2, 1) := by decide +kernel
theorem dX7_tellLike_12 : decode cX7_tellLike 12 = .ok (.iadd, 1) := by decide +kernel
theorem dX7_tellLike_13 : decode cX7_tellLike 13 = .ok (.iload_n 3, 1) := by decide +kernel
theorem dX7_tellLike_14 : decode cX7_tellLike 14 = .ok (.iastore, 1) := by decide +kernel
theorem dX7_tellLike_15 : decode cX7_tellLike 15 = .ok (.return_, 1) := by decide +kernel
theorem dX7_first_0 : decode cX7_first 0 = .ok (.aload_n 0, 1) := by decide +kernel
theorem dX7_first_1 : decode cX7_first 1 = .ok (.invokevirtual 100, 3) := by decide +kernel
theorem dX7_first_4 : decode cX7_first 4 = .ok (.aload_n 0, 1) := by decide +kernel
theorem dX7_first_5 : decode cX7_first 5 = .ok (.iconst 3, 1) := by decide +kernel
theorem dX7_first_6 : decode cX7_first 6 = .ok (.invokevirtual 109, 3) := by decide +kernel
theorem dX7_first_9 : decode cX7_first 9 = .ok (.aload_n 0, 1) := by decide +kernel
theorem dX7_first_10 : decode cX7_first 10 = .ok (.iconst 1, 1) := by decide +kernel
theorem dX7_first_11 : decode cX7_first 11 = .ok (.invokevirtual 109, 3) := by decide +kernel
theorem dX7_first_14 : decode cX7_first 14 = .ok (.aload_n 0, 1) := by decide +kernel
theorem dX7_first_15 : decode cX7_first 15 = .ok (.iconst 5, 1) := by decide +kernel
theorem dX7_first_16 : decode cX7_first 16 = .ok (.invokevirtual 109, 3) := by decide +kernel
theorem dX7_first_19 : decode cX7_first 19 = .ok (.aload_n 0, 1) := by decide +kernel
theorem dX7_first_20 : decode cX7_first 20 = .ok (.iconst 0, 1) := by decide +kernel
theorem dX7_first_21 : decode cX7_first 21 = .ok (.invokevirtual 109, 3) := by decide +kernel
theorem dX7_first_24 : decode cX7_first 24 = .ok (.aload_n 0, 1) := by decide +kernel
theorem dX7_first_25 : decode cX7_first 25 = .ok (.iconst 2, 1) := by decide +kernel
theorem dX7_first_26 : decode cX7_first 26 = .ok (.invokevirtual 109, 3) := by decide +kernel
theorem dX7_first_29 : decode cX7_first 29 = .ok (.aload_n 0, 1) := by decide +kernel
theorem dX7_first_30 : decode cX7_first 30 = .ok (.iconst 0, 1) := by decide +kernel
theorem dX7_first_31 : decode cX7_first 31 = .ok (.bipush 12, 2) := by decide +kernel
theorem dX7_first_33 : decode cX7_first 33 = .ok (.invokevirtual 112, 3) := by decide +kernel
theorem dX7_first_36 : decode cX7_first 36 = .ok (.aload_n 0, 1) := by decide +kernel
theorem dX7_first_37 : decode cX7_first 37 = .ok (.iconst 1, 1) := by decide +kernel
theorem dX7_first_38 : decode cX7_first 38 = .ok (.bipush 8, 2) := by decide +kernel
theorem dX7_first_40 : decode cX7_first 40 = .ok (.invokevirtual 112, 3) := by decide +kernel
theorem dX7_first_43 : decode cX7_first 43 = .ok (.aload_n 0, 1) := by decide +kernel
theorem dX7_first_44 : decode cX7_first 44 = .ok (.iconst 3, 1) := by decide +kernel
theorem dX7_first_45 : decode cX7_first 45 = .ok (.bipush 10, 2) := by decide +kernel
theorem dX7_first_47 : decode cX7_first 47 = .ok (.invokevirtual 112, 3) := by decide +kernel
theorem dX7_first_50 : decode cX7_first 50 = .ok (.aload_n 0, 1) := by decide +kernel
theorem dX7_first_51 : decode cX7_first 51 = .ok (.iconst 2, 1) := by decide +kernel
theorem dX7_first_52 : decode cX7_first 52 = .ok (.bipush 6, 2) := by decide +kernel
theorem dX7_first_54 : decode cX7_first 54 = .ok (.invokevirtual 112, 3) := by decide +kernel
theorem dX7_first_57 : decode cX7_first 57 = .ok (.aload_n 0, 1) := by decide +kernel
theorem dX7_first_58 : decode cX7_first 58 = .ok (.iconst 3, 1) := by decide +kernel
theorem dX7_first_59 : decode cX7_first 59 = .ok (.bipush 7, 2) := by decide +kernel
theorem dX7_first_61 : decode cX7_first 61 = .ok (.invokevirtual 112, 3) := by decide +kernel
theorem dX7_first_64 : decode cX7_first 64 = .ok (.aload_n 0, 1) := by decide +kernel
theorem dX7_first_65 : decode cX7_first 65 = .ok (.iconst 0, 1) := by decide +kernel
theorem dX7_first_66 : decode cX7_first 66 = .ok (.iconst 3, 1) := by decide +kernel
theorem dX7_first_67 : decode cX7_first 67 = .ok (.invokevirtual 112, 3) := by decide +kernel
theorem dX7_first_70 : decode cX7_first 70 = .ok (.aload_n 0, 1) := by decide +kernel
theorem dX7_first_71 : decode cX7_first 71 = .ok (.iconst 0, 1) := by decide +kernel
theorem dX7_first_72 : decode cX7_first 72 = .ok (.iconst 0, 1) := by decide +kernel
theorem dX7_first_73 : decode cX7_first 73 = .ok (.iconst 4, 1) := by decide +kernel
theorem dX7_first_74 : decode cX7_first 74 = .ok (.invokevirtual 116, 3) := by decide +kernel
theorem dX7_first_77 : decode cX7_first 77 = .ok (.aload_n 0, 1) := by decide +kernel
theorem dX7_first_78 : decode cX7_first 78 = .ok (.iconst 1, 1) := by decide +kernel
theorem dX7_first_79 : decode cX7_first 79 = .ok (.iconst 2, 1) := by decide +kernel
theorem dX7_first_80 : decode cX7_first 80 = .ok (.bipush 6, 2) := by decide +kernel
theorem dX7_first_82 : decode cX7_first 82 = .ok (.invokevirtual 116, 3) := by decide +kernel
theorem dX7_first_85 : decode cX7_first 85 = .ok (.aload_n 0, 1) := by decide +kernel
theorem dX7_first_86 : decode cX7_first 86 = .ok (.iconst 2, 1) := by decide +kernel
theorem dX7_first_87 : decode cX7_first 87 = .ok (.iconst 1, 1) := by decide +kernel
theorem dX7_first_88 : decode cX7_first 88 = .ok (.iconst 5, 1) := by decide +kernel
theorem dX7_first_89 : decode cX7_first 89 = .ok (.invokevirtual 116, 3) := by decide +kernel
theorem dX7_first_92 : decode cX7_first 92 = .ok (.aload_n 0, 1) := by decide +kernel
theorem dX7_first_93 : decode cX7_first 93 = .ok (.iconst 2, 1) := by decide +kernel
theorem dX7_first_94 : decode cX7_first 94 = .ok (.iconst 4, 1) := by decide +kernel
theorem dX7_first_95 : decode cX7_first 95 = .ok (.bipush 9, 2) := by decide +kernel
theorem dX7_first_97 : decode cX7_first 97 = .ok (.invokevirtual 116, 3) := by decide +kernel
theorem dX7_first_100 : decode cX7_first 100 = .ok (.aload_n 0, 1) := by decide +kernel
theorem dX7_first_101 : decode cX7_first 101 = .ok (.iconst 4, 1) := by decide +kernel
theorem dX7_first_102 : decode cX7_first 102 = .ok (.iconst 5, 1) := by decide +kernel
theorem dX7_first_103 : decode cX7_first 103 = .ok (.bipush 12, 2) := by decide +kernel
theorem dX7_first_105 : decode cX7_first 105 = .ok (.invokevirtual 116, 3) := by decide +kernel
theorem dX7_first_108 : decode cX7_first 108 = .ok (.aload_n 0, 1) := by decide +kernel
theorem dX7_first_109 : decode cX7_first 109 = .ok (.iconst 3, 1) := by decide +kernel
theorem dX7_first_110 : decode cX7_first 110 = .ok (.iconst 0, 1) := by decide +kernel
theorem dX7_first_111 : decode cX7_first 111 = .ok (.bipush 20, 2) := by decide +kernel
theorem dX7_first_113 : decode cX7_first 113 = .ok (.invokevirtual 116, 3) := by decide +kernel
theorem dX7_first_116 : decode cX7_first 116 = .ok (.return_, 1) := by decide +kernel
theorem dX7_takeDraft_0 : decode cX7_takeDraft 0 = .ok (.aload_n 0, 1) := by decide +kernel
theorem dX7_takeDraft_1 : decode cX7_takeDraft 1 = .ok (.getfield 13, 3) := by decide +kernel
theorem dX7_takeDraft_4 : decode cX7_takeDraft 4 = .ok (.iconst 0, 1) := by decide +kernel
theorem dX7_takeDraft_5 : decode cX7_takeDraft 5 = .ok (.aload_n 0, 1) := by decide +kernel
theorem dX7_takeDraft_6 : decode cX7_takeDraft 6 = .ok (.getfield 13, 3) := by decide +kernel
theorem dX7_takeDraft_9 : decode cX7_takeDraft 9 = .ok (.iconst 1, 1) := by decide +kernel
theorem dX7_takeDraft_10 : decode cX7_takeDraft 10 = .ok (.iaload, 1) := by decide +kernel
theorem dX7_takeDraft_11 : decode cX7_takeDraft 11 = .ok (.iastore, 1) := by decide +kernel
theorem dX7_takeDraft_12 : decode cX7_takeDraft 12 = .ok (.aload_n 0, 1) := by decide +kernel
theorem dX7_takeDraft_13 : decode cX7_takeDraft 13 = .ok (.getfield 17, 3) := by decide +kernel
theorem dX7_takeDraft_16 : decode cX7_takeDraft 16 = .ok (.iconst 0, 1) := by decide +kernel
theorem dX7_takeDraft_17 : decode cX7_takeDraft 17 = .ok (.aload_n 0, 1) := by decide +kernel
theorem dX7_takeDraft_18 : decode cX7_takeDraft 18 = .ok (.getfield 17, 3) := by decide +kernel
theorem dX7_takeDraft_21 : decode cX7_takeDraft 21 = .ok (.iconst 1, 1) := by decide +kernel
theorem dX7_takeDraft_22 : decode cX7_takeDraft 22 = .ok (.iaload, 1) := by decide +kernel
theorem dX7_takeDraft_23 : decode cX7_takeDraft 23 = .ok (.iastore, 1) := by decide +kernel
theorem dX7_takeDraft_24 : decode cX7_takeDraft 24 = .ok (.iconst 0, 1) := by decide +kernel
theorem dX7_takeDraft_25 : decode cX7_takeDraft 25 = .ok (.istore_n 1, 1) := by decide +kernel
theorem dX7_takeDraft_26 : decode cX7_takeDraft 26 = .ok (.iload_n 1, 1) := by decide +kernel
theorem dX7_takeDraft_27 : decode cX7_takeDraft 27 = .ok (.iconst 5, 1) := by decide +kernel
theorem dX7_takeDraft_28 : decode cX7_takeDraft 28 = .ok (.if_icmp .ge 51, 3) := by decide +kernel
theorem dX7_takeDraft_31 : decode cX7_takeDraft 31 = .ok (.aload_n 0, 1) := by decide +kernel
theorem dX7_takeDraft_32 : decode cX7_takeDraft 32 = .ok (.getfield 20, 3) := by decide +kernel
theorem dX7_takeDraft_35 : decode cX7_takeDraft 35 = .ok (.iload_n 1, 1) := by decide +kernel
theorem dX7_takeDraft_36 : decode cX7_takeDraft 36 = .ok (.iload_n 1, 1) := by decide +kernel
theorem dX7_takeDraft_37 : decode cX7_takeDraft 37 = .ok (.aload_n 0, 1) := by decide +kernel
theorem dX7_takeDraft_38 : decode cX7_takeDraft 38 = .ok (.getfield 13, 3) := by decide +kernel
theorem dX7_takeDraft_41 : decode cX7_takeDraft 41 = .ok (.iconst 0, 1) := by decide +kernel
theorem dX7_takeDraft_42 : decode cX7_takeDraft 42 = .ok (.iaload, 1) := by decide +kernel
theorem dX7_takeDraft_43 : decode cX7_takeDraft 43 = .ok (.if_icmp .ge 14, 3) := by decide +kernel
theorem dX7_takeDraft_46 : decode cX7_takeDraft 46 = .ok (.aload_n 0, 1) := by decide +kernel
theorem dX7_takeDraft_47 : decode cX7_takeDraft 47 = .ok (.getfield 20, 3) := by decide +kernel
theorem dX7_takeDraft_50 : decode cX7_takeDraft 50 = .ok (.iconst 5, 1) := by decide +kernel
theorem dX7_takeDraft_51 : decode cX7_takeDraft 51 = .ok (.iload_n 1, 1) := by decide +kernel
theorem dX7_takeDraft_52 : decode cX7_takeDraft 52 = .ok (.iadd, 1) := by decide +kernel
theorem dX7_takeDraft_53 : decode cX7_takeDraft 53 = .ok (.iaload, 1) := by decide +kernel
theorem dX7_takeDraft_54 : decode cX7_takeDraft 54 = .ok (.goto 4, 3) := by decide +kernel
theorem dX7_takeDraft_57 : decode cX7_takeDraft 57 = .ok (.iconst 0, 1) := by decide +kernel
theorem dX7_takeDraft_58 : decode cX7_takeDraft 58 = .ok (.iastore, 1) := by decide +kernel
theorem dX7_takeDraft_59 : decode cX7_takeDraft 59 = .ok (.aload_n 0, 1) := by decide +kernel
theorem dX7_takeDraft_60 : decode cX7_takeDraft 60 = .ok (.getfield 32, 3) := by decide +kernel
theorem dX7_takeDraft_63 : decode cX7_takeDraft 63 = .ok (.iconst 0, 1) := by decide +kernel
theorem dX7_takeDraft_64 : decode cX7_takeDraft 64 = .ok (.iload_n 1, 1) := by decide +kernel
theorem dX7_takeDraft_65 : decode cX7_takeDraft 65 = .ok (.iadd, 1) := by decide +kernel
theorem dX7_takeDraft_66 : decode cX7_takeDraft 66 = .ok (.aload_n 0, 1) := by decide +kernel
theorem dX7_takeDraft_67 : decode cX7_takeDraft 67 = .ok (.getfield 20, 3) := by decide +kernel
theorem dX7_takeDraft_70 : decode cX7_takeDraft 70 = .ok (.iload_n 1, 1) := by decide +kernel
theorem dX7_takeDraft_71 : decode cX7_takeDraft 71 = .ok (.iaload, 1) := by decide +kernel
theorem dX7_takeDraft_72 : decode cX7_takeDraft 72 = .ok (.iastore, 1) := by decide +kernel
theorem dX7_takeDraft_73 : decode cX7_takeDraft 73 = .ok (.iinc 1 1, 3) := by decide +kernel
theorem dX7_takeDraft_76 : decode cX7_takeDraft 76 = .ok (.goto (-50), 3) := by decide +kernel
theorem dX7_takeDraft_79 : decode cX7_takeDraft 79 = .ok (.iconst 0, 1) := by decide +kernel
theorem dX7_takeDraft_80 : decode cX7_takeDraft 80 = .ok (.istore_n 1, 1) := by decide +kernel
theorem dX7_takeDraft_81 : decode cX7_takeDraft 81 = .ok (.iload_n 1, 1) := by decide +kernel
theorem dX7_takeDraft_82 : decode cX7_takeDraft 82 = .ok (.bipush 6, 2) := by decide +kernel
theorem dX7_takeDraft_84 : decode cX7_takeDraft 84 = .ok (.if_icmp .ge 49, 3) := by decide +kernel
theorem dX7_takeDraft_87 : decode cX7_takeDraft 87 = .ok (.aload_n 0, 1) := by decide +kernel
theorem dX7_takeDraft_88 : decode cX7_takeDraft 88 = .ok (.getfield 23, 3) := by decide +kernel
theorem dX7_takeDraft_91 : decode cX7_takeDraft 91 = .ok (.iload_n 1, 1) := by decide +kernel
theorem dX7_takeDraft_92 : decode cX7_takeDraft 92 = .ok (.aload_n 0, 1) := by decide +kernel
theorem dX7_takeDraft_93 : decode cX7_takeDraft 93 = .ok (.getfield 23, 3) := by decide +kernel
theorem dX7_takeDraft_96 : decode cX7_takeDraft 96 = .ok (.bipush 6, 2) := by decide +kernel
theorem dX7_takeDraft_98 : decode cX7_takeDraft 98 = .ok (.iload_n 1, 1) := by decide +kernel
theorem dX7_takeDraft_99 : decode cX7_takeDraft 99 = .ok (.iadd, 1) := by decide +kernel
theorem dX7_takeDraft_100 : decode cX7_takeDraft 100 = .ok (.iaload, 1) := by decide +kernel
theorem dX7_takeDraft_101 : decode cX7_takeDraft 101 = .ok (.iastore, 1) := by decide +kernel
theorem dX7_takeDraft_102 : decode cX7_takeDraft 102 = .ok (.aload_n 0, 1) := by decide +kernel
theorem dX7_takeDraft_103 : decode cX7_takeDraft 103 = .ok (.getfield 26, 3) := by decide +kernel
theorem dX7_takeDraft_106 : decode cX7_takeDraft 106 = .ok (.iload_n 1, 1) := by decide +kernel
theorem dX7_takeDraft_107 : decode cX7_takeDraft 107 = .ok (.aload_n 0, 1) := by decide +kernel
theorem dX7_takeDraft_108 : decode cX7_takeDraft 108 = .ok (.getfield 26, 3) := by decide +kernel
theorem dX7_takeDraft_111 : decode cX7_takeDraft 111 = .ok (.bipush 6, 2) := by decide +kernel
theorem dX7_takeDraft_113 : decode cX7_takeDraft 113 = .ok (.iload_n 1, 1) := by decide +kernel
theorem dX7_takeDraft_114 : decode cX7_takeDraft 114 = .ok (.iadd, 1) := by decide +kernel
theorem dX7_takeDraft_115 : decode cX7_takeDraft 115 = .ok (.iaload, 1) := by decide +kernel
theorem dX7_takeDraft_116 : decode cX7_takeDraft 116 = .ok (.iastore, 1) := by decide +kernel
theorem dX7_takeDraft_117 : decode cX7_takeDraft 117 = .ok (.aload_n 0, 1) := by decide +kernel
theorem dX7_takeDraft_118 : decode cX7_takeDraft 118 = .ok (.getfield 32, 3) := by decide +kernel
theorem dX7_takeDraft_121 : decode cX7_takeDraft 121 = .ok (.iconst 5, 1) := by decide +kernel
theorem dX7_takeDraft_122 : decode cX7_takeDraft 122 = .ok (.iload_n 1, 1) := by decide +kernel
theorem dX7_takeDraft_123 : decode cX7_takeDraft 123 = .ok (.iadd, 1) := by decide +kernel
theorem dX7_takeDraft_124 : decode cX7_takeDraft 124 = .ok (.bipush (-4), 2) := by decide +kernel
theorem dX7_takeDraft_126 : decode cX7_takeDraft 126 = .ok (.iastore, 1) := by decide +kernel
theorem dX7_takeDraft_127 : decode cX7_takeDraft 127 = .ok (.iinc 1 1, 3) := by decide +kernel
theorem dX7_takeDraft_130 : decode cX7_takeDraft 130 = .ok (.goto (-49), 3) := by decide +kernel
theorem dX7_takeDraft_133 : decode cX7_takeDraft 133 = .ok (.iconst 0, 1) := by decide +kernel
theorem dX7_takeDraft_134 : decode cX7_takeDraft 134 = .ok (.istore_n 1, 1) := by decide +kernel
theorem dX7_takeDraft_135 : decode cX7_takeDraft 135 = .ok (.iload_n 1, 1) := by decide +kernel
theorem dX7_takeDraft_136 : decode cX7_takeDraft 136 = .ok (.bipush 30, 2) := by decide +kernel
theorem dX7_takeDraft_138 : decode cX7_takeDraft 138 = .ok (.if_icmp .ge 24, 3) := by decide +kernel
theorem dX7_takeDraft_141 : decode cX7_takeDraft 141 = .ok (.aload_n 0, 1) := by decide +kernel
theorem dX7_takeDraft_142 : decode cX7_takeDraft 142 = .ok (.getfield 29, 3) := by decide +kernel
theorem dX7_takeDraft_145 : decode cX7_takeDraft 145 = .ok (.iload_n 1, 1) := by decide +kernel
theorem dX7_takeDraft_146 : decode cX7_takeDraft 146 = .ok (.aload_n 0, 1) := by decide +kernel
theorem dX7_takeDraft_147 : decode cX7_takeDraft 147 = .ok (.getfield 29, 3) := by decide +kernel
theorem dX7_takeDraft_150 : decode cX7_takeDraft 150 = .ok (.bipush 30, 2) := by decide +kernel
theorem dX7_takeDraft_152 : decode cX7_takeDraft 152 = .ok (.iload_n 1, 1) := by decide +kernel
theorem dX7_takeDraft_153 : decode cX7_takeDraft 153 = .ok (.iadd, 1) := by decide +kernel
theorem dX7_takeDraft_154 : decode cX7_takeDraft 154 = .ok (.iaload, 1) := by decide +kernel
theorem dX7_takeDraft_155 : decode cX7_takeDraft 155 = .ok (.iastore, 1) := by decide +kernel
theorem dX7_takeDraft_156 : decode cX7_takeDraft 156 = .ok (.iinc 1 1, 3) := by decide +kernel
theorem dX7_takeDraft_159 : decode cX7_takeDraft 159 = .ok (.goto (-24), 3) := by decide +kernel
theorem dX7_takeDraft_162 : decode cX7_takeDraft 162 = .ok (.aload_n 0, 1) := by decide +kernel
theorem dX7_takeDraft_163 : decode cX7_takeDraft 163 = .ok (.getfield 32, 3) := by decide +kernel
theorem dX7_takeDraft_166 : decode cX7_takeDraft 166 = .ok (.bipush 11, 2) := by decide +kernel
theorem dX7_takeDraft_168 : decode cX7_takeDraft 168 = .ok (.iconst 0, 1) := by decide +kernel
theorem dX7_takeDraft_169 : decode cX7_takeDraft 169 = .ok (.iastore, 1) := by decide +kernel
theorem dX7_takeDraft_170 : decode cX7_takeDraft 170 = .ok (.aload_n 0, 1) := by decide +kernel
theorem dX7_takeDraft_171 : decode cX7_takeDraft 171 = .ok (.getfield 32, 3) := by decide +kernel
theorem dX7_takeDraft_174 : decode cX7_takeDraft 174 = .ok (.bipush 12, 2) := by decide +kernel
theorem dX7_takeDraft_176 : decode cX7_takeDraft 176 = .ok (.iconst 0, 1) := by decide +kernel
theorem dX7_takeDraft_177 : decode cX7_takeDraft 177 = .ok (.iastore, 1) := by decide +kernel
theorem dX7_takeDraft_178 : decode cX7_takeDraft 178 = .ok (.aload_n 0, 1) := by decide +kernel
theorem dX7_takeDraft_179 : decode cX7_takeDraft 179 = .ok (.getfield 32, 3) := by decide +kernel
theorem dX7_takeDraft_182 : decode cX7_takeDraft 182 = .ok (.bipush 13, 2) := by decide +kernel
theorem dX7_takeDraft_184 : decode cX7_takeDraft 184 = .ok (.iconst 0, 1) := by decide +kernel
theorem dX7_takeDraft_185 : decode cX7_takeDraft 185 = .ok (.iastore, 1) := by decide +kernel
theorem dX7_takeDraft_186 : decode cX7_takeDraft 186 = .ok (.aload_n 0, 1) := by decide +kernel
theorem dX7_takeDraft_187 : decode cX7_takeDraft 187 = .ok (.iconst 0, 1) := by decide +kernel
theorem dX7_takeDraft_188 : decode cX7_takeDraft 188 = .ok (.putfield 120, 3) := by decide +kernel
theorem dX7_takeDraft_191 : decode cX7_takeDraft 191 = .ok (.aload_n 0, 1) := by decide +kernel
theorem dX7_takeDraft_192 : decode cX7_takeDraft 192 = .ok (.iconst 0, 1) := by decide +kernel
theorem dX7_takeDraft_193 : decode cX7_takeDraft 193 = .ok (.putfield 123, 3) := by decide +kernel
theorem dX7_takeDraft_196 : decode cX7_takeDraft 196 = .ok (.aload_n 0, 1) := by decide +kernel
theorem dX7_takeDraft_197 : decode cX7_takeDraft 197 = .ok (.iconst 0, 1) := by decide +kernel
theorem dX7_takeDraft_198 : decode cX7_takeDraft 198 = .ok (.putfield 126, 3) := by decide +kernel
theorem dX7_takeDraft_201 : decode cX7_takeDraft 201 = .ok (.return_, 1) := by decide +kernel
theorem dX7_lay_0 : decode cX7_lay 0 = .ok (.aload_n 0, 1) := by decide +kernel
theorem dX7_lay_1 : decode cX7_lay 1 = .ok (.invokevirtual 106, 3) := by decide +kernel
theorem dX7_lay_4 : decode cX7_lay 4 = .ok (.bipush (-4), 2) := by decide +kernel
theorem dX7_lay_6 : decode cX7_lay 6 = .ok (.if_icmp .ne 12, 3) := by decide +kernel
theorem dX7_lay_9 : decode cX7_lay 9 = .ok (.aload_n 0, 1) := by decide +kernel
theorem dX7_lay_10 : decode cX7_lay 10 = .ok (.getfield 13, 3) := by decide +kernel
theorem dX7_lay_13 : decode cX7_lay 13 = .ok (.iconst 1, 1) := by decide +kernel
theorem dX7_lay_14 : decode cX7_lay 14 = .ok (.iaload, 1) := by decide +kernel
theorem dX7_lay_15 : decode cX7_lay 15 = .ok (.ifCond .ne 6, 3) := by decide +kernel
theorem dX7_lay_18 : decode cX7_lay 18 = .ok (.bipush (-2), 2) := by decide +kernel
theorem dX7_lay_20 : decode cX7_lay 20 = .ok (.ireturn, 1) := by decide +kernel
theorem dX7_lay_21 : decode cX7_lay 21 = .ok (.aload_n 0, 1) := by decide +kernel
theorem dX7_lay_22 : decode cX7_lay 22 = .ok (.invokevirtual 57, 3) := by decide +kernel
theorem dX7_lay_25 : decode cX7_lay 25 = .ok (.aload_n 0, 1) := by decide +kernel
theorem dX7_lay_26 : decode cX7_lay 26 = .ok (.getfield 13, 3) := by decide +kernel
theorem dX7_lay_29 : decode cX7_lay 29 = .ok (.iconst 0, 1) := by decide +kernel
theorem dX7_lay_30 : decode cX7_lay 30 = .ok (.iaload, 1) := by decide +kernel
theorem dX7_lay_31 : decode cX7_lay 31 = .ok (.ireturn, 1) := by decide +kernel
theorem dX7_take_0 : decode cX7_take 0 = .ok (.iconst 0, 1) := by decide +kernel
theorem dX7_take_1 : decode cX7_take 1 = .ok (.istore_n 1, 1) := by decide +kernel
theorem dX7_take_2 : decode cX7_take 2 = .ok (.iload_n 1, 1) := by decide +kernel
theorem dX7_take_3 : decode cX7_take 3 = .ok (.bipush 14, 2) := by decide +kernel
theorem dX7_take_5 : decode cX7_take 5 = .ok (.if_icmp .ge 21, 3) := by decide +kernel
theorem dX7_take_8 : decode cX7_take 8 = .ok (.aload_n 0, 1) := by decide +kernel
theorem dX7_take_9 : decode cX7_take 9 = .ok (.getfield 41, 3) := by decide +kernel
theorem dX7_take_12 : decode cX7_take 12 = .ok (.iload_n 1, 1) := by decide +kernel
theorem dX7_take_13 : decode cX7_take 13 = .ok (.aload_n 0, 1) := by decide +kernel
theorem dX7_take_14 : decode cX7_take 14 = .ok (.getfield 32, 3) := by decide +kernel
theorem dX7_take_17 : decode cX7_take 17 = .ok (.iload_n 1, 1) := by decide +kernel
theorem dX7_take_18 : decode cX7_take 18 = .ok (.iaload, 1) := by decide +kernel
theorem dX7_take_19 : decode cX7_take 19 = .ok (.iastore, 1) := by decide +kernel
theorem dX7_take_20 : decode cX7_take 20 = .ok (.iinc 1 1, 3) := by decide +kernel
theorem dX7_take_23 : decode cX7_take 23 = .ok (.goto (-21), 3) := by decide +kernel
theorem dX7_take_26 : decode cX7_take 26 = .ok (.return_, 1) := by decide +kernel
theorem dX7_isPerson_0 : decode cX7_isPerson 0 = .ok (.iload_n 1, 1) := by decide +kernel
theorem dX7_isPerson_1 : decode cX7_isPerson 1 = .ok (.iconst 0, 1) := by decide +kernel
theorem dX7_isPerson_2 : decode cX7_isPerson 2 = .ok (.aload_n 0, 1) := by decide +kernel
theorem dX7_isPerson_3 : decode cX7_isPerson 3 = .ok (.getfield 13, 3) := by decide +kernel
theorem dX7_isPerson_6 : decode cX7_isPerson 6 = .ok (.iconst 0, 1) := by decide +kernel
theorem dX7_isPerson_7 : decode cX7_isPerson 7 = .ok (.iaload, 1) := by decide +kernel
theorem dX7_isPerson_8 : decode cX7_isPerson 8 = .ok (.iconst 1, 1) := by decide +kernel
theorem dX7_isPerson_9 : decode cX7_isPerson 9 = .ok (.isub, 1) := by decide +kernel
theorem dX7_isPerson_10 : decode cX7_isPerson 10 = .ok (.invokestatic 60, 3) := by decide +kernel
theorem dX7_isPerson_13 : decode cX7_isPerson 13 = .ok (.ireturn, 1) := by decide +kernel
theorem dX7_isThing_0 : decode cX7_isThing 0 = .ok (.iload_n 1, 1) := by decide +kernel
theorem dX7_isThing_1 : decode cX7_isThing 1 = .ok (.iconst 0, 1) := by decide +kernel
theorem dX7_isThing_2 : decode cX7_isThing 2 = .ok (.aload_n 0, 1) := by decide +kernel
theorem dX7_isThing_3 : decode cX7_isThing 3 = .ok (.getfield 17, 3) := by decide +kernel
theorem dX7_isThing_6 : decode cX7_isThing 6 = .ok (.iconst 0, 1) := by decide +kernel
theorem dX7_isThing_7 : decode cX7_isThing 7 = .ok (.iaload, 1) := by decide +kernel
theorem dX7_isThing_8 : decode cX7_isThing 8 = .ok (.iconst 1, 1) := by decide +kernel
theorem dX7_isThing_9 : decode cX7_isThing 9 = .ok (.isub, 1) := by decide +kernel
theorem dX7_isThing_10 : decode cX7_isThing 10 = .ok (.invokestatic 60, 3) := by decide +kernel
theorem dX7_isThing_13 : decode cX7_isThing 13 = .ok (.ireturn, 1) := by decide +kernel
theorem dX7_hatOf_0 : decode cX7_hatOf 0 = .ok (.iconst 0, 1) := by decide +kernel
theorem dX7_hatOf_1 : decode cX7_hatOf 1 = .ok (.istore_n 1, 1) := by decide +kernel
theorem dX7_hatOf_2 : decode cX7_hatOf 2 = .ok (.iconst 0, 1) := by decide +kernel
theorem dX7_hatOf_3 : decode cX7_hatOf 3 = .ok (.istore_n 2, 1) := by decide +kernel
theorem dX7_hatOf_4 : decode cX7_hatOf 4 = .ok (.iload_n 2, 1) := by decide +kernel
theorem dX7_hatOf_5 : decode cX7_hatOf 5 = .ok (.iconst 5, 1) := by decide +kernel
theorem dX7_hatOf_6 : decode cX7_hatOf 6 = .ok (.if_icmp .ge 17, 3) := by decide +kernel
theorem dX7_hatOf_9 : decode cX7_hatOf 9 = .ok (.iload_n 1, 1) := by decide +kernel
theorem dX7_hatOf_10 : decode cX7_hatOf 10 = .ok (.aload_n 0, 1) := by decide +kernel
theorem dX7_hatOf_11 : decode cX7_hatOf 11 = .ok (.iconst 0, 1) := by decide +kernel
theorem dX7_hatOf_12 : decode cX7_hatOf 12 = .ok (.iload_n 2, 1) := by decide +kernel
theorem dX7_hatOf_13 : decode cX7_hatOf 13 = .ok (.iadd, 1) := by decide +kernel
theorem dX7_hatOf_14 : decode cX7_hatOf 14 = .ok (.iaload, 1) := by decide +kernel
theorem dX7_hatOf_15 : decode cX7_hatOf 15 = .ok (.iadd, 1) := by decide +kernel
theorem dX7_hatOf_16 : decode cX7_hatOf 16 = .ok (.istore_n 1, 1) := by decide +kernel
theorem dX7_hatOf_17 : decode cX7_hatOf 17 = .ok (.iinc 2 1, 3) := by decide +kernel
theorem dX7_hatOf_20 : decode cX7_hatOf 20 = .ok (.goto (-16), 3) := by decide +kernel
theorem dX7_hatOf_23 : decode cX7_hatOf 23 = .ok (.iload_n 1, 1) := by decide +kernel
theorem dX7_hatOf_24 : decode cX7_hatOf 24 = .ok (.ireturn, 1) := by decide +kernel
theorem dX7_hadBy_0 : decode cX7_hadBy 0 = .ok (.iconst 0, 1) := by decide +kernel
theorem dX7_hadBy_1 : decode cX7_hadBy 1 = .ok (.istore_n 3, 1) := by decide +kernel
theorem dX7_hadBy_2 : decode cX7_hadBy 2 = .ok (.iconst 0, 1) := by decide +kernel
theorem dX7_hadBy_3 : decode cX7_hadBy 3 = .ok (.istore 4, 2) := by decide +kernel
theorem dX7_hadBy_5 : decode cX7_hadBy 5 = .ok (.iload 4, 2) := by decide +kernel
theorem dX7_hadBy_7 : decode cX7_hadBy 7 = .ok (.aload_n 0, 1) := by decide +kernel
theorem dX7_hadBy_8 : decode cX7_hadBy 8 = .ok (.getfield 17, 3) := by decide +kernel
theorem dX7_hadBy_11 : decode cX7_hadBy 11 = .ok (.iconst 0, 1) := by decide +kernel
theorem dX7_hadBy_12 : decode cX7_hadBy 12 = .ok (.iaload, 1) := by decide +kernel
theorem dX7_hadBy_13 : decode cX7_hadBy 13 = .ok (.if_icmp .ge 30, 3) := by decide +kernel
theorem dX7_hadBy_16 : decode cX7_hadBy 16 = .ok (.iload_n 3, 1) := by decide +kernel
theorem dX7_hadBy_17 : decode cX7_hadBy 17 = .ok (.aload_n 1, 1) := by decide +kernel
theorem dX7_hadBy_18 : decode cX7_hadBy 18 = .ok (.iconst 5, 1) := by decide +kernel
theorem dX7_hadBy_19 : decode cX7_hadBy 19 = .ok (.iload 4, 2) := by decide +kernel
theorem dX7_hadBy_21 : decode cX7_hadBy 21 = .ok (.iadd, 1) := by decide +kernel
theorem dX7_hadBy_22 : decode cX7_hadBy 22 = .ok (.iaload, 1) := by decide +kernel
theorem dX7_hadBy_23 : decode cX7_hadBy 23 = .ok (.iload_n 2, 1) := by decide +kernel
theorem dX7_hadBy_24 : decode cX7_hadBy 24 = .ok (.if_icmp .ne 10, 3) := by decide +kernel
theorem dX7_hadBy_27 : decode cX7_hadBy 27 = .ok (.iconst 1, 1) := by decide +kernel
theorem dX7_hadBy_28 : decode cX7_hadBy 28 = .ok (.iload 4, 2) := by decide +kernel
theorem dX7_hadBy_30 : decode cX7_hadBy 30 = .ok (.ishl, 1) := by decide +kernel
theorem dX7_hadBy_31 : decode cX7_hadBy 31 = .ok (.goto 4, 3) := by decide +kernel
theorem dX7_hadBy_34 : decode cX7_hadBy 34 = .ok (.iconst 0, 1) := by decide +kernel
theorem dX7_hadBy_35 : decode cX7_hadBy 35 = .ok (.ior, 1) := by decide +kernel
theorem dX7_hadBy_36 : decode cX7_hadBy 36 = .ok (.istore_n 3, 1) := by decide +kernel
theorem dX7_hadBy_37 : decode cX7_hadBy 37 = .ok (.iinc 4 1, 3) := by decide +kernel
theorem dX7_hadBy_40 : decode cX7_hadBy 40 = .ok (.goto (-35), 3) := by decide +kernel
theorem dX7_hadBy_43 : decode cX7_hadBy 43 = .ok (.iload_n 3, 1) := by decide +kernel
theorem dX7_hadBy_44 : decode cX7_hadBy 44 = .ok (.ireturn, 1) := by decide +kernel
theorem dX7_worthOf_0 : decode cX7_worthOf 0 = .ok (.iconst 0, 1) := by decide +kernel
theorem dX7_worthOf_1 : decode cX7_worthOf 1 = .ok (.istore_n 3, 1) := by decide +kernel
theorem dX7_worthOf_2 : decode cX7_worthOf 2 = .ok (.iconst 0, 1) := by decide +kernel
theorem dX7_worthOf_3 : decode cX7_worthOf 3 = .ok (.istore 4, 2) := by decide +kernel
theorem dX7_worthOf_5 : decode cX7_worthOf 5 = .ok (.iconst 0, 1) := by decide +kernel
theorem dX7_worthOf_6 : decode cX7_worthOf 6 = .ok (.istore 5, 2) := by decide +kernel
theorem dX7_worthOf_8 : decode cX7_worthOf 8 = .ok (.iconst 0, 1) := by decide +kernel
theorem dX7_worthOf_9 : decode cX7_worthOf 9 = .ok (.istore 6, 2) := by decide +kernel
theorem dX7_worthOf_11 : decode cX7_worthOf 11 = .ok (.iload 6, 2) := by decide +kernel
theorem dX7_worthOf_13 : decode cX7_worthOf 13 = .ok (.aload_n 0, 1) := by decide +kernel
theorem dX7_worthOf_14 : decode cX7_worthOf 14 = .ok (.getfield 17, 3) := by decide +kernel
theorem dX7_worthOf_17 : decode cX7_worthOf 17 = .ok (.iconst 0, 1) := by decide +kernel
theorem dX7_worthOf_18 : decode cX7_worthOf 18 = .ok (.iaload, 1) := by decide +kernel
theorem dX7_worthOf_19 : decode cX7_worthOf 19 = .ok (.if_icmp .ge 66, 3) := by decide +kernel
theorem dX7_worthOf_22 : decode cX7_worthOf 22 = .ok (.iload_n 3, 1) := by decide +kernel
theorem dX7_worthOf_23 : decode cX7_worthOf 23 = .ok (.iload_n 2, 1) := by decide +kernel
theorem dX7_worthOf_24 : decode cX7_worthOf 24 = .ok (.iload 6, 2) := by decide +kernel
theorem dX7_worthOf_26 : decode cX7_worthOf 26 = .ok (.invokestatic 129, 3) := by decide +kernel
theorem dX7_worthOf_29 : decode cX7_worthOf 29 = .ok (.ifCond .eq 17, 3) := by decide +kernel
theorem dX7_worthOf_32 : decode cX7_worthOf 32 = .ok (.aload_n 0, 1) := by decide +kernel
theorem dX7_worthOf_33 : decode cX7_worthOf 33 = .ok (.getfield 23, 3) := by decide +kernel
theorem dX7_worthOf_36 : decode cX7_worthOf 36 = .ok (.iload 6, 2) := by decide +kernel
theorem dX7_worthOf_38 : decode cX7_worthOf 38 = .ok (.iaload, 1) := by decide +kernel
theorem dX7_worthOf_39 : decode cX7_worthOf 39 = .ok (.ifCond .ne 7, 3) := by decide +kernel
theorem dX7_worthOf_42 : decode cX7_worthOf 42 = .ok (.iconst 1, 1) := by decide +kernel
theorem dX7_worthOf_43 : decode cX7_worthOf 43 = .ok (.goto 4, 3) := by decide +kernel
theorem dX7_worthOf_46 : decode cX7_worthOf 46 = .ok (.iconst 0, 1) := by decide +kernel
theorem dX7_worthOf_47 : decode cX7_worthOf 47 = .ok (.iadd, 1) := by decide +kernel
theorem dX7_worthOf_48 : decode cX7_worthOf 48 = .ok (.istore_n 3, 1) := by decide +kernel
theorem dX7_worthOf_49 : decode cX7_worthOf 49 = .ok (.iload 4, 2) := by decide +kernel
theorem dX7_worthOf_51 : decode cX7_worthOf 51 = .ok (.iload_n 2, 1) := by decide +kernel
theorem dX7_worthOf_52 : decode cX7_worthOf 52 = .ok (.iload 6, 2) := by decide +kernel
theorem dX7_worthOf_54 : decode cX7_worthOf 54 = .ok (.invokestatic 129, 3) := by decide +kernel
theorem dX7_worthOf_57 : decode cX7_worthOf 57 = .ok (.ifCond .eq 18, 3) := by decide +kernel
theorem dX7_worthOf_60 : decode cX7_worthOf 60 = .ok (.aload_n 0, 1) := by decide +kernel
theorem dX7_worthOf_61 : decode cX7_worthOf 61 = .ok (.getfield 23, 3) := by decide +kernel
theorem dX7_worthOf_64 : decode cX7_worthOf 64 = .ok (.iload 6, 2) := by decide +kernel
theorem dX7_worthOf_66 : decode cX7_worthOf 66 = .ok (.iaload, 1) := by decide +kernel
theorem dX7_worthOf_67 : decode cX7_worthOf 67 = .ok (.iconst 3, 1) := by decide +kernel
theorem dX7_worthOf_68 : decode cX7_worthOf 68 = .ok (.if_icmp .ne 7, 3) := by decide +kernel
theorem dX7_worthOf_71 : decode cX7_worthOf 71 = .ok (.iconst 1, 1) := by decide +kernel
theorem dX7_worthOf_72 : decode cX7_worthOf 72 = .ok (.goto 4, 3) := by decide +kernel
theorem dX7_worthOf_75 : decode cX7_worthOf 75 = .ok (.iconst 0, 1) := by decide +kernel
theorem dX7_worthOf_76 : decode cX7_worthOf 76 = .ok (.iadd, 1) := by decide +kernel
theorem dX7_worthOf_77 : decode cX7_worthOf 77 = .ok (.istore 4, 2) := by decide +kernel
theorem dX7_worthOf_79 : decode cX7_worthOf 79 = .ok (.iinc 6 1, 3) := by decide +kernel
theorem dX7_worthOf_82 : decode cX7_worthOf 82 = .ok (.goto (-71), 3) := by decide +kernel
theorem dX7_worthOf_85 : decode cX7_worthOf 85 = .ok (.iconst 0, 1) := by decide +kernel
theorem dX7_worthOf_86 : decode cX7_worthOf 86 = .ok (.istore 6, 2) := by decide +kernel
theorem dX7_worthOf_88 : decode cX7_worthOf 88 = .ok (.iload 6, 2) := by decide +kernel
theorem dX7_worthOf_90 : decode cX7_worthOf 90 = .ok (.aload_n 0, 1) := by decide +kernel
theorem dX7_worthOf_91 : decode cX7_worthOf 91 = .ok (.getfield 17, 3) := by decide +kernel
theorem dX7_worthOf_94 : decode cX7_worthOf 94 = .ok (.iconst 0, 1) := by decide +kernel
theorem dX7_worthOf_95 : decode cX7_worthOf 95 = .ok (.iaload, 1) := by decide +kernel
theorem dX7_worthOf_96 : decode cX7_worthOf 96 = .ok (.if_icmp .ge 135, 3) := by decide +kernel
theorem dX7_worthOf_99 : decode cX7_worthOf 99 = .ok (.iload_n 2, 1) := by decide +kernel
theorem dX7_worthOf_100 : decode cX7_worthOf 100 = .ok (.iload 6, 2) := by decide +kernel
theorem dX7_worthOf_102 : decode cX7_worthOf 102 = .ok (.invokestatic 129, 3) := by decide +kernel
theorem dX7_worthOf_105 : decode cX7_worthOf 105 = .ok (.ifCond .eq 120, 3) := by decide +kernel
theorem dX7_worthOf_108 : decode cX7_worthOf 108 = .ok (.aload_n 0, 1) := by decide +kernel
theorem dX7_worthOf_109 : decode cX7_worthOf 109 = .ok (.getfield 23, 3) := by decide +kernel
theorem dX7_worthOf_112 : decode cX7_worthOf 112 = .ok (.iload 6, 2) := by decide +kernel
theorem dX7_worthOf_114 : decode cX7_worthOf 114 = .ok (.iaload, 1) := by decide +kernel
theorem dX7_worthOf_115 : decode cX7_worthOf 115 = .ok (.iconst 1, 1) := by decide +kernel
theorem dX7_worthOf_116 : decode cX7_worthOf 116 = .ok (.if_icmp .eq 18, 3) := by decide +kernel
theorem dX7_worthOf_119 : decode cX7_worthOf 119 = .ok (.aload_n 0, 1) := by decide +kernel
theorem dX7_worthOf_120 : decode cX7_worthOf 120 = .ok (.getfield 23, 3) := by decide +kernel
theorem dX7_worthOf_123 : decode cX7_worthOf 123 = .ok (.iload 6, 2) := by decide +kernel
theorem dX7_worthOf_125 : decode cX7_worthOf 125 = .ok (.iaload, 1) := by decide +kernel
theorem dX7_worthOf_126 : decode cX7_worthOf 126 = .ok (.iconst 2, 1) := by decide +kernel
theorem dX7_worthOf_127 : decode cX7_worthOf 127 = .ok (.if_icmp .ne 11, 3) := by decide +kernel
theorem dX7_worthOf_130 : decode cX7_worthOf 130 = .ok (.iload_n 3, 1) := by decide +kernel
theorem dX7_worthOf_131 : decode cX7_worthOf 131 = .ok (.ifCond .ne 7, 3) := by decide +kernel
theorem dX7_worthOf_134 : decode cX7_worthOf 134 = .ok (.iconst 1, 1) := by decide +kernel
theorem dX7_worthOf_135 : decode cX7_worthOf 135 = .ok (.goto 4, 3) := by decide +kernel
theorem dX7_worthOf_138 : decode cX7_worthOf 138 = .ok (.iconst 0, 1) := by decide +kernel
theorem dX7_worthOf_139 : decode cX7_worthOf 139 = .ok (.istore 7, 2) := by decide +kernel
theorem dX7_worthOf_141 : decode cX7_worthOf 141 = .ok (.aload_n 0, 1) := by decide +kernel
theorem dX7_worthOf_142 : decode cX7_worthOf 142 = .ok (.getfield 23, 3) := by decide +kernel
theorem dX7_worthOf_145 : decode cX7_worthOf 145 = .ok (.iload 6, 2) := by decide +kernel
theorem dX7_worthOf_147 : decode cX7_worthOf 147 = .ok (.iaload, 1) := by decide +kernel
theorem dX7_worthOf_148 : decode cX7_worthOf 148 = .ok (.ifCond .eq 20, 3) := by decide +kernel
theorem dX7_worthOf_151 : decode cX7_worthOf 151 = .ok (.aload_n 0, 1) := by decide +kernel
theorem dX7_worthOf_152 : decode cX7_worthOf 152 = .ok (.getfield 23, 3) := by decide +kernel
theorem dX7_worthOf_155 : decode cX7_worthOf 155 = .ok (.iload 6, 2) := by decide +kernel
theorem dX7_worthOf_157 : decode cX7_worthOf 157 = .ok (.iaload, 1) := by decide +kernel
theorem dX7_worthOf_158 : decode cX7_worthOf 158 = .ok (.iconst 3, 1) := by decide +kernel
theorem dX7_worthOf_159 : decode cX7_worthOf 159 = .ok (.if_icmp .ne 13, 3) := by decide +kernel
theorem dX7_worthOf_162 : decode cX7_worthOf 162 = .ok (.iload 4, 2) := by decide +kernel
theorem dX7_worthOf_164 : decode cX7_worthOf 164 = .ok (.iconst 1, 1) := by decide +kernel
theorem dX7_worthOf_165 : decode cX7_worthOf 165 = .ok (.if_icmp .le 7, 3) := by decide +kernel
theorem dX7_worthOf_168 : decode cX7_worthOf 168 = .ok (.iconst 1, 1) := by decide +kernel
theorem dX7_worthOf_169 : decode cX7_worthOf 169 = .ok (.goto 4, 3) := by decide +kernel
theorem dX7_worthOf_172 : decode cX7_worthOf 172 = .ok (.iconst 0, 1) := by decide +kernel
theorem dX7_worthOf_173 : decode cX7_worthOf 173 = .ok (.istore 8, 2) := by decide +kernel
theorem dX7_worthOf_175 : decode cX7_worthOf 175 = .ok (.iload 5, 2) := by decide +kernel
theorem dX7_worthOf_177 : decode cX7_worthOf 177 = .ok (.aload_n 0, 1) := by decide +kernel
theorem dX7_worthOf_178 : decode cX7_worthOf 178 = .ok (.getfield 29, 3) := by decide +kernel
theorem dX7_worthOf_181 : decode cX7_worthOf 181 = .ok (.bipush 6, 2) := by decide +kernel
theorem dX7_worthOf_183 : decode cX7_worthOf 183 = .ok (.iload_n 1, 1) := by decide +kernel
theorem dX7_worthOf_184 : decode cX7_worthOf 184 = .ok (.imul, 1) := by decide +kernel
theorem dX7_worthOf_185 : decode cX7_worthOf 185 = .ok (.iload 6, 2) := by decide +kernel
theorem dX7_worthOf_187 : decode cX7_worthOf 187 = .ok (.iadd, 1) := by decide +kernel
theorem dX7_worthOf_188 : decode cX7_worthOf 188 = .ok (.iaload, 1) := by decide +kernel
theorem dX7_worthOf_189 : decode cX7_worthOf 189 = .ok (.iload 8, 2) := by decide +kernel
theorem dX7_worthOf_191 : decode cX7_worthOf 191 = .ok (.ifCond .eq 13, 3) := by decide +kernel
theorem dX7_worthOf_194 : decode cX7_worthOf 194 = .ok (.aload_n 0, 1) := by decide +kernel
theorem dX7_worthOf_195 : decode cX7_worthOf 195 = .ok (.getfield 26, 3) := by decide +kernel
theorem dX7_worthOf_198 : decode cX7_worthOf 198 = .ok (.iload 6, 2) := by decide +kernel
theorem dX7_worthOf_200 : decode cX7_worthOf 200 = .ok (.iaload, 1) := by decide +kernel
theorem dX7_worthOf_201 : decode cX7_worthOf 201 = .ok (.goto 20, 3) := by decide +kernel
theorem dX7_worthOf_204 : decode cX7_worthOf 204 = .ok (.iload 7, 2) := by decide +kernel
theorem dX7_worthOf_206 : decode cX7_worthOf 206 = .ok (.ifCond .eq 14, 3) := by decide +kernel
theorem dX7_worthOf_209 : decode cX7_worthOf 209 = .ok (.aload_n 0, 1) := by decide +kernel
theorem dX7_worthOf_210 : decode cX7_worthOf 210 = .ok (.getfield 26, 3) := by decide +kernel
theorem dX7_worthOf_213 : decode cX7_worthOf 213 = .ok (.iload 6, 2) := by decide +kernel
theorem dX7_worthOf_215 : decode cX7_worthOf 215 = .ok (.iaload, 1) := by decide +kernel
theorem dX7_worthOf_216 : decode cX7_worthOf 216 = .ok (.ineg, 1) := by decide +kernel
theorem dX7_worthOf_217 : decode cX7_worthOf 217 = .ok (.goto 4, 3) := by decide +kernel
theorem dX7_worthOf_220 : decode cX7_worthOf 220 = .ok (.iconst 0, 1) := by decide +kernel
theorem dX7_worthOf_221 : decode cX7_worthOf 221 = .ok (.iadd, 1) := by decide +kernel
theorem dX7_worthOf_222 : decode cX7_worthOf 222 = .ok (.iadd, 1) := by decide +kernel
theorem dX7_worthOf_223 : decode cX7_worthOf 223 = .ok (.istore 5, 2) := by decide +kernel
theorem dX7_worthOf_225 : decode cX7_worthOf 225 = .ok (.iinc 6 1, 3) := by decide +kernel
theorem dX7_worthOf_228 : decode cX7_worthOf 228 = .ok (.goto (-140), 3) := by decide +kernel
theorem dX7_worthOf_231 : decode cX7_worthOf 231 = .ok (.iload 5, 2) := by decide +kernel
theorem dX7_worthOf_233 : decode cX7_worthOf 233 = .ok (.ireturn, 1) := by decide +kernel
theorem dX7_worthOfAll_0 : decode cX7_worthOfAll 0 = .ok (.iconst 0, 1) := by decide +kernel
theorem dX7_worthOfAll_1 : decode cX7_worthOfAll 1 = .ok (.istore_n 2, 1) := by decide +kernel
theorem dX7_worthOfAll_2 : decode cX7_worthOfAll 2 = .ok (.iconst 0, 1) := by decide +kernel
theorem dX7_worthOfAll_3 : decode cX7_worthOfAll 3 = .ok (.istore_n 3, 1) := by decide +kernel
theorem dX7_worthOfAll_4 : decode cX7_worthOfAll 4 = .ok (.iload_n 3, 1) := by decide +kernel
theorem dX7_worthOfAll_5 : decode cX7_worthOfAll 5 = .ok (.aload_n 0, 1) := by decide +kernel
theorem dX7_worthOfAll_6 : decode cX7_worthOfAll 6 = .ok (.getfield 13, 3) := by decide +kernel
theorem dX7_worthOfAll_9 : decode cX7_worthOfAll 9 = .ok (.iconst 0, 1) := by decide +kernel
theorem dX7_worthOfAll_10 : decode cX7_worthOfAll 10 = .ok (.iaload, 1) := by decide +kernel
theorem dX7_worthOfAll_11 : decode cX7_worthOfAll 11 = .ok (.if_icmp .ge 23, 3) := by decide +kernel
theorem dX7_worthOfAll_14 : decode cX7_worthOfAll 14 = .ok (.iload_n 2, 1) := by decide +kernel
theorem dX7_worthOfAll_15 : decode cX7_worthOfAll 15 = .ok (.aload_n 0, 1) := by decide +kernel
theorem dX7_worthOfAll_16 : decode cX7_worthOfAll 16 = .ok (.iload_n 3, 1) := by decide +kernel
theorem dX7_worthOfAll_17 : decode cX7_worthOfAll 17 = .ok (.aload_n 0, 1) := by decide +kernel
theorem dX7_worthOfAll_18 : decode cX7_worthOfAll 18 = .ok (.aload_n 1, 1) := by decide +kernel
theorem dX7_worthOfAll_19 : decode cX7_worthOfAll 19 = .ok (.iload_n 3, 1) := by decide +kernel
theorem dX7_worthOfAll_20 : decode cX7_worthOfAll 20 = .ok (.invokevirtual 133, 3) := by decide +kernel
theorem dX7_worthOfAll_23 : decode cX7_worthOfAll 23 = .ok (.invokevirtual 137, 3) := by decide +kernel
theorem dX7_worthOfAll_26 : decode cX7_worthOfAll 26 = .ok (.iadd, 1) := by decide +kernel
theorem dX7_worthOfAll_27 : decode cX7_worthOfAll 27 = .ok (.istore_n 2, 1) := by decide +kernel
theorem dX7_worthOfAll_28 : decode cX7_worthOfAll 28 = .ok (.iinc 3 1, 3) := by decide +kernel
theorem dX7_worthOfAll_31 : decode cX7_worthOfAll 31 = .ok (.goto (-27), 3) := by decide +kernel
theorem dX7_worthOfAll_34 : decode cX7_worthOfAll 34 = .ok (.iload_n 2, 1) := by decide +kernel
theorem dX7_worthOfAll_35 : decode cX7_worthOfAll 35 = .ok (.ireturn, 1) := by decide +kernel
theorem dX7_thingsHad_0 : decode cX7_thingsHad 0 = .ok (.iconst 0, 1) := by decide +kernel
theorem dX7_thingsHad_1 : decode cX7_thingsHad 1 = .ok (.istore_n 2, 1) := by decide +kernel
theorem dX7_thingsHad_2 : decode cX7_thingsHad 2 = .ok (.iconst 0, 1) := by decide +kernel
theorem dX7_thingsHad_3 : decode cX7_thingsHad 3 = .ok (.istore_n 3, 1) := by decide +kernel
theorem dX7_thingsHad_4 : decode cX7_thingsHad 4 = .ok (.iload_n 3, 1) := by decide +kernel
theorem dX7_thingsHad_5 : decode cX7_thingsHad 5 = .ok (.aload_n 0, 1) := by decide +kernel
theorem dX7_thingsHad_6 : decode cX7_thingsHad 6 = .ok (.getfield 17, 3) := by decide +kernel
theorem dX7_thingsHad_9 : decode cX7_thingsHad 9 = .ok (.iconst 0, 1) := by decide +kernel
theorem dX7_thingsHad_10 : decode cX7_thingsHad 10 = .ok (.iaload, 1) := by decide +kernel
theorem dX7_thingsHad_11 : decode cX7_thingsHad 11 = .ok (.if_icmp .ge 27, 3) := by decide +kernel
theorem dX7_thingsHad_14 : decode cX7_thingsHad 14 = .ok (.iload_n 2, 1) := by decide +kernel
theorem dX7_thingsHad_15 : decode cX7_thingsHad 15 = .ok (.aload_n 1, 1) := by decide +kernel
theorem dX7_thingsHad_16 : decode cX7_thingsHad 16 = .ok (.iconst 5, 1) := by decide +kernel
theorem dX7_thingsHad_17 : decode cX7_thingsHad 17 = .ok (.iload_n 3, 1) := by decide +kernel
theorem dX7_thingsHad_18 : decode cX7_thingsHad 18 = .ok (.iadd, 1) := by decide +kernel
theorem dX7_thingsHad_19 : decode cX7_thingsHad 19 = .ok (.iaload, 1) := by decide +kernel
theorem dX7_thingsHad_20 : decode cX7_thingsHad 20 = .ok (.bipush (-4), 2) := by decide +kernel
theorem dX7_thingsHad_22 : decode cX7_thingsHad 22 = .ok (.if_icmp .ne 7, 3) := by decide +kernel
theorem dX7_thingsHad_25 : decode cX7_thingsHad 25 = .ok (.iconst 0, 1) := by decide +kernel
theorem dX7_thingsHad_26 : decode cX7_thingsHad 26 = .ok (.goto 4, 3) := by decide +kernel
theorem dX7_thingsHad_29 : decode cX7_thingsHad 29 = .ok (.iconst 1, 1) := by decide +kernel
theorem dX7_thingsHad_30 : decode cX7_thingsHad 30 = .ok (.iadd, 1) := by decide +kernel
theorem dX7_thingsHad_31 : decode cX7_thingsHad 31 = .ok (.istore_n 2, 1) := by decide +kernel
theorem dX7_thingsHad_32 : decode cX7_thingsHad 32 = .ok (.iinc 3 1, 3) := by decide +kernel
theorem dX7_thingsHad_35 : decode cX7_thingsHad 35 = .ok (.goto (-31), 3) := by decide +kernel
theorem dX7_thingsHad_38 : decode cX7_thingsHad 38 = .ok (.iload_n 2, 1) := by decide +kernel
theorem dX7_thingsHad_39 : decode cX7_thingsHad 39 = .ok (.ireturn, 1) := by decide +kernel
theorem dX7_person_0 : decode cX7_person 0 = .ok (.aload_n 0, 1) := by decide +kernel
theorem dX7_person_1 : decode cX7_person 1 = .ok (.iload_n 1, 1) := by decide +kernel
theorem dX7_person_2 : decode cX7_person 2 = .ok (.invokevirtual 140, 3) := by decide +kernel
theorem dX7_person_5 : decode cX7_person 5 = .ok (.ifCond .ne 5, 3) := by decide +kernel
theorem dX7_person_8 : decode cX7_person 8 = .ok (.iconst (-1), 1) := by decide +kernel
theorem dX7_person_9 : decode cX7_person 9 = .ok (.ireturn, 1) := by decide +kernel
theorem dX7_person_10 : decode cX7_person 10 = .ok (.iload_n 2, 1) := by decide +kernel
theorem dX7_person_11 : decode cX7_person 11 = .ok (.tableswitch 74 0 3 #[29, 38, 45, 55], 29) := by decide +kernel
theorem dX7_person_40 : decode cX7_person 40 = .ok (.aload_n 0, 1) := by decide +kernel
theorem dX7_person_41 : decode cX7_person 41 = .ok (.getfield 32, 3) := by decide +kernel
theorem dX7_person_44 : decode cX7_person 44 = .ok (.iconst 0, 1) := by decide +kernel
theorem dX7_person_45 : decode cX7_person 45 = .ok (.iload_n 1, 1) := by decide +kernel
theorem dX7_person_46 : decode cX7_person 46 = .ok (.iadd, 1) := by decide +kernel
theorem dX7_person_47 : decode cX7_person 47 = .ok (.iaload, 1) := by decide +kernel
theorem dX7_person_48 : decode cX7_person 48 = .ok (.ireturn, 1) := by decide +kernel
theorem dX7_person_49 : decode cX7_person 49 = .ok (.aload_n 0, 1) := by decide +kernel
theorem dX7_person_50 : decode cX7_person 50 = .ok (.getfield 20, 3) := by decide +kernel
theorem dX7_person_53 : decode cX7_person 53 = .ok (.iload_n 1, 1) := by decide +kernel
theorem dX7_person_54 : decode cX7_person 54 = .ok (.iaload, 1) := by decide +kernel
theorem dX7_person_55 : decode cX7_person 55 = .ok (.ireturn, 1) := by decide +kernel
theorem dX7_person_56 : decode cX7_person 56 = .ok (.aload_n 0, 1) := by decide +kernel
theorem dX7_person_57 : decode cX7_person 57 = .ok (.aload_n 0, 1) := by decide +kernel
theorem dX7_person_58 : decode cX7_person 58 = .ok (.getfield 32, 3) := by decide +kernel
theorem dX7_person_61 : decode cX7_person 61 = .ok (.iload_n 1, 1) := by decide +kernel
theorem dX7_person_62 : decode cX7_person 62 = .ok (.invokevirtual 133, 3) := by decide +kernel
theorem dX7_person_65 : decode cX7_person 65 = .ok (.ireturn, 1) := by decide +kernel
theorem dX7_person_66 : decode cX7_person 66 = .ok (.aload_n 0, 1) := by decide +kernel
theorem dX7_person_67 : decode cX7_person 67 = .ok (.iload_n 1, 1) := by decide +kernel
theorem dX7_person_68 : decode cX7_person 68 = .ok (.aload_n 0, 1) := by decide +kernel
theorem dX7_person_69 : decode cX7_person 69 = .ok (.aload_n 0, 1) := by decide +kernel
theorem dX7_person_70 : decode cX7_person 70 = .ok (.getfield 32, 3) := by decide +kernel
theorem dX7_person_73 : decode cX7_person 73 = .ok (.iload_n 1, 1) := by decide +kernel
theorem dX7_person_74 : decode cX7_person 74 = .ok (.invokevirtual 133, 3) := by decide +kernel
theorem dX7_person_77 : decode cX7_person 77 = .ok (.invokevirtual 137, 3) := by decide +kernel
theorem dX7_person_80 : decode cX7_person 80 = .ok (.sipush 1000, 3) := by decide +kernel
theorem dX7_person_83 : decode cX7_person 83 = .ok (.iadd, 1) := by decide +kernel
theorem dX7_person_84 : decode cX7_person 84 = .ok (.ireturn, 1) := by decide +kernel
theorem dX7_person_85 : decode cX7_person 85 = .ok (.iconst (-1), 1) := by decide +kernel
theorem dX7_person_86 : decode cX7_person 86 = .ok (.ireturn, 1) := by decide +kernel
theorem dX7_thing_0 : decode cX7_thing 0 = .ok (.aload_n 0, 1) := by decide +kernel
theorem dX7_thing_1 : decode cX7_thing 1 = .ok (.iload_n 1, 1) := by decide +kernel
theorem dX7_thing_2 : decode cX7_thing 2 = .ok (.invokevirtual 144, 3) := by decide +kernel
theorem dX7_thing_5 : decode cX7_thing 5 = .ok (.ifCond .ne 5, 3) := by decide +kernel
theorem dX7_thing_8 : decode cX7_thing 8 = .ok (.iconst (-1), 1) := by decide +kernel
theorem dX7_thing_9 : decode cX7_thing 9 = .ok (.ireturn, 1) := by decide +kernel
theorem dX7_thing_10 : decode cX7_thing 10 = .ok (.iload_n 2, 1) := by decide +kernel
theorem dX7_thing_11 : decode cX7_thing 11 = .ok (.tableswitch 103 0 4 #[33, 40, 47, 56, 73], 33) := by decide +kernel
theorem dX7_thing_44 : decode cX7_thing 44 = .ok (.aload_n 0, 1) := by decide +kernel
theorem dX7_thing_45 : decode cX7_thing 45 = .ok (.getfield 23, 3) := by decide +kernel
theorem dX7_thing_48 : decode cX7_thing 48 = .ok (.iload_n 1, 1) := by decide +kernel
theorem dX7_thing_49 : decode cX7_thing 49 = .ok (.iaload, 1) := by decide +kernel
theorem dX7_thing_50 : decode cX7_thing 50 = .ok (.ireturn, 1) := by decide +kernel
theorem dX7_thing_51 : decode cX7_thing 51 = .ok (.aload_n 0, 1) := by decide +kernel
theorem dX7_thing_52 : decode cX7_thing 52 = .ok (.getfield 26, 3) := by decide +kernel
theorem dX7_thing_55 : decode cX7_thing 55 = .ok (.iload_n 1, 1) := by decide +kernel
theorem dX7_thing_56 : decode cX7_thing 56 = .ok (.iaload, 1) := by decide +kernel
theorem dX7_thing_57 : decode cX7_thing 57 = .ok (.ireturn, 1) := by decide +kernel
theorem dX7_thing_58 : decode cX7_thing 58 = .ok (.aload_n 0, 1) := by decide +kernel
theorem dX7_thing_59 : decode cX7_thing 59 = .ok (.getfield 32, 3) := by decide +kernel
theorem dX7_thing_62 : decode cX7_thing 62 = .ok (.iconst 5, 1) := by decide +kernel
theorem dX7_thing_63 : decode cX7_thing 63 = .ok (.iload_n 1, 1) := by decide +kernel
theorem dX7_thing_64 : decode cX7_thing 64 = .ok (.iadd, 1) := by decide +kernel
theorem dX7_thing_65 : decode cX7_thing 65 = .ok (.iaload, 1) := by decide +kernel
theorem dX7_thing_66 : decode cX7_thing 66 = .ok (.ireturn, 1) := by decide +kernel
theorem dX7_thing_67 : decode cX7_thing 67 = .ok (.iload_n 1, 1) := by decide +kernel
theorem dX7_thing_68 : decode cX7_thing 68 = .ok (.aload_n 0, 1) := by decide +kernel
theorem dX7_thing_69 : decode cX7_thing 69 = .ok (.getfield 32, 3) := by decide +kernel
theorem dX7_thing_72 : decode cX7_thing 72 = .ok (.bipush 11, 2) := by decide +kernel
theorem dX7_thing_74 : decode cX7_thing 74 = .ok (.iaload, 1) := by decide +kernel
theorem dX7_thing_75 : decode cX7_thing 75 = .ok (.if_icmp .ge 7, 3) := by decide +kernel
theorem dX7_thing_78 : decode cX7_thing 78 = .ok (.iconst 1, 1) := by decide +kernel
theorem dX7_thing_79 : decode cX7_thing 79 = .ok (.goto 4, 3) := by decide +kernel
theorem dX7_thing_82 : decode cX7_thing 82 = .ok (.iconst 0, 1) := by decide +kernel
theorem dX7_thing_83 : decode cX7_thing 83 = .ok (.ireturn, 1) := by decide +kernel
theorem dX7_thing_84 : decode cX7_thing 84 = .ok (.iload_n 1, 1) := by decide +kernel
theorem dX7_thing_85 : decode cX7_thing 85 = .ok (.aload_n 0, 1) := by decide +kernel
theorem dX7_thing_86 : decode cX7_thing 86 = .ok (.getfield 32, 3) := by decide +kernel
theorem dX7_thing_89 : decode cX7_thing 89 = .ok (.bipush 11, 2) := by decide +kernel
theorem dX7_thing_91 : decode cX7_thing 91 = .ok (.iaload, 1) := by decide +kernel
theorem dX7_thing_92 : decode cX7_thing 92 = .ok (.iconst 1, 1) := by decide +kernel
theorem dX7_thing_93 : decode cX7_thing 93 = .ok (.isub, 1) := by decide +kernel
theorem dX7_thing_94 : decode cX7_thing 94 = .ok (.if_icmp .ne 18, 3) := by decide +kernel
theorem dX7_thing_97 : decode cX7_thing 97 = .ok (.aload_n 0, 1) := by decide +kernel
theorem dX7_thing_98 : decode cX7_thing 98 = .ok (.getfield 32, 3) := by decide +kernel
theorem dX7_thing_101 : decode cX7_thing 101 = .ok (.bipush 12, 2) := by decide +kernel
theorem dX7_thing_103 : decode cX7_thing 103 = .ok (.iaload, 1) := by decide +kernel
theorem dX7_thing_104 : decode cX7_thing 104 = .ok (.iconst 1, 1) := by decide +kernel
theorem dX7_thing_105 : decode cX7_thing 105 = .ok (.if_icmp .ne 7, 3) := by decide +kernel
theorem dX7_thing_108 : decode cX7_thing 108 = .ok (.iconst 1, 1) := by decide +kernel
theorem dX7_thing_109 : decode cX7_thing 109 = .ok (.goto 4, 3) := by decide +kernel
theorem dX7_thing_112 : decode cX7_thing 112 = .ok (.iconst 0, 1) := by decide +kernel
theorem dX7_thing_113 : decode cX7_thing 113 = .ok (.ireturn, 1) := by decide +kernel
theorem dX7_thing_114 : decode cX7_thing 114 = .ok (.iconst (-1), 1) := by decide +kernel
theorem dX7_thing_115 : decode cX7_thing 115 = .ok (.ireturn, 1) := by decide +kernel
theorem dX7_likes_0 : decode cX7_likes 0 = .ok (.aload_n 0, 1) := by decide +kernel
theorem dX7_likes_1 : decode cX7_likes 1 = .ok (.iload_n 1, 1) := by decide +kernel
theorem dX7_likes_2 : decode cX7_likes 2 = .ok (.invokevirtual 140, 3) := by decide +kernel
theorem dX7_likes_5 : decode cX7_likes 5 = .ok (.ifCond .eq 25, 3) := by decide +kernel
theorem dX7_likes_8 : decode cX7_likes 8 = .ok (.aload_n 0, 1) := by decide +kernel
theorem dX7_likes_9 : decode cX7_likes 9 = .ok (.iload_n 2, 1) := by decide +kernel
theorem dX7_likes_10 : decode cX7_likes 10 = .ok (.invokevirtual 144, 3) := by decide +kernel
theorem dX7_likes_13 : decode cX7_likes 13 = .ok (.ifCond .eq 17, 3) := by decide +kernel
theorem dX7_likes_16 : decode cX7_likes 16 = .ok (.aload_n 0, 1) := by decide +kernel
theorem dX7_likes_17 : decode cX7_likes 17 = .ok (.getfield 29, 3) := by decide +kernel
theorem dX7_likes_20 : decode cX7_likes 20 = .ok (.bipush 6, 2) := by decide +kernel
theorem dX7_likes_22 : decode cX7_likes 22 = .ok (.iload_n 1, 1) := by decide +kernel
theorem dX7_likes_23 : decode cX7_likes 23 = .ok (.imul, 1) := by decide +kernel
theorem dX7_likes_24 : decode cX7_likes 24 = .ok (.iload_n 2, 1) := by decide +kernel
theorem dX7_likes_25 : decode cX7_likes 25 = .ok (.iadd, 1) := by decide +kernel
theorem dX7_likes_26 : decode cX7_likes 26 = .ok (.iaload, 1) := by decide +kernel
theorem dX7_likes_27 : decode cX7_likes 27 = .ok (.goto 4, 3) := by decide +kernel
theorem dX7_likes_30 : decode cX7_likes 30 = .ok (.iconst (-1), 1) := by decide +kernel
theorem dX7_likes_31 : decode cX7_likes 31 = .ok (.ireturn, 1) := by decide +kernel
theorem dX7_know_0 : decode cX7_know 0 = .ok (.aload_n 0, 1) := by decide +kernel
theorem dX7_know_1 : decode cX7_know 1 = .ok (.getfield 120, 3) := by decide +kernel
theorem dX7_know_4 : decode cX7_know 4 = .ok (.bipush 8, 2) := by decide +kernel
theorem dX7_know_6 : decode cX7_know 6 = .ok (.if_icmp .ne 42, 3) := by decide +kernel
theorem dX7_know_9 : decode cX7_know 9 = .ok (.iconst 0, 1) := by decide +kernel
theorem dX7_know_10 : decode cX7_know 10 = .ok (.istore_n 1, 1) := by decide +kernel
theorem dX7_know_11 : decode cX7_know 11 = .ok (.iload_n 1, 1) := by decide +kernel
theorem dX7_know_12 : decode cX7_know 12 = .ok (.bipush 98, 2) := by decide +kernel
theorem dX7_know_14 : decode cX7_know 14 = .ok (.if_icmp .ge 24, 3) := by decide +kernel
theorem dX7_know_17 : decode cX7_know 17 = .ok (.aload_n 0, 1) := by decide +kernel
theorem dX7_know_18 : decode cX7_know 18 = .ok (.getfield 35, 3) := by decide +kernel
theorem dX7_know_21 : decode cX7_know 21 = .ok (.iload_n 1, 1) := by decide +kernel
theorem dX7_know_22 : decode cX7_know 22 = .ok (.aload_n 0, 1) := by decide +kernel
theorem dX7_know_23 : decode cX7_know 23 = .ok (.getfield 35, 3) := by decide +kernel
theorem dX7_know_26 : decode cX7_know 26 = .ok (.bipush 14, 2) := by decide +kernel
theorem dX7_know_28 : decode cX7_know 28 = .ok (.iload_n 1, 1) := by decide +kernel
theorem dX7_know_29 : decode cX7_know 29 = .ok (.iadd, 1) := by decide +kernel
theorem dX7_know_30 : decode cX7_know 30 = .ok (.iaload, 1) := by decide +kernel
theorem dX7_know_31 : decode cX7_know 31 = .ok (.iastore, 1) := by decide +kernel
theorem dX7_know_32 : decode cX7_know 32 = .ok (.iinc 1 1, 3) := by decide +kernel
theorem dX7_know_35 : decode cX7_know 35 = .ok (.goto (-24), 3) := by decide +kernel
theorem dX7_know_38 : decode cX7_know 38 = .ok (.aload_n 0, 1) := by decide +kernel
theorem dX7_know_39 : decode cX7_know 39 = .ok (.dup, 1) := by decide +kernel
theorem dX7_know_40 : decode cX7_know 40 = .ok (.getfield 120, 3) := by decide +kernel
theorem dX7_know_43 : decode cX7_know 43 = .ok (.iconst 1, 1) := by decide +kernel
theorem dX7_know_44 : decode cX7_know 44 = .ok (.isub, 1) := by decide +kernel
theorem dX7_know_45 : decode cX7_know 45 = .ok (.putfield 120, 3) := by decide +kernel
theorem dX7_know_48 : decode cX7_know 48 = .ok (.iconst 0, 1) := by decide +kernel
theorem dX7_know_49 : decode cX7_know 49 = .ok (.istore_n 1, 1) := by decide +kernel
theorem dX7_know_50 : decode cX7_know 50 = .ok (.iload_n 1, 1) := by decide +kernel
theorem dX7_know_51 : decode cX7_know 51 = .ok (.bipush 14, 2) := by decide +kernel
theorem dX7_know_53 : decode cX7_know 53 = .ok (.if_icmp .ge 29, 3) := by decide +kernel
theorem dX7_know_56 : decode cX7_know 56 = .ok (.aload_n 0, 1) := by decide +kernel
theorem dX7_know_57 : decode cX7_know 57 = .ok (.getfield 35, 3) := by decide +kernel
theorem dX7_know_60 : decode cX7_know 60 = .ok (.bipush 14, 2) := by decide +kernel
theorem dX7_know_62 : decode cX7_know 62 = .ok (.aload_n 0, 1) := by decide +kernel
theorem dX7_know_63 : decode cX7_know 63 = .ok (.getfield 120, 3) := by decide +kernel
theorem dX7_know_66 : decode cX7_know 66 = .ok (.imul, 1) := by decide +kernel
theorem dX7_know_67 : decode cX7_know 67 = .ok (.iload_n 1, 1) := by decide +kernel
theorem dX7_know_68 : decode cX7_know 68 = .ok (.iadd, 1) := by decide +kernel
theorem dX7_know_69 : decode cX7_know 69 = .ok (.aload_n 0, 1) := by decide +kernel
theorem dX7_know_70 : decode cX7_know 70 = .ok (.getfield 32, 3) := by decide +kernel
theorem dX7_know_73 : decode cX7_know 73 = .ok (.iload_n 1, 1) := by decide +kernel
theorem dX7_know_74 : decode cX7_know 74 = .ok (.iaload, 1) := by decide +kernel
theorem dX7_know_75 : decode cX7_know 75 = .ok (.iastore, 1) := by decide +kernel
theorem dX7_know_76 : decode cX7_know 76 = .ok (.iinc 1 1, 3) := by decide +kernel
theorem dX7_know_79 : decode cX7_know 79 = .ok (.goto (-29), 3) := by decide +kernel
theorem dX7_know_82 : decode cX7_know 82 = .ok (.aload_n 0, 1) := by decide +kernel
theorem dX7_know_83 : decode cX7_know 83 = .ok (.dup, 1) := by decide +kernel
theorem dX7_know_84 : decode cX7_know 84 = .ok (.getfield 120, 3) := by decide +kernel
theorem dX7_know_87 : decode cX7_know 87 = .ok (.iconst 1, 1) := by decide +kernel
theorem dX7_know_88 : decode cX7_know 88 = .ok (.iadd, 1) := by decide +kernel
theorem dX7_know_89 : decode cX7_know 89 = .ok (.putfield 120, 3) := by decide +kernel
theorem dX7_know_92 : decode cX7_know 92 = .ok (.return_, 1) := by decide +kernel
theorem dX7_drawOn_0 : decode cX7_drawOn 0 = .ok (.iconst 0, 1) := by decide +kernel
theorem dX7_drawOn_1 : decode cX7_drawOn 1 = .ok (.istore_n 2, 1) := by decide +kernel
theorem dX7_drawOn_2 : decode cX7_drawOn 2 = .ok (.iload_n 1, 1) := by decide +kernel
theorem dX7_drawOn_3 : decode cX7_drawOn 3 = .ok (.istore_n 3, 1) := by decide +kernel
theorem dX7_drawOn_4 : decode cX7_drawOn 4 = .ok (.iload_n 3, 1) := by decide +kernel
theorem dX7_drawOn_5 : decode cX7_drawOn 5 = .ok (.aload_n 0, 1) := by decide +kernel
theorem dX7_drawOn_6 : decode cX7_drawOn 6 = .ok (.iconst 0, 1) := by decide +kernel
theorem dX7_drawOn_7 : decode cX7_drawOn 7 = .ok (.iload_n 2, 1) := by decide +kernel
theorem dX7_drawOn_8 : decode cX7_drawOn 8 = .ok (.iadd, 1) := by decide +kernel
theorem dX7_drawOn_9 : decode cX7_drawOn 9 = .ok (.iaload, 1) := by decide +kernel
theorem dX7_drawOn_10 : decode cX7_drawOn 10 = .ok (.if_icmp .lt 17, 3) := by decide +kernel
theorem dX7_drawOn_13 : decode cX7_drawOn 13 = .ok (.iload_n 3, 1) := by decide +kernel
theorem dX7_drawOn_14 : decode cX7_drawOn 14 = .ok (.aload_n 0, 1) := by decide +kernel
theorem dX7_drawOn_15 : decode cX7_drawOn 15 = .ok (.iconst 0, 1) := by decide +kernel
theorem dX7_drawOn_16 : decode cX7_drawOn 16 = .ok (.iload_n 2, 1) := by decide +kernel
theorem dX7_drawOn_17 : decode cX7_drawOn 17 = .ok (.iadd, 1) := by decide +kernel
theorem dX7_drawOn_18 : decode cX7_drawOn 18 = .ok (.iaload, 1) := by decide +kernel
theorem dX7_drawOn_19 : decode cX7_drawOn 19 = .ok (.isub, 1) := by decide +kernel
theorem dX7_drawOn_20 : decode cX7_drawOn 20 = .ok (.istore_n 3, 1) := by decide +kernel
theorem dX7_drawOn_21 : decode cX7_drawOn 21 = .ok (.iinc 2 1, 3) := by decide +kernel
theorem dX7_drawOn_24 : decode cX7_drawOn 24 = .ok (.goto (-20), 3) := by decide +kernel
theorem dX7_drawOn_27 : decode cX7_drawOn 27 = .ok (.aload_n 0, 1) := by decide +kernel
theorem dX7_drawOn_28 : decode cX7_drawOn 28 = .ok (.iconst 0, 1) := by decide +kernel
theorem dX7_drawOn_29 : decode cX7_drawOn 29 = .ok (.iload_n 2, 1) := by decide +kernel
theorem dX7_drawOn_30 : decode cX7_drawOn 30 = .ok (.iadd, 1) := by decide +kernel
theorem dX7_drawOn_31 : decode cX7_drawOn 31 = .ok (.dup2, 1) := by decide +kernel
theorem dX7_drawOn_32 : decode cX7_drawOn 32 = .ok (.iaload, 1) := by decide +kernel
theorem dX7_drawOn_33 : decode cX7_drawOn 33 = .ok (.iconst 1, 1) := by decide +kernel
theorem dX7_drawOn_34 : decode cX7_drawOn 34 = .ok (.isub, 1) := by decide +kernel
theorem dX7_drawOn_35 : decode cX7_drawOn 35 = .ok (.iastore, 1) := by decide +kernel
theorem dX7_drawOn_36 : decode cX7_drawOn 36 = .ok (.aload_n 0, 1) := by decide +kernel
theorem dX7_drawOn_37 : decode cX7_drawOn 37 = .ok (.iconst 5, 1) := by decide +kernel
theorem dX7_drawOn_38 : decode cX7_drawOn 38 = .ok (.aload_n 0, 1) := by decide +kernel
theorem dX7_drawOn_39 : decode cX7_drawOn 39 = .ok (.bipush 11, 2) := by decide +kernel
theorem dX7_drawOn_41 : decode cX7_drawOn 41 = .ok (.iaload, 1) := by decide +kernel
theorem dX7_drawOn_42 : decode cX7_drawOn 42 = .ok (.iadd, 1) := by decide +kernel
theorem dX7_drawOn_43 : decode cX7_drawOn 43 = .ok (.iload_n 2, 1) := by decide +kernel
theorem dX7_drawOn_44 : decode cX7_drawOn 44 = .ok (.iastore, 1) := by decide +kernel
theorem dX7_drawOn_45 : decode cX7_drawOn 45 = .ok (.aload_n 0, 1) := by decide +kernel
theorem dX7_drawOn_46 : decode cX7_drawOn 46 = .ok (.bipush 12, 2) := by decide +kernel
theorem dX7_drawOn_48 : decode cX7_drawOn 48 = .ok (.aload_n 0, 1) := by decide +kernel
theorem dX7_drawOn_49 : decode cX7_drawOn 49 = .ok (.bipush 13, 2) := by decide +kernel
theorem dX7_drawOn_51 : decode cX7_drawOn 51 = .ok (.iaload, 1) := by decide +kernel
theorem dX7_drawOn_52 : decode cX7_drawOn 52 = .ok (.aload_n 0, 1) := by decide +kernel
theorem dX7_drawOn_53 : decode cX7_drawOn 53 = .ok (.bipush 11, 2) := by decide +kernel
theorem dX7_drawOn_55 : decode cX7_drawOn 55 = .ok (.iaload, 1) := by decide +kernel
theorem dX7_drawOn_56 : decode cX7_drawOn 56 = .ok (.invokestatic 129, 3) := by decide +kernel
theorem dX7_drawOn_59 : decode cX7_drawOn 59 = .ok (.ifCond .eq 7, 3) := by decide +kernel
theorem dX7_drawOn_62 : decode cX7_drawOn 62 = .ok (.iconst 0, 1) := by decide +kernel
theorem dX7_drawOn_63 : decode cX7_drawOn 63 = .ok (.goto 4, 3) := by decide +kernel
theorem dX7_drawOn_66 : decode cX7_drawOn 66 = .ok (.iconst 1, 1) := by decide +kernel
theorem dX7_drawOn_67 : decode cX7_drawOn 67 = .ok (.iastore, 1) := by decide +kernel
theorem dX7_drawOn_68 : decode cX7_drawOn 68 = .ok (.aload_n 0, 1) := by decide +kernel
theorem dX7_drawOn_69 : decode cX7_drawOn 69 = .ok (.bipush 11, 2) := by decide +kernel
theorem dX7_drawOn_71 : decode cX7_drawOn 71 = .ok (.dup2, 1) := by decide +kernel
theorem dX7_drawOn_72 : decode cX7_drawOn 72 = .ok (.iaload, 1) := by decide +kernel
theorem dX7_drawOn_73 : decode cX7_drawOn 73 = .ok (.iconst 1, 1) := by decide +kernel
theorem dX7_drawOn_74 : decode cX7_drawOn 74 = .ok (.iadd, 1) := by decide +kernel
theorem dX7_drawOn_75 : decode cX7_drawOn 75 = .ok (.iastore, 1) := by decide +kernel
theorem dX7_drawOn_76 : decode cX7_drawOn 76 = .ok (.iload_n 2, 1) := by decide +kernel
theorem dX7_drawOn_77 : decode cX7_drawOn 77 = .ok (.ireturn, 1) := by decide +kernel
theorem dX7_touch_0 : decode cX7_touch 0 = .ok (.aload_n 0, 1) := by decide +kernel
theorem dX7_touch_1 : decode cX7_touch 1 = .ok (.bipush 12, 2) := by decide +kernel
theorem dX7_touch_3 : decode cX7_touch 3 = .ok (.iload_n 1, 1) := by decide +kernel
theorem dX7_touch_4 : decode cX7_touch 4 = .ok (.aload_n 0, 1) := by decide +kernel
theorem dX7_touch_5 : decode cX7_touch 5 = .ok (.bipush 11, 2) := by decide +kernel
theorem dX7_touch_7 : decode cX7_touch 7 = .ok (.iaload, 1) := by decide +kernel
theorem dX7_touch_8 : decode cX7_touch 8 = .ok (.iconst 1, 1) := by decide +kernel
theorem dX7_touch_9 : decode cX7_touch 9 = .ok (.isub, 1) := by decide +kernel
theorem dX7_touch_10 : decode cX7_touch 10 = .ok (.if_icmp .ne 7, 3) := by decide +kernel
theorem dX7_touch_13 : decode cX7_touch 13 = .ok (.iconst 0, 1) := by decide +kernel
theorem dX7_touch_14 : decode cX7_touch 14 = .ok (.goto 7, 3) := by decide +kernel
theorem dX7_touch_17 : decode cX7_touch 17 = .ok (.aload_n 0, 1) := by decide +kernel
theorem dX7_touch_18 : decode cX7_touch 18 = .ok (.bipush 12, 2) := by decide +kernel
theorem dX7_touch_20 : decode cX7_touch 20 = .ok (.iaload, 1) := by decide +kernel
theorem dX7_touch_21 : decode cX7_touch 21 = .ok (.iastore, 1) := by decide +kernel
theorem dX7_touch_22 : decode cX7_touch 22 = .ok (.return_, 1) := by decide +kernel
theorem dX7_draw_0 : decode cX7_draw 0 = .ok (.iload_n 1, 1) := by decide +kernel
theorem dX7_draw_1 : decode cX7_draw 1 = .ok (.iconst 0, 1) := by decide +kernel
theorem dX7_draw_2 : decode cX7_draw 2 = .ok (.aload_n 0, 1) := by decide +kernel
theorem dX7_draw_3 : decode cX7_draw 3 = .ok (.getfield 32, 3) := by decide +kernel
theorem dX7_draw_6 : decode cX7_draw 6 = .ok (.invokestatic 147, 3) := by decide +kernel
theorem dX7_draw_9 : decode cX7_draw 9 = .ok (.iconst 1, 1) := by decide +kernel
theorem dX7_draw_10 : decode cX7_draw 10 = .ok (.isub, 1) := by decide +kernel
theorem dX7_draw_11 : decode cX7_draw 11 = .ok (.invokestatic 60, 3) := by decide +kernel
theorem dX7_draw_14 : decode cX7_draw 14 = .ok (.ifCond .ne 5, 3) := by decide +kernel
theorem dX7_draw_17 : decode cX7_draw 17 = .ok (.iconst (-1), 1) := by decide +kernel
theorem dX7_draw_18 : decode cX7_draw 18 = .ok (.ireturn, 1) := by decide +kernel
theorem dX7_draw_19 : decode cX7_draw 19 = .ok (.aload_n 0, 1) := by decide +kernel
theorem dX7_draw_20 : decode cX7_draw 20 = .ok (.getfield 32, 3) := by decide +kernel
theorem dX7_draw_23 : decode cX7_draw 23 = .ok (.bipush 11, 2) := by decide +kernel
theorem dX7_draw_25 : decode cX7_draw 25 = .ok (.iaload, 1) := by decide +kernel
theorem dX7_draw_26 : decode cX7_draw 26 = .ok (.aload_n 0, 1) := by decide +kernel
theorem dX7_draw_27 : decode cX7_draw 27 = .ok (.getfield 17, 3) := by decide +kernel
theorem dX7_draw_30 : decode cX7_draw 30 = .ok (.iconst 0, 1) := by decide +kernel
theorem dX7_draw_31 : decode cX7_draw 31 = .ok (.iaload, 1) := by decide +kernel
theorem dX7_draw_32 : decode cX7_draw 32 = .ok (.if_icmp .ne 6, 3) := by decide +kernel
theorem dX7_draw_35 : decode cX7_draw 35 = .ok (.bipush (-2), 2) := by decide +kernel
theorem dX7_draw_37 : decode cX7_draw 37 = .ok (.ireturn, 1) := by decide +kernel
theorem dX7_draw_38 : decode cX7_draw 38 = .ok (.aload_n 0, 1) := by decide +kernel
theorem dX7_draw_39 : decode cX7_draw 39 = .ok (.invokevirtual 151, 3) := by decide +kernel
theorem dX7_draw_42 : decode cX7_draw 42 = .ok (.aload_n 0, 1) := by decide +kernel
theorem dX7_draw_43 : decode cX7_draw 43 = .ok (.getfield 32, 3) := by decide +kernel
theorem dX7_draw_46 : decode cX7_draw 46 = .ok (.iload_n 1, 1) := by decide +kernel
theorem dX7_draw_47 : decode cX7_draw 47 = .ok (.invokestatic 154, 3) := by decide +kernel
theorem dX7_draw_50 : decode cX7_draw 50 = .ok (.ireturn, 1) := by decide +kernel
theorem dX7_refuse_0 : decode cX7_refuse 0 = .ok (.aload_n 0, 1) := by decide +kernel
theorem dX7_refuse_1 : decode cX7_refuse 1 = .ok (.getfield 32, 3) := by decide +kernel
theorem dX7_refuse_4 : decode cX7_refuse 4 = .ok (.bipush 12, 2) := by decide +kernel
theorem dX7_refuse_6 : decode cX7_refuse 6 = .ok (.iaload, 1) := by decide +kernel
theorem dX7_refuse_7 : decode cX7_refuse 7 = .ok (.ifCond .ne 6, 3) := by decide +kernel
theorem dX7_refuse_10 : decode cX7_refuse 10 = .ok (.bipush (-2), 2) := by decide +kernel
theorem dX7_refuse_12 : decode cX7_refuse 12 = .ok (.ireturn, 1) := by decide +kernel
theorem dX7_refuse_13 : decode cX7_refuse 13 = .ok (.aload_n 0, 1) := by decide +kernel
theorem dX7_refuse_14 : decode cX7_refuse 14 = .ok (.invokevirtual 151, 3) := by decide +kernel
theorem dX7_refuse_17 : decode cX7_refuse 17 = .ok (.aload_n 0, 1) := by decide +kernel
theorem dX7_refuse_18 : decode cX7_refuse 18 = .ok (.getfield 32, 3) := by decide +kernel
theorem dX7_refuse_21 : decode cX7_refuse 21 = .ok (.bipush 11, 2) := by decide +kernel
theorem dX7_refuse_23 : decode cX7_refuse 23 = .ok (.iaload, 1) := by decide +kernel
theorem dX7_refuse_24 : decode cX7_refuse 24 = .ok (.iconst 1, 1) := by decide +kernel
theorem dX7_refuse_25 : decode cX7_refuse 25 = .ok (.isub, 1) := by decide +kernel
theorem dX7_refuse_26 : decode cX7_refuse 26 = .ok (.istore_n 1, 1) := by decide +kernel
theorem dX7_refuse_27 : decode cX7_refuse 27 = .ok (.aload_n 0, 1) := by decide +kernel
theorem dX7_refuse_28 : decode cX7_refuse 28 = .ok (.getfield 32, 3) := by decide +kernel
theorem dX7_refuse_31 : decode cX7_refuse 31 = .ok (.bipush 11, 2) := by decide +kernel
theorem dX7_refuse_33 : decode cX7_refuse 33 = .ok (.iload_n 1, 1) := by decide +kernel
theorem dX7_refuse_34 : decode cX7_refuse 34 = .ok (.iastore, 1) := by decide +kernel
theorem dX7_refuse_35 : decode cX7_refuse 35 = .ok (.aload_n 0, 1) := by decide +kernel
theorem dX7_refuse_36 : decode cX7_refuse 36 = .ok (.getfield 32, 3) := by decide +kernel
theorem dX7_refuse_39 : decode cX7_refuse 39 = .ok (.iconst 5, 1) := by decide +kernel
theorem dX7_refuse_40 : decode cX7_refuse 40 = .ok (.iload_n 1, 1) := by decide +kernel
theorem dX7_refuse_41 : decode cX7_refuse 41 = .ok (.iadd, 1) := by decide +kernel
theorem dX7_refuse_42 : decode cX7_refuse 42 = .ok (.bipush (-4), 2) := by decide +kernel
theorem dX7_refuse_44 : decode cX7_refuse 44 = .ok (.iastore, 1) := by decide +kernel
theorem dX7_refuse_45 : decode cX7_refuse 45 = .ok (.aload_n 0, 1) := by decide +kernel
theorem dX7_refuse_46 : decode cX7_refuse 46 = .ok (.getfield 32, 3) := by decide +kernel
theorem dX7_refuse_49 : decode cX7_refuse 49 = .ok (.bipush 13, 2) := by decide +kernel
theorem dX7_refuse_51 : decode cX7_refuse 51 = .ok (.dup2, 1) := by decide +kernel
theorem dX7_refuse_52 : decode cX7_refuse 52 = .ok (.iaload, 1) := by decide +kernel
theorem dX7_refuse_53 : decode cX7_refuse 53 = .ok (.iconst 1, 1) := by decide +kernel
theorem dX7_refuse_54 : decode cX7_refuse 54 = .ok (.iload_n 1, 1) := by decide +kernel
theorem dX7_refuse_55 : decode cX7_refuse 55 = .ok (.ishl, 1) := by decide +kernel
theorem dX7_refuse_56 : decode cX7_refuse 56 = .ok (.ior, 1) := by decide +kernel
theorem dX7_refuse_57 : decode cX7_refuse 57 = .ok (.iastore, 1) := by decide +kernel
theorem dX7_refuse_58 : decode cX7_refuse 58 = .ok (.aload_n 0, 1) := by decide +kernel
theorem dX7_refuse_59 : decode cX7_refuse 59 = .ok (.getfield 32, 3) := by decide +kernel
theorem dX7_refuse_62 : decode cX7_refuse 62 = .ok (.bipush 12, 2) := by decide +kernel
theorem dX7_refuse_64 : decode cX7_refuse 64 = .ok (.iconst 0, 1) := by decide +kernel
theorem dX7_refuse_65 : decode cX7_refuse 65 = .ok (.iastore, 1) := by decide +kernel
theorem dX7_refuse_66 : decode cX7_refuse 66 = .ok (.iload_n 1, 1) := by decide +kernel
theorem dX7_refuse_67 : decode cX7_refuse 67 = .ok (.ireturn, 1) := by decide +kernel
theorem dX7_buy_0 : decode cX7_buy 0 = .ok (.aload_n 0, 1) := by decide +kernel
theorem dX7_buy_1 : decode cX7_buy 1 = .ok (.iload_n 1, 1) := by decide +kernel
theorem dX7_buy_2 : decode cX7_buy 2 = .ok (.invokevirtual 140, 3) := by decide +kernel
theorem dX7_buy_5 : decode cX7_buy 5 = .ok (.ifCond .eq 13, 3) := by decide +kernel
theorem dX7_buy_8 : decode cX7_buy 8 = .ok (.iload_n 2, 1) := by decide +kernel
theorem dX7_buy_9 : decode cX7_buy 9 = .ok (.iconst 1, 1) := by decide +kernel
theorem dX7_buy_10 : decode cX7_buy 10 = .ok (.bipush 9, 2) := by decide +kernel
theorem dX7_buy_12 : decode cX7_buy 12 = .ok (.invokestatic 60, 3) := by decide +kernel
theorem dX7_buy_15 : decode cX7_buy 15 = .ok (.ifCond .ne 5, 3) := by decide +kernel
theorem dX7_buy_18 : decode cX7_buy 18 = .ok (.iconst (-1), 1) := by decide +kernel
theorem dX7_buy_19 : decode cX7_buy 19 = .ok (.ireturn, 1) := by decide +kernel
theorem dX7_buy_20 : decode cX7_buy 20 = .ok (.aload_n 0, 1) := by decide +kernel
theorem dX7_buy_21 : decode cX7_buy 21 = .ok (.getfield 32, 3) := by decide +kernel
theorem dX7_buy_24 : decode cX7_buy 24 = .ok (.iconst 0, 1) := by decide +kernel
theorem dX7_buy_25 : decode cX7_buy 25 = .ok (.iload_n 1, 1) := by decide +kernel
theorem dX7_buy_26 : decode cX7_buy 26 = .ok (.iadd, 1) := by decide +kernel
theorem dX7_buy_27 : decode cX7_buy 27 = .ok (.iaload, 1) := by decide +kernel
theorem dX7_buy_28 : decode cX7_buy 28 = .ok (.iload_n 2, 1) := by decide +kernel
theorem dX7_buy_29 : decode cX7_buy 29 = .ok (.iadd, 1) := by decide +kernel
theorem dX7_buy_30 : decode cX7_buy 30 = .ok (.bipush 9, 2) := by decide +kernel
theorem dX7_buy_32 : decode cX7_buy 32 = .ok (.if_icmp .le 6, 3) := by decide +kernel
theorem dX7_buy_35 : decode cX7_buy 35 = .ok (.bipush (-3), 2) := by decide +kernel
theorem dX7_buy_37 : decode cX7_buy 37 = .ok (.ireturn, 1) := by decide +kernel
theorem dX7_buy_38 : decode cX7_buy 38 = .ok (.aload_n 0, 1) := by decide +kernel
theorem dX7_buy_39 : decode cX7_buy 39 = .ok (.invokevirtual 151, 3) := by decide +kernel
theorem dX7_buy_42 : decode cX7_buy 42 = .ok (.aload_n 0, 1) := by decide +kernel
theorem dX7_buy_43 : decode cX7_buy 43 = .ok (.getfield 32, 3) := by decide +kernel
theorem dX7_buy_46 : decode cX7_buy 46 = .ok (.iconst 0, 1) := by decide +kernel
theorem dX7_buy_47 : decode cX7_buy 47 = .ok (.iload_n 1, 1) := by decide +kernel
theorem dX7_buy_48 : decode cX7_buy 48 = .ok (.iadd, 1) := by decide +kernel
theorem dX7_buy_49 : decode cX7_buy 49 = .ok (.dup2, 1) := by decide +kernel
theorem dX7_buy_50 : decode cX7_buy 50 = .ok (.iaload, 1) := by decide +kernel
theorem dX7_buy_51 : decode cX7_buy 51 = .ok (.iload_n 2, 1) := by decide +kernel
theorem dX7_buy_52 : decode cX7_buy 52 = .ok (.iadd, 1) := by decide +kernel
theorem dX7_buy_53 : decode cX7_buy 53 = .ok (.iastore, 1) := by decide +kernel
theorem dX7_buy_54 : decode cX7_buy 54 = .ok (.aload_n 0, 1) := by decide +kernel
theorem dX7_buy_55 : decode cX7_buy 55 = .ok (.getfield 32, 3) := by decide +kernel
theorem dX7_buy_58 : decode cX7_buy 58 = .ok (.iconst 0, 1) := by decide +kernel
theorem dX7_buy_59 : decode cX7_buy 59 = .ok (.iload_n 1, 1) := by decide +kernel
theorem dX7_buy_60 : decode cX7_buy 60 = .ok (.iadd, 1) := by decide +kernel
theorem dX7_buy_61 : decode cX7_buy 61 = .ok (.iaload, 1) := by decide +kernel
theorem dX7_buy_62 : decode cX7_buy 62 = .ok (.ireturn, 1) := by decide +kernel
theorem dX7_hand_0 : decode cX7_hand 0 = .ok (.aload_n 0, 1) := by decide +kernel
theorem dX7_hand_1 : decode cX7_hand 1 = .ok (.iload_n 1, 1) := by decide +kernel
theorem dX7_hand_2 : decode cX7_hand 2 = .ok (.invokevirtual 140, 3) := by decide +kernel
theorem dX7_hand_5 : decode cX7_hand 5 = .ok (.ifCond .eq 16, 3) := by decide +kernel
theorem dX7_hand_8 : decode cX7_hand 8 = .ok (.aload_n 0, 1) := by decide +kernel
theorem dX7_hand_9 : decode cX7_hand 9 = .ok (.iload_n 2, 1) := by decide +kernel
theorem dX7_hand_10 : decode cX7_hand 10 = .ok (.invokevirtual 140, 3) := by decide +kernel
theorem dX7_hand_13 : decode cX7_hand 13 = .ok (.ifCond .eq 8, 3) := by decide +kernel
theorem dX7_hand_16 : decode cX7_hand 16 = .ok (.iload_n 1, 1) := by decide +kernel
theorem dX7_hand_17 : decode cX7_hand 17 = .ok (.iload_n 2, 1) := by decide +kernel
theorem dX7_hand_18 : decode cX7_hand 18 = .ok (.if_icmp .ne 5, 3) := by decide +kernel
theorem dX7_hand_21 : decode cX7_hand 21 = .ok (.iconst (-1), 1) := by decide +kernel
theorem dX7_hand_22 : decode cX7_hand 22 = .ok (.ireturn, 1) := by decide +kernel
theorem dX7_hand_23 : decode cX7_hand 23 = .ok (.aload_n 0, 1) := by decide +kernel
theorem dX7_hand_24 : decode cX7_hand 24 = .ok (.getfield 32, 3) := by decide +kernel
theorem dX7_hand_27 : decode cX7_hand 27 = .ok (.iconst 0, 1) := by decide +kernel
theorem dX7_hand_28 : decode cX7_hand 28 = .ok (.iload_n 1, 1) := by decide +kernel
theorem dX7_hand_29 : decode cX7_hand 29 = .ok (.iadd, 1) := by decide +kernel
theorem dX7_hand_30 : decode cX7_hand 30 = .ok (.iaload, 1) := by decide +kernel
theorem dX7_hand_31 : decode cX7_hand 31 = .ok (.ifCond .ne 6, 3) := by decide +kernel
theorem dX7_hand_34 : decode cX7_hand 34 = .ok (.bipush (-2), 2) := by decide +kernel
theorem dX7_hand_36 : decode cX7_hand 36 = .ok (.ireturn, 1) := by decide +kernel
theorem dX7_hand_37 : decode cX7_hand 37 = .ok (.aload_n 0, 1) := by decide +kernel
theorem dX7_hand_38 : decode cX7_hand 38 = .ok (.getfield 32, 3) := by decide +kernel
theorem dX7_hand_41 : decode cX7_hand 41 = .ok (.iconst 0, 1) := by decide +kernel
theorem dX7_hand_42 : decode cX7_hand 42 = .ok (.iload_n 2, 1) := by decide +kernel
theorem dX7_hand_43 : decode cX7_hand 43 = .ok (.iadd, 1) := by decide +kernel
theorem dX7_hand_44 : decode cX7_hand 44 = .ok (.iaload, 1) := by decide +kernel
theorem dX7_hand_45 : decode cX7_hand 45 = .ok (.bipush 9, 2) := by decide +kernel
theorem dX7_hand_47 : decode cX7_hand 47 = .ok (.if_icmp .ne 6, 3) := by decide +kernel
theorem dX7_hand_50 : decode cX7_hand 50 = .ok (.bipush (-3), 2) := by decide +kernel
theorem dX7_hand_52 : decode cX7_hand 52 = .ok (.ireturn, 1) := by decide +kernel
theorem dX7_hand_53 : decode cX7_hand 53 = .ok (.aload_n 0, 1) := by decide +kernel
theorem dX7_hand_54 : decode cX7_hand 54 = .ok (.invokevirtual 151, 3) := by decide +kernel
theorem dX7_hand_57 : decode cX7_hand 57 = .ok (.aload_n 0, 1) := by decide +kernel
theorem dX7_hand_58 : decode cX7_hand 58 = .ok (.getfield 32, 3) := by decide +kernel
theorem dX7_hand_61 : decode cX7_hand 61 = .ok (.iconst 0, 1) := by decide +kernel
theorem dX7_hand_62 : decode cX7_hand 62 = .ok (.iload_n 1, 1) := by decide +kernel
theorem dX7_hand_63 : decode cX7_hand 63 = .ok (.iadd, 1) := by decide +kernel
theorem dX7_hand_64 : decode cX7_hand 64 = .ok (.dup2, 1) := by decide +kernel
theorem dX7_hand_65 : decode cX7_hand 65 = .ok (.iaload, 1) := by decide +kernel
theorem dX7_hand_66 : decode cX7_hand 66 = .ok (.iconst 1, 1) := by decide +kernel
theorem dX7_hand_67 : decode cX7_hand 67 = .ok (.isub, 1) := by decide +kernel
theorem dX7_hand_68 : decode cX7_hand 68 = .ok (.iastore, 1) := by decide +kernel
theorem dX7_hand_69 : decode cX7_hand 69 = .ok (.aload_n 0, 1) := by decide +kernel
theorem dX7_hand_70 : decode cX7_hand 70 = .ok (.getfield 32, 3) := by decide +kernel
theorem dX7_hand_73 : decode cX7_hand 73 = .ok (.iconst 0, 1) := by decide +kernel
theorem dX7_hand_74 : decode cX7_hand 74 = .ok (.iload_n 2, 1) := by decide +kernel
theorem dX7_hand_75 : decode cX7_hand 75 = .ok (.iadd, 1) := by decide +kernel
theorem dX7_hand_76 : decode cX7_hand 76 = .ok (.dup2, 1) := by decide +kernel
theorem dX7_hand_77 : decode cX7_hand 77 = .ok (.iaload, 1) := by decide +kernel
theorem dX7_hand_78 : decode cX7_hand 78 = .ok (.iconst 1, 1) := by decide +kernel
theorem dX7_hand_79 : decode cX7_hand 79 = .ok (.iadd, 1) := by decide +kernel
theorem dX7_hand_80 : decode cX7_hand 80 = .ok (.iastore, 1) := by decide +kernel
theorem dX7_hand_81 : decode cX7_hand 81 = .ok (.aload_n 0, 1) := by decide +kernel
theorem dX7_hand_82 : decode cX7_hand 82 = .ok (.getfield 32, 3) := by decide +kernel
theorem dX7_hand_85 : decode cX7_hand 85 = .ok (.iconst 0, 1) := by decide +kernel
theorem dX7_hand_86 : decode cX7_hand 86 = .ok (.iload_n 2, 1) := by decide +kernel
theorem dX7_hand_87 : decode cX7_hand 87 = .ok (.iadd, 1) := by decide +kernel
theorem dX7_hand_88 : decode cX7_hand 88 = .ok (.iaload, 1) := by decide +kernel
theorem dX7_hand_89 : decode cX7_hand 89 = .ok (.ireturn, 1) := by decide +kernel
theorem dX7_swap_0 : decode cX7_swap 0 = .ok (.aload_n 0, 1) := by decide +kernel
theorem dX7_swap_1 : decode cX7_swap 1 = .ok (.iload_n 1, 1) := by decide +kernel
theorem dX7_swap_2 : decode cX7_swap 2 = .ok (.invokevirtual 144, 3) := by decide +kernel
theorem dX7_swap_5 : decode cX7_swap 5 = .ok (.ifCond .eq 16, 3) := by decide +kernel
theorem dX7_swap_8 : decode cX7_swap 8 = .ok (.aload_n 0, 1) := by decide +kernel
theorem dX7_swap_9 : decode cX7_swap 9 = .ok (.iload_n 2, 1) := by decide +kernel
theorem dX7_swap_10 : decode cX7_swap 10 = .ok (.invokevirtual 144, 3) := by decide +kernel
theorem dX7_swap_13 : decode cX7_swap 13 = .ok (.ifCond .eq 8, 3) := by decide +kernel
theorem dX7_swap_16 : decode cX7_swap 16 = .ok (.iload_n 1, 1) := by decide +kernel
theorem dX7_swap_17 : decode cX7_swap 17 = .ok (.iload_n 2, 1) := by decide +kernel
theorem dX7_swap_18 : decode cX7_swap 18 = .ok (.if_icmp .ne 5, 3) := by decide +kernel
theorem dX7_swap_21 : decode cX7_swap 21 = .ok (.iconst (-1), 1) := by decide +kernel
theorem dX7_swap_22 : decode cX7_swap 22 = .ok (.ireturn, 1) := by decide +kernel
theorem dX7_swap_23 : decode cX7_swap 23 = .ok (.aload_n 0, 1) := by decide +kernel
theorem dX7_swap_24 : decode cX7_swap 24 = .ok (.getfield 32, 3) := by decide +kernel
theorem dX7_swap_27 : decode cX7_swap 27 = .ok (.iconst 5, 1) := by decide +kernel
theorem dX7_swap_28 : decode cX7_swap 28 = .ok (.iload_n 1, 1) := by decide +kernel
theorem dX7_swap_29 : decode cX7_swap 29 = .ok (.iadd, 1) := by decide +kernel
theorem dX7_swap_30 : decode cX7_swap 30 = .ok (.iaload, 1) := by decide +kernel
theorem dX7_swap_31 : decode cX7_swap 31 = .ok (.istore_n 3, 1) := by decide +kernel
theorem dX7_swap_32 : decode cX7_swap 32 = .ok (.aload_n 0, 1) := by decide +kernel
theorem dX7_swap_33 : decode cX7_swap 33 = .ok (.getfield 32, 3) := by decide +kernel
theorem dX7_swap_36 : decode cX7_swap 36 = .ok (.iconst 5, 1) := by decide +kernel
theorem dX7_swap_37 : decode cX7_swap 37 = .ok (.iload_n 2, 1) := by decide +kernel
theorem dX7_swap_38 : decode cX7_swap 38 = .ok (.iadd, 1) := by decide +kernel
theorem dX7_swap_39 : decode cX7_swap 39 = .ok (.iaload, 1) := by decide +kernel
theorem dX7_swap_40 : decode cX7_swap 40 = .ok (.istore 4, 2) := by decide +kernel
theorem dX7_swap_42 : decode cX7_swap 42 = .ok (.iload_n 3, 1) := by decide +kernel
theorem dX7_swap_43 : decode cX7_swap 43 = .ok (.bipush (-4), 2) := by decide +kernel
theorem dX7_swap_45 : decode cX7_swap 45 = .ok (.if_icmp .eq 16, 3) := by decide +kernel
theorem dX7_swap_48 : decode cX7_swap 48 = .ok (.iload 4, 2) := by decide +kernel
theorem dX7_swap_50 : decode cX7_swap 50 = .ok (.bipush (-4), 2) := by decide +kernel
theorem dX7_swap_52 : decode cX7_swap 52 = .ok (.if_icmp .eq 9, 3) := by decide +kernel
theorem dX7_swap_55 : decode cX7_swap 55 = .ok (.iload_n 3, 1) := by decide +kernel
theorem dX7_swap_56 : decode cX7_swap 56 = .ok (.iload 4, 2) := by decide +kernel
theorem dX7_swap_58 : decode cX7_swap 58 = .ok (.if_icmp .ne 6, 3) := by decide +kernel
theorem dX7_swap_61 : decode cX7_swap 61 = .ok (.bipush (-2), 2) := by decide +kernel
theorem dX7_swap_63 : decode cX7_swap 63 = .ok (.ireturn, 1) := by decide +kernel
theorem dX7_swap_64 : decode cX7_swap 64 = .ok (.aload_n 0, 1) := by decide +kernel
theorem dX7_swap_65 : decode cX7_swap 65 = .ok (.invokevirtual 151, 3) := by decide +kernel
theorem dX7_swap_68 : decode cX7_swap 68 = .ok (.aload_n 0, 1) := by decide +kernel
theorem dX7_swap_69 : decode cX7_swap 69 = .ok (.getfield 32, 3) := by decide +kernel
theorem dX7_swap_72 : decode cX7_swap 72 = .ok (.iconst 5, 1) := by decide +kernel
theorem dX7_swap_73 : decode cX7_swap 73 = .ok (.iload_n 1, 1) := by decide +kernel
theorem dX7_swap_74 : decode cX7_swap 74 = .ok (.iadd, 1) := by decide +kernel
theorem dX7_swap_75 : decode cX7_swap 75 = .ok (.iload 4, 2) := by decide +kernel
theorem dX7_swap_77 : decode cX7_swap 77 = .ok (.iastore, 1) := by decide +kernel
theorem dX7_swap_78 : decode cX7_swap 78 = .ok (.aload_n 0, 1) := by decide +kernel
theorem dX7_swap_79 : decode cX7_swap 79 = .ok (.getfield 32, 3) := by decide +kernel
theorem dX7_swap_82 : decode cX7_swap 82 = .ok (.iconst 5, 1) := by decide +kernel
theorem dX7_swap_83 : decode cX7_swap 83 = .ok (.iload_n 2, 1) := by decide +kernel
theorem dX7_swap_84 : decode cX7_swap 84 = .ok (.iadd, 1) := by decide +kernel
theorem dX7_swap_85 : decode cX7_swap 85 = .ok (.iload_n 3, 1) := by decide +kernel
theorem dX7_swap_86 : decode cX7_swap 86 = .ok (.iastore, 1) := by decide +kernel
theorem dX7_swap_87 : decode cX7_swap 87 = .ok (.aload_n 0, 1) := by decide +kernel
theorem dX7_swap_88 : decode cX7_swap 88 = .ok (.getfield 32, 3) := by decide +kernel
theorem dX7_swap_91 : decode cX7_swap 91 = .ok (.iload_n 1, 1) := by decide +kernel
theorem dX7_swap_92 : decode cX7_swap 92 = .ok (.invokestatic 157, 3) := by decide +kernel
theorem dX7_swap_95 : decode cX7_swap 95 = .ok (.aload_n 0, 1) := by decide +kernel
theorem dX7_swap_96 : decode cX7_swap 96 = .ok (.getfield 32, 3) := by decide +kernel
theorem dX7_swap_99 : decode cX7_swap 99 = .ok (.iload_n 2, 1) := by decide +kernel
theorem dX7_swap_100 : decode cX7_swap 100 = .ok (.invokestatic 157, 3) := by decide +kernel
theorem dX7_swap_103 : decode cX7_swap 103 = .ok (.iload 4, 2) := by decide +kernel
theorem dX7_swap_105 : decode cX7_swap 105 = .ok (.ireturn, 1) := by decide +kernel
theorem dX7_give_0 : decode cX7_give 0 = .ok (.aload_n 0, 1) := by decide +kernel
theorem dX7_give_1 : decode cX7_give 1 = .ok (.iload_n 1, 1) := by decide +kernel
theorem dX7_give_2 : decode cX7_give 2 = .ok (.invokevirtual 144, 3) := by decide +kernel
theorem dX7_give_5 : decode cX7_give 5 = .ok (.ifCond .eq 11, 3) := by decide +kernel
theorem dX7_give_8 : decode cX7_give 8 = .ok (.aload_n 0, 1) := by decide +kernel
theorem dX7_give_9 : decode cX7_give 9 = .ok (.iload_n 2, 1) := by decide +kernel
theorem dX7_give_10 : decode cX7_give 10 = .ok (.invokevirtual 140, 3) := by decide +kernel
theorem dX7_give_13 : decode cX7_give 13 = .ok (.ifCond .ne 5, 3) := by decide +kernel
theorem dX7_give_16 : decode cX7_give 16 = .ok (.iconst (-1), 1) := by decide +kernel
theorem dX7_give_17 : decode cX7_give 17 = .ok (.ireturn, 1) := by decide +kernel
theorem dX7_give_18 : decode cX7_give 18 = .ok (.aload_n 0, 1) := by decide +kernel
theorem dX7_give_19 : decode cX7_give 19 = .ok (.getfield 32, 3) := by decide +kernel
theorem dX7_give_22 : decode cX7_give 22 = .ok (.iconst 5, 1) := by decide +kernel
theorem dX7_give_23 : decode cX7_give 23 = .ok (.iload_n 1, 1) := by decide +kernel
theorem dX7_give_24 : decode cX7_give 24 = .ok (.iadd, 1) := by decide +kernel
theorem dX7_give_25 : decode cX7_give 25 = .ok (.iaload, 1) := by decide +kernel
theorem dX7_give_26 : decode cX7_give 26 = .ok (.istore_n 3, 1) := by decide +kernel
theorem dX7_give_27 : decode cX7_give 27 = .ok (.iload_n 3, 1) := by decide +kernel
theorem dX7_give_28 : decode cX7_give 28 = .ok (.bipush (-4), 2) := by decide +kernel
theorem dX7_give_30 : decode cX7_give 30 = .ok (.if_icmp .eq 8, 3) := by decide +kernel
theorem dX7_give_33 : decode cX7_give 33 = .ok (.iload_n 3, 1) := by decide +kernel
theorem dX7_give_34 : decode cX7_give 34 = .ok (.iload_n 2, 1) := by decide +kernel
theorem dX7_give_35 : decode cX7_give 35 = .ok (.if_icmp .ne 6, 3) := by decide +kernel
theorem dX7_give_38 : decode cX7_give 38 = .ok (.bipush (-2), 2) := by decide +kernel
theorem dX7_give_40 : decode cX7_give 40 = .ok (.ireturn, 1) := by decide +kernel
theorem dX7_give_41 : decode cX7_give 41 = .ok (.aload_n 0, 1) := by decide +kernel
theorem dX7_give_42 : decode cX7_give 42 = .ok (.invokevirtual 151, 3) := by decide +kernel
theorem dX7_give_45 : decode cX7_give 45 = .ok (.aload_n 0, 1) := by decide +kernel
theorem dX7_give_46 : decode cX7_give 46 = .ok (.getfield 32, 3) := by decide +kernel
theorem dX7_give_49 : decode cX7_give 49 = .ok (.iconst 5, 1) := by decide +kernel
theorem dX7_give_50 : decode cX7_give 50 = .ok (.iload_n 1, 1) := by decide +kernel
theorem dX7_give_51 : decode cX7_give 51 = .ok (.iadd, 1) := by decide +kernel
theorem dX7_give_52 : decode cX7_give 52 = .ok (.iload_n 2, 1) := by decide +kernel
theorem dX7_give_53 : decode cX7_give 53 = .ok (.iastore, 1) := by decide +kernel
theorem dX7_give_54 : decode cX7_give 54 = .ok (.aload_n 0, 1) := by decide +kernel
theorem dX7_give_55 : decode cX7_give 55 = .ok (.getfield 32, 3) := by decide +kernel
theorem dX7_give_58 : decode cX7_give 58 = .ok (.iload_n 1, 1) := by decide +kernel
theorem dX7_give_59 : decode cX7_give 59 = .ok (.invokestatic 157, 3) := by decide +kernel
theorem dX7_give_62 : decode cX7_give 62 = .ok (.iload_n 3, 1) := by decide +kernel
theorem dX7_give_63 : decode cX7_give 63 = .ok (.ireturn, 1) := by decide +kernel
theorem dX7_undo_0 : decode cX7_undo 0 = .ok (.aload_n 0, 1) := by decide +kernel
theorem dX7_undo_1 : decode cX7_undo 1 = .ok (.getfield 120, 3) := by decide +kernel
theorem dX7_undo_4 : decode cX7_undo 4 = .ok (.ifCond .ne 6, 3) := by decide +kernel
theorem dX7_undo_7 : decode cX7_undo 7 = .ok (.bipush (-2), 2) := by decide +kernel
theorem dX7_undo_9 : decode cX7_undo 9 = .ok (.ireturn, 1) := by decide +kernel
theorem dX7_undo_10 : decode cX7_undo 10 = .ok (.aload_n 0, 1) := by decide +kernel
theorem dX7_undo_11 : decode cX7_undo 11 = .ok (.dup, 1) := by decide +kernel
theorem dX7_undo_12 : decode cX7_undo 12 = .ok (.getfield 120, 3) := by decide +kernel
theorem dX7_undo_15 : decode cX7_undo 15 = .ok (.iconst 1, 1) := by decide +kernel
theorem dX7_undo_16 : decode cX7_undo 16 = .ok (.isub, 1) := by decide +kernel
theorem dX7_undo_17 : decode cX7_undo 17 = .ok (.putfield 120, 3) := by decide +kernel
theorem dX7_undo_20 : decode cX7_undo 20 = .ok (.iconst 0, 1) := by decide +kernel
theorem dX7_undo_21 : decode cX7_undo 21 = .ok (.istore_n 1, 1) := by decide +kernel
theorem dX7_undo_22 : decode cX7_undo 22 = .ok (.iload_n 1, 1) := by decide +kernel
theorem dX7_undo_23 : decode cX7_undo 23 = .ok (.bipush 14, 2) := by decide +kernel
theorem dX7_undo_25 : decode cX7_undo 25 = .ok (.if_icmp .ge 29, 3) := by decide +kernel
theorem dX7_undo_28 : decode cX7_undo 28 = .ok (.aload_n 0, 1) := by decide +kernel
theorem dX7_undo_29 : decode cX7_undo 29 = .ok (.getfield 32, 3) := by decide +kernel
theorem dX7_undo_32 : decode cX7_undo 32 = .ok (.iload_n 1, 1) := by decide +kernel
theorem dX7_undo_33 : decode cX7_undo 33 = .ok (.aload_n 0, 1) := by decide +kernel
theorem dX7_undo_34 : decode cX7_undo 34 = .ok (.getfield 35, 3) := by decide +kernel
theorem dX7_undo_37 : decode cX7_undo 37 = .ok (.bipush 14, 2) := by decide +kernel
theorem dX7_undo_39 : decode cX7_undo 39 = .ok (.aload_n 0, 1) := by decide +kernel
theorem dX7_undo_40 : decode cX7_undo 40 = .ok (.getfield 120, 3) := by decide +kernel
theorem dX7_undo_43 : decode cX7_undo 43 = .ok (.imul, 1) := by decide +kernel
theorem dX7_undo_44 : decode cX7_undo 44 = .ok (.iload_n 1, 1) := by decide +kernel
theorem dX7_undo_45 : decode cX7_undo 45 = .ok (.iadd, 1) := by decide +kernel
theorem dX7_undo_46 : decode cX7_undo 46 = .ok (.iaload, 1) := by decide +kernel
theorem dX7_undo_47 : decode cX7_undo 47 = .ok (.iastore, 1) := by decide +kernel
theorem dX7_undo_48 : decode cX7_undo 48 = .ok (.iinc 1 1, 3) := by decide +kernel
theorem dX7_undo_51 : decode cX7_undo 51 = .ok (.goto (-29), 3) := by decide +kernel
theorem dX7_undo_54 : decode cX7_undo 54 = .ok (.aload_n 0, 1) := by decide +kernel
theorem dX7_undo_55 : decode cX7_undo 55 = .ok (.getfield 120, 3) := by decide +kernel
theorem dX7_undo_58 : decode cX7_undo 58 = .ok (.ireturn, 1) := by decide +kernel
theorem dX7_common_0 : decode cX7_common 0 = .ok (.lload_n 0, 1) := by decide +kernel
theorem dX7_common_1 : decode cX7_common 1 = .ok (.lstore 4, 2) := by decide +kernel
theorem dX7_common_3 : decode cX7_common 3 = .ok (.lload_n 2, 1) := by decide +kernel
theorem dX7_common_4 : decode cX7_common 4 = .ok (.lstore 6, 2) := by decide +kernel
theorem dX7_common_6 : decode cX7_common 6 = .ok (.lload 6, 2) := by decide +kernel
theorem dX7_common_8 : decode cX7_common 8 = .ok (.lconst 0, 1) := by decide +kernel
theorem dX7_common_9 : decode cX7_common 9 = .ok (.lcmp, 1) := by decide +kernel
theorem dX7_common_10 : decode cX7_common 10 = .ok (.ifCond .eq 21, 3) := by decide +kernel
theorem dX7_common_13 : decode cX7_common 13 = .ok (.lload 4, 2) := by decide +kernel
theorem dX7_common_15 : decode cX7_common 15 = .ok (.lload 6, 2) := by decide +kernel
theorem dX7_common_17 : decode cX7_common 17 = .ok (.lrem, 1) := by decide +kernel
theorem dX7_common_18 : decode cX7_common 18 = .ok (.lstore 8, 2) := by decide +kernel
theorem dX7_common_20 : decode cX7_common 20 = .ok (.lload 6, 2) := by decide +kernel
theorem dX7_common_22 : decode cX7_common 22 = .ok (.lstore 4, 2) := by decide +kernel
theorem dX7_common_24 : decode cX7_common 24 = .ok (.lload 8, 2) := by decide +kernel
theorem dX7_common_26 : decode cX7_common 26 = .ok (.lstore 6, 2) := by decide +kernel
theorem dX7_common_28 : decode cX7_common 28 = .ok (.goto (-22), 3) := by decide +kernel
theorem dX7_common_31 : decode cX7_common 31 = .ok (.lload 4, 2) := by decide +kernel
theorem dX7_common_33 : decode cX7_common 33 = .ok (.lreturn, 1) := by decide +kernel
theorem dX7_rows_0 : decode cX7_rows 0 = .ok (.lconst 1, 1) := by decide +kernel
theorem dX7_rows_1 : decode cX7_rows 1 = .ok (.lstore_n 2, 1) := by decide +kernel
theorem dX7_rows_2 : decode cX7_rows 2 = .ok (.iconst 0, 1) := by decide +kernel
theorem dX7_rows_3 : decode cX7_rows 3 = .ok (.istore 4, 2) := by decide +kernel
theorem dX7_rows_5 : decode cX7_rows 5 = .ok (.iload 4, 2) := by decide +kernel
theorem dX7_rows_7 : decode cX7_rows 7 = .ok (.iload_n 1, 1) := by decide +kernel
theorem dX7_rows_8 : decode cX7_rows 8 = .ok (.if_icmp .ge 27, 3) := by decide +kernel
theorem dX7_rows_11 : decode cX7_rows 11 = .ok (.lload_n 2, 1) := by decide +kernel
theorem dX7_rows_12 : decode cX7_rows 12 = .ok (.iload_n 0, 1) := by decide +kernel
theorem dX7_rows_13 : decode cX7_rows 13 = .ok (.iload 4, 2) := by decide +kernel
theorem dX7_rows_15 : decode cX7_rows 15 = .ok (.if_icmp .le 11, 3) := by decide +kernel
theorem dX7_rows_18 : decode cX7_rows 18 = .ok (.iload_n 0, 1) := by decide +kernel
theorem dX7_rows_19 : decode cX7_rows 19 = .ok (.iload 4, 2) := by decide +kernel
theorem dX7_rows_21 : decode cX7_rows 21 = .ok (.isub, 1) := by decide +kernel
theorem dX7_rows_22 : decode cX7_rows 22 = .ok (.i2l, 1) := by decide +kernel
theorem dX7_rows_23 : decode cX7_rows 23 = .ok (.goto 4, 3) := by decide +kernel
theorem dX7_rows_26 : decode cX7_rows 26 = .ok (.lconst 0, 1) := by decide +kernel
theorem dX7_rows_27 : decode cX7_rows 27 = .ok (.lmul, 1) := by decide +kernel
theorem dX7_rows_28 : decode cX7_rows 28 = .ok (.lstore_n 2, 1) := by decide +kernel
theorem dX7_rows_29 : decode cX7_rows 29 = .ok (.iinc 4 1, 3) := by decide +kernel
theorem dX7_rows_32 : decode cX7_rows 32 = .ok (.goto (-27), 3) := by decide +kernel
theorem dX7_rows_35 : decode cX7_rows 35 = .ok (.lload_n 2, 1) := by decide +kernel
theorem dX7_rows_36 : decode cX7_rows 36 = .ok (.lreturn, 1) := by decide +kernel
theorem dX7_drawn_0 : decode cX7_drawn 0 = .ok (.aload_n 0, 1) := by decide +kernel
theorem dX7_drawn_1 : decode cX7_drawn 1 = .ok (.getfield 17, 3) := by decide +kernel
theorem dX7_drawn_4 : decode cX7_drawn 4 = .ok (.iconst 0, 1) := by decide +kernel
theorem dX7_drawn_5 : decode cX7_drawn 5 = .ok (.iaload, 1) := by decide +kernel
theorem dX7_drawn_6 : decode cX7_drawn 6 = .ok (.aload_n 0, 1) := by decide +kernel
theorem dX7_drawn_7 : decode cX7_drawn 7 = .ok (.getfield 32, 3) := by decide +kernel
theorem dX7_drawn_10 : decode cX7_drawn 10 = .ok (.bipush 11, 2) := by decide +kernel
theorem dX7_drawn_12 : decode cX7_drawn 12 = .ok (.iaload, 1) := by decide +kernel
theorem dX7_drawn_13 : decode cX7_drawn 13 = .ok (.isub, 1) := by decide +kernel
theorem dX7_drawn_14 : decode cX7_drawn 14 = .ok (.istore_n 3, 1) := by decide +kernel
theorem dX7_drawn_15 : decode cX7_drawn 15 = .ok (.iload_n 1, 1) := by decide +kernel
theorem dX7_drawn_16 : decode cX7_drawn 16 = .ok (.iload_n 3, 1) := by decide +kernel
theorem dX7_drawn_17 : decode cX7_drawn 17 = .ok (.if_icmp .ge 7, 3) := by decide +kernel
theorem dX7_drawn_20 : decode cX7_drawn 20 = .ok (.iload_n 1, 1) := by decide +kernel
theorem dX7_drawn_21 : decode cX7_drawn 21 = .ok (.goto 4, 3) := by decide +kernel
theorem dX7_drawn_24 : decode cX7_drawn 24 = .ok (.iload_n 3, 1) := by decide +kernel
theorem dX7_drawn_25 : decode cX7_drawn 25 = .ok (.istore_n 3, 1) := by decide +kernel
theorem dX7_drawn_26 : decode cX7_drawn 26 = .ok (.iload_n 2, 1) := by decide +kernel
theorem dX7_drawn_27 : decode cX7_drawn 27 = .ok (.iload_n 3, 1) := by decide +kernel
theorem dX7_drawn_28 : decode cX7_drawn 28 = .ok (.if_icmp .ge 7, 3) := by decide +kernel
theorem dX7_drawn_31 : decode cX7_drawn 31 = .ok (.iload_n 2, 1) := by decide +kernel
theorem dX7_drawn_32 : decode cX7_drawn 32 = .ok (.goto 4, 3) := by decide +kernel
theorem dX7_drawn_35 : decode cX7_drawn 35 = .ok (.iload_n 3, 1) := by decide +kernel
theorem dX7_drawn_36 : decode cX7_drawn 36 = .ok (.ireturn, 1) := by decide +kernel
theorem dX7_wins_0 : decode cX7_wins 0 = .ok (.aload_n 0, 1) := by decide +kernel
theorem dX7_wins_1 : decode cX7_wins 1 = .ok (.iload_n 1, 1) := by decide +kernel
theorem dX7_wins_2 : decode cX7_wins 2 = .ok (.invokevirtual 140, 3) := by decide +kernel
theorem dX7_wins_5 : decode cX7_wins 5 = .ok (.ifCond .eq 22, 3) := by decide +kernel
theorem dX7_wins_8 : decode cX7_wins 8 = .ok (.iload_n 2, 1) := by decide +kernel
theorem dX7_wins_9 : decode cX7_wins 9 = .ok (.iconst 1, 1) := by decide +kernel
theorem dX7_wins_10 : decode cX7_wins 10 = .ok (.bipush 6, 2) := by decide +kernel
theorem dX7_wins_12 : decode cX7_wins 12 = .ok (.invokestatic 60, 3) := by decide +kernel
theorem dX7_wins_15 : decode cX7_wins 15 = .ok (.ifCond .eq 12, 3) := by decide +kernel
theorem dX7_wins_18 : decode cX7_wins 18 = .ok (.iload_n 3, 1) := by decide +kernel
theorem dX7_wins_19 : decode cX7_wins 19 = .ok (.iconst 0, 1) := by decide +kernel
theorem dX7_wins_20 : decode cX7_wins 20 = .ok (.iconst 1, 1) := by decide +kernel
theorem dX7_wins_21 : decode cX7_wins 21 = .ok (.invokestatic 60, 3) := by decide +kernel
theorem dX7_wins_24 : decode cX7_wins 24 = .ok (.ifCond .ne 5, 3) := by decide +kernel
theorem dX7_wins_27 : decode cX7_wins 27 = .ok (.iconst (-1), 1) := by decide +kernel
theorem dX7_wins_28 : decode cX7_wins 28 = .ok (.ireturn, 1) := by decide +kernel
theorem dX7_wins_29 : decode cX7_wins 29 = .ok (.aload_n 0, 1) := by decide +kernel
theorem dX7_wins_30 : decode cX7_wins 30 = .ok (.getfield 32, 3) := by decide +kernel
theorem dX7_wins_33 : decode cX7_wins 33 = .ok (.invokestatic 147, 3) := by decide +kernel
theorem dX7_wins_36 : decode cX7_wins 36 = .ok (.istore 4, 2) := by decide +kernel
theorem dX7_wins_38 : decode cX7_wins 38 = .ok (.aload_n 0, 1) := by decide +kernel
theorem dX7_wins_39 : decode cX7_wins 39 = .ok (.iload_n 2, 1) := by decide +kernel
theorem dX7_wins_40 : decode cX7_wins 40 = .ok (.iload 4, 2) := by decide +kernel
theorem dX7_wins_42 : decode cX7_wins 42 = .ok (.invokevirtual 161, 3) := by decide +kernel
theorem dX7_wins_45 : decode cX7_wins 45 = .ok (.istore 5, 2) := by decide +kernel
theorem dX7_wins_47 : decode cX7_wins 47 = .ok (.iload 4, 2) := by decide +kernel
theorem dX7_wins_49 : decode cX7_wins 49 = .ok (.iload 5, 2) := by decide +kernel
theorem dX7_wins_51 : decode cX7_wins 51 = .ok (.invokestatic 164, 3) := by decide +kernel
theorem dX7_wins_54 : decode cX7_wins 54 = .ok (.lstore 6, 2) := by decide +kernel
theorem dX7_wins_56 : decode cX7_wins 56 = .ok (.lload 6, 2) := by decide +kernel
theorem dX7_wins_58 : decode cX7_wins 58 = .ok (.iload 4, 2) := by decide +kernel
theorem dX7_wins_60 : decode cX7_wins 60 = .ok (.aload_n 0, 1) := by decide +kernel
theorem dX7_wins_61 : decode cX7_wins 61 = .ok (.getfield 32, 3) := by decide +kernel
theorem dX7_wins_64 : decode cX7_wins 64 = .ok (.iconst 0, 1) := by decide +kernel
theorem dX7_wins_65 : decode cX7_wins 65 = .ok (.iload_n 1, 1) := by decide +kernel
theorem dX7_wins_66 : decode cX7_wins 66 = .ok (.iadd, 1) := by decide +kernel
theorem dX7_wins_67 : decode cX7_wins 67 = .ok (.iaload, 1) := by decide +kernel
theorem dX7_wins_68 : decode cX7_wins 68 = .ok (.isub, 1) := by decide +kernel
theorem dX7_wins_69 : decode cX7_wins 69 = .ok (.iload 5, 2) := by decide +kernel
theorem dX7_wins_71 : decode cX7_wins 71 = .ok (.invokestatic 164, 3) := by decide +kernel
theorem dX7_wins_74 : decode cX7_wins 74 = .ok (.lsub, 1) := by decide +kernel
theorem dX7_wins_75 : decode cX7_wins 75 = .ok (.lstore 8, 2) := by decide +kernel
theorem dX7_wins_77 : decode cX7_wins 77 = .ok (.lload 8, 2) := by decide +kernel
theorem dX7_wins_79 : decode cX7_wins 79 = .ok (.lload 6, 2) := by decide +kernel
theorem dX7_wins_81 : decode cX7_wins 81 = .ok (.invokestatic 168, 3) := by decide +kernel
theorem dX7_wins_84 : decode cX7_wins 84 = .ok (.lstore 10, 2) := by decide +kernel
theorem dX7_wins_86 : decode cX7_wins 86 = .ok (.iload_n 3, 1) := by decide +kernel
theorem dX7_wins_87 : decode cX7_wins 87 = .ok (.ifCond .ne 11, 3) := by decide +kernel
theorem dX7_wins_90 : decode cX7_wins 90 = .ok (.lload 8, 2) := by decide +kernel
theorem dX7_wins_92 : decode cX7_wins 92 = .ok (.lload 10, 2) := by decide +kernel
theorem dX7_wins_94 : decode cX7_wins 94 = .ok (.ldiv, 1) := by decide +kernel
theorem dX7_wins_95 : decode cX7_wins 95 = .ok (.goto 8, 3) := by decide +kernel
theorem dX7_wins_98 : decode cX7_wins 98 = .ok (.lload 6, 2) := by decide +kernel
theorem dX7_wins_100 : decode cX7_wins 100 = .ok (.lload 10, 2) := by decide +kernel
theorem dX7_wins_102 : decode cX7_wins 102 = .ok (.ldiv, 1) := by decide +kernel
theorem dX7_wins_103 : decode cX7_wins 103 = .ok (.l2i, 1) := by decide +kernel
theorem dX7_wins_104 : decode cX7_wins 104 = .ok (.ireturn, 1) := by decide +kernel
theorem dX7_mean_0 : decode cX7_mean 0 = .ok (.aload_n 0, 1) := by decide +kernel
theorem dX7_mean_1 : decode cX7_mean 1 = .ok (.iload_n 1, 1) := by decide +kernel
theorem dX7_mean_2 : decode cX7_mean 2 = .ok (.invokevirtual 140, 3) := by decide +kernel
theorem dX7_mean_5 : decode cX7_mean 5 = .ok (.ifCond .eq 12, 3) := by decide +kernel
theorem dX7_mean_8 : decode cX7_mean 8 = .ok (.iload_n 2, 1) := by decide +kernel
theorem dX7_mean_9 : decode cX7_mean 9 = .ok (.iconst 0, 1) := by decide +kernel
theorem dX7_mean_10 : decode cX7_mean 10 = .ok (.iconst 1, 1) := by decide +kernel
theorem dX7_mean_11 : decode cX7_mean 11 = .ok (.invokestatic 60, 3) := by decide +kernel
theorem dX7_mean_14 : decode cX7_mean 14 = .ok (.ifCond .ne 7, 3) := by decide +kernel
theorem dX7_mean_17 : decode cX7_mean 17 = .ok (.ldc2_w 172, 3) := by decide +kernel
theorem dX7_mean_20 : decode cX7_mean 20 = .ok (.lreturn, 1) := by decide +kernel
theorem dX7_mean_21 : decode cX7_mean 21 = .ok (.aload_n 0, 1) := by decide +kernel
theorem dX7_mean_22 : decode cX7_mean 22 = .ok (.getfield 32, 3) := by decide +kernel
theorem dX7_mean_25 : decode cX7_mean 25 = .ok (.invokestatic 147, 3) := by decide +kernel
theorem dX7_mean_28 : decode cX7_mean 28 = .ok (.istore_n 3, 1) := by decide +kernel
theorem dX7_mean_29 : decode cX7_mean 29 = .ok (.aload_n 0, 1) := by decide +kernel
theorem dX7_mean_30 : decode cX7_mean 30 = .ok (.getfield 32, 3) := by decide +kernel
theorem dX7_mean_33 : decode cX7_mean 33 = .ok (.iconst 0, 1) := by decide +kernel
theorem dX7_mean_34 : decode cX7_mean 34 = .ok (.iload_n 1, 1) := by decide +kernel
theorem dX7_mean_35 : decode cX7_mean 35 = .ok (.iadd, 1) := by decide +kernel
theorem dX7_mean_36 : decode cX7_mean 36 = .ok (.iaload, 1) := by decide +kernel
theorem dX7_mean_37 : decode cX7_mean 37 = .ok (.istore 4, 2) := by decide +kernel
theorem dX7_mean_39 : decode cX7_mean 39 = .ok (.aload_n 0, 1) := by decide +kernel
theorem dX7_mean_40 : decode cX7_mean 40 = .ok (.bipush 6, 2) := by decide +kernel
theorem dX7_mean_42 : decode cX7_mean 42 = .ok (.iload_n 3, 1) := by decide +kernel
theorem dX7_mean_43 : decode cX7_mean 43 = .ok (.invokevirtual 161, 3) := by decide +kernel
theorem dX7_mean_46 : decode cX7_mean 46 = .ok (.istore 5, 2) := by decide +kernel
theorem dX7_mean_48 : decode cX7_mean 48 = .ok (.iload_n 3, 1) := by decide +kernel
theorem dX7_mean_49 : decode cX7_mean 49 = .ok (.iload 5, 2) := by decide +kernel
theorem dX7_mean_51 : decode cX7_mean 51 = .ok (.invokestatic 164, 3) := by decide +kernel
theorem dX7_mean_54 : decode cX7_mean 54 = .ok (.lstore 6, 2) := by decide +kernel
theorem dX7_mean_56 : decode cX7_mean 56 = .ok (.lconst 0, 1) := by decide +kernel
theorem dX7_mean_57 : decode cX7_mean 57 = .ok (.lstore 8, 2) := by decide +kernel
theorem dX7_mean_59 : decode cX7_mean 59 = .ok (.iconst 0, 1) := by decide +kernel
theorem dX7_mean_60 : decode cX7_mean 60 = .ok (.istore 10, 2) := by decide +kernel
theorem dX7_mean_62 : decode cX7_mean 62 = .ok (.iload 10, 2) := by decide +kernel
theorem dX7_mean_64 : decode cX7_mean 64 = .ok (.iconst 1, 1) := by decide +kernel
theorem dX7_mean_65 : decode cX7_mean 65 = .ok (.iload 5, 2) := by decide +kernel
theorem dX7_mean_67 : decode cX7_mean 67 = .ok (.ishl, 1) := by decide +kernel
theorem dX7_mean_68 : decode cX7_mean 68 = .ok (.if_icmp .ge 75, 3) := by decide +kernel
theorem dX7_mean_71 : decode cX7_mean 71 = .ok (.iload 4, 2) := by decide +kernel
theorem dX7_mean_73 : decode cX7_mean 73 = .ok (.iload 10, 2) := by decide +kernel
theorem dX7_mean_75 : decode cX7_mean 75 = .ok (.invokestatic 174, 3) := by decide +kernel
theorem dX7_mean_78 : decode cX7_mean 78 = .ok (.invokestatic 164, 3) := by decide +kernel
theorem dX7_mean_81 : decode cX7_mean 81 = .ok (.iload_n 3, 1) := by decide +kernel
theorem dX7_mean_82 : decode cX7_mean 82 = .ok (.iload 4, 2) := by decide +kernel
theorem dX7_mean_84 : decode cX7_mean 84 = .ok (.isub, 1) := by decide +kernel
theorem dX7_mean_85 : decode cX7_mean 85 = .ok (.iload 5, 2) := by decide +kernel
theorem dX7_mean_87 : decode cX7_mean 87 = .ok (.iload 10, 2) := by decide +kernel
theorem dX7_mean_89 : decode cX7_mean 89 = .ok (.invokestatic 174, 3) := by decide +kernel
theorem dX7_mean_92 : decode cX7_mean 92 = .ok (.isub, 1) := by decide +kernel
theorem dX7_mean_93 : decode cX7_mean 93 = .ok (.invokestatic 164, 3) := by decide +kernel
theorem dX7_mean_96 : decode cX7_mean 96 = .ok (.lmul, 1) := by decide +kernel
theorem dX7_mean_97 : decode cX7_mean 97 = .ok (.lstore 11, 2) := by decide +kernel
theorem dX7_mean_99 : decode cX7_mean 99 = .ok (.lload 8, 2) := by decide +kernel
theorem dX7_mean_101 : decode cX7_mean 101 = .ok (.lload 11, 2) := by decide +kernel
theorem dX7_mean_103 : decode cX7_mean 103 = .ok (.aload_n 0, 1) := by decide +kernel
theorem dX7_mean_104 : decode cX7_mean 104 = .ok (.iload_n 1, 1) := by decide +kernel
theorem dX7_mean_105 : decode cX7_mean 105 = .ok (.aload_n 0, 1) := by decide +kernel
theorem dX7_mean_106 : decode cX7_mean 106 = .ok (.aload_n 0, 1) := by decide +kernel
theorem dX7_mean_107 : decode cX7_mean 107 = .ok (.getfield 32, 3) := by decide +kernel
theorem dX7_mean_110 : decode cX7_mean 110 = .ok (.iload_n 1, 1) := by decide +kernel
theorem dX7_mean_111 : decode cX7_mean 111 = .ok (.invokevirtual 133, 3) := by decide +kernel
theorem dX7_mean_114 : decode cX7_mean 114 = .ok (.iload 10, 2) := by decide +kernel
theorem dX7_mean_116 : decode cX7_mean 116 = .ok (.aload_n 0, 1) := by decide +kernel
theorem dX7_mean_117 : decode cX7_mean 117 = .ok (.getfield 32, 3) := by decide +kernel
theorem dX7_mean_120 : decode cX7_mean 120 = .ok (.bipush 11, 2) := by decide +kernel
theorem dX7_mean_122 : decode cX7_mean 122 = .ok (.iaload, 1) := by decide +kernel
theorem dX7_mean_123 : decode cX7_mean 123 = .ok (.ishl, 1) := by decide +kernel
theorem dX7_mean_124 : decode cX7_mean 124 = .ok (.ior, 1) := by decide +kernel
theorem dX7_mean_125 : decode cX7_mean 125 = .ok (.invokevirtual 137, 3) := by decide +kernel
theorem dX7_mean_128 : decode cX7_mean 128 = .ok (.sipush 1000, 3) := by decide +kernel
theorem dX7_mean_131 : decode cX7_mean 131 = .ok (.iadd, 1) := by decide +kernel
theorem dX7_mean_132 : decode cX7_mean 132 = .ok (.i2l, 1) := by decide +kernel
theorem dX7_mean_133 : decode cX7_mean 133 = .ok (.lmul, 1) := by decide +kernel
theorem dX7_mean_134 : decode cX7_mean 134 = .ok (.ladd, 1) := by decide +kernel
theorem dX7_mean_135 : decode cX7_mean 135 = .ok (.lstore 8, 2) := by decide +kernel
theorem dX7_mean_137 : decode cX7_mean 137 = .ok (.iinc 10 1, 3) := by decide +kernel
theorem dX7_mean_140 : decode cX7_mean 140 = .ok (.goto (-78), 3) := by decide +kernel
theorem dX7_mean_143 : decode cX7_mean 143 = .ok (.lload 8, 2) := by decide +kernel
theorem dX7_mean_145 : decode cX7_mean 145 = .ok (.lload 6, 2) := by decide +kernel
theorem dX7_mean_147 : decode cX7_mean 147 = .ok (.invokestatic 168, 3) := by decide +kernel
theorem dX7_mean_150 : decode cX7_mean 150 = .ok (.lstore 10, 2) := by decide +kernel
theorem dX7_mean_152 : decode cX7_mean 152 = .ok (.iload_n 2, 1) := by decide +kernel
theorem dX7_mean_153 : decode cX7_mean 153 = .ok (.ifCond .ne 11, 3) := by decide +kernel
theorem dX7_mean_156 : decode cX7_mean 156 = .ok (.lload 8, 2) := by decide +kernel
theorem dX7_mean_158 : decode cX7_mean 158 = .ok (.lload 10, 2) := by decide +kernel
theorem dX7_mean_160 : decode cX7_mean 160 = .ok (.ldiv, 1) := by decide +kernel
theorem dX7_mean_161 : decode cX7_mean 161 = .ok (.goto 8, 3) := by decide +kernel
theorem dX7_mean_164 : decode cX7_mean 164 = .ok (.lload 6, 2) := by decide +kernel
theorem dX7_mean_166 : decode cX7_mean 166 = .ok (.lload 10, 2) := by decide +kernel
theorem dX7_mean_168 : decode cX7_mean 168 = .ok (.ldiv, 1) := by decide +kernel
theorem dX7_mean_169 : decode cX7_mean 169 = .ok (.lreturn, 1) := by decide +kernel
theorem dX7_needs_0 : decode cX7_needs 0 = .ok (.aload_n 0, 1) := by decide +kernel
theorem dX7_needs_1 : decode cX7_needs 1 = .ok (.iload_n 1, 1) := by decide +kernel
theorem dX7_needs_2 : decode cX7_needs 2 = .ok (.invokevirtual 140, 3) := by decide +kernel
theorem dX7_needs_5 : decode cX7_needs 5 = .ok (.ifCond .eq 23, 3) := by decide +kernel
theorem dX7_needs_8 : decode cX7_needs 8 = .ok (.iload_n 2, 1) := by decide +kernel
theorem dX7_needs_9 : decode cX7_needs 9 = .ok (.iconst 1, 1) := by decide +kernel
theorem dX7_needs_10 : decode cX7_needs 10 = .ok (.bipush 6, 2) := by decide +kernel
theorem dX7_needs_12 : decode cX7_needs 12 = .ok (.invokestatic 60, 3) := by decide +kernel
theorem dX7_needs_15 : decode cX7_needs 15 = .ok (.ifCond .eq 13, 3) := by decide +kernel
theorem dX7_needs_18 : decode cX7_needs 18 = .ok (.iload_n 3, 1) := by decide +kernel
theorem dX7_needs_19 : decode cX7_needs 19 = .ok (.iconst 1, 1) := by decide +kernel
theorem dX7_needs_20 : decode cX7_needs 20 = .ok (.bipush 10, 2) := by decide +kernel
theorem dX7_needs_22 : decode cX7_needs 22 = .ok (.invokestatic 60, 3) := by decide +kernel
theorem dX7_needs_25 : decode cX7_needs 25 = .ok (.ifCond .ne 5, 3) := by decide +kernel
theorem dX7_needs_28 : decode cX7_needs 28 = .ok (.iconst (-1), 1) := by decide +kernel
theorem dX7_needs_29 : decode cX7_needs 29 = .ok (.ireturn, 1) := by decide +kernel
theorem dX7_needs_30 : decode cX7_needs 30 = .ok (.aload_n 0, 1) := by decide +kernel
theorem dX7_needs_31 : decode cX7_needs 31 = .ok (.getfield 32, 3) := by decide +kernel
theorem dX7_needs_34 : decode cX7_needs 34 = .ok (.invokestatic 147, 3) := by decide +kernel
theorem dX7_needs_37 : decode cX7_needs 37 = .ok (.aload_n 0, 1) := by decide +kernel
theorem dX7_needs_38 : decode cX7_needs 38 = .ok (.getfield 32, 3) := by decide +kernel
theorem dX7_needs_41 : decode cX7_needs 41 = .ok (.iconst 0, 1) := by decide +kernel
theorem dX7_needs_42 : decode cX7_needs 42 = .ok (.iload_n 1, 1) := by decide +kernel
theorem dX7_needs_43 : decode cX7_needs 43 = .ok (.iadd, 1) := by decide +kernel
theorem dX7_needs_44 : decode cX7_needs 44 = .ok (.iaload, 1) := by decide +kernel
theorem dX7_needs_45 : decode cX7_needs 45 = .ok (.isub, 1) := by decide +kernel
theorem dX7_needs_46 : decode cX7_needs 46 = .ok (.istore 4, 2) := by decide +kernel
theorem dX7_needs_48 : decode cX7_needs 48 = .ok (.iconst 0, 1) := by decide +kernel
theorem dX7_needs_49 : decode cX7_needs 49 = .ok (.istore 5, 2) := by decide +kernel
theorem dX7_needs_51 : decode cX7_needs 51 = .ok (.iload 5, 2) := by decide +kernel
theorem dX7_needs_53 : decode cX7_needs 53 = .ok (.bipush 9, 2) := by decide +kernel
theorem dX7_needs_55 : decode cX7_needs 55 = .ok (.if_icmp .gt 59, 3) := by decide +kernel
theorem dX7_needs_58 : decode cX7_needs 58 = .ok (.aload_n 0, 1) := by decide +kernel
theorem dX7_needs_59 : decode cX7_needs 59 = .ok (.iload_n 2, 1) := by decide +kernel
theorem dX7_needs_60 : decode cX7_needs 60 = .ok (.iload 4, 2) := by decide +kernel
theorem dX7_needs_62 : decode cX7_needs 62 = .ok (.iload 5, 2) := by decide +kernel
theorem dX7_needs_64 : decode cX7_needs 64 = .ok (.iadd, 1) := by decide +kernel
theorem dX7_needs_65 : decode cX7_needs 65 = .ok (.invokevirtual 161, 3) := by decide +kernel
theorem dX7_needs_68 : decode cX7_needs 68 = .ok (.istore 6, 2) := by decide +kernel
theorem dX7_needs_70 : decode cX7_needs 70 = .ok (.iload 4, 2) := by decide +kernel
theorem dX7_needs_72 : decode cX7_needs 72 = .ok (.iload 5, 2) := by decide +kernel
theorem dX7_needs_74 : decode cX7_needs 74 = .ok (.iadd, 1) := by decide +kernel
theorem dX7_needs_75 : decode cX7_needs 75 = .ok (.iload 6, 2) := by decide +kernel
theorem dX7_needs_77 : decode cX7_needs 77 = .ok (.invokestatic 164, 3) := by decide +kernel
theorem dX7_needs_80 : decode cX7_needs 80 = .ok (.lstore 7, 2) := by decide +kernel
theorem dX7_needs_82 : decode cX7_needs 82 = .ok (.ldc2_w 178, 3) := by decide +kernel
theorem dX7_needs_85 : decode cX7_needs 85 = .ok (.lload 7, 2) := by decide +kernel
theorem dX7_needs_87 : decode cX7_needs 87 = .ok (.iload 4, 2) := by decide +kernel
theorem dX7_needs_89 : decode cX7_needs 89 = .ok (.iload 6, 2) := by decide +kernel
theorem dX7_needs_91 : decode cX7_needs 91 = .ok (.invokestatic 164, 3) := by decide +kernel
theorem dX7_needs_94 : decode cX7_needs 94 = .ok (.lsub, 1) := by decide +kernel
theorem dX7_needs_95 : decode cX7_needs 95 = .ok (.lmul, 1) := by decide +kernel
theorem dX7_needs_96 : decode cX7_needs 96 = .ok (.iload_n 3, 1) := by decide +kernel
theorem dX7_needs_97 : decode cX7_needs 97 = .ok (.i2l, 1) := by decide +kernel
theorem dX7_needs_98 : decode cX7_needs 98 = .ok (.lload 7, 2) := by decide +kernel
theorem dX7_needs_100 : decode cX7_needs 100 = .ok (.lmul, 1) := by decide +kernel
theorem dX7_needs_101 : decode cX7_needs 101 = .ok (.lcmp, 1) := by decide +kernel
theorem dX7_needs_102 : decode cX7_needs 102 = .ok (.ifCond .lt 6, 3) := by decide +kernel
theorem dX7_needs_105 : decode cX7_needs 105 = .ok (.iload 5, 2) := by decide +kernel
theorem dX7_needs_107 : decode cX7_needs 107 = .ok (.ireturn, 1) := by decide +kernel
theorem dX7_needs_108 : decode cX7_needs 108 = .ok (.iinc 5 1, 3) := by decide +kernel
theorem dX7_needs_111 : decode cX7_needs 111 = .ok (.goto (-60), 3) := by decide +kernel
theorem dX7_needs_114 : decode cX7_needs 114 = .ok (.bipush (-4), 2) := by decide +kernel
theorem dX7_needs_116 : decode cX7_needs 116 = .ok (.ireturn, 1) := by decide +kernel
theorem dX7_swaps_0 : decode cX7_swaps 0 = .ok (.iconst 0, 1) := by decide +kernel
theorem dX7_swaps_1 : decode cX7_swaps 1 = .ok (.istore_n 1, 1) := by decide +kernel
theorem dX7_swaps_2 : decode cX7_swaps 2 = .ok (.iload_n 1, 1) := by decide +kernel
theorem dX7_swaps_3 : decode cX7_swaps 3 = .ok (.aload_n 0, 1) := by decide +kernel
theorem dX7_swaps_4 : decode cX7_swaps 4 = .ok (.getfield 17, 3) := by decide +kernel
theorem dX7_swaps_7 : decode cX7_swaps 7 = .ok (.iconst 0, 1) := by decide +kernel
theorem dX7_swaps_8 : decode cX7_swaps 8 = .ok (.iaload, 1) := by decide +kernel
theorem dX7_swaps_9 : decode cX7_swaps 9 = .ok (.if_icmp .ge 148, 3) := by decide +kernel
theorem dX7_swaps_12 : decode cX7_swaps 12 = .ok (.iload_n 1, 1) := by decide +kernel
theorem dX7_swaps_13 : decode cX7_swaps 13 = .ok (.iconst 1, 1) := by decide +kernel
theorem dX7_swaps_14 : decode cX7_swaps 14 = .ok (.iadd, 1) := by decide +kernel
theorem dX7_swaps_15 : decode cX7_swaps 15 = .ok (.istore_n 2, 1) := by decide +kernel
theorem dX7_swaps_16 : decode cX7_swaps 16 = .ok (.iload_n 2, 1) := by decide +kernel
theorem dX7_swaps_17 : decode cX7_swaps 17 = .ok (.aload_n 0, 1) := by decide +kernel
theorem dX7_swaps_18 : decode cX7_swaps 18 = .ok (.getfield 17, 3) := by decide +kernel
theorem dX7_swaps_21 : decode cX7_swaps 21 = .ok (.iconst 0, 1) := by decide +kernel
theorem dX7_swaps_22 : decode cX7_swaps 22 = .ok (.iaload, 1) := by decide +kernel
theorem dX7_swaps_23 : decode cX7_swaps 23 = .ok (.if_icmp .ge 128, 3) := by decide +kernel
theorem dX7_swaps_26 : decode cX7_swaps 26 = .ok (.aload_n 0, 1) := by decide +kernel
theorem dX7_swaps_27 : decode cX7_swaps 27 = .ok (.getfield 32, 3) := by decide +kernel
theorem dX7_swaps_30 : decode cX7_swaps 30 = .ok (.iconst 5, 1) := by decide +kernel
theorem dX7_swaps_31 : decode cX7_swaps 31 = .ok (.iload_n 1, 1) := by decide +kernel
theorem dX7_swaps_32 : decode cX7_swaps 32 = .ok (.iadd, 1) := by decide +kernel
theorem dX7_swaps_33 : decode cX7_swaps 33 = .ok (.iaload, 1) := by decide +kernel
theorem dX7_swaps_34 : decode cX7_swaps 34 = .ok (.istore_n 3, 1) := by decide +kernel
theorem dX7_swaps_35 : decode cX7_swaps 35 = .ok (.aload_n 0, 1) := by decide +kernel
theorem dX7_swaps_36 : decode cX7_swaps 36 = .ok (.getfield 32, 3) := by decide +kernel
theorem dX7_swaps_39 : decode cX7_swaps 39 = .ok (.iconst 5, 1) := by decide +kernel
theorem dX7_swaps_40 : decode cX7_swaps 40 = .ok (.iload_n 2, 1) := by decide +kernel
theorem dX7_swaps_41 : decode cX7_swaps 41 = .ok (.iadd, 1) := by decide +kernel
theorem dX7_swaps_42 : decode cX7_swaps 42 = .ok (.iaload, 1) := by decide +kernel
theorem dX7_swaps_43 : decode cX7_swaps 43 = .ok (.istore 4, 2) := by decide +kernel
theorem dX7_swaps_45 : decode cX7_swaps 45 = .ok (.iload_n 3, 1) := by decide +kernel
theorem dX7_swaps_46 : decode cX7_swaps 46 = .ok (.bipush (-4), 2) := by decide +kernel
theorem dX7_swaps_48 : decode cX7_swaps 48 = .ok (.if_icmp .eq 97, 3) := by decide +kernel
theorem dX7_swaps_51 : decode cX7_swaps 51 = .ok (.iload 4, 2) := by decide +kernel
theorem dX7_swaps_53 : decode cX7_swaps 53 = .ok (.bipush (-4), 2) := by decide +kernel
theorem dX7_swaps_55 : decode cX7_swaps 55 = .ok (.if_icmp .eq 90, 3) := by decide +kernel
theorem dX7_swaps_58 : decode cX7_swaps 58 = .ok (.iload_n 3, 1) := by decide +kernel
theorem dX7_swaps_59 : decode cX7_swaps 59 = .ok (.iload 4, 2) := by decide +kernel
theorem dX7_swaps_61 : decode cX7_swaps 61 = .ok (.if_icmp .eq 84, 3) := by decide +kernel
theorem dX7_swaps_64 : decode cX7_swaps 64 = .ok (.aload_n 0, 1) := by decide +kernel
theorem dX7_swaps_65 : decode cX7_swaps 65 = .ok (.aload_n 0, 1) := by decide +kernel
theorem dX7_swaps_66 : decode cX7_swaps 66 = .ok (.getfield 32, 3) := by decide +kernel
theorem dX7_swaps_69 : decode cX7_swaps 69 = .ok (.iload_n 3, 1) := by decide +kernel
theorem dX7_swaps_70 : decode cX7_swaps 70 = .ok (.invokevirtual 133, 3) := by decide +kernel
theorem dX7_swaps_73 : decode cX7_swaps 73 = .ok (.istore 5, 2) := by decide +kernel
theorem dX7_swaps_75 : decode cX7_swaps 75 = .ok (.aload_n 0, 1) := by decide +kernel
theorem dX7_swaps_76 : decode cX7_swaps 76 = .ok (.aload_n 0, 1) := by decide +kernel
theorem dX7_swaps_77 : decode cX7_swaps 77 = .ok (.getfield 32, 3) := by decide +kernel
theorem dX7_swaps_80 : decode cX7_swaps 80 = .ok (.iload 4, 2) := by decide +kernel
theorem dX7_swaps_82 : decode cX7_swaps 82 = .ok (.invokevirtual 133, 3) := by decide +kernel
theorem dX7_swaps_85 : decode cX7_swaps 85 = .ok (.istore 6, 2) := by decide +kernel
theorem dX7_swaps_87 : decode cX7_swaps 87 = .ok (.iconst 1, 1) := by decide +kernel
theorem dX7_swaps_88 : decode cX7_swaps 88 = .ok (.iload_n 1, 1) := by decide +kernel
theorem dX7_swaps_89 : decode cX7_swaps 89 = .ok (.ishl, 1) := by decide +kernel
theorem dX7_swaps_90 : decode cX7_swaps 90 = .ok (.iconst 1, 1) := by decide +kernel
theorem dX7_swaps_91 : decode cX7_swaps 91 = .ok (.iload_n 2, 1) := by decide +kernel
theorem dX7_swaps_92 : decode cX7_swaps 92 = .ok (.ishl, 1) := by decide +kernel
theorem dX7_swaps_93 : decode cX7_swaps 93 = .ok (.ior, 1) := by decide +kernel
theorem dX7_swaps_94 : decode cX7_swaps 94 = .ok (.istore 7, 2) := by decide +kernel
theorem dX7_swaps_96 : decode cX7_swaps 96 = .ok (.aload_n 0, 1) := by decide +kernel
theorem dX7_swaps_97 : decode cX7_swaps 97 = .ok (.iload_n 3, 1) := by decide +kernel
theorem dX7_swaps_98 : decode cX7_swaps 98 = .ok (.iload 5, 2) := by decide +kernel
theorem dX7_swaps_100 : decode cX7_swaps 100 = .ok (.iload 7, 2) := by decide +kernel
theorem dX7_swaps_102 : decode cX7_swaps 102 = .ok (.ixor, 1) := by decide +kernel
theorem dX7_swaps_103 : decode cX7_swaps 103 = .ok (.invokevirtual 137, 3) := by decide +kernel
theorem dX7_swaps_106 : decode cX7_swaps 106 = .ok (.aload_n 0, 1) := by decide +kernel
theorem dX7_swaps_107 : decode cX7_swaps 107 = .ok (.iload_n 3, 1) := by decide +kernel
theorem dX7_swaps_108 : decode cX7_swaps 108 = .ok (.iload 5, 2) := by decide +kernel
theorem dX7_swaps_110 : decode cX7_swaps 110 = .ok (.invokevirtual 137, 3) := by decide +kernel
theorem dX7_swaps_113 : decode cX7_swaps 113 = .ok (.if_icmp .le 32, 3) := by decide +kernel
theorem dX7_swaps_116 : decode cX7_swaps 116 = .ok (.aload_n 0, 1) := by decide +kernel
theorem dX7_swaps_117 : decode cX7_swaps 117 = .ok (.iload 4, 2) := by decide +kernel
theorem dX7_swaps_119 : decode cX7_swaps 119 = .ok (.iload 6, 2) := by decide +kernel
theorem dX7_swaps_121 : decode cX7_swaps 121 = .ok (.iload 7, 2) := by decide +kernel
theorem dX7_swaps_123 : decode cX7_swaps 123 = .ok (.ixor, 1) := by decide +kernel
theorem dX7_swaps_124 : decode cX7_swaps 124 = .ok (.invokevirtual 137, 3) := by decide +kernel
theorem dX7_swaps_127 : decode cX7_swaps 127 = .ok (.aload_n 0, 1) := by decide +kernel
theorem dX7_swaps_128 : decode cX7_swaps 128 = .ok (.iload 4, 2) := by decide +kernel
theorem dX7_swaps_130 : decode cX7_swaps 130 = .ok (.iload 6, 2) := by decide +kernel
theorem dX7_swaps_132 : decode cX7_swaps 132 = .ok (.invokevirtual 137, 3) := by decide +kernel
theorem dX7_swaps_135 : decode cX7_swaps 135 = .ok (.if_icmp .le 10, 3) := by decide +kernel
theorem dX7_swaps_138 : decode cX7_swaps 138 = .ok (.bipush 10, 2) := by decide +kernel
theorem dX7_swaps_140 : decode cX7_swaps 140 = .ok (.iload_n 1, 1) := by decide +kernel
theorem dX7_swaps_141 : decode cX7_swaps 141 = .ok (.imul, 1) := by decide +kernel
theorem dX7_swaps_142 : decode cX7_swaps 142 = .ok (.iload_n 2, 1) := by decide +kernel
theorem dX7_swaps_143 : decode cX7_swaps 143 = .ok (.iadd, 1) := by decide +kernel
theorem dX7_swaps_144 : decode cX7_swaps 144 = .ok (.ireturn, 1) := by decide +kernel
theorem dX7_swaps_145 : decode cX7_swaps 145 = .ok (.iinc 2 1, 3) := by decide +kernel
theorem dX7_swaps_148 : decode cX7_swaps 148 = .ok (.goto (-132), 3) := by decide +kernel
theorem dX7_swaps_151 : decode cX7_swaps 151 = .ok (.iinc 1 1, 3) := by decide +kernel
theorem dX7_swaps_154 : decode cX7_swaps 154 = .ok (.goto (-152), 3) := by decide +kernel
theorem dX7_swaps_157 : decode cX7_swaps 157 = .ok (.bipush (-4), 2) := by decide +kernel
theorem dX7_swaps_159 : decode cX7_swaps 159 = .ok (.ireturn, 1) := by decide +kernel
theorem dX7_gives_0 : decode cX7_gives 0 = .ok (.iconst 0, 1) := by decide +kernel
theorem dX7_gives_1 : decode cX7_gives 1 = .ok (.istore_n 1, 1) := by decide +kernel
theorem dX7_gives_2 : decode cX7_gives 2 = .ok (.iload_n 1, 1) := by decide +kernel
theorem dX7_gives_3 : decode cX7_gives 3 = .ok (.aload_n 0, 1) := by decide +kernel
theorem dX7_gives_4 : decode cX7_gives 4 = .ok (.getfield 17, 3) := by decide +kernel
theorem dX7_gives_7 : decode cX7_gives 7 = .ok (.iconst 0, 1) := by decide +kernel
theorem dX7_gives_8 : decode cX7_gives 8 = .ok (.iaload, 1) := by decide +kernel
theorem dX7_gives_9 : decode cX7_gives 9 = .ok (.if_icmp .ge 144, 3) := by decide +kernel
theorem dX7_gives_12 : decode cX7_gives 12 = .ok (.aload_n 0, 1) := by decide +kernel
theorem dX7_gives_13 : decode cX7_gives 13 = .ok (.getfield 32, 3) := by decide +kernel
theorem dX7_gives_16 : decode cX7_gives 16 = .ok (.iconst 5, 1) := by decide +kernel
theorem dX7_gives_17 : decode cX7_gives 17 = .ok (.iload_n 1, 1) := by decide +kernel
theorem dX7_gives_18 : decode cX7_gives 18 = .ok (.iadd, 1) := by decide +kernel
theorem dX7_gives_19 : decode cX7_gives 19 = .ok (.iaload, 1) := by decide +kernel
theorem dX7_gives_20 : decode cX7_gives 20 = .ok (.istore_n 2, 1) := by decide +kernel
theorem dX7_gives_21 : decode cX7_gives 21 = .ok (.iconst 0, 1) := by decide +kernel
theorem dX7_gives_22 : decode cX7_gives 22 = .ok (.istore_n 3, 1) := by decide +kernel
theorem dX7_gives_23 : decode cX7_gives 23 = .ok (.iload_n 3, 1) := by decide +kernel
theorem dX7_gives_24 : decode cX7_gives 24 = .ok (.aload_n 0, 1) := by decide +kernel
theorem dX7_gives_25 : decode cX7_gives 25 = .ok (.getfield 13, 3) := by decide +kernel
theorem dX7_gives_28 : decode cX7_gives 28 = .ok (.iconst 0, 1) := by decide +kernel
theorem dX7_gives_29 : decode cX7_gives 29 = .ok (.iaload, 1) := by decide +kernel
theorem dX7_gives_30 : decode cX7_gives 30 = .ok (.if_icmp .ge 117, 3) := by decide +kernel
theorem dX7_gives_33 : decode cX7_gives 33 = .ok (.iload_n 2, 1) := by decide +kernel
theorem dX7_gives_34 : decode cX7_gives 34 = .ok (.bipush (-4), 2) := by decide +kernel
theorem dX7_gives_36 : decode cX7_gives 36 = .ok (.if_icmp .eq 111, 3) := by decide +kernel
theorem dX7_gives_39 : decode cX7_gives 39 = .ok (.iload_n 3, 1) := by decide +kernel
theorem dX7_gives_40 : decode cX7_gives 40 = .ok (.iload_n 2, 1) := by decide +kernel
theorem dX7_gives_41 : decode cX7_gives 41 = .ok (.if_icmp .eq 100, 3) := by decide +kernel
theorem dX7_gives_44 : decode cX7_gives 44 = .ok (.aload_n 0, 1) := by decide +kernel
theorem dX7_gives_45 : decode cX7_gives 45 = .ok (.iload_n 2, 1) := by decide +kernel
theorem dX7_gives_46 : decode cX7_gives 46 = .ok (.aload_n 0, 1) := by decide +kernel
theorem dX7_gives_47 : decode cX7_gives 47 = .ok (.aload_n 0, 1) := by decide +kernel
theorem dX7_gives_48 : decode cX7_gives 48 = .ok (.getfield 32, 3) := by decide +kernel
theorem dX7_gives_51 : decode cX7_gives 51 = .ok (.iload_n 2, 1) := by decide +kernel
theorem dX7_gives_52 : decode cX7_gives 52 = .ok (.invokevirtual 133, 3) := by decide +kernel
theorem dX7_gives_55 : decode cX7_gives 55 = .ok (.iconst 1, 1) := by decide +kernel
theorem dX7_gives_56 : decode cX7_gives 56 = .ok (.iload_n 1, 1) := by decide +kernel
theorem dX7_gives_57 : decode cX7_gives 57 = .ok (.ishl, 1) := by decide +kernel
theorem dX7_gives_58 : decode cX7_gives 58 = .ok (.iconst (-1), 1) := by decide +kernel
theorem dX7_gives_59 : decode cX7_gives 59 = .ok (.ixor, 1) := by decide +kernel
theorem dX7_gives_60 : decode cX7_gives 60 = .ok (.iand, 1) := by decide +kernel
theorem dX7_gives_61 : decode cX7_gives 61 = .ok (.invokevirtual 137, 3) := by decide +kernel
theorem dX7_gives_64 : decode cX7_gives 64 = .ok (.aload_n 0, 1) := by decide +kernel
theorem dX7_gives_65 : decode cX7_gives 65 = .ok (.iload_n 2, 1) := by decide +kernel
theorem dX7_gives_66 : decode cX7_gives 66 = .ok (.aload_n 0, 1) := by decide +kernel
theorem dX7_gives_67 : decode cX7_gives 67 = .ok (.aload_n 0, 1) := by decide +kernel
theorem dX7_gives_68 : decode cX7_gives 68 = .ok (.getfield 32, 3) := by decide +kernel
theorem dX7_gives_71 : decode cX7_gives 71 = .ok (.iload_n 2, 1) := by decide +kernel
theorem dX7_gives_72 : decode cX7_gives 72 = .ok (.invokevirtual 133, 3) := by decide +kernel
theorem dX7_gives_75 : decode cX7_gives 75 = .ok (.invokevirtual 137, 3) := by decide +kernel
theorem dX7_gives_78 : decode cX7_gives 78 = .ok (.isub, 1) := by decide +kernel
theorem dX7_gives_79 : decode cX7_gives 79 = .ok (.istore 4, 2) := by decide +kernel
theorem dX7_gives_81 : decode cX7_gives 81 = .ok (.aload_n 0, 1) := by decide +kernel
theorem dX7_gives_82 : decode cX7_gives 82 = .ok (.iload_n 3, 1) := by decide +kernel
theorem dX7_gives_83 : decode cX7_gives 83 = .ok (.aload_n 0, 1) := by decide +kernel
theorem dX7_gives_84 : decode cX7_gives 84 = .ok (.aload_n 0, 1) := by decide +kernel
theorem dX7_gives_85 : decode cX7_gives 85 = .ok (.getfield 32, 3) := by decide +kernel
theorem dX7_gives_88 : decode cX7_gives 88 = .ok (.iload_n 3, 1) := by decide +kernel
theorem dX7_gives_89 : decode cX7_gives 89 = .ok (.invokevirtual 133, 3) := by decide +kernel
theorem dX7_gives_92 : decode cX7_gives 92 = .ok (.iconst 1, 1) := by decide +kernel
theorem dX7_gives_93 : decode cX7_gives 93 = .ok (.iload_n 1, 1) := by decide +kernel
theorem dX7_gives_94 : decode cX7_gives 94 = .ok (.ishl, 1) := by decide +kernel
theorem dX7_gives_95 : decode cX7_gives 95 = .ok (.ior, 1) := by decide +kernel
theorem dX7_gives_96 : decode cX7_gives 96 = .ok (.invokevirtual 137, 3) := by decide +kernel
theorem dX7_gives_99 : decode cX7_gives 99 = .ok (.aload_n 0, 1) := by decide +kernel
theorem dX7_gives_100 : decode cX7_gives 100 = .ok (.iload_n 3, 1) := by decide +kernel
theorem dX7_gives_101 : decode cX7_gives 101 = .ok (.aload_n 0, 1) := by decide +kernel
theorem dX7_gives_102 : decode cX7_gives 102 = .ok (.aload_n 0, 1) := by decide +kernel
theorem dX7_gives_103 : decode cX7_gives 103 = .ok (.getfield 32, 3) := by decide +kernel
theorem dX7_gives_106 : decode cX7_gives 106 = .ok (.iload_n 3, 1) := by decide +kernel
theorem dX7_gives_107 : decode cX7_gives 107 = .ok (.invokevirtual 133, 3) := by decide +kernel
theorem dX7_gives_110 : decode cX7_gives 110 = .ok (.invokevirtual 137, 3) := by decide +kernel
theorem dX7_gives_113 : decode cX7_gives 113 = .ok (.isub, 1) := by decide +kernel
theorem dX7_gives_114 : decode cX7_gives 114 = .ok (.istore 5, 2) := by decide +kernel
theorem dX7_gives_116 : decode cX7_gives 116 = .ok (.iload 4, 2) := by decide +kernel
theorem dX7_gives_118 : decode cX7_gives 118 = .ok (.ifCond .lt 23, 3) := by decide +kernel
theorem dX7_gives_121 : decode cX7_gives 121 = .ok (.iload 5, 2) := by decide +kernel
theorem dX7_gives_123 : decode cX7_gives 123 = .ok (.ifCond .lt 18, 3) := by decide +kernel
theorem dX7_gives_126 : decode cX7_gives 126 = .ok (.iload 4, 2) := by decide +kernel
theorem dX7_gives_128 : decode cX7_gives 128 = .ok (.iload 5, 2) := by decide +kernel
theorem dX7_gives_130 : decode cX7_gives 130 = .ok (.iadd, 1) := by decide +kernel
theorem dX7_gives_131 : decode cX7_gives 131 = .ok (.ifCond .le 10, 3) := by decide +kernel
theorem dX7_gives_134 : decode cX7_gives 134 = .ok (.bipush 10, 2) := by decide +kernel
theorem dX7_gives_136 : decode cX7_gives 136 = .ok (.iload_n 1, 1) := by decide +kernel
theorem dX7_gives_137 : decode cX7_gives 137 = .ok (.imul, 1) := by decide +kernel
theorem dX7_gives_138 : decode cX7_gives 138 = .ok (.iload_n 3, 1) := by decide +kernel
theorem dX7_gives_139 : decode cX7_gives 139 = .ok (.iadd, 1) := by decide +kernel
theorem dX7_gives_140 : decode cX7_gives 140 = .ok (.ireturn, 1) := by decide +kernel
theorem dX7_gives_141 : decode cX7_gives 141 = .ok (.iinc 3 1, 3) := by decide +kernel
theorem dX7_gives_144 : decode cX7_gives 144 = .ok (.goto (-121), 3) := by decide +kernel
theorem dX7_gives_147 : decode cX7_gives 147 = .ok (.iinc 1 1, 3) := by decide +kernel
theorem dX7_gives_150 : decode cX7_gives 150 = .ok (.goto (-148), 3) := by decide +kernel
theorem dX7_gives_153 : decode cX7_gives 153 = .ok (.bipush (-4), 2) := by decide +kernel
theorem dX7_gives_155 : decode cX7_gives 155 = .ok (.ireturn, 1) := by decide +kernel
theorem dX7_dealBy_0 : decode cX7_dealBy 0 = .ok (.iload_n 1, 1) := by decide +kernel
theorem dX7_dealBy_1 : decode cX7_dealBy 1 = .ok (.istore_n 2, 1) := by decide +kernel
theorem dX7_dealBy_2 : decode cX7_dealBy 2 = .ok (.aload_n 0, 1) := by decide +kernel
theorem dX7_dealBy_3 : decode cX7_dealBy 3 = .ok (.getfield 17, 3) := by decide +kernel
theorem dX7_dealBy_6 : decode cX7_dealBy 6 = .ok (.iconst 0, 1) := by decide +kernel
theorem dX7_dealBy_7 : decode cX7_dealBy 7 = .ok (.iaload, 1) := by decide +kernel
theorem dX7_dealBy_8 : decode cX7_dealBy 8 = .ok (.iconst 1, 1) := by decide +kernel
theorem dX7_dealBy_9 : decode cX7_dealBy 9 = .ok (.isub, 1) := by decide +kernel
theorem dX7_dealBy_10 : decode cX7_dealBy 10 = .ok (.istore_n 3, 1) := by decide +kernel
theorem dX7_dealBy_11 : decode cX7_dealBy 11 = .ok (.iload_n 3, 1) := by decide +kernel
theorem dX7_dealBy_12 : decode cX7_dealBy 12 = .ok (.ifCond .lt 47, 3) := by decide +kernel
theorem dX7_dealBy_15 : decode cX7_dealBy 15 = .ok (.aload_n 0, 1) := by decide +kernel
theorem dX7_dealBy_16 : decode cX7_dealBy 16 = .ok (.getfield 32, 3) := by decide +kernel
theorem dX7_dealBy_19 : decode cX7_dealBy 19 = .ok (.iconst 5, 1) := by decide +kernel
theorem dX7_dealBy_20 : decode cX7_dealBy 20 = .ok (.iload_n 3, 1) := by decide +kernel
theorem dX7_dealBy_21 : decode cX7_dealBy 21 = .ok (.iadd, 1) := by decide +kernel
theorem dX7_dealBy_22 : decode cX7_dealBy 22 = .ok (.iaload, 1) := by decide +kernel
theorem dX7_dealBy_23 : decode cX7_dealBy 23 = .ok (.bipush (-4), 2) := by decide +kernel
theorem dX7_dealBy_25 : decode cX7_dealBy 25 = .ok (.if_icmp .eq 28, 3) := by decide +kernel
theorem dX7_dealBy_28 : decode cX7_dealBy 28 = .ok (.aload_n 0, 1) := by decide +kernel
theorem dX7_dealBy_29 : decode cX7_dealBy 29 = .ok (.getfield 41, 3) := by decide +kernel
theorem dX7_dealBy_32 : decode cX7_dealBy 32 = .ok (.iconst 5, 1) := by decide +kernel
theorem dX7_dealBy_33 : decode cX7_dealBy 33 = .ok (.iload_n 3, 1) := by decide +kernel
theorem dX7_dealBy_34 : decode cX7_dealBy 34 = .ok (.iadd, 1) := by decide +kernel
theorem dX7_dealBy_35 : decode cX7_dealBy 35 = .ok (.iload_n 2, 1) := by decide +kernel
theorem dX7_dealBy_36 : decode cX7_dealBy 36 = .ok (.aload_n 0, 1) := by decide +kernel
theorem dX7_dealBy_37 : decode cX7_dealBy 37 = .ok (.getfield 13, 3) := by decide +kernel
theorem dX7_dealBy_40 : decode cX7_dealBy 40 = .ok (.iconst 0, 1) := by decide +kernel
theorem dX7_dealBy_41 : decode cX7_dealBy 41 = .ok (.iaload, 1) := by decide +kernel
theorem dX7_dealBy_42 : decode cX7_dealBy 42 = .ok (.irem, 1) := by decide +kernel
theorem dX7_dealBy_43 : decode cX7_dealBy 43 = .ok (.iastore, 1) := by decide +kernel
theorem dX7_dealBy_44 : decode cX7_dealBy 44 = .ok (.iload_n 2, 1) := by decide +kernel
theorem dX7_dealBy_45 : decode cX7_dealBy 45 = .ok (.aload_n 0, 1) := by decide +kernel
theorem dX7_dealBy_46 : decode cX7_dealBy 46 = .ok (.getfield 13, 3) := by decide +kernel
theorem dX7_dealBy_49 : decode cX7_dealBy 49 = .ok (.iconst 0, 1) := by decide +kernel
theorem dX7_dealBy_50 : decode cX7_dealBy 50 = .ok (.iaload, 1) := by decide +kernel
theorem dX7_dealBy_51 : decode cX7_dealBy 51 = .ok (.idiv, 1) := by decide +kernel
theorem dX7_dealBy_52 : decode cX7_dealBy 52 = .ok (.istore_n 2, 1) := by decide +kernel
theorem dX7_dealBy_53 : decode cX7_dealBy 53 = .ok (.iinc 3 (-1), 3) := by decide +kernel
theorem dX7_dealBy_56 : decode cX7_dealBy 56 = .ok (.goto (-45), 3) := by decide +kernel
theorem dX7_dealBy_59 : decode cX7_dealBy 59 = .ok (.return_, 1) := by decide +kernel
theorem dX7_share_0 : decode cX7_share 0 = .ok (.iload_n 1, 1) := by decide +kernel
theorem dX7_share_1 : decode cX7_share 1 = .ok (.iconst (-1), 1) := by decide +kernel
theorem dX7_share_2 : decode cX7_share 2 = .ok (.if_icmp .eq 13, 3) := by decide +kernel
theorem dX7_share_5 : decode cX7_share 5 = .ok (.aload_n 0, 1) := by decide +kernel
theorem dX7_share_6 : decode cX7_share 6 = .ok (.iload_n 1, 1) := by decide +kernel
theorem dX7_share_7 : decode cX7_share 7 = .ok (.invokevirtual 144, 3) := by decide +kernel
theorem dX7_share_10 : decode cX7_share 10 = .ok (.ifCond .ne 5, 3) := by decide +kernel
theorem dX7_share_13 : decode cX7_share 13 = .ok (.iconst (-1), 1) := by decide +kernel
theorem dX7_share_14 : decode cX7_share 14 = .ok (.ireturn, 1) := by decide +kernel
theorem dX7_share_15 : decode cX7_share 15 = .ok (.iconst 1, 1) := by decide +kernel
theorem dX7_share_16 : decode cX7_share 16 = .ok (.istore_n 2, 1) := by decide +kernel
theorem dX7_share_17 : decode cX7_share 17 = .ok (.iconst 0, 1) := by decide +kernel
theorem dX7_share_18 : decode cX7_share 18 = .ok (.istore_n 3, 1) := by decide +kernel
theorem dX7_share_19 : decode cX7_share 19 = .ok (.iload_n 3, 1) := by decide +kernel
theorem dX7_share_20 : decode cX7_share 20 = .ok (.aload_n 0, 1) := by decide +kernel
theorem dX7_share_21 : decode cX7_share 21 = .ok (.aload_n 0, 1) := by decide +kernel
theorem dX7_share_22 : decode cX7_share 22 = .ok (.getfield 32, 3) := by decide +kernel
theorem dX7_share_25 : decode cX7_share 25 = .ok (.invokevirtual 180, 3) := by decide +kernel
theorem dX7_share_28 : decode cX7_share 28 = .ok (.if_icmp .ge 18, 3) := by decide +kernel
theorem dX7_share_31 : decode cX7_share 31 = .ok (.iload_n 2, 1) := by decide +kernel
theorem dX7_share_32 : decode cX7_share 32 = .ok (.aload_n 0, 1) := by decide +kernel
theorem dX7_share_33 : decode cX7_share 33 = .ok (.getfield 13, 3) := by decide +kernel
theorem dX7_share_36 : decode cX7_share 36 = .ok (.iconst 0, 1) := by decide +kernel
theorem dX7_share_37 : decode cX7_share 37 = .ok (.iaload, 1) := by decide +kernel
theorem dX7_share_38 : decode cX7_share 38 = .ok (.imul, 1) := by decide +kernel
theorem dX7_share_39 : decode cX7_share 39 = .ok (.istore_n 2, 1) := by decide +kernel
theorem dX7_share_40 : decode cX7_share 40 = .ok (.iinc 3 1, 3) := by decide +kernel
theorem dX7_share_43 : decode cX7_share 43 = .ok (.goto (-24), 3) := by decide +kernel
theorem dX7_share_46 : decode cX7_share 46 = .ok (.aload_n 0, 1) := by decide +kernel
theorem dX7_share_47 : decode cX7_share 47 = .ok (.invokevirtual 183, 3) := by decide +kernel
theorem dX7_share_50 : decode cX7_share 50 = .ok (.iconst 0, 1) := by decide +kernel
theorem dX7_share_51 : decode cX7_share 51 = .ok (.istore_n 3, 1) := by decide +kernel
theorem dX7_share_52 : decode cX7_share 52 = .ok (.iconst 0, 1) := by decide +kernel
theorem dX7_share_53 : decode cX7_share 53 = .ok (.istore 4, 2) := by decide +kernel
theorem dX7_share_55 : decode cX7_share 55 = .ok (.iconst 0, 1) := by decide +kernel
theorem dX7_share_56 : decode cX7_share 56 = .ok (.istore 5, 2) := by decide +kernel
theorem dX7_share_58 : decode cX7_share 58 = .ok (.iload 5, 2) := by decide +kernel
theorem dX7_share_60 : decode cX7_share 60 = .ok (.iload_n 2, 1) := by decide +kernel
theorem dX7_share_61 : decode cX7_share 61 = .ok (.if_icmp .ge 44, 3) := by decide +kernel
theorem dX7_share_64 : decode cX7_share 64 = .ok (.aload_n 0, 1) := by decide +kernel
theorem dX7_share_65 : decode cX7_share 65 = .ok (.iload 5, 2) := by decide +kernel
theorem dX7_share_67 : decode cX7_share 67 = .ok (.invokevirtual 186, 3) := by decide +kernel
theorem dX7_share_70 : decode cX7_share 70 = .ok (.aload_n 0, 1) := by decide +kernel
theorem dX7_share_71 : decode cX7_share 71 = .ok (.aload_n 0, 1) := by decide +kernel
theorem dX7_share_72 : decode cX7_share 72 = .ok (.getfield 41, 3) := by decide +kernel
theorem dX7_share_75 : decode cX7_share 75 = .ok (.invokevirtual 189, 3) := by decide +kernel
theorem dX7_share_78 : decode cX7_share 78 = .ok (.istore 6, 2) := by decide +kernel
theorem dX7_share_80 : decode cX7_share 80 = .ok (.iload 5, 2) := by decide +kernel
theorem dX7_share_82 : decode cX7_share 82 = .ok (.ifCond .eq 10, 3) := by decide +kernel
theorem dX7_share_85 : decode cX7_share 85 = .ok (.iload 6, 2) := by decide +kernel
theorem dX7_share_87 : decode cX7_share 87 = .ok (.iload 4, 2) := by decide +kernel
theorem dX7_share_89 : decode cX7_share 89 = .ok (.if_icmp .le 10, 3) := by decide +kernel
theorem dX7_share_92 : decode cX7_share 92 = .ok (.iload 5, 2) := by decide +kernel
theorem dX7_share_94 : decode cX7_share 94 = .ok (.istore_n 3, 1) := by decide +kernel
theorem dX7_share_95 : decode cX7_share 95 = .ok (.iload 6, 2) := by decide +kernel
theorem dX7_share_97 : decode cX7_share 97 = .ok (.istore 4, 2) := by decide +kernel
theorem dX7_share_99 : decode cX7_share 99 = .ok (.iinc 5 1, 3) := by decide +kernel
theorem dX7_share_102 : decode cX7_share 102 = .ok (.goto (-44), 3) := by decide +kernel
theorem dX7_share_105 : decode cX7_share 105 = .ok (.aload_n 0, 1) := by decide +kernel
theorem dX7_share_106 : decode cX7_share 106 = .ok (.iload_n 3, 1) := by decide +kernel
theorem dX7_share_107 : decode cX7_share 107 = .ok (.invokevirtual 186, 3) := by decide +kernel
theorem dX7_share_110 : decode cX7_share 110 = .ok (.iload_n 1, 1) := by decide +kernel
theorem dX7_share_111 : decode cX7_share 111 = .ok (.iconst (-1), 1) := by decide +kernel
theorem dX7_share_112 : decode cX7_share 112 = .ok (.if_icmp .ne 12, 3) := by decide +kernel
theorem dX7_share_115 : decode cX7_share 115 = .ok (.iload 4, 2) := by decide +kernel
theorem dX7_share_117 : decode cX7_share 117 = .ok (.sipush 1000, 3) := by decide +kernel
theorem dX7_share_120 : decode cX7_share 120 = .ok (.iadd, 1) := by decide +kernel
theorem dX7_share_121 : decode cX7_share 121 = .ok (.goto 11, 3) := by decide +kernel
theorem dX7_share_124 : decode cX7_share 124 = .ok (.aload_n 0, 1) := by decide +kernel
theorem dX7_share_125 : decode cX7_share 125 = .ok (.getfield 41, 3) := by decide +kernel
theorem dX7_share_128 : decode cX7_share 128 = .ok (.iconst 5, 1) := by decide +kernel
theorem dX7_share_129 : decode cX7_share 129 = .ok (.iload_n 1, 1) := by decide +kernel
theorem dX7_share_130 : decode cX7_share 130 = .ok (.iadd, 1) := by decide +kernel
theorem dX7_share_131 : decode cX7_share 131 = .ok (.iaload, 1) := by decide +kernel
theorem dX7_share_132 : decode cX7_share 132 = .ok (.ireturn, 1) := by decide +kernel
theorem dX7_envies_0 : decode cX7_envies 0 = .ok (.iload_n 1, 1) := by decide +kernel
theorem dX7_envies_1 : decode cX7_envies 1 = .ok (.iload_n 2, 1) := by decide +kernel
theorem dX7_envies_2 : decode cX7_envies 2 = .ok (.if_icmp .eq 38, 3) := by decide +kernel
theorem dX7_envies_5 : decode cX7_envies 5 = .ok (.aload_n 0, 1) := by decide +kernel
theorem dX7_envies_6 : decode cX7_envies 6 = .ok (.iload_n 1, 1) := by decide +kernel
theorem dX7_envies_7 : decode cX7_envies 7 = .ok (.aload_n 0, 1) := by decide +kernel
theorem dX7_envies_8 : decode cX7_envies 8 = .ok (.aload_n 0, 1) := by decide +kernel
theorem dX7_envies_9 : decode cX7_envies 9 = .ok (.getfield 32, 3) := by decide +kernel
theorem dX7_envies_12 : decode cX7_envies 12 = .ok (.iload_n 2, 1) := by decide +kernel
theorem dX7_envies_13 : decode cX7_envies 13 = .ok (.invokevirtual 133, 3) := by decide +kernel
theorem dX7_envies_16 : decode cX7_envies 16 = .ok (.invokevirtual 137, 3) := by decide +kernel
theorem dX7_envies_19 : decode cX7_envies 19 = .ok (.aload_n 0, 1) := by decide +kernel
theorem dX7_envies_20 : decode cX7_envies 20 = .ok (.iload_n 1, 1) := by decide +kernel
theorem dX7_envies_21 : decode cX7_envies 21 = .ok (.aload_n 0, 1) := by decide +kernel
theorem dX7_envies_22 : decode cX7_envies 22 = .ok (.aload_n 0, 1) := by decide +kernel
theorem dX7_envies_23 : decode cX7_envies 23 = .ok (.getfield 32, 3) := by decide +kernel
theorem dX7_envies_26 : decode cX7_envies 26 = .ok (.iload_n 1, 1) := by decide +kernel
theorem dX7_envies_27 : decode cX7_envies 27 = .ok (.invokevirtual 133, 3) := by decide +kernel
theorem dX7_envies_30 : decode cX7_envies 30 = .ok (.invokevirtual 137, 3) := by decide +kernel
theorem dX7_envies_33 : decode cX7_envies 33 = .ok (.if_icmp .le 7, 3) := by decide +kernel
theorem dX7_envies_36 : decode cX7_envies 36 = .ok (.iconst 1, 1) := by decide +kernel
theorem dX7_envies_37 : decode cX7_envies 37 = .ok (.goto 4, 3) := by decide +kernel
theorem dX7_envies_40 : decode cX7_envies 40 = .ok (.iconst 0, 1) := by decide +kernel
theorem dX7_envies_41 : decode cX7_envies 41 = .ok (.ireturn, 1) := by decide +kernel
theorem dX7_envy_0 : decode cX7_envy 0 = .ok (.iconst 0, 1) := by decide +kernel
theorem dX7_envy_1 : decode cX7_envy 1 = .ok (.istore_n 1, 1) := by decide +kernel
theorem dX7_envy_2 : decode cX7_envy 2 = .ok (.iload_n 1, 1) := by decide +kernel
theorem dX7_envy_3 : decode cX7_envy 3 = .ok (.aload_n 0, 1) := by decide +kernel
theorem dX7_envy_4 : decode cX7_envy 4 = .ok (.getfield 13, 3) := by decide +kernel
theorem dX7_envy_7 : decode cX7_envy 7 = .ok (.iconst 0, 1) := by decide +kernel
theorem dX7_envy_8 : decode cX7_envy 8 = .ok (.iaload, 1) := by decide +kernel
theorem dX7_envy_9 : decode cX7_envy 9 = .ok (.if_icmp .ge 43, 3) := by decide +kernel
theorem dX7_envy_12 : decode cX7_envy 12 = .ok (.iconst 0, 1) := by decide +kernel
theorem dX7_envy_13 : decode cX7_envy 13 = .ok (.istore_n 2, 1) := by decide +kernel
theorem dX7_envy_14 : decode cX7_envy 14 = .ok (.iload_n 2, 1) := by decide +kernel
theorem dX7_envy_15 : decode cX7_envy 15 = .ok (.aload_n 0, 1) := by decide +kernel
theorem dX7_envy_16 : decode cX7_envy 16 = .ok (.getfield 13, 3) := by decide +kernel
theorem dX7_envy_19 : decode cX7_envy 19 = .ok (.iconst 0, 1) := by decide +kernel
theorem dX7_envy_20 : decode cX7_envy 20 = .ok (.iaload, 1) := by decide +kernel
theorem dX7_envy_21 : decode cX7_envy 21 = .ok (.if_icmp .ge 25, 3) := by decide +kernel
theorem dX7_envy_24 : decode cX7_envy 24 = .ok (.aload_n 0, 1) := by decide +kernel
theorem dX7_envy_25 : decode cX7_envy 25 = .ok (.iload_n 1, 1) := by decide +kernel
theorem dX7_envy_26 : decode cX7_envy 26 = .ok (.iload_n 2, 1) := by decide +kernel
theorem dX7_envy_27 : decode cX7_envy 27 = .ok (.invokevirtual 192, 3) := by decide +kernel
theorem dX7_envy_30 : decode cX7_envy 30 = .ok (.ifCond .eq 10, 3) := by decide +kernel
theorem dX7_envy_33 : decode cX7_envy 33 = .ok (.bipush 10, 2) := by decide +kernel
theorem dX7_envy_35 : decode cX7_envy 35 = .ok (.iload_n 1, 1) := by decide +kernel
theorem dX7_envy_36 : decode cX7_envy 36 = .ok (.imul, 1) := by decide +kernel
theorem dX7_envy_37 : decode cX7_envy 37 = .ok (.iload_n 2, 1) := by decide +kernel
theorem dX7_envy_38 : decode cX7_envy 38 = .ok (.iadd, 1) := by decide +kernel
theorem dX7_envy_39 : decode cX7_envy 39 = .ok (.ireturn, 1) := by decide +kernel
theorem dX7_envy_40 : decode cX7_envy 40 = .ok (.iinc 2 1, 3) := by decide +kernel
theorem dX7_envy_43 : decode cX7_envy 43 = .ok (.goto (-29), 3) := by decide +kernel
theorem dX7_envy_46 : decode cX7_envy 46 = .ok (.iinc 1 1, 3) := by decide +kernel
theorem dX7_envy_49 : decode cX7_envy 49 = .ok (.goto (-47), 3) := by decide +kernel
theorem dX7_envy_52 : decode cX7_envy 52 = .ok (.bipush (-4), 2) := by decide +kernel
theorem dX7_envy_54 : decode cX7_envy 54 = .ok (.ireturn, 1) := by decide +kernel
theorem dX7_ring_0 : decode cX7_ring 0 = .ok (.bipush (-4), 2) := by decide +kernel
theorem dX7_ring_2 : decode cX7_ring 2 = .ok (.istore_n 1, 1) := by decide +kernel
theorem dX7_ring_3 : decode cX7_ring 3 = .ok (.iconst 0, 1) := by decide +kernel
theorem dX7_ring_4 : decode cX7_ring 4 = .ok (.istore_n 2, 1) := by decide +kernel
theorem dX7_ring_5 : decode cX7_ring 5 = .ok (.iload_n 2, 1) := by decide +kernel
theorem dX7_ring_6 : decode cX7_ring 6 = .ok (.aload_n 0, 1) := by decide +kernel
theorem dX7_ring_7 : decode cX7_ring 7 = .ok (.getfield 13, 3) := by decide +kernel
theorem dX7_ring_10 : decode cX7_ring 10 = .ok (.iconst 0, 1) := by decide +kernel
theorem dX7_ring_11 : decode cX7_ring 11 = .ok (.iaload, 1) := by decide +kernel
theorem dX7_ring_12 : decode cX7_ring 12 = .ok (.if_icmp .ge 134, 3) := by decide +kernel
theorem dX7_ring_15 : decode cX7_ring 15 = .ok (.iconst 1, 1) := by decide +kernel
theorem dX7_ring_16 : decode cX7_ring 16 = .ok (.iload_n 2, 1) := by decide +kernel
theorem dX7_ring_17 : decode cX7_ring 17 = .ok (.ishl, 1) := by decide +kernel
theorem dX7_ring_18 : decode cX7_ring 18 = .ok (.istore_n 3, 1) := by decide +kernel
theorem dX7_ring_19 : decode cX7_ring 19 = .ok (.iconst 1, 1) := by decide +kernel
theorem dX7_ring_20 : decode cX7_ring 20 = .ok (.istore 4, 2) := by decide +kernel
theorem dX7_ring_22 : decode cX7_ring 22 = .ok (.iload 4, 2) := by decide +kernel
theorem dX7_ring_24 : decode cX7_ring 24 = .ok (.iconst 5, 1) := by decide +kernel
theorem dX7_ring_25 : decode cX7_ring 25 = .ok (.if_icmp .gt 115, 3) := by decide +kernel
theorem dX7_ring_28 : decode cX7_ring 28 = .ok (.iconst 0, 1) := by decide +kernel
theorem dX7_ring_29 : decode cX7_ring 29 = .ok (.istore 5, 2) := by decide +kernel
theorem dX7_ring_31 : decode cX7_ring 31 = .ok (.iconst 0, 1) := by decide +kernel
theorem dX7_ring_32 : decode cX7_ring 32 = .ok (.istore 6, 2) := by decide +kernel
theorem dX7_ring_34 : decode cX7_ring 34 = .ok (.iload 6, 2) := by decide +kernel
theorem dX7_ring_36 : decode cX7_ring 36 = .ok (.aload_n 0, 1) := by decide +kernel
theorem dX7_ring_37 : decode cX7_ring 37 = .ok (.getfield 13, 3) := by decide +kernel
theorem dX7_ring_40 : decode cX7_ring 40 = .ok (.iconst 0, 1) := by decide +kernel
theorem dX7_ring_41 : decode cX7_ring 41 = .ok (.iaload, 1) := by decide +kernel
theorem dX7_ring_42 : decode cX7_ring 42 = .ok (.if_icmp .ge 62, 3) := by decide +kernel
theorem dX7_ring_45 : decode cX7_ring 45 = .ok (.iconst 0, 1) := by decide +kernel
theorem dX7_ring_46 : decode cX7_ring 46 = .ok (.istore 7, 2) := by decide +kernel
theorem dX7_ring_48 : decode cX7_ring 48 = .ok (.iload 7, 2) := by decide +kernel
theorem dX7_ring_50 : decode cX7_ring 50 = .ok (.aload_n 0, 1) := by decide +kernel
theorem dX7_ring_51 : decode cX7_ring 51 = .ok (.getfield 13, 3) := by decide +kernel
theorem dX7_ring_54 : decode cX7_ring 54 = .ok (.iconst 0, 1) := by decide +kernel
theorem dX7_ring_55 : decode cX7_ring 55 = .ok (.iaload, 1) := by decide +kernel
theorem dX7_ring_56 : decode cX7_ring 56 = .ok (.if_icmp .ge 42, 3) := by decide +kernel
theorem dX7_ring_59 : decode cX7_ring 59 = .ok (.iload 5, 2) := by decide +kernel
theorem dX7_ring_61 : decode cX7_ring 61 = .ok (.iload_n 3, 1) := by decide +kernel
theorem dX7_ring_62 : decode cX7_ring 62 = .ok (.iload 6, 2) := by decide +kernel
theorem dX7_ring_64 : decode cX7_ring 64 = .ok (.invokestatic 129, 3) := by decide +kernel
theorem dX7_ring_67 : decode cX7_ring 67 = .ok (.ifCond .eq 21, 3) := by decide +kernel
theorem dX7_ring_70 : decode cX7_ring 70 = .ok (.aload_n 0, 1) := by decide +kernel
theorem dX7_ring_71 : decode cX7_ring 71 = .ok (.iload 6, 2) := by decide +kernel
theorem dX7_ring_73 : decode cX7_ring 73 = .ok (.iload 7, 2) := by decide +kernel
theorem dX7_ring_75 : decode cX7_ring 75 = .ok (.invokevirtual 192, 3) := by decide +kernel
theorem dX7_ring_78 : decode cX7_ring 78 = .ok (.ifCond .eq 10, 3) := by decide +kernel
theorem dX7_ring_81 : decode cX7_ring 81 = .ok (.iconst 1, 1) := by decide +kernel
theorem dX7_ring_82 : decode cX7_ring 82 = .ok (.iload 7, 2) := by decide +kernel
theorem dX7_ring_84 : decode cX7_ring 84 = .ok (.ishl, 1) := by decide +kernel
theorem dX7_ring_85 : decode cX7_ring 85 = .ok (.goto 4, 3) := by decide +kernel
theorem dX7_ring_88 : decode cX7_ring 88 = .ok (.iconst 0, 1) := by decide +kernel
theorem dX7_ring_89 : decode cX7_ring 89 = .ok (.ior, 1) := by decide +kernel
theorem dX7_ring_90 : decode cX7_ring 90 = .ok (.istore 5, 2) := by decide +kernel
theorem dX7_ring_92 : decode cX7_ring 92 = .ok (.iinc 7 1, 3) := by decide +kernel
theorem dX7_ring_95 : decode cX7_ring 95 = .ok (.goto (-47), 3) := by decide +kernel
theorem dX7_ring_98 : decode cX7_ring 98 = .ok (.iinc 6 1, 3) := by decide +kernel
theorem dX7_ring_101 : decode cX7_ring 101 = .ok (.goto (-67), 3) := by decide +kernel
theorem dX7_ring_104 : decode cX7_ring 104 = .ok (.iload 5, 2) := by decide +kernel
theorem dX7_ring_106 : decode cX7_ring 106 = .ok (.istore_n 3, 1) := by decide +kernel
theorem dX7_ring_107 : decode cX7_ring 107 = .ok (.iload_n 3, 1) := by decide +kernel
theorem dX7_ring_108 : decode cX7_ring 108 = .ok (.iload_n 2, 1) := by decide +kernel
theorem dX7_ring_109 : decode cX7_ring 109 = .ok (.invokestatic 129, 3) := by decide +kernel
theorem dX7_ring_112 : decode cX7_ring 112 = .ok (.ifCond .eq 20, 3) := by decide +kernel
theorem dX7_ring_115 : decode cX7_ring 115 = .ok (.iload_n 1, 1) := by decide +kernel
theorem dX7_ring_116 : decode cX7_ring 116 = .ok (.bipush (-4), 2) := by decide +kernel
theorem dX7_ring_118 : decode cX7_ring 118 = .ok (.if_icmp .eq 9, 3) := by decide +kernel
theorem dX7_ring_121 : decode cX7_ring 121 = .ok (.iload 4, 2) := by decide +kernel
theorem dX7_ring_123 : decode cX7_ring 123 = .ok (.iload_n 1, 1) := by decide +kernel
theorem dX7_ring_124 : decode cX7_ring 124 = .ok (.if_icmp .ge 8, 3) := by decide +kernel
theorem dX7_ring_127 : decode cX7_ring 127 = .ok (.iload 4, 2) := by decide +kernel
theorem dX7_ring_129 : decode cX7_ring 129 = .ok (.goto 4, 3) := by decide +kernel
theorem dX7_ring_132 : decode cX7_ring 132 = .ok (.iload_n 1, 1) := by decide +kernel
theorem dX7_ring_133 : decode cX7_ring 133 = .ok (.istore_n 1, 1) := by decide +kernel
theorem dX7_ring_134 : decode cX7_ring 134 = .ok (.iinc 4 1, 3) := by decide +kernel
theorem dX7_ring_137 : decode cX7_ring 137 = .ok (.goto (-115), 3) := by decide +kernel
theorem dX7_ring_140 : decode cX7_ring 140 = .ok (.iinc 2 1, 3) := by decide +kernel
theorem dX7_ring_143 : decode cX7_ring 143 = .ok (.goto (-138), 3) := by decide +kernel
theorem dX7_ring_146 : decode cX7_ring 146 = .ok (.iload_n 1, 1) := by decide +kernel
theorem dX7_ring_147 : decode cX7_ring 147 = .ok (.ireturn, 1) := by decide +kernel
theorem dX7_note_0 : decode cX7_note 0 = .ok (.aload_n 0, 1) := by decide +kernel
theorem dX7_note_1 : decode cX7_note 1 = .ok (.iload_n 1, 1) := by decide +kernel
theorem dX7_note_2 : decode cX7_note 2 = .ok (.invokevirtual 140, 3) := by decide +kernel
theorem dX7_note_5 : decode cX7_note 5 = .ok (.ifCond .ne 5, 3) := by decide +kernel
theorem dX7_note_8 : decode cX7_note 8 = .ok (.iconst (-1), 1) := by decide +kernel
theorem dX7_note_9 : decode cX7_note 9 = .ok (.ireturn, 1) := by decide +kernel
theorem dX7_note_10 : decode cX7_note 10 = .ok (.aload_n 0, 1) := by decide +kernel
theorem dX7_note_11 : decode cX7_note 11 = .ok (.getfield 126, 3) := by decide +kernel
theorem dX7_note_14 : decode cX7_note 14 = .ok (.bipush 8, 2) := by decide +kernel
theorem dX7_note_16 : decode cX7_note 16 = .ok (.if_icmp .ne 6, 3) := by decide +kernel
theorem dX7_note_19 : decode cX7_note 19 = .ok (.bipush (-3), 2) := by decide +kernel
theorem dX7_note_21 : decode cX7_note 21 = .ok (.ireturn, 1) := by decide +kernel
theorem dX7_note_22 : decode cX7_note 22 = .ok (.aload_n 0, 1) := by decide +kernel
theorem dX7_note_23 : decode cX7_note 23 = .ok (.getfield 44, 3) := by decide +kernel
theorem dX7_note_26 : decode cX7_note 26 = .ok (.aload_n 0, 1) := by decide +kernel
theorem dX7_note_27 : decode cX7_note 27 = .ok (.getfield 126, 3) := by decide +kernel
theorem dX7_note_30 : decode cX7_note 30 = .ok (.iload_n 1, 1) := by decide +kernel
theorem dX7_note_31 : decode cX7_note 31 = .ok (.iastore, 1) := by decide +kernel
theorem dX7_note_32 : decode cX7_note 32 = .ok (.aload_n 0, 1) := by decide +kernel
theorem dX7_note_33 : decode cX7_note 33 = .ok (.dup, 1) := by decide +kernel
theorem dX7_note_34 : decode cX7_note 34 = .ok (.getfield 126, 3) := by decide +kernel
theorem dX7_note_37 : decode cX7_note 37 = .ok (.iconst 1, 1) := by decide +kernel
theorem dX7_note_38 : decode cX7_note 38 = .ok (.iadd, 1) := by decide +kernel
theorem dX7_note_39 : decode cX7_note 39 = .ok (.putfield 126, 3) := by decide +kernel
theorem dX7_note_42 : decode cX7_note 42 = .ok (.aload_n 0, 1) := by decide +kernel
theorem dX7_note_43 : decode cX7_note 43 = .ok (.getfield 126, 3) := by decide +kernel
theorem dX7_note_46 : decode cX7_note 46 = .ok (.ireturn, 1) := by decide +kernel
theorem dX7_forget_0 : decode cX7_forget 0 = .ok (.aload_n 0, 1) := by decide +kernel
theorem dX7_forget_1 : decode cX7_forget 1 = .ok (.getfield 126, 3) := by decide +kernel
theorem dX7_forget_4 : decode cX7_forget 4 = .ok (.istore_n 1, 1) := by decide +kernel
theorem dX7_forget_5 : decode cX7_forget 5 = .ok (.aload_n 0, 1) := by decide +kernel
theorem dX7_forget_6 : decode cX7_forget 6 = .ok (.iconst 0, 1) := by decide +kernel
theorem dX7_forget_7 : decode cX7_forget 7 = .ok (.putfield 126, 3) := by decide +kernel
theorem dX7_forget_10 : decode cX7_forget 10 = .ok (.iload_n 1, 1) := by decide +kernel
theorem dX7_forget_11 : decode cX7_forget 11 = .ok (.ireturn, 1) := by decide +kernel
theorem dX7_fair_0 : decode cX7_fair 0 = .ok (.aload_n 0, 1) := by decide +kernel
theorem dX7_fair_1 : decode cX7_fair 1 = .ok (.iload_n 1, 1) := by decide +kernel
theorem dX7_fair_2 : decode cX7_fair 2 = .ok (.invokevirtual 140, 3) := by decide +kernel
theorem dX7_fair_5 : decode cX7_fair 5 = .ok (.ifCond .eq 22, 3) := by decide +kernel
theorem dX7_fair_8 : decode cX7_fair 8 = .ok (.iload_n 2, 1) := by decide +kernel
theorem dX7_fair_9 : decode cX7_fair 9 = .ok (.iconst 1, 1) := by decide +kernel
theorem dX7_fair_10 : decode cX7_fair 10 = .ok (.bipush 9, 2) := by decide +kernel
theorem dX7_fair_12 : decode cX7_fair 12 = .ok (.invokestatic 60, 3) := by decide +kernel
theorem dX7_fair_15 : decode cX7_fair 15 = .ok (.ifCond .eq 12, 3) := by decide +kernel
theorem dX7_fair_18 : decode cX7_fair 18 = .ok (.iload_n 3, 1) := by decide +kernel
theorem dX7_fair_19 : decode cX7_fair 19 = .ok (.iconst 0, 1) := by decide +kernel
theorem dX7_fair_20 : decode cX7_fair 20 = .ok (.iconst 1, 1) := by decide +kernel
theorem dX7_fair_21 : decode cX7_fair 21 = .ok (.invokestatic 60, 3) := by decide +kernel
theorem dX7_fair_24 : decode cX7_fair 24 = .ok (.ifCond .ne 7, 3) := by decide +kernel
theorem dX7_fair_27 : decode cX7_fair 27 = .ok (.ldc2_w 172, 3) := by decide +kernel
theorem dX7_fair_30 : decode cX7_fair 30 = .ok (.lreturn, 1) := by decide +kernel
theorem dX7_fair_31 : decode cX7_fair 31 = .ok (.iconst 0, 1) := by decide +kernel
theorem dX7_fair_32 : decode cX7_fair 32 = .ok (.istore 4, 2) := by decide +kernel
theorem dX7_fair_34 : decode cX7_fair 34 = .ok (.iconst 0, 1) := by decide +kernel
theorem dX7_fair_35 : decode cX7_fair 35 = .ok (.istore 5, 2) := by decide +kernel
theorem dX7_fair_37 : decode cX7_fair 37 = .ok (.iload 5, 2) := by decide +kernel
theorem dX7_fair_39 : decode cX7_fair 39 = .ok (.aload_n 0, 1) := by decide +kernel
theorem dX7_fair_40 : decode cX7_fair 40 = .ok (.getfield 13, 3) := by decide +kernel
theorem dX7_fair_43 : decode cX7_fair 43 = .ok (.iconst 0, 1) := by decide +kernel
theorem dX7_fair_44 : decode cX7_fair 44 = .ok (.iaload, 1) := by decide +kernel
theorem dX7_fair_45 : decode cX7_fair 45 = .ok (.if_icmp .ge 21, 3) := by decide +kernel
theorem dX7_fair_48 : decode cX7_fair 48 = .ok (.iload 4, 2) := by decide +kernel
theorem dX7_fair_50 : decode cX7_fair 50 = .ok (.aload_n 0, 1) := by decide +kernel
theorem dX7_fair_51 : decode cX7_fair 51 = .ok (.getfield 20, 3) := by decide +kernel
theorem dX7_fair_54 : decode cX7_fair 54 = .ok (.iload 5, 2) := by decide +kernel
theorem dX7_fair_56 : decode cX7_fair 56 = .ok (.iaload, 1) := by decide +kernel
theorem dX7_fair_57 : decode cX7_fair 57 = .ok (.iadd, 1) := by decide +kernel
theorem dX7_fair_58 : decode cX7_fair 58 = .ok (.istore 4, 2) := by decide +kernel
theorem dX7_fair_60 : decode cX7_fair 60 = .ok (.iinc 5 1, 3) := by decide +kernel
theorem dX7_fair_63 : decode cX7_fair 63 = .ok (.goto (-26), 3) := by decide +kernel
theorem dX7_fair_66 : decode cX7_fair 66 = .ok (.iload_n 2, 1) := by decide +kernel
theorem dX7_fair_67 : decode cX7_fair 67 = .ok (.i2l, 1) := by decide +kernel
theorem dX7_fair_68 : decode cX7_fair 68 = .ok (.lstore 5, 2) := by decide +kernel
theorem dX7_fair_70 : decode cX7_fair 70 = .ok (.ldc2_w 178, 3) := by decide +kernel
theorem dX7_fair_73 : decode cX7_fair 73 = .ok (.iload_n 2, 1) := by decide +kernel
theorem dX7_fair_74 : decode cX7_fair 74 = .ok (.i2l, 1) := by decide +kernel
theorem dX7_fair_75 : decode cX7_fair 75 = .ok (.lsub, 1) := by decide +kernel
theorem dX7_fair_76 : decode cX7_fair 76 = .ok (.lstore 7, 2) := by decide +kernel
theorem dX7_fair_78 : decode cX7_fair 78 = .ok (.iconst 0, 1) := by decide +kernel
theorem dX7_fair_79 : decode cX7_fair 79 = .ok (.istore 9, 2) := by decide +kernel
theorem dX7_fair_81 : decode cX7_fair 81 = .ok (.iload 9, 2) := by decide +kernel
theorem dX7_fair_83 : decode cX7_fair 83 = .ok (.aload_n 0, 1) := by decide +kernel
theorem dX7_fair_84 : decode cX7_fair 84 = .ok (.getfield 126, 3) := by decide +kernel
theorem dX7_fair_87 : decode cX7_fair 87 = .ok (.if_icmp .ge 72, 3) := by decide +kernel
theorem dX7_fair_90 : decode cX7_fair 90 = .ok (.aload_n 0, 1) := by decide +kernel
theorem dX7_fair_91 : decode cX7_fair 91 = .ok (.getfield 20, 3) := by decide +kernel
theorem dX7_fair_94 : decode cX7_fair 94 = .ok (.aload_n 0, 1) := by decide +kernel
theorem dX7_fair_95 : decode cX7_fair 95 = .ok (.getfield 44, 3) := by decide +kernel
theorem dX7_fair_98 : decode cX7_fair 98 = .ok (.iload 9, 2) := by decide +kernel
theorem dX7_fair_100 : decode cX7_fair 100 = .ok (.iaload, 1) := by decide +kernel
theorem dX7_fair_101 : decode cX7_fair 101 = .ok (.iaload, 1) := by decide +kernel
theorem dX7_fair_102 : decode cX7_fair 102 = .ok (.ifCond .ne 7, 3) := by decide +kernel
theorem dX7_fair_105 : decode cX7_fair 105 = .ok (.ldc2_w 195, 3) := by decide +kernel
theorem dX7_fair_108 : decode cX7_fair 108 = .ok (.lreturn, 1) := by decide +kernel
theorem dX7_fair_109 : decode cX7_fair 109 = .ok (.lload 5, 2) := by decide +kernel
theorem dX7_fair_111 : decode cX7_fair 111 = .ok (.aload_n 0, 1) := by decide +kernel
theorem dX7_fair_112 : decode cX7_fair 112 = .ok (.getfield 44, 3) := by decide +kernel
theorem dX7_fair_115 : decode cX7_fair 115 = .ok (.iload 9, 2) := by decide +kernel
theorem dX7_fair_117 : decode cX7_fair 117 = .ok (.iaload, 1) := by decide +kernel
theorem dX7_fair_118 : decode cX7_fair 118 = .ok (.iload_n 1, 1) := by decide +kernel
theorem dX7_fair_119 : decode cX7_fair 119 = .ok (.if_icmp .ne 13, 3) := by decide +kernel
theorem dX7_fair_122 : decode cX7_fair 122 = .ok (.ldc2_w 197, 3) := by decide +kernel
theorem dX7_fair_125 : decode cX7_fair 125 = .ok (.iload 4, 2) := by decide +kernel
theorem dX7_fair_127 : decode cX7_fair 127 = .ok (.i2l, 1) := by decide +kernel
theorem dX7_fair_128 : decode cX7_fair 128 = .ok (.lmul, 1) := by decide +kernel
theorem dX7_fair_129 : decode cX7_fair 129 = .ok (.goto 6, 3) := by decide +kernel
theorem dX7_fair_132 : decode cX7_fair 132 = .ok (.iload 4, 2) := by decide +kernel
theorem dX7_fair_134 : decode cX7_fair 134 = .ok (.i2l, 1) := by decide +kernel
theorem dX7_fair_135 : decode cX7_fair 135 = .ok (.lmul, 1) := by decide +kernel
theorem dX7_fair_136 : decode cX7_fair 136 = .ok (.lstore 5, 2) := by decide +kernel
theorem dX7_fair_138 : decode cX7_fair 138 = .ok (.lload 7, 2) := by decide +kernel
theorem dX7_fair_140 : decode cX7_fair 140 = .ok (.iload 4, 2) := by decide +kernel
theorem dX7_fair_142 : decode cX7_fair 142 = .ok (.aload_n 0, 1) := by decide +kernel
theorem dX7_fair_143 : decode cX7_fair 143 = .ok (.getfield 20, 3) := by decide +kernel
theorem dX7_fair_146 : decode cX7_fair 146 = .ok (.iload_n 1, 1) := by decide +kernel
theorem dX7_fair_147 : decode cX7_fair 147 = .ok (.iaload, 1) := by decide +kernel
theorem dX7_fair_148 : decode cX7_fair 148 = .ok (.iadd, 1) := by decide +kernel
theorem dX7_fair_149 : decode cX7_fair 149 = .ok (.i2l, 1) := by decide +kernel
theorem dX7_fair_150 : decode cX7_fair 150 = .ok (.lmul, 1) := by decide +kernel
theorem dX7_fair_151 : decode cX7_fair 151 = .ok (.lstore 7, 2) := by decide +kernel
theorem dX7_fair_153 : decode cX7_fair 153 = .ok (.iinc 9 1, 3) := by decide +kernel
theorem dX7_fair_156 : decode cX7_fair 156 = .ok (.goto (-75), 3) := by decide +kernel
theorem dX7_fair_159 : decode cX7_fair 159 = .ok (.lload 5, 2) := by decide +kernel
theorem dX7_fair_161 : decode cX7_fair 161 = .ok (.lload 5, 2) := by decide +kernel
theorem dX7_fair_163 : decode cX7_fair 163 = .ok (.lload 7, 2) := by decide +kernel
theorem dX7_fair_165 : decode cX7_fair 165 = .ok (.ladd, 1) := by decide +kernel
theorem dX7_fair_166 : decode cX7_fair 166 = .ok (.invokestatic 168, 3) := by decide +kernel
theorem dX7_fair_169 : decode cX7_fair 169 = .ok (.lstore 9, 2) := by decide +kernel
theorem dX7_fair_171 : decode cX7_fair 171 = .ok (.iload_n 3, 1) := by decide +kernel
theorem dX7_fair_172 : decode cX7_fair 172 = .ok (.ifCond .ne 11, 3) := by decide +kernel
theorem dX7_fair_175 : decode cX7_fair 175 = .ok (.lload 5, 2) := by decide +kernel
theorem dX7_fair_177 : decode cX7_fair 177 = .ok (.lload 9, 2) := by decide +kernel
theorem dX7_fair_179 : decode cX7_fair 179 = .ok (.ldiv, 1) := by decide +kernel
theorem dX7_fair_180 : decode cX7_fair 180 = .ok (.goto 11, 3) := by decide +kernel
theorem dX7_fair_183 : decode cX7_fair 183 = .ok (.lload 5, 2) := by decide +kernel
theorem dX7_fair_185 : decode cX7_fair 185 = .ok (.lload 7, 2) := by decide +kernel
theorem dX7_fair_187 : decode cX7_fair 187 = .ok (.ladd, 1) := by decide +kernel
theorem dX7_fair_188 : decode cX7_fair 188 = .ok (.lload 9, 2) := by decide +kernel
theorem dX7_fair_190 : decode cX7_fair 190 = .ok (.ldiv, 1) := by decide +kernel
theorem dX7_fair_191 : decode cX7_fair 191 = .ok (.lreturn, 1) := by decide +kernel
theorem dX7_seats_0 : decode cX7_seats 0 = .ok (.iload_n 1, 1) := by decide +kernel
theorem dX7_seats_1 : decode cX7_seats 1 = .ok (.iconst 0, 1) := by decide +kernel
theorem dX7_seats_2 : decode cX7_seats 2 = .ok (.bipush 8, 2) := by decide +kernel
theorem dX7_seats_4 : decode cX7_seats 4 = .ok (.invokestatic 60, 3) := by decide +kernel
theorem dX7_seats_7 : decode cX7_seats 7 = .ok (.ifCond .ne 7, 3) := by decide +kernel
theorem dX7_seats_10 : decode cX7_seats 10 = .ok (.ldc2_w 172, 3) := by decide +kernel
theorem dX7_seats_13 : decode cX7_seats 13 = .ok (.lreturn, 1) := by decide +kernel
theorem dX7_seats_14 : decode cX7_seats 14 = .ok (.lconst 1, 1) := by decide +kernel
theorem dX7_seats_15 : decode cX7_seats 15 = .ok (.lstore_n 2, 1) := by decide +kernel
theorem dX7_seats_16 : decode cX7_seats 16 = .ok (.iconst 0, 1) := by decide +kernel
theorem dX7_seats_17 : decode cX7_seats 17 = .ok (.istore 4, 2) := by decide +kernel
theorem dX7_seats_19 : decode cX7_seats 19 = .ok (.iload 4, 2) := by decide +kernel
theorem dX7_seats_21 : decode cX7_seats 21 = .ok (.iconst 5, 1) := by decide +kernel
theorem dX7_seats_22 : decode cX7_seats 22 = .ok (.if_icmp .ge 17, 3) := by decide +kernel
theorem dX7_seats_25 : decode cX7_seats 25 = .ok (.aload_n 0, 1) := by decide +kernel
theorem dX7_seats_26 : decode cX7_seats 26 = .ok (.getfield 47, 3) := by decide +kernel
theorem dX7_seats_29 : decode cX7_seats 29 = .ok (.iload 4, 2) := by decide +kernel
theorem dX7_seats_31 : decode cX7_seats 31 = .ok (.lconst 0, 1) := by decide +kernel
theorem dX7_seats_32 : decode cX7_seats 32 = .ok (.lastore, 1) := by decide +kernel
theorem dX7_seats_33 : decode cX7_seats 33 = .ok (.iinc 4 1, 3) := by decide +kernel
theorem dX7_seats_36 : decode cX7_seats 36 = .ok (.goto (-17), 3) := by decide +kernel
theorem dX7_seats_39 : decode cX7_seats 39 = .ok (.iconst 0, 1) := by decide +kernel
theorem dX7_seats_40 : decode cX7_seats 40 = .ok (.istore 4, 2) := by decide +kernel
theorem dX7_seats_42 : decode cX7_seats 42 = .ok (.iload 4, 2) := by decide +kernel
theorem dX7_seats_44 : decode cX7_seats 44 = .ok (.iload_n 1, 1) := by decide +kernel
theorem dX7_seats_45 : decode cX7_seats 45 = .ok (.if_icmp .ge 106, 3) := by decide +kernel
theorem dX7_seats_48 : decode cX7_seats 48 = .ok (.lconst 0, 1) := by decide +kernel
theorem dX7_seats_49 : decode cX7_seats 49 = .ok (.lstore 5, 2) := by decide +kernel
theorem dX7_seats_51 : decode cX7_seats 51 = .ok (.iconst 0, 1) := by decide +kernel
theorem dX7_seats_52 : decode cX7_seats 52 = .ok (.istore 7, 2) := by decide +kernel
theorem dX7_seats_54 : decode cX7_seats 54 = .ok (.iload 7, 2) := by decide +kernel
theorem dX7_seats_56 : decode cX7_seats 56 = .ok (.aload_n 0, 1) := by decide +kernel
theorem dX7_seats_57 : decode cX7_seats 57 = .ok (.getfield 13, 3) := by decide +kernel
theorem dX7_seats_60 : decode cX7_seats 60 = .ok (.iconst 0, 1) := by decide +kernel
theorem dX7_seats_61 : decode cX7_seats 61 = .ok (.iaload, 1) := by decide +kernel
theorem dX7_seats_62 : decode cX7_seats 62 = .ok (.if_icmp .ge 46, 3) := by decide +kernel
theorem dX7_seats_65 : decode cX7_seats 65 = .ok (.aload_n 0, 1) := by decide +kernel
theorem dX7_seats_66 : decode cX7_seats 66 = .ok (.getfield 51, 3) := by decide +kernel
theorem dX7_seats_69 : decode cX7_seats 69 = .ok (.iload 7, 2) := by decide +kernel
theorem dX7_seats_71 : decode cX7_seats 71 = .ok (.aload_n 0, 1) := by decide +kernel
theorem dX7_seats_72 : decode cX7_seats 72 = .ok (.getfield 20, 3) := by decide +kernel
theorem dX7_seats_75 : decode cX7_seats 75 = .ok (.iload 7, 2) := by decide +kernel
theorem dX7_seats_77 : decode cX7_seats 77 = .ok (.iaload, 1) := by decide +kernel
theorem dX7_seats_78 : decode cX7_seats 78 = .ok (.i2l, 1) := by decide +kernel
theorem dX7_seats_79 : decode cX7_seats 79 = .ok (.lload_n 2, 1) := by decide +kernel
theorem dX7_seats_80 : decode cX7_seats 80 = .ok (.aload_n 0, 1) := by decide +kernel
theorem dX7_seats_81 : decode cX7_seats 81 = .ok (.getfield 47, 3) := by decide +kernel
theorem dX7_seats_84 : decode cX7_seats 84 = .ok (.iload 7, 2) := by decide +kernel
theorem dX7_seats_86 : decode cX7_seats 86 = .ok (.laload, 1) := by decide +kernel
theorem dX7_seats_87 : decode cX7_seats 87 = .ok (.lsub, 1) := by decide +kernel
theorem dX7_seats_88 : decode cX7_seats 88 = .ok (.lmul, 1) := by decide +kernel
theorem dX7_seats_89 : decode cX7_seats 89 = .ok (.lastore, 1) := by decide +kernel
theorem dX7_seats_90 : decode cX7_seats 90 = .ok (.lload 5, 2) := by decide +kernel
theorem dX7_seats_92 : decode cX7_seats 92 = .ok (.aload_n 0, 1) := by decide +kernel
theorem dX7_seats_93 : decode cX7_seats 93 = .ok (.getfield 51, 3) := by decide +kernel
theorem dX7_seats_96 : decode cX7_seats 96 = .ok (.iload 7, 2) := by decide +kernel
theorem dX7_seats_98 : decode cX7_seats 98 = .ok (.laload, 1) := by decide +kernel
theorem dX7_seats_99 : decode cX7_seats 99 = .ok (.ladd, 1) := by decide +kernel
theorem dX7_seats_100 : decode cX7_seats 100 = .ok (.lstore 5, 2) := by decide +kernel
theorem dX7_seats_102 : decode cX7_seats 102 = .ok (.iinc 7 1, 3) := by decide +kernel
theorem dX7_seats_105 : decode cX7_seats 105 = .ok (.goto (-51), 3) := by decide +kernel
theorem dX7_seats_108 : decode cX7_seats 108 = .ok (.iconst 0, 1) := by decide +kernel
theorem dX7_seats_109 : decode cX7_seats 109 = .ok (.istore 7, 2) := by decide +kernel
theorem dX7_seats_111 : decode cX7_seats 111 = .ok (.iload 7, 2) := by decide +kernel
theorem dX7_seats_113 : decode cX7_seats 113 = .ok (.aload_n 0, 1) := by decide +kernel
theorem dX7_seats_114 : decode cX7_seats 114 = .ok (.getfield 13, 3) := by decide +kernel
theorem dX7_seats_117 : decode cX7_seats 117 = .ok (.iconst 0, 1) := by decide +kernel
theorem dX7_seats_118 : decode cX7_seats 118 = .ok (.iaload, 1) := by decide +kernel
theorem dX7_seats_119 : decode cX7_seats 119 = .ok (.if_icmp .ge 23, 3) := by decide +kernel
theorem dX7_seats_122 : decode cX7_seats 122 = .ok (.aload_n 0, 1) := by decide +kernel
theorem dX7_seats_123 : decode cX7_seats 123 = .ok (.getfield 47, 3) := by decide +kernel
theorem dX7_seats_126 : decode cX7_seats 126 = .ok (.iload 7, 2) := by decide +kernel
theorem dX7_seats_128 : decode cX7_seats 128 = .ok (.aload_n 0, 1) := by decide +kernel
theorem dX7_seats_129 : decode cX7_seats 129 = .ok (.getfield 51, 3) := by decide +kernel
theorem dX7_seats_132 : decode cX7_seats 132 = .ok (.iload 7, 2) := by decide +kernel
theorem dX7_seats_134 : decode cX7_seats 134 = .ok (.laload, 1) := by decide +kernel
theorem dX7_seats_135 : decode cX7_seats 135 = .ok (.lastore, 1) := by decide +kernel
theorem dX7_seats_136 : decode cX7_seats 136 = .ok (.iinc 7 1, 3) := by decide +kernel
theorem dX7_seats_139 : decode cX7_seats 139 = .ok (.goto (-28), 3) := by decide +kernel
theorem dX7_seats_142 : decode cX7_seats 142 = .ok (.lload 5, 2) := by decide +kernel
theorem dX7_seats_144 : decode cX7_seats 144 = .ok (.lstore_n 2, 1) := by decide +kernel
theorem dX7_seats_145 : decode cX7_seats 145 = .ok (.iinc 4 1, 3) := by decide +kernel
theorem dX7_seats_148 : decode cX7_seats 148 = .ok (.goto (-106), 3) := by decide +kernel
theorem dX7_seats_151 : decode cX7_seats 151 = .ok (.lload_n 2, 1) := by decide +kernel
theorem dX7_seats_152 : decode cX7_seats 152 = .ok (.lreturn, 1) := by decide +kernel
theorem dX7_turn_0 : decode cX7_turn 0 = .ok (.aload_n 0, 1) := by decide +kernel
theorem dX7_turn_1 : decode cX7_turn 1 = .ok (.getfield 41, 3) := by decide +kernel
theorem dX7_turn_4 : decode cX7_turn 4 = .ok (.invokestatic 147, 3) := by decide +kernel
theorem dX7_turn_7 : decode cX7_turn 7 = .ok (.istore_n 2, 1) := by decide +kernel
theorem dX7_turn_8 : decode cX7_turn 8 = .ok (.iload_n 1, 1) := by decide +kernel
theorem dX7_turn_9 : decode cX7_turn 9 = .ok (.iconst 4, 1) := by decide +kernel
theorem dX7_turn_10 : decode cX7_turn 10 = .ok (.irem, 1) := by decide +kernel
theorem dX7_turn_11 : decode cX7_turn 11 = .ok (.tableswitch 181 0 2 #[25, 61, 118], 25) := by decide +kernel
theorem dX7_turn_36 : decode cX7_turn 36 = .ok (.iload_n 2, 1) := by decide +kernel
theorem dX7_turn_37 : decode cX7_turn 37 = .ok (.ifCond .le 155, 3) := by decide +kernel
theorem dX7_turn_40 : decode cX7_turn 40 = .ok (.aload_n 0, 1) := by decide +kernel
theorem dX7_turn_41 : decode cX7_turn 41 = .ok (.getfield 41, 3) := by decide +kernel
theorem dX7_turn_44 : decode cX7_turn 44 = .ok (.bipush 11, 2) := by decide +kernel
theorem dX7_turn_46 : decode cX7_turn 46 = .ok (.iaload, 1) := by decide +kernel
theorem dX7_turn_47 : decode cX7_turn 47 = .ok (.aload_n 0, 1) := by decide +kernel
theorem dX7_turn_48 : decode cX7_turn 48 = .ok (.getfield 17, 3) := by decide +kernel
theorem dX7_turn_51 : decode cX7_turn 51 = .ok (.iconst 0, 1) := by decide +kernel
theorem dX7_turn_52 : decode cX7_turn 52 = .ok (.iaload, 1) := by decide +kernel
theorem dX7_turn_53 : decode cX7_turn 53 = .ok (.if_icmp .ge 139, 3) := by decide +kernel
theorem dX7_turn_56 : decode cX7_turn 56 = .ok (.aload_n 0, 1) := by decide +kernel
theorem dX7_turn_57 : decode cX7_turn 57 = .ok (.getfield 41, 3) := by decide +kernel
theorem dX7_turn_60 : decode cX7_turn 60 = .ok (.iload_n 1, 1) := by decide +kernel
theorem dX7_turn_61 : decode cX7_turn 61 = .ok (.iconst 4, 1) := by decide +kernel
theorem dX7_turn_62 : decode cX7_turn 62 = .ok (.idiv, 1) := by decide +kernel
theorem dX7_turn_63 : decode cX7_turn 63 = .ok (.iload_n 2, 1) := by decide +kernel
theorem dX7_turn_64 : decode cX7_turn 64 = .ok (.irem, 1) := by decide +kernel
theorem dX7_turn_65 : decode cX7_turn 65 = .ok (.invokestatic 154, 3) := by decide +kernel
theorem dX7_turn_68 : decode cX7_turn 68 = .ok (.pop, 1) := by decide +kernel
theorem dX7_turn_69 : decode cX7_turn 69 = .ok (.goto 123, 3) := by decide +kernel
theorem dX7_turn_72 : decode cX7_turn 72 = .ok (.iload_n 1, 1) := by decide +kernel
theorem dX7_turn_73 : decode cX7_turn 73 = .ok (.iconst 4, 1) := by decide +kernel
theorem dX7_turn_74 : decode cX7_turn 74 = .ok (.idiv, 1) := by decide +kernel
theorem dX7_turn_75 : decode cX7_turn 75 = .ok (.aload_n 0, 1) := by decide +kernel
theorem dX7_turn_76 : decode cX7_turn 76 = .ok (.getfield 13, 3) := by decide +kernel
theorem dX7_turn_79 : decode cX7_turn 79 = .ok (.iconst 0, 1) := by decide +kernel
theorem dX7_turn_80 : decode cX7_turn 80 = .ok (.iaload, 1) := by decide +kernel
theorem dX7_turn_81 : decode cX7_turn 81 = .ok (.irem, 1) := by decide +kernel
theorem dX7_turn_82 : decode cX7_turn 82 = .ok (.istore_n 3, 1) := by decide +kernel
theorem dX7_turn_83 : decode cX7_turn 83 = .ok (.iload_n 1, 1) := by decide +kernel
theorem dX7_turn_84 : decode cX7_turn 84 = .ok (.bipush 64, 2) := by decide +kernel
theorem dX7_turn_86 : decode cX7_turn 86 = .ok (.idiv, 1) := by decide +kernel
theorem dX7_turn_87 : decode cX7_turn 87 = .ok (.iconst 3, 1) := by decide +kernel
theorem dX7_turn_88 : decode cX7_turn 88 = .ok (.irem, 1) := by decide +kernel
theorem dX7_turn_89 : decode cX7_turn 89 = .ok (.iconst 1, 1) := by decide +kernel
theorem dX7_turn_90 : decode cX7_turn 90 = .ok (.iadd, 1) := by decide +kernel
theorem dX7_turn_91 : decode cX7_turn 91 = .ok (.istore 4, 2) := by decide +kernel
theorem dX7_turn_93 : decode cX7_turn 93 = .ok (.aload_n 0, 1) := by decide +kernel
theorem dX7_turn_94 : decode cX7_turn 94 = .ok (.getfield 41, 3) := by decide +kernel
theorem dX7_turn_97 : decode cX7_turn 97 = .ok (.iconst 0, 1) := by decide +kernel
theorem dX7_turn_98 : decode cX7_turn 98 = .ok (.iload_n 3, 1) := by decide +kernel
theorem dX7_turn_99 : decode cX7_turn 99 = .ok (.iadd, 1) := by decide +kernel
theorem dX7_turn_100 : decode cX7_turn 100 = .ok (.dup2, 1) := by decide +kernel
theorem dX7_turn_101 : decode cX7_turn 101 = .ok (.iaload, 1) := by decide +kernel
theorem dX7_turn_102 : decode cX7_turn 102 = .ok (.aload_n 0, 1) := by decide +kernel
theorem dX7_turn_103 : decode cX7_turn 103 = .ok (.getfield 41, 3) := by decide +kernel
theorem dX7_turn_106 : decode cX7_turn 106 = .ok (.iconst 0, 1) := by decide +kernel
theorem dX7_turn_107 : decode cX7_turn 107 = .ok (.iload_n 3, 1) := by decide +kernel
theorem dX7_turn_108 : decode cX7_turn 108 = .ok (.iadd, 1) := by decide +kernel
theorem dX7_turn_109 : decode cX7_turn 109 = .ok (.iaload, 1) := by decide +kernel
theorem dX7_turn_110 : decode cX7_turn 110 = .ok (.iload 4, 2) := by decide +kernel
theorem dX7_turn_112 : decode cX7_turn 112 = .ok (.iadd, 1) := by decide +kernel
theorem dX7_turn_113 : decode cX7_turn 113 = .ok (.bipush 9, 2) := by decide +kernel
theorem dX7_turn_115 : decode cX7_turn 115 = .ok (.if_icmp .le 7, 3) := by decide +kernel
theorem dX7_turn_118 : decode cX7_turn 118 = .ok (.iconst 0, 1) := by decide +kernel
theorem dX7_turn_119 : decode cX7_turn 119 = .ok (.goto 5, 3) := by decide +kernel
theorem dX7_turn_122 : decode cX7_turn 122 = .ok (.iload 4, 2) := by decide +kernel
theorem dX7_turn_124 : decode cX7_turn 124 = .ok (.iadd, 1) := by decide +kernel
theorem dX7_turn_125 : decode cX7_turn 125 = .ok (.iastore, 1) := by decide +kernel
theorem dX7_turn_126 : decode cX7_turn 126 = .ok (.goto 66, 3) := by decide +kernel
theorem dX7_turn_129 : decode cX7_turn 129 = .ok (.aload_n 0, 1) := by decide +kernel
theorem dX7_turn_130 : decode cX7_turn 130 = .ok (.getfield 17, 3) := by decide +kernel
theorem dX7_turn_133 : decode cX7_turn 133 = .ok (.iconst 0, 1) := by decide +kernel
theorem dX7_turn_134 : decode cX7_turn 134 = .ok (.iaload, 1) := by decide +kernel
theorem dX7_turn_135 : decode cX7_turn 135 = .ok (.ifCond .le 57, 3) := by decide +kernel
theorem dX7_turn_138 : decode cX7_turn 138 = .ok (.iload_n 1, 1) := by decide +kernel
theorem dX7_turn_139 : decode cX7_turn 139 = .ok (.iconst 4, 1) := by decide +kernel
theorem dX7_turn_140 : decode cX7_turn 140 = .ok (.idiv, 1) := by decide +kernel
theorem dX7_turn_141 : decode cX7_turn 141 = .ok (.aload_n 0, 1) := by decide +kernel
theorem dX7_turn_142 : decode cX7_turn 142 = .ok (.getfield 17, 3) := by decide +kernel
theorem dX7_turn_145 : decode cX7_turn 145 = .ok (.iconst 0, 1) := by decide +kernel
theorem dX7_turn_146 : decode cX7_turn 146 = .ok (.iaload, 1) := by decide +kernel
theorem dX7_turn_147 : decode cX7_turn 147 = .ok (.irem, 1) := by decide +kernel
theorem dX7_turn_148 : decode cX7_turn 148 = .ok (.istore 5, 2) := by decide +kernel
theorem dX7_turn_150 : decode cX7_turn 150 = .ok (.aload_n 0, 1) := by decide +kernel
theorem dX7_turn_151 : decode cX7_turn 151 = .ok (.getfield 41, 3) := by decide +kernel
theorem dX7_turn_154 : decode cX7_turn 154 = .ok (.iconst 5, 1) := by decide +kernel
theorem dX7_turn_155 : decode cX7_turn 155 = .ok (.iload 5, 2) := by decide +kernel
theorem dX7_turn_157 : decode cX7_turn 157 = .ok (.iadd, 1) := by decide +kernel
theorem dX7_turn_158 : decode cX7_turn 158 = .ok (.aload_n 0, 1) := by decide +kernel
theorem dX7_turn_159 : decode cX7_turn 159 = .ok (.getfield 41, 3) := by decide +kernel
theorem dX7_turn_162 : decode cX7_turn 162 = .ok (.iconst 5, 1) := by decide +kernel
theorem dX7_turn_163 : decode cX7_turn 163 = .ok (.iload 5, 2) := by decide +kernel
theorem dX7_turn_165 : decode cX7_turn 165 = .ok (.iadd, 1) := by decide +kernel
theorem dX7_turn_166 : decode cX7_turn 166 = .ok (.iaload, 1) := by decide +kernel
theorem dX7_turn_167 : decode cX7_turn 167 = .ok (.bipush (-4), 2) := by decide +kernel
theorem dX7_turn_169 : decode cX7_turn 169 = .ok (.if_icmp .ne 8, 3) := by decide +kernel
theorem dX7_turn_172 : decode cX7_turn 172 = .ok (.bipush (-4), 2) := by decide +kernel
theorem dX7_turn_174 : decode cX7_turn 174 = .ok (.goto 14, 3) := by decide +kernel
theorem dX7_turn_177 : decode cX7_turn 177 = .ok (.iload_n 1, 1) := by decide +kernel
theorem dX7_turn_178 : decode cX7_turn 178 = .ok (.bipush 64, 2) := by decide +kernel
theorem dX7_turn_180 : decode cX7_turn 180 = .ok (.idiv, 1) := by decide +kernel
theorem dX7_turn_181 : decode cX7_turn 181 = .ok (.aload_n 0, 1) := by decide +kernel
theorem dX7_turn_182 : decode cX7_turn 182 = .ok (.getfield 13, 3) := by decide +kernel
theorem dX7_turn_185 : decode cX7_turn 185 = .ok (.iconst 0, 1) := by decide +kernel
theorem dX7_turn_186 : decode cX7_turn 186 = .ok (.iaload, 1) := by decide +kernel
theorem dX7_turn_187 : decode cX7_turn 187 = .ok (.irem, 1) := by decide +kernel
theorem dX7_turn_188 : decode cX7_turn 188 = .ok (.iastore, 1) := by decide +kernel
theorem dX7_turn_189 : decode cX7_turn 189 = .ok (.goto 3, 3) := by decide +kernel
theorem dX7_turn_192 : decode cX7_turn 192 = .ok (.return_, 1) := by decide +kernel
theorem dX7_year_0 : decode cX7_year 0 = .ok (.iload_n 1, 1) := by decide +kernel
theorem dX7_year_1 : decode cX7_year 1 = .ok (.iconst 0, 1) := by decide +kernel
theorem dX7_year_2 : decode cX7_year 2 = .ok (.sipush 9999, 3) := by decide +kernel
theorem dX7_year_5 : decode cX7_year 5 = .ok (.invokestatic 60, 3) := by decide +kernel
theorem dX7_year_8 : decode cX7_year 8 = .ok (.ifCond .eq 22, 3) := by decide +kernel
theorem dX7_year_11 : decode cX7_year 11 = .ok (.iload_n 2, 1) := by decide +kernel
theorem dX7_year_12 : decode cX7_year 12 = .ok (.iconst 1, 1) := by decide +kernel
theorem dX7_year_13 : decode cX7_year 13 = .ok (.bipush 60, 2) := by decide +kernel
theorem dX7_year_15 : decode cX7_year 15 = .ok (.invokestatic 60, 3) := by decide +kernel
theorem dX7_year_18 : decode cX7_year 18 = .ok (.ifCond .eq 12, 3) := by decide +kernel
theorem dX7_year_21 : decode cX7_year 21 = .ok (.iload_n 3, 1) := by decide +kernel
theorem dX7_year_22 : decode cX7_year 22 = .ok (.iconst 0, 1) := by decide +kernel
theorem dX7_year_23 : decode cX7_year 23 = .ok (.iconst 1, 1) := by decide +kernel
theorem dX7_year_24 : decode cX7_year 24 = .ok (.invokestatic 60, 3) := by decide +kernel
theorem dX7_year_27 : decode cX7_year 27 = .ok (.ifCond .ne 5, 3) := by decide +kernel
theorem dX7_year_30 : decode cX7_year 30 = .ok (.iconst (-1), 1) := by decide +kernel
theorem dX7_year_31 : decode cX7_year 31 = .ok (.ireturn, 1) := by decide +kernel
theorem dX7_year_32 : decode cX7_year 32 = .ok (.aload_n 0, 1) := by decide +kernel
theorem dX7_year_33 : decode cX7_year 33 = .ok (.invokevirtual 183, 3) := by decide +kernel
theorem dX7_year_36 : decode cX7_year 36 = .ok (.iconst 0, 1) := by decide +kernel
theorem dX7_year_37 : decode cX7_year 37 = .ok (.istore 4, 2) := by decide +kernel
theorem dX7_year_39 : decode cX7_year 39 = .ok (.iload 4, 2) := by decide +kernel
theorem dX7_year_41 : decode cX7_year 41 = .ok (.iload_n 2, 1) := by decide +kernel
theorem dX7_year_42 : decode cX7_year 42 = .ok (.if_icmp .ge 41, 3) := by decide +kernel
theorem dX7_year_45 : decode cX7_year 45 = .ok (.ldc2_w 199, 3) := by decide +kernel
theorem dX7_year_48 : decode cX7_year 48 = .ok (.iload_n 1, 1) := by decide +kernel
theorem dX7_year_49 : decode cX7_year 49 = .ok (.i2l, 1) := by decide +kernel
theorem dX7_year_50 : decode cX7_year 50 = .ok (.lmul, 1) := by decide +kernel
theorem dX7_year_51 : decode cX7_year 51 = .ok (.ldc2_w 201, 3) := by decide +kernel
theorem dX7_year_54 : decode cX7_year 54 = .ok (.iload 4, 2) := by decide +kernel
theorem dX7_year_56 : decode cX7_year 56 = .ok (.i2l, 1) := by decide +kernel
theorem dX7_year_57 : decode cX7_year 57 = .ok (.lmul, 1) := by decide +kernel
theorem dX7_year_58 : decode cX7_year 58 = .ok (.ladd, 1) := by decide +kernel
theorem dX7_year_59 : decode cX7_year 59 = .ok (.lconst 1, 1) := by decide +kernel
theorem dX7_year_60 : decode cX7_year 60 = .ok (.ladd, 1) := by decide +kernel
theorem dX7_year_61 : decode cX7_year 61 = .ok (.lstore 5, 2) := by decide +kernel
theorem dX7_year_63 : decode cX7_year 63 = .ok (.aload_n 0, 1) := by decide +kernel
theorem dX7_year_64 : decode cX7_year 64 = .ok (.lload 5, 2) := by decide +kernel
theorem dX7_year_66 : decode cX7_year 66 = .ok (.lload 5, 2) := by decide +kernel
theorem dX7_year_68 : decode cX7_year 68 = .ok (.lmul, 1) := by decide +kernel
theorem dX7_year_69 : decode cX7_year 69 = .ok (.ldc2_w 203, 3) := by decide +kernel
theorem dX7_year_72 : decode cX7_year 72 = .ok (.lrem, 1) := by decide +kernel
theorem dX7_year_73 : decode cX7_year 73 = .ok (.l2i, 1) := by decide +kernel
theorem dX7_year_74 : decode cX7_year 74 = .ok (.invokevirtual 205, 3) := by decide +kernel
theorem dX7_year_77 : decode cX7_year 77 = .ok (.iinc 4 1, 3) := by decide +kernel
theorem dX7_year_80 : decode cX7_year 80 = .ok (.goto (-41), 3) := by decide +kernel
theorem dX7_year_83 : decode cX7_year 83 = .ok (.iload_n 3, 1) := by decide +kernel
theorem dX7_year_84 : decode cX7_year 84 = .ok (.ifCond .ne 14, 3) := by decide +kernel
theorem dX7_year_87 : decode cX7_year 87 = .ok (.aload_n 0, 1) := by decide +kernel
theorem dX7_year_88 : decode cX7_year 88 = .ok (.aload_n 0, 1) := by decide +kernel
theorem dX7_year_89 : decode cX7_year 89 = .ok (.getfield 41, 3) := by decide +kernel
theorem dX7_year_92 : decode cX7_year 92 = .ok (.invokevirtual 180, 3) := by decide +kernel
theorem dX7_year_95 : decode cX7_year 95 = .ok (.goto 15, 3) := by decide +kernel
theorem dX7_year_98 : decode cX7_year 98 = .ok (.aload_n 0, 1) := by decide +kernel
theorem dX7_year_99 : decode cX7_year 99 = .ok (.aload_n 0, 1) := by decide +kernel
theorem dX7_year_100 : decode cX7_year 100 = .ok (.getfield 41, 3) := by decide +kernel
theorem dX7_year_103 : decode cX7_year 103 = .ok (.invokevirtual 189, 3) := by decide +kernel
theorem dX7_year_106 : decode cX7_year 106 = .ok (.sipush 1000, 3) := by decide +kernel
theorem dX7_year_109 : decode cX7_year 109 = .ok (.iadd, 1) := by decide +kernel
theorem dX7_year_110 : decode cX7_year 110 = .ok (.ireturn, 1) := by decide +kernel
theorem dX7_keep_0 : decode cX7_keep 0 = .ok (.aload_n 0, 1) := by decide +kernel
theorem dX7_keep_1 : decode cX7_keep 1 = .ok (.getfield 123, 3) := by decide +kernel
theorem dX7_keep_4 : decode cX7_keep 4 = .ok (.iconst 2, 1) := by decide +kernel
theorem dX7_keep_5 : decode cX7_keep 5 = .ok (.if_icmp .ne 6, 3) := by decide +kernel
theorem dX7_keep_8 : decode cX7_keep 8 = .ok (.bipush (-3), 2) := by decide +kernel
theorem dX7_keep_10 : decode cX7_keep 10 = .ok (.ireturn, 1) := by decide +kernel
theorem dX7_keep_11 : decode cX7_keep 11 = .ok (.iconst 0, 1) := by decide +kernel
theorem dX7_keep_12 : decode cX7_keep 12 = .ok (.istore_n 1, 1) := by decide +kernel
theorem dX7_keep_13 : decode cX7_keep 13 = .ok (.iload_n 1, 1) := by decide +kernel
theorem dX7_keep_14 : decode cX7_keep 14 = .ok (.bipush 14, 2) := by decide +kernel
theorem dX7_keep_16 : decode cX7_keep 16 = .ok (.if_icmp .ge 29, 3) := by decide +kernel
theorem dX7_keep_19 : decode cX7_keep 19 = .ok (.aload_n 0, 1) := by decide +kernel
theorem dX7_keep_20 : decode cX7_keep 20 = .ok (.getfield 38, 3) := by decide +kernel
theorem dX7_keep_23 : decode cX7_keep 23 = .ok (.bipush 14, 2) := by decide +kernel
theorem dX7_keep_25 : decode cX7_keep 25 = .ok (.aload_n 0, 1) := by decide +kernel
theorem dX7_keep_26 : decode cX7_keep 26 = .ok (.getfield 123, 3) := by decide +kernel
theorem dX7_keep_29 : decode cX7_keep 29 = .ok (.imul, 1) := by decide +kernel
theorem dX7_keep_30 : decode cX7_keep 30 = .ok (.iload_n 1, 1) := by decide +kernel
theorem dX7_keep_31 : decode cX7_keep 31 = .ok (.iadd, 1) := by decide +kernel
theorem dX7_keep_32 : decode cX7_keep 32 = .ok (.aload_n 0, 1) := by decide +kernel
theorem dX7_keep_33 : decode cX7_keep 33 = .ok (.getfield 32, 3) := by decide +kernel
theorem dX7_keep_36 : decode cX7_keep 36 = .ok (.iload_n 1, 1) := by decide +kernel
theorem dX7_keep_37 : decode cX7_keep 37 = .ok (.iaload, 1) := by decide +kernel
theorem dX7_keep_38 : decode cX7_keep 38 = .ok (.iastore, 1) := by decide +kernel
theorem dX7_keep_39 : decode cX7_keep 39 = .ok (.iinc 1 1, 3) := by decide +kernel
theorem dX7_keep_42 : decode cX7_keep 42 = .ok (.goto (-29), 3) := by decide +kernel
theorem dX7_keep_45 : decode cX7_keep 45 = .ok (.aload_n 0, 1) := by decide +kernel
theorem dX7_keep_46 : decode cX7_keep 46 = .ok (.dup, 1) := by decide +kernel
theorem dX7_keep_47 : decode cX7_keep 47 = .ok (.getfield 123, 3) := by decide +kernel
theorem dX7_keep_50 : decode cX7_keep 50 = .ok (.iconst 1, 1) := by decide +kernel
theorem dX7_keep_51 : decode cX7_keep 51 = .ok (.iadd, 1) := by decide +kernel
theorem dX7_keep_52 : decode cX7_keep 52 = .ok (.putfield 123, 3) := by decide +kernel
theorem dX7_keep_55 : decode cX7_keep 55 = .ok (.aload_n 0, 1) := by decide +kernel
theorem dX7_keep_56 : decode cX7_keep 56 = .ok (.getfield 123, 3) := by decide +kernel
theorem dX7_keep_59 : decode cX7_keep 59 = .ok (.ireturn, 1) := by decide +kernel
theorem dX7_back_0 : decode cX7_back 0 = .ok (.aload_n 0, 1) := by decide +kernel
theorem dX7_back_1 : decode cX7_back 1 = .ok (.getfield 123, 3) := by decide +kernel
theorem dX7_back_4 : decode cX7_back 4 = .ok (.ifCond .ne 6, 3) := by decide +kernel
theorem dX7_back_7 : decode cX7_back 7 = .ok (.bipush (-2), 2) := by decide +kernel
theorem dX7_back_9 : decode cX7_back 9 = .ok (.ireturn, 1) := by decide +kernel
theorem dX7_back_10 : decode cX7_back 10 = .ok (.aload_n 0, 1) := by decide +kernel
theorem dX7_back_11 : decode cX7_back 11 = .ok (.dup, 1) := by decide +kernel
theorem dX7_back_12 : decode cX7_back 12 = .ok (.getfield 123, 3) := by decide +kernel
theorem dX7_back_15 : decode cX7_back 15 = .ok (.iconst 1, 1) := by decide +kernel
theorem dX7_back_16 : decode cX7_back 16 = .ok (.isub, 1) := by decide +kernel
theorem dX7_back_17 : decode cX7_back 17 = .ok (.putfield 123, 3) := by decide +kernel
theorem dX7_back_20 : decode cX7_back 20 = .ok (.iconst 0, 1) := by decide +kernel
theorem dX7_back_21 : decode cX7_back 21 = .ok (.istore_n 1, 1) := by decide +kernel
theorem dX7_back_22 : decode cX7_back 22 = .ok (.iload_n 1, 1) := by decide +kernel
theorem dX7_back_23 : decode cX7_back 23 = .ok (.bipush 14, 2) := by decide +kernel
theorem dX7_back_25 : decode cX7_back 25 = .ok (.if_icmp .ge 29, 3) := by decide +kernel
theorem dX7_back_28 : decode cX7_back 28 = .ok (.aload_n 0, 1) := by decide +kernel
theorem dX7_back_29 : decode cX7_back 29 = .ok (.getfield 32, 3) := by decide +kernel
theorem dX7_back_32 : decode cX7_back 32 = .ok (.iload_n 1, 1) := by decide +kernel
theorem dX7_back_33 : decode cX7_back 33 = .ok (.aload_n 0, 1) := by decide +kernel
theorem dX7_back_34 : decode cX7_back 34 = .ok (.getfield 38, 3) := by decide +kernel
theorem dX7_back_37 : decode cX7_back 37 = .ok (.bipush 14, 2) := by decide +kernel
theorem dX7_back_39 : decode cX7_back 39 = .ok (.aload_n 0, 1) := by decide +kernel
theorem dX7_back_40 : decode cX7_back 40 = .ok (.getfield 123, 3) := by decide +kernel
theorem dX7_back_43 : decode cX7_back 43 = .ok (.imul, 1) := by decide +kernel
theorem dX7_back_44 : decode cX7_back 44 = .ok (.iload_n 1, 1) := by decide +kernel
theorem dX7_back_45 : decode cX7_back 45 = .ok (.iadd, 1) := by decide +kernel
theorem dX7_back_46 : decode cX7_back 46 = .ok (.iaload, 1) := by decide +kernel
theorem dX7_back_47 : decode cX7_back 47 = .ok (.iastore, 1) := by decide +kernel
theorem dX7_back_48 : decode cX7_back 48 = .ok (.iinc 1 1, 3) := by decide +kernel
theorem dX7_back_51 : decode cX7_back 51 = .ok (.goto (-29), 3) := by decide +kernel
theorem dX7_back_54 : decode cX7_back 54 = .ok (.aload_n 0, 1) := by decide +kernel
theorem dX7_back_55 : decode cX7_back 55 = .ok (.iconst 0, 1) := by decide +kernel
theorem dX7_back_56 : decode cX7_back 56 = .ok (.putfield 120, 3) := by decide +kernel
theorem dX7_back_59 : decode cX7_back 59 = .ok (.aload_n 0, 1) := by decide +kernel
theorem dX7_back_60 : decode cX7_back 60 = .ok (.getfield 123, 3) := by decide +kernel
theorem dX7_back_63 : decode cX7_back 63 = .ok (.ireturn, 1) := by decide +kernel
theorem dX7_count_0 : decode cX7_count 0 = .ok (.iload_n 1, 1) := by decide +kernel
theorem dX7_count_1 : decode cX7_count 1 = .ok (.tableswitch 148 0 9 #[55, 62, 69, 77, 106, 115, 128, 133, 138, 143], 55) := by decide +kernel
theorem dX7_count_56 : decode cX7_count 56 = .ok (.aload_n 0, 1) := by decide +kernel
theorem dX7_count_57 : decode cX7_count 57 = .ok (.getfield 13, 3) := by decide +kernel
theorem dX7_count_60 : decode cX7_count 60 = .ok (.iconst 0, 1) := by decide +kernel
theorem dX7_count_61 : decode cX7_count 61 = .ok (.iaload, 1) := by decide +kernel
theorem dX7_count_62 : decode cX7_count 62 = .ok (.ireturn, 1) := by decide +kernel
theorem dX7_count_63 : decode cX7_count 63 = .ok (.aload_n 0, 1) := by decide +kernel
theorem dX7_count_64 : decode cX7_count 64 = .ok (.getfield 17, 3) := by decide +kernel
theorem dX7_count_67 : decode cX7_count 67 = .ok (.iconst 0, 1) := by decide +kernel
theorem dX7_count_68 : decode cX7_count 68 = .ok (.iaload, 1) := by decide +kernel
theorem dX7_count_69 : decode cX7_count 69 = .ok (.ireturn, 1) := by decide +kernel
theorem dX7_count_70 : decode cX7_count 70 = .ok (.aload_n 0, 1) := by decide +kernel
theorem dX7_count_71 : decode cX7_count 71 = .ok (.getfield 32, 3) := by decide +kernel
theorem dX7_count_74 : decode cX7_count 74 = .ok (.invokestatic 147, 3) := by decide +kernel
theorem dX7_count_77 : decode cX7_count 77 = .ok (.ireturn, 1) := by decide +kernel
theorem dX7_count_78 : decode cX7_count 78 = .ok (.aload_n 0, 1) := by decide +kernel
theorem dX7_count_79 : decode cX7_count 79 = .ok (.getfield 32, 3) := by decide +kernel
theorem dX7_count_82 : decode cX7_count 82 = .ok (.bipush 11, 2) := by decide +kernel
theorem dX7_count_84 : decode cX7_count 84 = .ok (.iaload, 1) := by decide +kernel
theorem dX7_count_85 : decode cX7_count 85 = .ok (.aload_n 0, 1) := by decide +kernel
theorem dX7_count_86 : decode cX7_count 86 = .ok (.getfield 17, 3) := by decide +kernel
theorem dX7_count_89 : decode cX7_count 89 = .ok (.iconst 0, 1) := by decide +kernel
theorem dX7_count_90 : decode cX7_count 90 = .ok (.iaload, 1) := by decide +kernel
theorem dX7_count_91 : decode cX7_count 91 = .ok (.if_icmp .ge 13, 3) := by decide +kernel
theorem dX7_count_94 : decode cX7_count 94 = .ok (.aload_n 0, 1) := by decide +kernel
theorem dX7_count_95 : decode cX7_count 95 = .ok (.getfield 32, 3) := by decide +kernel
theorem dX7_count_98 : decode cX7_count 98 = .ok (.bipush 11, 2) := by decide +kernel
theorem dX7_count_100 : decode cX7_count 100 = .ok (.iaload, 1) := by decide +kernel
theorem dX7_count_101 : decode cX7_count 101 = .ok (.goto 5, 3) := by decide +kernel
theorem dX7_count_104 : decode cX7_count 104 = .ok (.bipush (-4), 2) := by decide +kernel
theorem dX7_count_106 : decode cX7_count 106 = .ok (.ireturn, 1) := by decide +kernel
theorem dX7_count_107 : decode cX7_count 107 = .ok (.aload_n 0, 1) := by decide +kernel
theorem dX7_count_108 : decode cX7_count 108 = .ok (.aload_n 0, 1) := by decide +kernel
theorem dX7_count_109 : decode cX7_count 109 = .ok (.getfield 32, 3) := by decide +kernel
theorem dX7_count_112 : decode cX7_count 112 = .ok (.invokevirtual 180, 3) := by decide +kernel
theorem dX7_count_115 : decode cX7_count 115 = .ok (.ireturn, 1) := by decide +kernel
theorem dX7_count_116 : decode cX7_count 116 = .ok (.aload_n 0, 1) := by decide +kernel
theorem dX7_count_117 : decode cX7_count 117 = .ok (.aload_n 0, 1) := by decide +kernel
theorem dX7_count_118 : decode cX7_count 118 = .ok (.getfield 32, 3) := by decide +kernel
theorem dX7_count_121 : decode cX7_count 121 = .ok (.invokevirtual 189, 3) := by decide +kernel
theorem dX7_count_124 : decode cX7_count 124 = .ok (.sipush 1000, 3) := by decide +kernel
theorem dX7_count_127 : decode cX7_count 127 = .ok (.iadd, 1) := by decide +kernel
theorem dX7_count_128 : decode cX7_count 128 = .ok (.ireturn, 1) := by decide +kernel
theorem dX7_count_129 : decode cX7_count 129 = .ok (.aload_n 0, 1) := by decide +kernel
theorem dX7_count_130 : decode cX7_count 130 = .ok (.getfield 126, 3) := by decide +kernel
theorem dX7_count_133 : decode cX7_count 133 = .ok (.ireturn, 1) := by decide +kernel
theorem dX7_count_134 : decode cX7_count 134 = .ok (.aload_n 0, 1) := by decide +kernel
theorem dX7_count_135 : decode cX7_count 135 = .ok (.getfield 120, 3) := by decide +kernel
theorem dX7_count_138 : decode cX7_count 138 = .ok (.ireturn, 1) := by decide +kernel
theorem dX7_count_139 : decode cX7_count 139 = .ok (.aload_n 0, 1) := by decide +kernel
theorem dX7_count_140 : decode cX7_count 140 = .ok (.getfield 123, 3) := by decide +kernel
theorem dX7_count_143 : decode cX7_count 143 = .ok (.ireturn, 1) := by decide +kernel
theorem dX7_count_144 : decode cX7_count 144 = .ok (.aload_n 0, 1) := by decide +kernel
theorem dX7_count_145 : decode cX7_count 145 = .ok (.getfield 64, 3) := by decide +kernel
theorem dX7_count_148 : decode cX7_count 148 = .ok (.ireturn, 1) := by decide +kernel
theorem dX7_count_149 : decode cX7_count 149 = .ok (.iconst (-1), 1) := by decide +kernel
theorem dX7_count_150 : decode cX7_count 150 = .ok (.ireturn, 1) := by decide +kernel
end
section
theorem dL_law_0 : decode cL_law 0 = .ok (.new 7, 3) := by decide +kernel
theorem dL_law_3 : decode cL_law 3 = .ok (.dup, 1) := by decide +kernel
theorem dL_law_4 : decode cL_law 4 = .ok (.invokespecial 9, 3) := by decide +kernel
theorem dL_law_7 : decode cL_law 7 = .ok (.astore_n 1, 1) := by decide +kernel
theorem dL_law_8 : decode cL_law 8 = .ok (.new 10, 3) := by decide +kernel
theorem dL_law_11 : decode cL_law 11 = .ok (.dup, 1) := by decide +kernel
theorem dL_law_12 : decode cL_law 12 = .ok (.invokespecial 12, 3) := by decide +kernel
theorem dL_law_15 : decode cL_law 15 = .ok (.astore_n 2, 1) := by decide +kernel
theorem dL_law_16 : decode cL_law 16 = .ok (.iconst 0, 1) := by decide +kernel
theorem dL_law_17 : decode cL_law 17 = .ok (.istore_n 3, 1) := by decide +kernel
theorem dL_law_18 : decode cL_law 18 = .ok (.iload_n 3, 1) := by decide +kernel
theorem dL_law_19 : decode cL_law 19 = .ok (.aload_n 0, 1) := by decide +kernel
theorem dL_law_20 : decode cL_law 20 = .ok (.arraylength, 1) := by decide +kernel
theorem dL_law_21 : decode cL_law 21 = .ok (.iconst 4, 1) := by decide +kernel
theorem dL_law_22 : decode cL_law 22 = .ok (.isub, 1) := by decide +kernel
theorem dL_law_23 : decode cL_law 23 = .ok (.if_icmp .gt 884, 3) := by decide +kernel
theorem dL_law_26 : decode cL_law 26 = .ok (.aload_n 0, 1) := by decide +kernel
theorem dL_law_27 : decode cL_law 27 = .ok (.iload_n 3, 1) := by decide +kernel
theorem dL_law_28 : decode cL_law 28 = .ok (.iaload, 1) := by decide +kernel
theorem dL_law_29 : decode cL_law 29 = .ok (.bipush 31, 2) := by decide +kernel
theorem dL_law_31 : decode cL_law 31 = .ok (.iand, 1) := by decide +kernel
theorem dL_law_32 : decode cL_law 32 = .ok (.tableswitch 869 0 29 #[136, 159, 172, 185, 198, 231, 264, 297, 320, 333, 366, 399, 432, 465, 478, 521, 555, 598, 611, 624, 647, 660, 673, 696, 709, 753, 777, 820, 833, 846], 136) := by decide +kernel
theorem dL_law_168 : decode cL_law 168 = .ok (.aload_n 1, 1) := by decide +kernel
theorem dL_law_169 : decode cL_law 169 = .ok (.aload_n 0, 1) := by decide +kernel
theorem dL_law_170 : decode cL_law 170 = .ok (.iload_n 3, 1) := by decide +kernel
theorem dL_law_171 : decode cL_law 171 = .ok (.iconst 1, 1) := by decide +kernel
theorem dL_law_172 : decode cL_law 172 = .ok (.iadd, 1) := by decide +kernel
theorem dL_law_173 : decode cL_law 173 = .ok (.iaload, 1) := by decide +kernel
theorem dL_law_174 : decode cL_law 174 = .ok (.invokevirtual 13, 3) := by decide +kernel
theorem dL_law_177 : decode cL_law 177 = .ok (.aload_n 2, 1) := by decide +kernel
theorem dL_law_178 : decode cL_law 178 = .ok (.aload_n 0, 1) := by decide +kernel
theorem dL_law_179 : decode cL_law 179 = .ok (.iload_n 3, 1) := by decide +kernel
theorem dL_law_180 : decode cL_law 180 = .ok (.iconst 1, 1) := by decide +kernel
theorem dL_law_181 : decode cL_law 181 = .ok (.iadd, 1) := by decide +kernel
theorem dL_law_182 : decode cL_law 182 = .ok (.iaload, 1) := by decide +kernel
theorem dL_law_183 : decode cL_law 183 = .ok (.invokevirtual 17, 3) := by decide +kernel
theorem dL_law_186 : decode cL_law 186 = .ok (.if_icmp .eq 715, 3) := by decide +kernel
theorem dL_law_189 : decode cL_law 189 = .ok (.iconst 0, 1) := by decide +kernel
theorem dL_law_190 : decode cL_law 190 = .ok (.ireturn, 1) := by decide +kernel
theorem dL_law_191 : decode cL_law 191 = .ok (.aload_n 1, 1) := by decide +kernel
theorem dL_law_192 : decode cL_law 192 = .ok (.invokevirtual 18, 3) := by decide +kernel
theorem dL_law_195 : decode cL_law 195 = .ok (.aload_n 2, 1) := by decide +kernel
theorem dL_law_196 : decode cL_law 196 = .ok (.invokevirtual 22, 3) := by decide +kernel
theorem dL_law_199 : decode cL_law 199 = .ok (.if_icmp .eq 702, 3) := by decide +kernel
theorem dL_law_202 : decode cL_law 202 = .ok (.iconst 0, 1) := by decide +kernel
theorem dL_law_203 : decode cL_law 203 = .ok (.ireturn, 1) := by decide +kernel
theorem dL_law_204 : decode cL_law 204 = .ok (.aload_n 1, 1) := by decide +kernel
theorem dL_law_205 : decode cL_law 205 = .ok (.invokevirtual 23, 3) := by decide +kernel
theorem dL_law_208 : decode cL_law 208 = .ok (.aload_n 2, 1) := by decide +kernel
theorem dL_law_209 : decode cL_law 209 = .ok (.invokevirtual 26, 3) := by decide +kernel
theorem dL_law_212 : decode cL_law 212 = .ok (.if_icmp .eq 689, 3) := by decide +kernel
theorem dL_law_215 : decode cL_law 215 = .ok (.iconst 0, 1) := by decide +kernel
theorem dL_law_216 : decode cL_law 216 = .ok (.ireturn, 1) := by decide +kernel
theorem dL_law_217 : decode cL_law 217 = .ok (.aload_n 1, 1) := by decide +kernel
theorem dL_law_218 : decode cL_law 218 = .ok (.invokevirtual 27, 3) := by decide +kernel
theorem dL_law_221 : decode cL_law 221 = .ok (.aload_n 2, 1) := by decide +kernel
theorem dL_law_222 : decode cL_law 222 = .ok (.invokevirtual 30, 3) := by decide +kernel
theorem dL_law_225 : decode cL_law 225 = .ok (.if_icmp .eq 676, 3) := by decide +kernel
theorem dL_law_228 : decode cL_law 228 = .ok (.iconst 0, 1) := by decide +kernel
theorem dL_law_229 : decode cL_law 229 = .ok (.ireturn, 1) := by decide +kernel
theorem dL_law_230 : decode cL_law 230 = .ok (.aload_n 1, 1) := by decide +kernel
theorem dL_law_231 : decode cL_law 231 = .ok (.aload_n 0, 1) := by decide +kernel
theorem dL_law_232 : decode cL_law 232 = .ok (.iload_n 3, 1) := by decide +kernel
theorem dL_law_233 : decode cL_law 233 = .ok (.iconst 1, 1) := by decide +kernel
theorem dL_law_234 : decode cL_law 234 = .ok (.iadd, 1) := by decide +kernel
theorem dL_law_235 : decode cL_law 235 = .ok (.iaload, 1) := by decide +kernel
theorem dL_law_236 : decode cL_law 236 = .ok (.aload_n 0, 1) := by decide +kernel
theorem dL_law_237 : decode cL_law 237 = .ok (.iload_n 3, 1) := by decide +kernel
theorem dL_law_238 : decode cL_law 238 = .ok (.iconst 2, 1) := by decide +kernel
theorem dL_law_239 : decode cL_law 239 = .ok (.iadd, 1) := by decide +kernel
theorem dL_law_240 : decode cL_law 240 = .ok (.iaload, 1) := by decide +kernel
theorem dL_law_241 : decode cL_law 241 = .ok (.invokevirtual 31, 3) := by decide +kernel
theorem dL_law_244 : decode cL_law 244 = .ok (.aload_n 2, 1) := by decide +kernel
theorem dL_law_245 : decode cL_law 245 = .ok (.aload_n 0, 1) := by decide +kernel
theorem dL_law_246 : decode cL_law 246 = .ok (.iload_n 3, 1) := by decide +kernel
theorem dL_law_247 : decode cL_law 247 = .ok (.iconst 1, 1) := by decide +kernel
theorem dL_law_248 : decode cL_law 248 = .ok (.iadd, 1) := by decide +kernel
theorem dL_law_249 : decode cL_law 249 = .ok (.iaload, 1) := by decide +kernel
theorem dL_law_250 : decode cL_law 250 = .ok (.aload_n 0, 1) := by decide +kernel
theorem dL_law_251 : decode cL_law 251 = .ok (.iload_n 3, 1) := by decide +kernel
theorem dL_law_252 : decode cL_law 252 = .ok (.iconst 2, 1) := by decide +kernel
theorem dL_law_253 : decode cL_law 253 = .ok (.iadd, 1) := by decide +kernel
theorem dL_law_254 : decode cL_law 254 = .ok (.iaload, 1) := by decide +kernel
theorem dL_law_255 : decode cL_law 255 = .ok (.invokevirtual 35, 3) := by decide +kernel
theorem dL_law_258 : decode cL_law 258 = .ok (.if_icmp .eq 643, 3) := by decide +kernel
theorem dL_law_261 : decode cL_law 261 = .ok (.iconst 0, 1) := by decide +kernel
theorem dL_law_262 : decode cL_law 262 = .ok (.ireturn, 1) := by decide +kernel
theorem dL_law_263 : decode cL_law 263 = .ok (.aload_n 1, 1) := by decide +kernel
theorem dL_law_264 : decode cL_law 264 = .ok (.aload_n 0, 1) := by decide +kernel
theorem dL_law_265 : decode cL_law 265 = .ok (.iload_n 3, 1) := by decide +kernel
theorem dL_law_266 : decode cL_law 266 = .ok (.iconst 1, 1) := by decide +kernel
theorem dL_law_267 : decode cL_law 267 = .ok (.iadd, 1) := by decide +kernel
theorem dL_law_268 : decode cL_law 268 = .ok (.iaload, 1) := by decide +kernel
theorem dL_law_269 : decode cL_law 269 = .ok (.aload_n 0, 1) := by decide +kernel
theorem dL_law_270 : decode cL_law 270 = .ok (.iload_n 3, 1) := by decide +kernel
theorem dL_law_271 : decode cL_law 271 = .ok (.iconst 2, 1) := by decide +kernel
theorem dL_law_272 : decode cL_law 272 = .ok (.iadd, 1) := by decide +kernel
theorem dL_law_273 : decode cL_law 273 = .ok (.iaload, 1) := by decide +kernel
theorem dL_law_274 : decode cL_law 274 = .ok (.invokevirtual 36, 3) := by decide +kernel
theorem dL_law_277 : decode cL_law 277 = .ok (.aload_n 2, 1) := by decide +kernel
theorem dL_law_278 : decode cL_law 278 = .ok (.aload_n 0, 1) := by decide +kernel
theorem dL_law_279 : decode cL_law 279 = .ok (.iload_n 3, 1) := by decide +kernel
theorem dL_law_280 : decode cL_law 280 = .ok (.iconst 1, 1) := by decide +kernel
theorem dL_law_281 : decode cL_law 281 = .ok (.iadd, 1) := by decide +kernel
theorem dL_law_282 : decode cL_law 282 = .ok (.iaload, 1) := by decide +kernel
theorem dL_law_283 : decode cL_law 283 = .ok (.aload_n 0, 1) := by decide +kernel
theorem dL_law_284 : decode cL_law 284 = .ok (.iload_n 3, 1) := by decide +kernel
theorem dL_law_285 : decode cL_law 285 = .ok (.iconst 2, 1) := by decide +kernel
theorem dL_law_286 : decode cL_law 286 = .ok (.iadd, 1) := by decide +kernel
theorem dL_law_287 : decode cL_law 287 = .ok (.iaload, 1) := by decide +kernel
theorem dL_law_288 : decode cL_law 288 = .ok (.invokevirtual 39, 3) := by decide +kernel
theorem dL_law_291 : decode cL_law 291 = .ok (.if_icmp .eq 610, 3) := by decide +kernel
theorem dL_law_294 : decode cL_law 294 = .ok (.iconst 0, 1) := by decide +kernel
theorem dL_law_295 : decode cL_law 295 = .ok (.ireturn, 1) := by decide +kernel
theorem dL_law_296 : decode cL_law 296 = .ok (.aload_n 1, 1) := by decide +kernel
theorem dL_law_297 : decode cL_law 297 = .ok (.aload_n 0, 1) := by decide +kernel
theorem dL_law_298 : decode cL_law 298 = .ok (.iload_n 3, 1) := by decide +kernel
theorem dL_law_299 : decode cL_law 299 = .ok (.iconst 1, 1) := by decide +kernel
theorem dL_law_300 : decode cL_law 300 = .ok (.iadd, 1) := by decide +kernel
theorem dL_law_301 : decode cL_law 301 = .ok (.iaload, 1) := by decide +kernel
theorem dL_law_302 : decode cL_law 302 = .ok (.aload_n 0, 1) := by decide +kernel
theorem dL_law_303 : decode cL_law 303 = .ok (.iload_n 3, 1) := by decide +kernel
theorem dL_law_304 : decode cL_law 304 = .ok (.iconst 2, 1) := by decide +kernel
theorem dL_law_305 : decode cL_law 305 = .ok (.iadd, 1) := by decide +kernel
theorem dL_law_306 : decode cL_law 306 = .ok (.iaload, 1) := by decide +kernel
theorem dL_law_307 : decode cL_law 307 = .ok (.invokevirtual 40, 3) := by decide +kernel
theorem dL_law_310 : decode cL_law 310 = .ok (.aload_n 2, 1) := by decide +kernel
theorem dL_law_311 : decode cL_law 311 = .ok (.aload_n 0, 1) := by decide +kernel
theorem dL_law_312 : decode cL_law 312 = .ok (.iload_n 3, 1) := by decide +kernel
theorem dL_law_313 : decode cL_law 313 = .ok (.iconst 1, 1) := by decide +kernel
theorem dL_law_314 : decode cL_law 314 = .ok (.iadd, 1) := by decide +kernel
theorem dL_law_315 : decode cL_law 315 = .ok (.iaload, 1) := by decide +kernel
theorem dL_law_316 : decode cL_law 316 = .ok (.aload_n 0, 1) := by decide +kernel
theorem dL_law_317 : decode cL_law 317 = .ok (.iload_n 3, 1) := by decide +kernel
theorem dL_law_318 : decode cL_law 318 = .ok (.iconst 2, 1) := by decide +kernel
theorem dL_law_319 : decode cL_law 319 = .ok (.iadd, 1) := by decide +kernel
theorem dL_law_320 : decode cL_law 320 = .ok (.iaload, 1) := by decide +kernel
theorem dL_law_321 : decode cL_law 321 = .ok (.invokevirtual 43, 3) := by decide +kernel
theorem dL_law_324 : decode cL_law 324 = .ok (.if_icmp .eq 577, 3) := by decide +kernel
theorem dL_law_327 : decode cL_law 327 = .ok (.iconst 0, 1) := by decide +kernel
theorem dL_law_328 : decode cL_law 328 = .ok (.ireturn, 1) := by decide +kernel
theorem dL_law_329 : decode cL_law 329 = .ok (.aload_n 1, 1) := by decide +kernel
theorem dL_law_330 : decode cL_law 330 = .ok (.aload_n 0, 1) := by decide +kernel
theorem dL_law_331 : decode cL_law 331 = .ok (.iload_n 3, 1) := by decide +kernel
theorem dL_law_332 : decode cL_law 332 = .ok (.iconst 1, 1) := by decide +kernel
theorem dL_law_333 : decode cL_law 333 = .ok (.iadd, 1) := by decide +kernel
theorem dL_law_334 : decode cL_law 334 = .ok (.iaload, 1) := by decide +kernel
theorem dL_law_335 : decode cL_law 335 = .ok (.invokevirtual 44, 3) := by decide +kernel
theorem dL_law_338 : decode cL_law 338 = .ok (.aload_n 2, 1) := by decide +kernel
theorem dL_law_339 : decode cL_law 339 = .ok (.aload_n 0, 1) := by decide +kernel
theorem dL_law_340 : decode cL_law 340 = .ok (.iload_n 3, 1) := by decide +kernel
theorem dL_law_341 : decode cL_law 341 = .ok (.iconst 1, 1) := by decide +kernel
theorem dL_law_342 : decode cL_law 342 = .ok (.iadd, 1) := by decide +kernel
theorem dL_law_343 : decode cL_law 343 = .ok (.iaload, 1) := by decide +kernel
theorem dL_law_344 : decode cL_law 344 = .ok (.invokevirtual 47, 3) := by decide +kernel
theorem dL_law_347 : decode cL_law 347 = .ok (.if_icmp .eq 554, 3) := by decide +kernel
theorem dL_law_350 : decode cL_law 350 = .ok (.iconst 0, 1) := by decide +kernel
theorem dL_law_351 : decode cL_law 351 = .ok (.ireturn, 1) := by decide +kernel
theorem dL_law_352 : decode cL_law 352 = .ok (.aload_n 1, 1) := by decide +kernel
theorem dL_law_353 : decode cL_law 353 = .ok (.invokevirtual 48, 3) := by decide +kernel
theorem dL_law_356 : decode cL_law 356 = .ok (.aload_n 2, 1) := by decide +kernel
theorem dL_law_357 : decode cL_law 357 = .ok (.invokevirtual 51, 3) := by decide +kernel
theorem dL_law_360 : decode cL_law 360 = .ok (.if_icmp .eq 541, 3) := by decide +kernel
theorem dL_law_363 : decode cL_law 363 = .ok (.iconst 0, 1) := by decide +kernel
theorem dL_law_364 : decode cL_law 364 = .ok (.ireturn, 1) := by decide +kernel
theorem dL_law_365 : decode cL_law 365 = .ok (.aload_n 1, 1) := by decide +kernel
theorem dL_law_366 : decode cL_law 366 = .ok (.aload_n 0, 1) := by decide +kernel
theorem dL_law_367 : decode cL_law 367 = .ok (.iload_n 3, 1) := by decide +kernel
theorem dL_law_368 : decode cL_law 368 = .ok (.iconst 1, 1) := by decide +kernel
theorem dL_law_369 : decode cL_law 369 = .ok (.iadd, 1) := by decide +kernel
theorem dL_law_370 : decode cL_law 370 = .ok (.iaload, 1) := by decide +kernel
theorem dL_law_371 : decode cL_law 371 = .ok (.aload_n 0, 1) := by decide +kernel
theorem dL_law_372 : decode cL_law 372 = .ok (.iload_n 3, 1) := by decide +kernel
theorem dL_law_373 : decode cL_law 373 = .ok (.iconst 2, 1) := by decide +kernel
theorem dL_law_374 : decode cL_law 374 = .ok (.iadd, 1) := by decide +kernel
theorem dL_law_375 : decode cL_law 375 = .ok (.iaload, 1) := by decide +kernel
theorem dL_law_376 : decode cL_law 376 = .ok (.invokevirtual 52, 3) := by decide +kernel
theorem dL_law_379 : decode cL_law 379 = .ok (.aload_n 2, 1) := by decide +kernel
theorem dL_law_380 : decode cL_law 380 = .ok (.aload_n 0, 1) := by decide +kernel
theorem dL_law_381 : decode cL_law 381 = .ok (.iload_n 3, 1) := by decide +kernel
theorem dL_law_382 : decode cL_law 382 = .ok (.iconst 1, 1) := by decide +kernel
theorem dL_law_383 : decode cL_law 383 = .ok (.iadd, 1) := by decide +kernel
theorem dL_law_384 : decode cL_law 384 = .ok (.iaload, 1) := by decide +kernel
theorem dL_law_385 : decode cL_law 385 = .ok (.aload_n 0, 1) := by decide +kernel
theorem dL_law_386 : decode cL_law 386 = .ok (.iload_n 3, 1) := by decide +kernel
theorem dL_law_387 : decode cL_law 387 = .ok (.iconst 2, 1) := by decide +kernel
theorem dL_law_388 : decode cL_law 388 = .ok (.iadd, 1) := by decide +kernel
theorem dL_law_389 : decode cL_law 389 = .ok (.iaload, 1) := by decide +kernel
theorem dL_law_390 : decode cL_law 390 = .ok (.invokevirtual 55, 3) := by decide +kernel
theorem dL_law_393 : decode cL_law 393 = .ok (.if_icmp .eq 508, 3) := by decide +kernel
theorem dL_law_396 : decode cL_law 396 = .ok (.iconst 0, 1) := by decide +kernel
theorem dL_law_397 : decode cL_law 397 = .ok (.ireturn, 1) := by decide +kernel
theorem dL_law_398 : decode cL_law 398 = .ok (.aload_n 1, 1) := by decide +kernel
theorem dL_law_399 : decode cL_law 399 = .ok (.aload_n 0, 1) := by decide +kernel
theorem dL_law_400 : decode cL_law 400 = .ok (.iload_n 3, 1) := by decide +kernel
theorem dL_law_401 : decode cL_law 401 = .ok (.iconst 1, 1) := by decide +kernel
theorem dL_law_402 : decode cL_law 402 = .ok (.iadd, 1) := by decide +kernel
theorem dL_law_403 : decode cL_law 403 = .ok (.iaload, 1) := by decide +kernel
theorem dL_law_404 : decode cL_law 404 = .ok (.aload_n 0, 1) := by decide +kernel
theorem dL_law_405 : decode cL_law 405 = .ok (.iload_n 3, 1) := by decide +kernel
theorem dL_law_406 : decode cL_law 406 = .ok (.iconst 2, 1) := by decide +kernel
theorem dL_law_407 : decode cL_law 407 = .ok (.iadd, 1) := by decide +kernel
theorem dL_law_408 : decode cL_law 408 = .ok (.iaload, 1) := by decide +kernel
theorem dL_law_409 : decode cL_law 409 = .ok (.invokevirtual 56, 3) := by decide +kernel
theorem dL_law_412 : decode cL_law 412 = .ok (.aload_n 2, 1) := by decide +kernel
theorem dL_law_413 : decode cL_law 413 = .ok (.aload_n 0, 1) := by decide +kernel
theorem dL_law_414 : decode cL_law 414 = .ok (.iload_n 3, 1) := by decide +kernel
theorem dL_law_415 : decode cL_law 415 = .ok (.iconst 1, 1) := by decide +kernel
theorem dL_law_416 : decode cL_law 416 = .ok (.iadd, 1) := by decide +kernel
theorem dL_law_417 : decode cL_law 417 = .ok (.iaload, 1) := by decide +kernel
theorem dL_law_418 : decode cL_law 418 = .ok (.aload_n 0, 1) := by decide +kernel
theorem dL_law_419 : decode cL_law 419 = .ok (.iload_n 3, 1) := by decide +kernel
theorem dL_law_420 : decode cL_law 420 = .ok (.iconst 2, 1) := by decide +kernel
theorem dL_law_421 : decode cL_law 421 = .ok (.iadd, 1) := by decide +kernel
theorem dL_law_422 : decode cL_law 422 = .ok (.iaload, 1) := by decide +kernel
theorem dL_law_423 : decode cL_law 423 = .ok (.invokevirtual 59, 3) := by decide +kernel
theorem dL_law_426 : decode cL_law 426 = .ok (.if_icmp .eq 475, 3) := by decide +kernel
theorem dL_law_429 : decode cL_law 429 = .ok (.iconst 0, 1) := by decide +kernel
theorem dL_law_430 : decode cL_law 430 = .ok (.ireturn, 1) := by decide +kernel
theorem dL_law_431 : decode cL_law 431 = .ok (.aload_n 1, 1) := by decide +kernel
theorem dL_law_432 : decode cL_law 432 = .ok (.aload_n 0, 1) := by decide +kernel
theorem dL_law_433 : decode cL_law 433 = .ok (.iload_n 3, 1) := by decide +kernel
theorem dL_law_434 : decode cL_law 434 = .ok (.iconst 1, 1) := by decide +kernel
theorem dL_law_435 : decode cL_law 435 = .ok (.iadd, 1) := by decide +kernel
theorem dL_law_436 : decode cL_law 436 = .ok (.iaload, 1) := by decide +kernel
theorem dL_law_437 : decode cL_law 437 = .ok (.aload_n 0, 1) := by decide +kernel
theorem dL_law_438 : decode cL_law 438 = .ok (.iload_n 3, 1) := by decide +kernel
theorem dL_law_439 : decode cL_law 439 = .ok (.iconst 2, 1) := by decide +kernel
theorem dL_law_440 : decode cL_law 440 = .ok (.iadd, 1) := by decide +kernel
theorem dL_law_441 : decode cL_law 441 = .ok (.iaload, 1) := by decide +kernel
theorem dL_law_442 : decode cL_law 442 = .ok (.invokevirtual 60, 3) := by decide +kernel
theorem dL_law_445 : decode cL_law 445 = .ok (.aload_n 2, 1) := by decide +kernel
theorem dL_law_446 : decode cL_law 446 = .ok (.aload_n 0, 1) := by decide +kernel
theorem dL_law_447 : decode cL_law 447 = .ok (.iload_n 3, 1) := by decide +kernel
theorem dL_law_448 : decode cL_law 448 = .ok (.iconst 1, 1) := by decide +kernel
theorem dL_law_449 : decode cL_law 449 = .ok (.iadd, 1) := by decide +kernel
theorem dL_law_450 : decode cL_law 450 = .ok (.iaload, 1) := by decide +kernel
theorem dL_law_451 : decode cL_law 451 = .ok (.aload_n 0, 1) := by decide +kernel
theorem dL_law_452 : decode cL_law 452 = .ok (.iload_n 3, 1) := by decide +kernel
theorem dL_law_453 : decode cL_law 453 = .ok (.iconst 2, 1) := by decide +kernel
theorem dL_law_454 : decode cL_law 454 = .ok (.iadd, 1) := by decide +kernel
theorem dL_law_455 : decode cL_law 455 = .ok (.iaload, 1) := by decide +kernel
theorem dL_law_456 : decode cL_law 456 = .ok (.invokevirtual 63, 3) := by decide +kernel
theorem dL_law_459 : decode cL_law 459 = .ok (.if_icmp .eq 442, 3) := by decide +kernel
theorem dL_law_462 : decode cL_law 462 = .ok (.iconst 0, 1) := by decide +kernel
theorem dL_law_463 : decode cL_law 463 = .ok (.ireturn, 1) := by decide +kernel
theorem dL_law_464 : decode cL_law 464 = .ok (.aload_n 1, 1) := by decide +kernel
theorem dL_law_465 : decode cL_law 465 = .ok (.aload_n 0, 1) := by decide +kernel
theorem dL_law_466 : decode cL_law 466 = .ok (.iload_n 3, 1) := by decide +kernel
theorem dL_law_467 : decode cL_law 467 = .ok (.iconst 1, 1) := by decide +kernel
theorem dL_law_468 : decode cL_law 468 = .ok (.iadd, 1) := by decide +kernel
theorem dL_law_469 : decode cL_law 469 = .ok (.iaload, 1) := by decide +kernel
theorem dL_law_470 : decode cL_law 470 = .ok (.aload_n 0, 1) := by decide +kernel
theorem dL_law_471 : decode cL_law 471 = .ok (.iload_n 3, 1) := by decide +kernel
theorem dL_law_472 : decode cL_law 472 = .ok (.iconst 2, 1) := by decide +kernel
theorem dL_law_473 : decode cL_law 473 = .ok (.iadd, 1) := by decide +kernel
theorem dL_law_474 : decode cL_law 474 = .ok (.iaload, 1) := by decide +kernel
theorem dL_law_475 : decode cL_law 475 = .ok (.invokevirtual 64, 3) := by decide +kernel
theorem dL_law_478 : decode cL_law 478 = .ok (.aload_n 2, 1) := by decide +kernel
theorem dL_law_479 : decode cL_law 479 = .ok (.aload_n 0, 1) := by decide +kernel
theorem dL_law_480 : decode cL_law 480 = .ok (.iload_n 3, 1) := by decide +kernel
theorem dL_law_481 : decode cL_law 481 = .ok (.iconst 1, 1) := by decide +kernel
theorem dL_law_482 : decode cL_law 482 = .ok (.iadd, 1) := by decide +kernel
theorem dL_law_483 : decode cL_law 483 = .ok (.iaload, 1) := by decide +kernel
theorem dL_law_484 : decode cL_law 484 = .ok (.aload_n 0, 1) := by decide +kernel
theorem dL_law_485 : decode cL_law 485 = .ok (.iload_n 3, 1) := by decide +kernel
theorem dL_law_486 : decode cL_law 486 = .ok (.iconst 2, 1) := by decide +kernel
theorem dL_law_487 : decode cL_law 487 = .ok (.iadd, 1) := by decide +kernel
theorem dL_law_488 : decode cL_law 488 = .ok (.iaload, 1) := by decide +kernel
theorem dL_law_489 : decode cL_law 489 = .ok (.invokevirtual 67, 3) := by decide +kernel
theorem dL_law_492 : decode cL_law 492 = .ok (.if_icmp .eq 409, 3) := by decide +kernel
theorem dL_law_495 : decode cL_law 495 = .ok (.iconst 0, 1) := by decide +kernel
theorem dL_law_496 : decode cL_law 496 = .ok (.ireturn, 1) := by decide +kernel
theorem dL_law_497 : decode cL_law 497 = .ok (.aload_n 1, 1) := by decide +kernel
theorem dL_law_498 : decode cL_law 498 = .ok (.invokevirtual 68, 3) := by decide +kernel
theorem dL_law_501 : decode cL_law 501 = .ok (.aload_n 2, 1) := by decide +kernel
theorem dL_law_502 : decode cL_law 502 = .ok (.invokevirtual 71, 3) := by decide +kernel
theorem dL_law_505 : decode cL_law 505 = .ok (.if_icmp .eq 396, 3) := by decide +kernel
theorem dL_law_508 : decode cL_law 508 = .ok (.iconst 0, 1) := by decide +kernel
theorem dL_law_509 : decode cL_law 509 = .ok (.ireturn, 1) := by decide +kernel
theorem dL_law_510 : decode cL_law 510 = .ok (.aload_n 1, 1) := by decide +kernel
theorem dL_law_511 : decode cL_law 511 = .ok (.aload_n 0, 1) := by decide +kernel
theorem dL_law_512 : decode cL_law 512 = .ok (.iload_n 3, 1) := by decide +kernel
theorem dL_law_513 : decode cL_law 513 = .ok (.iconst 1, 1) := by decide +kernel
theorem dL_law_514 : decode cL_law 514 = .ok (.iadd, 1) := by decide +kernel
theorem dL_law_515 : decode cL_law 515 = .ok (.iaload, 1) := by decide +kernel
theorem dL_law_516 : decode cL_law 516 = .ok (.aload_n 0, 1) := by decide +kernel
theorem dL_law_517 : decode cL_law 517 = .ok (.iload_n 3, 1) := by decide +kernel
theorem dL_law_518 : decode cL_law 518 = .ok (.iconst 2, 1) := by decide +kernel
theorem dL_law_519 : decode cL_law 519 = .ok (.iadd, 1) := by decide +kernel
theorem dL_law_520 : decode cL_law 520 = .ok (.iaload, 1) := by decide +kernel
theorem dL_law_521 : decode cL_law 521 = .ok (.aload_n 0, 1) := by decide +kernel
theorem dL_law_522 : decode cL_law 522 = .ok (.iload_n 3, 1) := by decide +kernel
theorem dL_law_523 : decode cL_law 523 = .ok (.iconst 3, 1) := by decide +kernel
theorem dL_law_524 : decode cL_law 524 = .ok (.iadd, 1) := by decide +kernel
theorem dL_law_525 : decode cL_law 525 = .ok (.iaload, 1) := by decide +kernel
theorem dL_law_526 : decode cL_law 526 = .ok (.invokevirtual 72, 3) := by decide +kernel
theorem dL_law_529 : decode cL_law 529 = .ok (.aload_n 2, 1) := by decide +kernel
theorem dL_law_530 : decode cL_law 530 = .ok (.aload_n 0, 1) := by decide +kernel
theorem dL_law_531 : decode cL_law 531 = .ok (.iload_n 3, 1) := by decide +kernel
theorem dL_law_532 : decode cL_law 532 = .ok (.iconst 1, 1) := by decide +kernel
theorem dL_law_533 : decode cL_law 533 = .ok (.iadd, 1) := by decide +kernel
theorem dL_law_534 : decode cL_law 534 = .ok (.iaload, 1) := by decide +kernel
theorem dL_law_535 : decode cL_law 535 = .ok (.aload_n 0, 1) := by decide +kernel
theorem dL_law_536 : decode cL_law 536 = .ok (.iload_n 3, 1) := by decide +kernel
theorem dL_law_537 : decode cL_law 537 = .ok (.iconst 2, 1) := by decide +kernel
theorem dL_law_538 : decode cL_law 538 = .ok (.iadd, 1) := by decide +kernel
theorem dL_law_539 : decode cL_law 539 = .ok (.iaload, 1) := by decide +kernel
theorem dL_law_540 : decode cL_law 540 = .ok (.aload_n 0, 1) := by decide +kernel
theorem dL_law_541 : decode cL_law 541 = .ok (.iload_n 3, 1) := by decide +kernel
theorem dL_law_542 : decode cL_law 542 = .ok (.iconst 3, 1) := by decide +kernel
theorem dL_law_543 : decode cL_law 543 = .ok (.iadd, 1) := by decide +kernel
theorem dL_law_544 : decode cL_law 544 = .ok (.iaload, 1) := by decide +kernel
theorem dL_law_545 : decode cL_law 545 = .ok (.invokevirtual 76, 3) := by decide +kernel
theorem dL_law_548 : decode cL_law 548 = .ok (.if_icmp .eq 353, 3) := by decide +kernel
theorem dL_law_551 : decode cL_law 551 = .ok (.iconst 0, 1) := by decide +kernel
theorem dL_law_552 : decode cL_law 552 = .ok (.ireturn, 1) := by decide +kernel
theorem dL_law_553 : decode cL_law 553 = .ok (.aload_n 1, 1) := by decide +kernel
theorem dL_law_554 : decode cL_law 554 = .ok (.aload_n 0, 1) := by decide +kernel
theorem dL_law_555 : decode cL_law 555 = .ok (.iload_n 3, 1) := by decide +kernel
theorem dL_law_556 : decode cL_law 556 = .ok (.iconst 1, 1) := by decide +kernel
theorem dL_law_557 : decode cL_law 557 = .ok (.iadd, 1) := by decide +kernel
theorem dL_law_558 : decode cL_law 558 = .ok (.iaload, 1) := by decide +kernel
theorem dL_law_559 : decode cL_law 559 = .ok (.aload_n 0, 1) := by decide +kernel
theorem dL_law_560 : decode cL_law 560 = .ok (.iload_n 3, 1) := by decide +kernel
theorem dL_law_561 : decode cL_law 561 = .ok (.iconst 2, 1) := by decide +kernel
theorem dL_law_562 : decode cL_law 562 = .ok (.iadd, 1) := by decide +kernel
theorem dL_law_563 : decode cL_law 563 = .ok (.iaload, 1) := by decide +kernel
theorem dL_law_564 : decode cL_law 564 = .ok (.invokevirtual 77, 3) := by decide +kernel
theorem dL_law_567 : decode cL_law 567 = .ok (.aload_n 2, 1) := by decide +kernel
theorem dL_law_568 : decode cL_law 568 = .ok (.aload_n 0, 1) := by decide +kernel
theorem dL_law_569 : decode cL_law 569 = .ok (.iload_n 3, 1) := by decide +kernel
theorem dL_law_570 : decode cL_law 570 = .ok (.iconst 1, 1) := by decide +kernel
theorem dL_law_571 : decode cL_law 571 = .ok (.iadd, 1) := by decide +kernel
theorem dL_law_572 : decode cL_law 572 = .ok (.iaload, 1) := by decide +kernel
theorem dL_law_573 : decode cL_law 573 = .ok (.aload_n 0, 1) := by decide +kernel
theorem dL_law_574 : decode cL_law 574 = .ok (.iload_n 3, 1) := by decide +kernel
theorem dL_law_575 : decode cL_law 575 = .ok (.iconst 2, 1) := by decide +kernel
theorem dL_law_576 : decode cL_law 576 = .ok (.iadd, 1) := by decide +kernel
theorem dL_law_577 : decode cL_law 577 = .ok (.iaload, 1) := by decide +kernel
theorem dL_law_578 : decode cL_law 578 = .ok (.invokevirtual 81, 3) := by decide +kernel
theorem dL_law_581 : decode cL_law 581 = .ok (.lcmp, 1) := by decide +kernel
theorem dL_law_582 : decode cL_law 582 = .ok (.ifCond .eq 319, 3) := by decide +kernel
theorem dL_law_585 : decode cL_law 585 = .ok (.iconst 0, 1) := by decide +kernel
theorem dL_law_586 : decode cL_law 586 = .ok (.ireturn, 1) := by decide +kernel
theorem dL_law_587 : decode cL_law 587 = .ok (.aload_n 1, 1) := by decide +kernel
theorem dL_law_588 : decode cL_law 588 = .ok (.aload_n 0, 1) := by decide +kernel
theorem dL_law_589 : decode cL_law 589 = .ok (.iload_n 3, 1) := by decide +kernel
theorem dL_law_590 : decode cL_law 590 = .ok (.iconst 1, 1) := by decide +kernel
theorem dL_law_591 : decode cL_law 591 = .ok (.iadd, 1) := by decide +kernel
theorem dL_law_592 : decode cL_law 592 = .ok (.iaload, 1) := by decide +kernel
theorem dL_law_593 : decode cL_law 593 = .ok (.aload_n 0, 1) := by decide +kernel
theorem dL_law_594 : decode cL_law 594 = .ok (.iload_n 3, 1) := by decide +kernel
theorem dL_law_595 : decode cL_law 595 = .ok (.iconst 2, 1) := by decide +kernel
theorem dL_law_596 : decode cL_law 596 = .ok (.iadd, 1) := by decide +kernel
theorem dL_law_597 : decode cL_law 597 = .ok (.iaload, 1) := by decide +kernel
theorem dL_law_598 : decode cL_law 598 = .ok (.aload_n 0, 1) := by decide +kernel
theorem dL_law_599 : decode cL_law 599 = .ok (.iload_n 3, 1) := by decide +kernel
theorem dL_law_600 : decode cL_law 600 = .ok (.iconst 3, 1) := by decide +kernel
theorem dL_law_601 : decode cL_law 601 = .ok (.iadd, 1) := by decide +kernel
theorem dL_law_602 : decode cL_law 602 = .ok (.iaload, 1) := by decide +kernel
theorem dL_law_603 : decode cL_law 603 = .ok (.invokevirtual 82, 3) := by decide +kernel
theorem dL_law_606 : decode cL_law 606 = .ok (.aload_n 2, 1) := by decide +kernel
theorem dL_law_607 : decode cL_law 607 = .ok (.aload_n 0, 1) := by decide +kernel
theorem dL_law_608 : decode cL_law 608 = .ok (.iload_n 3, 1) := by decide +kernel
theorem dL_law_609 : decode cL_law 609 = .ok (.iconst 1, 1) := by decide +kernel
theorem dL_law_610 : decode cL_law 610 = .ok (.iadd, 1) := by decide +kernel
theorem dL_law_611 : decode cL_law 611 = .ok (.iaload, 1) := by decide +kernel
theorem dL_law_612 : decode cL_law 612 = .ok (.aload_n 0, 1) := by decide +kernel
theorem dL_law_613 : decode cL_law 613 = .ok (.iload_n 3, 1) := by decide +kernel
theorem dL_law_614 : decode cL_law 614 = .ok (.iconst 2, 1) := by decide +kernel
theorem dL_law_615 : decode cL_law 615 = .ok (.iadd, 1) := by decide +kernel
theorem dL_law_616 : decode cL_law 616 = .ok (.iaload, 1) := by decide +kernel
theorem dL_law_617 : decode cL_law 617 = .ok (.aload_n 0, 1) := by decide +kernel
theorem dL_law_618 : decode cL_law 618 = .ok (.iload_n 3, 1) := by decide +kernel
theorem dL_law_619 : decode cL_law 619 = .ok (.iconst 3, 1) := by decide +kernel
theorem dL_law_620 : decode cL_law 620 = .ok (.iadd, 1) := by decide +kernel
theorem dL_law_621 : decode cL_law 621 = .ok (.iaload, 1) := by decide +kernel
theorem dL_law_622 : decode cL_law 622 = .ok (.invokevirtual 85, 3) := by decide +kernel
theorem dL_law_625 : decode cL_law 625 = .ok (.if_icmp .eq 276, 3) := by decide +kernel
theorem dL_law_628 : decode cL_law 628 = .ok (.iconst 0, 1) := by decide +kernel
theorem dL_law_629 : decode cL_law 629 = .ok (.ireturn, 1) := by decide +kernel
theorem dL_law_630 : decode cL_law 630 = .ok (.aload_n 1, 1) := by decide +kernel
theorem dL_law_631 : decode cL_law 631 = .ok (.invokevirtual 86, 3) := by decide +kernel
theorem dL_law_634 : decode cL_law 634 = .ok (.aload_n 2, 1) := by decide +kernel
theorem dL_law_635 : decode cL_law 635 = .ok (.invokevirtual 89, 3) := by decide +kernel
theorem dL_law_638 : decode cL_law 638 = .ok (.if_icmp .eq 263, 3) := by decide +kernel
theorem dL_law_641 : decode cL_law 641 = .ok (.iconst 0, 1) := by decide +kernel
theorem dL_law_642 : decode cL_law 642 = .ok (.ireturn, 1) := by decide +kernel
theorem dL_law_643 : decode cL_law 643 = .ok (.aload_n 1, 1) := by decide +kernel
theorem dL_law_644 : decode cL_law 644 = .ok (.invokevirtual 90, 3) := by decide +kernel
theorem dL_law_647 : decode cL_law 647 = .ok (.aload_n 2, 1) := by decide +kernel
theorem dL_law_648 : decode cL_law 648 = .ok (.invokevirtual 93, 3) := by decide +kernel
theorem dL_law_651 : decode cL_law 651 = .ok (.if_icmp .eq 250, 3) := by decide +kernel
theorem dL_law_654 : decode cL_law 654 = .ok (.iconst 0, 1) := by decide +kernel
theorem dL_law_655 : decode cL_law 655 = .ok (.ireturn, 1) := by decide +kernel
theorem dL_law_656 : decode cL_law 656 = .ok (.aload_n 1, 1) := by decide +kernel
theorem dL_law_657 : decode cL_law 657 = .ok (.aload_n 0, 1) := by decide +kernel
theorem dL_law_658 : decode cL_law 658 = .ok (.iload_n 3, 1) := by decide +kernel
theorem dL_law_659 : decode cL_law 659 = .ok (.iconst 1, 1) := by decide +kernel
theorem dL_law_660 : decode cL_law 660 = .ok (.iadd, 1) := by decide +kernel
theorem dL_law_661 : decode cL_law 661 = .ok (.iaload, 1) := by decide +kernel
theorem dL_law_662 : decode cL_law 662 = .ok (.invokevirtual 94, 3) := by decide +kernel
theorem dL_law_665 : decode cL_law 665 = .ok (.aload_n 2, 1) := by decide +kernel
theorem dL_law_666 : decode cL_law 666 = .ok (.aload_n 0, 1) := by decide +kernel
theorem dL_law_667 : decode cL_law 667 = .ok (.iload_n 3, 1) := by decide +kernel
theorem dL_law_668 : decode cL_law 668 = .ok (.iconst 1, 1) := by decide +kernel
theorem dL_law_669 : decode cL_law 669 = .ok (.iadd, 1) := by decide +kernel
theorem dL_law_670 : decode cL_law 670 = .ok (.iaload, 1) := by decide +kernel
theorem dL_law_671 : decode cL_law 671 = .ok (.invokevirtual 97, 3) := by decide +kernel
theorem dL_law_674 : decode cL_law 674 = .ok (.if_icmp .eq 227, 3) := by decide +kernel
theorem dL_law_677 : decode cL_law 677 = .ok (.iconst 0, 1) := by decide +kernel
theorem dL_law_678 : decode cL_law 678 = .ok (.ireturn, 1) := by decide +kernel
theorem dL_law_679 : decode cL_law 679 = .ok (.aload_n 1, 1) := by decide +kernel
theorem dL_law_680 : decode cL_law 680 = .ok (.invokevirtual 98, 3) := by decide +kernel
theorem dL_law_683 : decode cL_law 683 = .ok (.aload_n 2, 1) := by decide +kernel
theorem dL_law_684 : decode cL_law 684 = .ok (.invokevirtual 101, 3) := by decide +kernel
theorem dL_law_687 : decode cL_law 687 = .ok (.if_icmp .eq 214, 3) := by decide +kernel
theorem dL_law_690 : decode cL_law 690 = .ok (.iconst 0, 1) := by decide +kernel
theorem dL_law_691 : decode cL_law 691 = .ok (.ireturn, 1) := by decide +kernel
theorem dL_law_692 : decode cL_law 692 = .ok (.aload_n 1, 1) := by decide +kernel
theorem dL_law_693 : decode cL_law 693 = .ok (.invokevirtual 102, 3) := by decide +kernel
theorem dL_law_696 : decode cL_law 696 = .ok (.aload_n 2, 1) := by decide +kernel
theorem dL_law_697 : decode cL_law 697 = .ok (.invokevirtual 105, 3) := by decide +kernel
theorem dL_law_700 : decode cL_law 700 = .ok (.if_icmp .eq 201, 3) := by decide +kernel
theorem dL_law_703 : decode cL_law 703 = .ok (.iconst 0, 1) := by decide +kernel
theorem dL_law_704 : decode cL_law 704 = .ok (.ireturn, 1) := by decide +kernel
theorem dL_law_705 : decode cL_law 705 = .ok (.aload_n 1, 1) := by decide +kernel
theorem dL_law_706 : decode cL_law 706 = .ok (.aload_n 0, 1) := by decide +kernel
theorem dL_law_707 : decode cL_law 707 = .ok (.iload_n 3, 1) := by decide +kernel
theorem dL_law_708 : decode cL_law 708 = .ok (.iconst 1, 1) := by decide +kernel
theorem dL_law_709 : decode cL_law 709 = .ok (.iadd, 1) := by decide +kernel
theorem dL_law_710 : decode cL_law 710 = .ok (.iaload, 1) := by decide +kernel
theorem dL_law_711 : decode cL_law 711 = .ok (.invokevirtual 106, 3) := by decide +kernel
theorem dL_law_714 : decode cL_law 714 = .ok (.aload_n 2, 1) := by decide +kernel
theorem dL_law_715 : decode cL_law 715 = .ok (.aload_n 0, 1) := by decide +kernel
theorem dL_law_716 : decode cL_law 716 = .ok (.iload_n 3, 1) := by decide +kernel
theorem dL_law_717 : decode cL_law 717 = .ok (.iconst 1, 1) := by decide +kernel
theorem dL_law_718 : decode cL_law 718 = .ok (.iadd, 1) := by decide +kernel
theorem dL_law_719 : decode cL_law 719 = .ok (.iaload, 1) := by decide +kernel
theorem dL_law_720 : decode cL_law 720 = .ok (.invokevirtual 109, 3) := by decide +kernel
theorem dL_law_723 : decode cL_law 723 = .ok (.if_icmp .eq 178, 3) := by decide +kernel
theorem dL_law_726 : decode cL_law 726 = .ok (.iconst 0, 1) := by decide +kernel
theorem dL_law_727 : decode cL_law 727 = .ok (.ireturn, 1) := by decide +kernel
theorem dL_law_728 : decode cL_law 728 = .ok (.aload_n 1, 1) := by decide +kernel
theorem dL_law_729 : decode cL_law 729 = .ok (.invokevirtual 110, 3) := by decide +kernel
theorem dL_law_732 : decode cL_law 732 = .ok (.aload_n 2, 1) := by decide +kernel
theorem dL_law_733 : decode cL_law 733 = .ok (.invokevirtual 113, 3) := by decide +kernel
theorem dL_law_736 : decode cL_law 736 = .ok (.if_icmp .eq 165, 3) := by decide +kernel
theorem dL_law_739 : decode cL_law 739 = .ok (.iconst 0, 1) := by decide +kernel
theorem dL_law_740 : decode cL_law 740 = .ok (.ireturn, 1) := by decide +kernel
theorem dL_law_741 : decode cL_law 741 = .ok (.aload_n 1, 1) := by decide +kernel
theorem dL_law_742 : decode cL_law 742 = .ok (.aload_n 0, 1) := by decide +kernel
theorem dL_law_743 : decode cL_law 743 = .ok (.iload_n 3, 1) := by decide +kernel
theorem dL_law_744 : decode cL_law 744 = .ok (.iconst 1, 1) := by decide +kernel
theorem dL_law_745 : decode cL_law 745 = .ok (.iadd, 1) := by decide +kernel
theorem dL_law_746 : decode cL_law 746 = .ok (.iaload, 1) := by decide +kernel
theorem dL_law_747 : decode cL_law 747 = .ok (.aload_n 0, 1) := by decide +kernel
theorem dL_law_748 : decode cL_law 748 = .ok (.iload_n 3, 1) := by decide +kernel
theorem dL_law_749 : decode cL_law 749 = .ok (.iconst 2, 1) := by decide +kernel
theorem dL_law_750 : decode cL_law 750 = .ok (.iadd, 1) := by decide +kernel
theorem dL_law_751 : decode cL_law 751 = .ok (.iaload, 1) := by decide +kernel
theorem dL_law_752 : decode cL_law 752 = .ok (.aload_n 0, 1) := by decide +kernel
theorem dL_law_753 : decode cL_law 753 = .ok (.iload_n 3, 1) := by decide +kernel
theorem dL_law_754 : decode cL_law 754 = .ok (.iconst 3, 1) := by decide +kernel
theorem dL_law_755 : decode cL_law 755 = .ok (.iadd, 1) := by decide +kernel
theorem dL_law_756 : decode cL_law 756 = .ok (.iaload, 1) := by decide +kernel
theorem dL_law_757 : decode cL_law 757 = .ok (.invokevirtual 114, 3) := by decide +kernel
theorem dL_law_760 : decode cL_law 760 = .ok (.aload_n 2, 1) := by decide +kernel
theorem dL_law_761 : decode cL_law 761 = .ok (.aload_n 0, 1) := by decide +kernel
theorem dL_law_762 : decode cL_law 762 = .ok (.iload_n 3, 1) := by decide +kernel
theorem dL_law_763 : decode cL_law 763 = .ok (.iconst 1, 1) := by decide +kernel
theorem dL_law_764 : decode cL_law 764 = .ok (.iadd, 1) := by decide +kernel
theorem dL_law_765 : decode cL_law 765 = .ok (.iaload, 1) := by decide +kernel
theorem dL_law_766 : decode cL_law 766 = .ok (.aload_n 0, 1) := by decide +kernel
theorem dL_law_767 : decode cL_law 767 = .ok (.iload_n 3, 1) := by decide +kernel
theorem dL_law_768 : decode cL_law 768 = .ok (.iconst 2, 1) := by decide +kernel
theorem dL_law_769 : decode cL_law 769 = .ok (.iadd, 1) := by decide +kernel
theorem dL_law_770 : decode cL_law 770 = .ok (.iaload, 1) := by decide +kernel
theorem dL_law_771 : decode cL_law 771 = .ok (.aload_n 0, 1) := by decide +kernel
theorem dL_law_772 : decode cL_law 772 = .ok (.iload_n 3, 1) := by decide +kernel
theorem dL_law_773 : decode cL_law 773 = .ok (.iconst 3, 1) := by decide +kernel
theorem dL_law_774 : decode cL_law 774 = .ok (.iadd, 1) := by decide +kernel
theorem dL_law_775 : decode cL_law 775 = .ok (.iaload, 1) := by decide +kernel
theorem dL_law_776 : decode cL_law 776 = .ok (.invokevirtual 118, 3) := by decide +kernel
theorem dL_law_779 : decode cL_law 779 = .ok (.lcmp, 1) := by decide +kernel
theorem dL_law_780 : decode cL_law 780 = .ok (.ifCond .eq 121, 3) := by decide +kernel
theorem dL_law_783 : decode cL_law 783 = .ok (.iconst 0, 1) := by decide +kernel
theorem dL_law_784 : decode cL_law 784 = .ok (.ireturn, 1) := by decide +kernel
theorem dL_law_785 : decode cL_law 785 = .ok (.aload_n 1, 1) := by decide +kernel
theorem dL_law_786 : decode cL_law 786 = .ok (.aload_n 0, 1) := by decide +kernel
theorem dL_law_787 : decode cL_law 787 = .ok (.iload_n 3, 1) := by decide +kernel
theorem dL_law_788 : decode cL_law 788 = .ok (.iconst 1, 1) := by decide +kernel
theorem dL_law_789 : decode cL_law 789 = .ok (.iadd, 1) := by decide +kernel
theorem dL_law_790 : decode cL_law 790 = .ok (.iaload, 1) := by decide +kernel
theorem dL_law_791 : decode cL_law 791 = .ok (.invokevirtual 119, 3) := by decide +kernel
theorem dL_law_794 : decode cL_law 794 = .ok (.aload_n 2, 1) := by decide +kernel
theorem dL_law_795 : decode cL_law 795 = .ok (.aload_n 0, 1) := by decide +kernel
theorem dL_law_796 : decode cL_law 796 = .ok (.iload_n 3, 1) := by decide +kernel
theorem dL_law_797 : decode cL_law 797 = .ok (.iconst 1, 1) := by decide +kernel
theorem dL_law_798 : decode cL_law 798 = .ok (.iadd, 1) := by decide +kernel
theorem dL_law_799 : decode cL_law 799 = .ok (.iaload, 1) := by decide +kernel
theorem dL_law_800 : decode cL_law 800 = .ok (.invokevirtual 123, 3) := by decide +kernel
theorem dL_law_803 : decode cL_law 803 = .ok (.lcmp, 1) := by decide +kernel
theorem dL_law_804 : decode cL_law 804 = .ok (.ifCond .eq 97, 3) := by decide +kernel
theorem dL_law_807 : decode cL_law 807 = .ok (.iconst 0, 1) := by decide +kernel
theorem dL_law_808 : decode cL_law 808 = .ok (.ireturn, 1) := by decide +kernel
theorem dL_law_809 : decode cL_law 809 = .ok (.aload_n 1, 1) := by decide +kernel
theorem dL_law_810 : decode cL_law 810 = .ok (.aload_n 0, 1) := by decide +kernel
theorem dL_law_811 : decode cL_law 811 = .ok (.iload_n 3, 1) := by decide +kernel
theorem dL_law_812 : decode cL_law 812 = .ok (.iconst 1, 1) := by decide +kernel
theorem dL_law_813 : decode cL_law 813 = .ok (.iadd, 1) := by decide +kernel
theorem dL_law_814 : decode cL_law 814 = .ok (.iaload, 1) := by decide +kernel
theorem dL_law_815 : decode cL_law 815 = .ok (.aload_n 0, 1) := by decide +kernel
theorem dL_law_816 : decode cL_law 816 = .ok (.iload_n 3, 1) := by decide +kernel
theorem dL_law_817 : decode cL_law 817 = .ok (.iconst 2, 1) := by decide +kernel
theorem dL_law_818 : decode cL_law 818 = .ok (.iadd, 1) := by decide +kernel
theorem dL_law_819 : decode cL_law 819 = .ok (.iaload, 1) := by decide +kernel
theorem dL_law_820 : decode cL_law 820 = .ok (.aload_n 0, 1) := by decide +kernel
theorem dL_law_821 : decode cL_law 821 = .ok (.iload_n 3, 1) := by decide +kernel
theorem dL_law_822 : decode cL_law 822 = .ok (.iconst 3, 1) := by decide +kernel
theorem dL_law_823 : decode cL_law 823 = .ok (.iadd, 1) := by decide +kernel
theorem dL_law_824 : decode cL_law 824 = .ok (.iaload, 1) := by decide +kernel
theorem dL_law_825 : decode cL_law 825 = .ok (.invokevirtual 124, 3) := by decide +kernel
theorem dL_law_828 : decode cL_law 828 = .ok (.aload_n 2, 1) := by decide +kernel
theorem dL_law_829 : decode cL_law 829 = .ok (.aload_n 0, 1) := by decide +kernel
theorem dL_law_830 : decode cL_law 830 = .ok (.iload_n 3, 1) := by decide +kernel
theorem dL_law_831 : decode cL_law 831 = .ok (.iconst 1, 1) := by decide +kernel
theorem dL_law_832 : decode cL_law 832 = .ok (.iadd, 1) := by decide +kernel
theorem dL_law_833 : decode cL_law 833 = .ok (.iaload, 1) := by decide +kernel
theorem dL_law_834 : decode cL_law 834 = .ok (.aload_n 0, 1) := by decide +kernel
theorem dL_law_835 : decode cL_law 835 = .ok (.iload_n 3, 1) := by decide +kernel
theorem dL_law_836 : decode cL_law 836 = .ok (.iconst 2, 1) := by decide +kernel
theorem dL_law_837 : decode cL_law 837 = .ok (.iadd, 1) := by decide +kernel
theorem dL_law_838 : decode cL_law 838 = .ok (.iaload, 1) := by decide +kernel
theorem dL_law_839 : decode cL_law 839 = .ok (.aload_n 0, 1) := by decide +kernel
theorem dL_law_840 : decode cL_law 840 = .ok (.iload_n 3, 1) := by decide +kernel
theorem dL_law_841 : decode cL_law 841 = .ok (.iconst 3, 1) := by decide +kernel
theorem dL_law_842 : decode cL_law 842 = .ok (.iadd, 1) := by decide +kernel
theorem dL_law_843 : decode cL_law 843 = .ok (.iaload, 1) := by decide +kernel
theorem dL_law_844 : decode cL_law 844 = .ok (.invokevirtual 127, 3) := by decide +kernel
theorem dL_law_847 : decode cL_law 847 = .ok (.if_icmp .eq 54, 3) := by decide +kernel
theorem dL_law_850 : decode cL_law 850 = .ok (.iconst 0, 1) := by decide +kernel
theorem dL_law_851 : decode cL_law 851 = .ok (.ireturn, 1) := by decide +kernel
theorem dL_law_852 : decode cL_law 852 = .ok (.aload_n 1, 1) := by decide +kernel
theorem dL_law_853 : decode cL_law 853 = .ok (.invokevirtual 128, 3) := by decide +kernel
theorem dL_law_856 : decode cL_law 856 = .ok (.aload_n 2, 1) := by decide +kernel
theorem dL_law_857 : decode cL_law 857 = .ok (.invokevirtual 131, 3) := by decide +kernel
theorem dL_law_860 : decode cL_law 860 = .ok (.if_icmp .eq 41, 3) := by decide +kernel
theorem dL_law_863 : decode cL_law 863 = .ok (.iconst 0, 1) := by decide +kernel
theorem dL_law_864 : decode cL_law 864 = .ok (.ireturn, 1) := by decide +kernel
theorem dL_law_865 : decode cL_law 865 = .ok (.aload_n 1, 1) := by decide +kernel
theorem dL_law_866 : decode cL_law 866 = .ok (.invokevirtual 132, 3) := by decide +kernel
theorem dL_law_869 : decode cL_law 869 = .ok (.aload_n 2, 1) := by decide +kernel
theorem dL_law_870 : decode cL_law 870 = .ok (.invokevirtual 135, 3) := by decide +kernel
theorem dL_law_873 : decode cL_law 873 = .ok (.if_icmp .eq 28, 3) := by decide +kernel
theorem dL_law_876 : decode cL_law 876 = .ok (.iconst 0, 1) := by decide +kernel
theorem dL_law_877 : decode cL_law 877 = .ok (.ireturn, 1) := by decide +kernel
theorem dL_law_878 : decode cL_law 878 = .ok (.aload_n 1, 1) := by decide +kernel
theorem dL_law_879 : decode cL_law 879 = .ok (.aload_n 0, 1) := by decide +kernel
theorem dL_law_880 : decode cL_law 880 = .ok (.iload_n 3, 1) := by decide +kernel
theorem dL_law_881 : decode cL_law 881 = .ok (.iconst 1, 1) := by decide +kernel
theorem dL_law_882 : decode cL_law 882 = .ok (.iadd, 1) := by decide +kernel
theorem dL_law_883 : decode cL_law 883 = .ok (.iaload, 1) := by decide +kernel
theorem dL_law_884 : decode cL_law 884 = .ok (.invokevirtual 136, 3) := by decide +kernel
theorem dL_law_887 : decode cL_law 887 = .ok (.aload_n 2, 1) := by decide +kernel
theorem dL_law_888 : decode cL_law 888 = .ok (.aload_n 0, 1) := by decide +kernel
theorem dL_law_889 : decode cL_law 889 = .ok (.iload_n 3, 1) := by decide +kernel
theorem dL_law_890 : decode cL_law 890 = .ok (.iconst 1, 1) := by decide +kernel
theorem dL_law_891 : decode cL_law 891 = .ok (.iadd, 1) := by decide +kernel
theorem dL_law_892 : decode cL_law 892 = .ok (.iaload, 1) := by decide +kernel
theorem dL_law_893 : decode cL_law 893 = .ok (.invokevirtual 139, 3) := by decide +kernel
theorem dL_law_896 : decode cL_law 896 = .ok (.if_icmp .eq 5, 3) := by decide +kernel
theorem dL_law_899 : decode cL_law 899 = .ok (.iconst 0, 1) := by decide +kernel
theorem dL_law_900 : decode cL_law 900 = .ok (.ireturn, 1) := by decide +kernel
theorem dL_law_901 : decode cL_law 901 = .ok (.iinc 3 4, 3) := by decide +kernel
theorem dL_law_904 : decode cL_law 904 = .ok (.goto (-886), 3) := by decide +kernel
theorem dL_law_907 : decode cL_law 907 = .ok (.iconst 1, 1) := by decide +kernel
theorem dL_law_908 : decode cL_law 908 = .ok (.ireturn, 1) := by decide +kernel
theorem dJ0_length_8abf5_0 : decode cJ0_length_8abf5 0 = .ok (.aload_n 0, 1) := by decide +kernel
theorem dJ0_length_8abf5_1 : decode cJ0_length_8abf5 1 = .ok (.getfield 9, 3) := by decide +kernel
theorem dJ0_length_8abf5_4 : decode cJ0_length_8abf5 4 = .ok (.arraylength, 1) := by decide +kernel
theorem dJ0_length_8abf5_5 : decode cJ0_length_8abf5 5 = .ok (.aload_n 0, 1) := by decide +kernel
theorem dJ0_length_8abf5_6 : decode cJ0_length_8abf5 6 = .ok (.invokevirtual 335, 3) := by decide +kernel
theorem dJ0_length_8abf5_9 : decode cJ0_length_8abf5 9 = .ok (.ishr, 1) := by decide +kernel
theorem dJ0_length_8abf5_10 : decode cJ0_length_8abf5 10 = .ok (.ireturn, 1) := by decide +kernel
theorem dJ0_charAt_5068e_0 : decode cJ0_charAt_5068e 0 = .ok (.aload_n 0, 1) := by decide +kernel
theorem dJ0_charAt_5068e_1 : decode cJ0_charAt_5068e 1 = .ok (.invokevirtual 492, 3) := by decide +kernel
theorem dJ0_charAt_5068e_4 : decode cJ0_charAt_5068e 4 = .ok (.ifCond .eq 12, 3) := by decide +kernel
theorem dJ0_charAt_5068e_7 : decode cJ0_charAt_5068e 7 = .ok (.aload_n 0, 1) := by decide +kernel
theorem dJ0_charAt_5068e_8 : decode cJ0_charAt_5068e 8 = .ok (.getfield 9, 3) := by decide +kernel
theorem dJ0_charAt_5068e_11 : decode cJ0_charAt_5068e 11 = .ok (.iload_n 1, 1) := by decide +kernel
theorem dJ0_charAt_5068e_12 : decode cJ0_charAt_5068e 12 = .ok (.invokestatic 495, 3) := by decide +kernel
theorem dJ0_charAt_5068e_15 : decode cJ0_charAt_5068e 15 = .ok (.ireturn, 1) := by decide +kernel
theorem dJ0_charAt_5068e_16 : decode cJ0_charAt_5068e 16 = .ok (.aload_n 0, 1) := by decide +kernel
theorem dJ0_charAt_5068e_17 : decode cJ0_charAt_5068e 17 = .ok (.getfield 9, 3) := by decide +kernel
theorem dJ0_charAt_5068e_20 : decode cJ0_charAt_5068e 20 = .ok (.iload_n 1, 1) := by decide +kernel
theorem dJ0_charAt_5068e_21 : decode cJ0_charAt_5068e 21 = .ok (.invokestatic 498, 3) := by decide +kernel
theorem dJ0_charAt_5068e_24 : decode cJ0_charAt_5068e 24 = .ok (.ireturn, 1) := by decide +kernel
theorem dJ0_coder_7d493_0 : decode cJ0_coder_7d493 0 = .ok (.getstatic 38, 3) := by decide +kernel
theorem dJ0_coder_7d493_3 : decode cJ0_coder_7d493 3 = .ok (.ifCond .eq 10, 3) := by decide +kernel
theorem dJ0_coder_7d493_6 : decode cJ0_coder_7d493 6 = .ok (.aload_n 0, 1) := by decide +kernel
theorem dJ0_coder_7d493_7 : decode cJ0_coder_7d493 7 = .ok (.getfield 15, 3) := by decide +kernel
theorem dJ0_coder_7d493_10 : decode cJ0_coder_7d493 10 = .ok (.goto 4, 3) := by decide +kernel
theorem dJ0_coder_7d493_13 : decode cJ0_coder_7d493 13 = .ok (.iconst 1, 1) := by decide +kernel
theorem dJ0_coder_7d493_14 : decode cJ0_coder_7d493 14 = .ok (.ireturn, 1) := by decide +kernel
theorem dJ0_isLatin1_aae02_0 : decode cJ0_isLatin1_aae02 0 = .ok (.getstatic 38, 3) := by decide +kernel
theorem dJ0_isLatin1_aae02_3 : decode cJ0_isLatin1_aae02 3 = .ok (.ifCond .eq 14, 3) := by decide +kernel
theorem dJ0_isLatin1_aae02_6 : decode cJ0_isLatin1_aae02 6 = .ok (.aload_n 0, 1) := by decide +kernel
theorem dJ0_isLatin1_aae02_7 : decode cJ0_isLatin1_aae02 7 = .ok (.getfield 15, 3) := by decide +kernel
theorem dJ0_isLatin1_aae02_10 : decode cJ0_isLatin1_aae02 10 = .ok (.ifCond .ne 7, 3) := by decide +kernel
theorem dJ0_isLatin1_aae02_13 : decode cJ0_isLatin1_aae02 13 = .ok (.iconst 1, 1) := by decide +kernel
theorem dJ0_isLatin1_aae02_14 : decode cJ0_isLatin1_aae02 14 = .ok (.goto 4, 3) := by decide +kernel
theorem dJ0_isLatin1_aae02_17 : decode cJ0_isLatin1_aae02 17 = .ok (.iconst 0, 1) := by decide +kernel
theorem dJ0_isLatin1_aae02_18 : decode cJ0_isLatin1_aae02 18 = .ok (.ireturn, 1) := by decide +kernel
theorem dJ0_checkIndex_df160_0 : decode cJ0_checkIndex_df160 0 = .ok (.iload_n 0, 1) := by decide +kernel
theorem dJ0_checkIndex_df160_1 : decode cJ0_checkIndex_df160 1 = .ok (.iload_n 1, 1) := by decide +kernel
theorem dJ0_checkIndex_df160_2 : decode cJ0_checkIndex_df160 2 = .ok (.getstatic 1053, 3) := by decide +kernel
theorem dJ0_checkIndex_df160_5 : decode cJ0_checkIndex_df160 5 = .ok (.invokestatic 1059, 3) := by decide +kernel
theorem dJ0_checkIndex_df160_8 : decode cJ0_checkIndex_df160 8 = .ok (.pop, 1) := by decide +kernel
theorem dJ0_checkIndex_df160_9 : decode cJ0_checkIndex_df160 9 = .ok (.return_, 1) := by decide +kernel
theorem dJ1_charAt_3b067_0 : decode cJ1_charAt_3b067 0 = .ok (.iload_n 1, 1) := by decide +kernel
theorem dJ1_charAt_3b067_1 : decode cJ1_charAt_3b067 1 = .ok (.aload_n 0, 1) := by decide +kernel
theorem dJ1_charAt_3b067_2 : decode cJ1_charAt_3b067 2 = .ok (.arraylength, 1) := by decide +kernel
theorem dJ1_charAt_3b067_3 : decode cJ1_charAt_3b067 3 = .ok (.invokestatic 9, 3) := by decide +kernel
theorem dJ1_charAt_3b067_6 : decode cJ1_charAt_3b067 6 = .ok (.aload_n 0, 1) := by decide +kernel
theorem dJ1_charAt_3b067_7 : decode cJ1_charAt_3b067 7 = .ok (.iload_n 1, 1) := by decide +kernel
theorem dJ1_charAt_3b067_8 : decode cJ1_charAt_3b067 8 = .ok (.baload, 1) := by decide +kernel
theorem dJ1_charAt_3b067_9 : decode cJ1_charAt_3b067 9 = .ok (.sipush 255, 3) := by decide +kernel
theorem dJ1_charAt_3b067_12 : decode cJ1_charAt_3b067 12 = .ok (.iand, 1) := by decide +kernel
theorem dJ1_charAt_3b067_13 : decode cJ1_charAt_3b067 13 = .ok (.i2c, 1) := by decide +kernel
theorem dJ1_charAt_3b067_14 : decode cJ1_charAt_3b067 14 = .ok (.ireturn, 1) := by decide +kernel
theorem dJ2_getChar_3b067_0 : decode cJ2_getChar_3b067 0 = .ok (.getstatic 44, 3) := by decide +kernel
theorem dJ2_getChar_3b067_3 : decode cJ2_getChar_3b067 3 = .ok (.ifCond .ne 25, 3) := by decide +kernel
theorem dJ2_getChar_3b067_6 : decode cJ2_getChar_3b067 6 = .ok (.iload_n 1, 1) := by decide +kernel
theorem dJ2_getChar_3b067_7 : decode cJ2_getChar_3b067 7 = .ok (.ifCond .lt 11, 3) := by decide +kernel
theorem dJ2_getChar_3b067_10 : decode cJ2_getChar_3b067 10 = .ok (.iload_n 1, 1) := by decide +kernel
theorem dJ2_getChar_3b067_11 : decode cJ2_getChar_3b067 11 = .ok (.aload_n 0, 1) := by decide +kernel
theorem dJ2_getChar_3b067_12 : decode cJ2_getChar_3b067 12 = .ok (.invokestatic 48, 3) := by decide +kernel
theorem dJ2_getChar_3b067_15 : decode cJ2_getChar_3b067 15 = .ok (.if_icmp .lt 13, 3) := by decide +kernel
theorem dJ2_getChar_3b067_18 : decode cJ2_getChar_3b067 18 = .ok (.new 52, 3) := by decide +kernel
theorem dJ2_getChar_3b067_21 : decode cJ2_getChar_3b067 21 = .ok (.dup, 1) := by decide +kernel
theorem dJ2_getChar_3b067_22 : decode cJ2_getChar_3b067 22 = .ok (.ldc 54, 2) := by decide +kernel
theorem dJ2_getChar_3b067_24 : decode cJ2_getChar_3b067 24 = .ok (.invokespecial 56, 3) := by decide +kernel
theorem dJ2_getChar_3b067_27 : decode cJ2_getChar_3b067 27 = .ok (.athrow, 1) := by decide +kernel
theorem dJ2_getChar_3b067_28 : decode cJ2_getChar_3b067 28 = .ok (.iload_n 1, 1) := by decide +kernel
theorem dJ2_getChar_3b067_29 : decode cJ2_getChar_3b067 29 = .ok (.iconst 1, 1) := by decide +kernel
theorem dJ2_getChar_3b067_30 : decode cJ2_getChar_3b067 30 = .ok (.ishl, 1) := by decide +kernel
theorem dJ2_getChar_3b067_31 : decode cJ2_getChar_3b067 31 = .ok (.istore_n 1, 1) := by decide +kernel
theorem dJ2_getChar_3b067_32 : decode cJ2_getChar_3b067 32 = .ok (.aload_n 0, 1) := by decide +kernel
theorem dJ2_getChar_3b067_33 : decode cJ2_getChar_3b067 33 = .ok (.iload_n 1, 1) := by decide +kernel
theorem dJ2_getChar_3b067_34 : decode cJ2_getChar_3b067 34 = .ok (.iinc 1 1, 3) := by decide +kernel
theorem dJ2_getChar_3b067_37 : decode cJ2_getChar_3b067 37 = .ok (.baload, 1) := by decide +kernel
theorem dJ2_getChar_3b067_38 : decode cJ2_getChar_3b067 38 = .ok (.sipush 255, 3) := by decide +kernel
theorem dJ2_getChar_3b067_41 : decode cJ2_getChar_3b067 41 = .ok (.iand, 1) := by decide +kernel
theorem dJ2_getChar_3b067_42 : decode cJ2_getChar_3b067 42 = .ok (.getstatic 59, 3) := by decide +kernel
theorem dJ2_getChar_3b067_45 : decode cJ2_getChar_3b067 45 = .ok (.ishl, 1) := by decide +kernel
theorem dJ2_getChar_3b067_46 : decode cJ2_getChar_3b067 46 = .ok (.aload_n 0, 1) := by decide +kernel
theorem dJ2_getChar_3b067_47 : decode cJ2_getChar_3b067 47 = .ok (.iload_n 1, 1) := by decide +kernel
theorem dJ2_getChar_3b067_48 : decode cJ2_getChar_3b067 48 = .ok (.baload, 1) := by decide +kernel
theorem dJ2_getChar_3b067_49 : decode cJ2_getChar_3b067 49 = .ok (.sipush 255, 3) := by decide +kernel
theorem dJ2_getChar_3b067_52 : decode cJ2_getChar_3b067 52 = .ok (.iand, 1) := by decide +kernel
theorem dJ2_getChar_3b067_53 : decode cJ2_getChar_3b067 53 = .ok (.getstatic 63, 3) := by decide +kernel
theorem dJ2_getChar_3b067_56 : decode cJ2_getChar_3b067 56 = .ok (.ishl, 1) := by decide +kernel
theorem dJ2_getChar_3b067_57 : decode cJ2_getChar_3b067 57 = .ok (.ior, 1) := by decide +kernel
theorem dJ2_getChar_3b067_58 : decode cJ2_getChar_3b067 58 = .ok (.i2c, 1) := by decide +kernel
theorem dJ2_getChar_3b067_59 : decode cJ2_getChar_3b067 59 = .ok (.ireturn, 1) := by decide +kernel
theorem dJ2_length_9d52b_0 : decode cJ2_length_9d52b 0 = .ok (.aload_n 0, 1) := by decide +kernel
theorem dJ2_length_9d52b_1 : decode cJ2_length_9d52b 1 = .ok (.arraylength, 1) := by decide +kernel
theorem dJ2_length_9d52b_2 : decode cJ2_length_9d52b 2 = .ok (.iconst 1, 1) := by decide +kernel
theorem dJ2_length_9d52b_3 : decode cJ2_length_9d52b 3 = .ok (.ishr, 1) := by decide +kernel
theorem dJ2_length_9d52b_4 : decode cJ2_length_9d52b 4 = .ok (.ireturn, 1) := by decide +kernel
theorem dJ2_charAt_3b067_0 : decode cJ2_charAt_3b067 0 = .ok (.iload_n 1, 1) := by decide +kernel
theorem dJ2_charAt_3b067_1 : decode cJ2_charAt_3b067 1 = .ok (.aload_n 0, 1) := by decide +kernel
theorem dJ2_charAt_3b067_2 : decode cJ2_charAt_3b067 2 = .ok (.invokestatic 67, 3) := by decide +kernel
theorem dJ2_charAt_3b067_5 : decode cJ2_charAt_3b067 5 = .ok (.aload_n 0, 1) := by decide +kernel
theorem dJ2_charAt_3b067_6 : decode cJ2_charAt_3b067 6 = .ok (.iload_n 1, 1) := by decide +kernel
theorem dJ2_charAt_3b067_7 : decode cJ2_charAt_3b067 7 = .ok (.invokestatic 71, 3) := by decide +kernel
theorem dJ2_charAt_3b067_10 : decode cJ2_charAt_3b067 10 = .ok (.ireturn, 1) := by decide +kernel
theorem dJ2_checkIndex_2214a_0 : decode cJ2_checkIndex_2214a 0 = .ok (.iload_n 0, 1) := by decide +kernel
theorem dJ2_checkIndex_2214a_1 : decode cJ2_checkIndex_2214a 1 = .ok (.aload_n 1, 1) := by decide +kernel
theorem dJ2_checkIndex_2214a_2 : decode cJ2_checkIndex_2214a 2 = .ok (.invokestatic 48, 3) := by decide +kernel
theorem dJ2_checkIndex_2214a_5 : decode cJ2_checkIndex_2214a 5 = .ok (.invokestatic 414, 3) := by decide +kernel
theorem dJ2_checkIndex_2214a_8 : decode cJ2_checkIndex_2214a 8 = .ok (.return_, 1) := by decide +kernel
theorem dJ3_checkIndex_8e157_0 : decode cJ3_checkIndex_8e157 0 = .ok (.iload_n 0, 1) := by decide +kernel
theorem dJ3_checkIndex_8e157_1 : decode cJ3_checkIndex_8e157 1 = .ok (.ifCond .lt 8, 3) := by decide +kernel
theorem dJ3_checkIndex_8e157_4 : decode cJ3_checkIndex_8e157 4 = .ok (.iload_n 0, 1) := by decide +kernel
theorem dJ3_checkIndex_8e157_5 : decode cJ3_checkIndex_8e157 5 = .ok (.iload_n 1, 1) := by decide +kernel
theorem dJ3_checkIndex_8e157_6 : decode cJ3_checkIndex_8e157 6 = .ok (.if_icmp .lt 10, 3) := by decide +kernel
theorem dJ3_checkIndex_8e157_9 : decode cJ3_checkIndex_8e157 9 = .ok (.aload_n 2, 1) := by decide +kernel
theorem dJ3_checkIndex_8e157_10 : decode cJ3_checkIndex_8e157 10 = .ok (.iload_n 0, 1) := by decide +kernel
theorem dJ3_checkIndex_8e157_11 : decode cJ3_checkIndex_8e157 11 = .ok (.iload_n 1, 1) := by decide +kernel
theorem dJ3_checkIndex_8e157_12 : decode cJ3_checkIndex_8e157 12 = .ok (.invokestatic 95, 3) := by decide +kernel
theorem dJ3_checkIndex_8e157_15 : decode cJ3_checkIndex_8e157 15 = .ok (.athrow, 1) := by decide +kernel
theorem dJ3_checkIndex_8e157_16 : decode cJ3_checkIndex_8e157 16 = .ok (.iload_n 0, 1) := by decide +kernel
theorem dJ3_checkIndex_8e157_17 : decode cJ3_checkIndex_8e157 17 = .ok (.ireturn, 1) := by decide +kernel
theorem dJ6_bitCount_0f7a4_0 : decode cJ6_bitCount_0f7a4 0 = .ok (.iload_n 0, 1) := by decide +kernel
theorem dJ6_bitCount_0f7a4_1 : decode cJ6_bitCount_0f7a4 1 = .ok (.iload_n 0, 1) := by decide +kernel
theorem dJ6_bitCount_0f7a4_2 : decode cJ6_bitCount_0f7a4 2 = .ok (.iconst 1, 1) := by decide +kernel
theorem dJ6_bitCount_0f7a4_3 : decode cJ6_bitCount_0f7a4 3 = .ok (.iushr, 1) := by decide +kernel
theorem dJ6_bitCount_0f7a4_4 : decode cJ6_bitCount_0f7a4 4 = .ok (.ldc_w 265, 3) := by decide +kernel
theorem dJ6_bitCount_0f7a4_7 : decode cJ6_bitCount_0f7a4 7 = .ok (.iand, 1) := by decide +kernel
theorem dJ6_bitCount_0f7a4_8 : decode cJ6_bitCount_0f7a4 8 = .ok (.isub, 1) := by decide +kernel
theorem dJ6_bitCount_0f7a4_9 : decode cJ6_bitCount_0f7a4 9 = .ok (.istore_n 0, 1) := by decide +kernel
theorem dJ6_bitCount_0f7a4_10 : decode cJ6_bitCount_0f7a4 10 = .ok (.iload_n 0, 1) := by decide +kernel
theorem dJ6_bitCount_0f7a4_11 : decode cJ6_bitCount_0f7a4 11 = .ok (.ldc_w 266, 3) := by decide +kernel
theorem dJ6_bitCount_0f7a4_14 : decode cJ6_bitCount_0f7a4 14 = .ok (.iand, 1) := by decide +kernel
theorem dJ6_bitCount_0f7a4_15 : decode cJ6_bitCount_0f7a4 15 = .ok (.iload_n 0, 1) := by decide +kernel
theorem dJ6_bitCount_0f7a4_16 : decode cJ6_bitCount_0f7a4 16 = .ok (.iconst 2, 1) := by decide +kernel
theorem dJ6_bitCount_0f7a4_17 : decode cJ6_bitCount_0f7a4 17 = .ok (.iushr, 1) := by decide +kernel
theorem dJ6_bitCount_0f7a4_18 : decode cJ6_bitCount_0f7a4 18 = .ok (.ldc_w 266, 3) := by decide +kernel
theorem dJ6_bitCount_0f7a4_21 : decode cJ6_bitCount_0f7a4 21 = .ok (.iand, 1) := by decide +kernel
theorem dJ6_bitCount_0f7a4_22 : decode cJ6_bitCount_0f7a4 22 = .ok (.iadd, 1) := by decide +kernel
theorem dJ6_bitCount_0f7a4_23 : decode cJ6_bitCount_0f7a4 23 = .ok (.istore_n 0, 1) := by decide +kernel
theorem dJ6_bitCount_0f7a4_24 : decode cJ6_bitCount_0f7a4 24 = .ok (.iload_n 0, 1) := by decide +kernel
theorem dJ6_bitCount_0f7a4_25 : decode cJ6_bitCount_0f7a4 25 = .ok (.iload_n 0, 1) := by decide +kernel
theorem dJ6_bitCount_0f7a4_26 : decode cJ6_bitCount_0f7a4 26 = .ok (.iconst 4, 1) := by decide +kernel
theorem dJ6_bitCount_0f7a4_27 : decode cJ6_bitCount_0f7a4 27 = .ok (.iushr, 1) := by decide +kernel
theorem dJ6_bitCount_0f7a4_28 : decode cJ6_bitCount_0f7a4 28 = .ok (.iadd, 1) := by decide +kernel
theorem dJ6_bitCount_0f7a4_29 : decode cJ6_bitCount_0f7a4 29 = .ok (.ldc_w 267, 3) := by decide +kernel
theorem dJ6_bitCount_0f7a4_32 : decode cJ6_bitCount_0f7a4 32 = .ok (.iand, 1) := by decide +kernel
theorem dJ6_bitCount_0f7a4_33 : decode cJ6_bitCount_0f7a4 33 = .ok (.istore_n 0, 1) := by decide +kernel
theorem dJ6_bitCount_0f7a4_34 : decode cJ6_bitCount_0f7a4 34 = .ok (.iload_n 0, 1) := by decide +kernel
theorem dJ6_bitCount_0f7a4_35 : decode cJ6_bitCount_0f7a4 35 = .ok (.iload_n 0, 1) := by decide +kernel
theorem dJ6_bitCount_0f7a4_36 : decode cJ6_bitCount_0f7a4 36 = .ok (.bipush 8, 2) := by decide +kernel
theorem dJ6_bitCount_0f7a4_38 : decode cJ6_bitCount_0f7a4 38 = .ok (.iushr, 1) := by decide +kernel
theorem dJ6_bitCount_0f7a4_39 : decode cJ6_bitCount_0f7a4 39 = .ok (.iadd, 1) := by decide +kernel
theorem dJ6_bitCount_0f7a4_40 : decode cJ6_bitCount_0f7a4 40 = .ok (.istore_n 0, 1) := by decide +kernel
theorem dJ6_bitCount_0f7a4_41 : decode cJ6_bitCount_0f7a4 41 = .ok (.iload_n 0, 1) := by decide +kernel
theorem dJ6_bitCount_0f7a4_42 : decode cJ6_bitCount_0f7a4 42 = .ok (.iload_n 0, 1) := by decide +kernel
theorem dJ6_bitCount_0f7a4_43 : decode cJ6_bitCount_0f7a4 43 = .ok (.bipush 16, 2) := by decide +kernel
theorem dJ6_bitCount_0f7a4_45 : decode cJ6_bitCount_0f7a4 45 = .ok (.iushr, 1) := by decide +kernel
theorem dJ6_bitCount_0f7a4_46 : decode cJ6_bitCount_0f7a4 46 = .ok (.iadd, 1) := by decide +kernel
theorem dJ6_bitCount_0f7a4_47 : decode cJ6_bitCount_0f7a4 47 = .ok (.istore_n 0, 1) := by decide +kernel
theorem dJ6_bitCount_0f7a4_48 : decode cJ6_bitCount_0f7a4 48 = .ok (.iload_n 0, 1) := by decide +kernel
theorem dJ6_bitCount_0f7a4_49 : decode cJ6_bitCount_0f7a4 49 = .ok (.bipush 63, 2) := by decide +kernel
theorem dJ6_bitCount_0f7a4_51 : decode cJ6_bitCount_0f7a4 51 = .ok (.iand, 1) := by decide +kernel
theorem dJ6_bitCount_0f7a4_52 : decode cJ6_bitCount_0f7a4 52 = .ok (.ireturn, 1) := by decide +kernel
theorem dJ7_fill_53178_0 : decode cJ7_fill_53178 0 = .ok (.iconst 0, 1) := by decide +kernel
theorem dJ7_fill_53178_1 : decode cJ7_fill_53178 1 = .ok (.istore_n 2, 1) := by decide +kernel
theorem dJ7_fill_53178_2 : decode cJ7_fill_53178 2 = .ok (.aload_n 0, 1) := by decide +kernel
theorem dJ7_fill_53178_3 : decode cJ7_fill_53178 3 = .ok (.arraylength, 1) := by decide +kernel
theorem dJ7_fill_53178_4 : decode cJ7_fill_53178 4 = .ok (.istore_n 3, 1) := by decide +kernel
theorem dJ7_fill_53178_5 : decode cJ7_fill_53178 5 = .ok (.iload_n 2, 1) := by decide +kernel
theorem dJ7_fill_53178_6 : decode cJ7_fill_53178 6 = .ok (.iload_n 3, 1) := by decide +kernel
theorem dJ7_fill_53178_7 : decode cJ7_fill_53178 7 = .ok (.if_icmp .ge 13, 3) := by decide +kernel
theorem dJ7_fill_53178_10 : decode cJ7_fill_53178 10 = .ok (.aload_n 0, 1) := by decide +kernel
theorem dJ7_fill_53178_11 : decode cJ7_fill_53178 11 = .ok (.iload_n 2, 1) := by decide +kernel
theorem dJ7_fill_53178_12 : decode cJ7_fill_53178 12 = .ok (.iload_n 1, 1) := by decide +kernel
theorem dJ7_fill_53178_13 : decode cJ7_fill_53178 13 = .ok (.iastore, 1) := by decide +kernel
theorem dJ7_fill_53178_14 : decode cJ7_fill_53178 14 = .ok (.iinc 2 1, 3) := by decide +kernel
theorem dJ7_fill_53178_17 : decode cJ7_fill_53178 17 = .ok (.goto (-12), 3) := by decide +kernel
theorem dJ7_fill_53178_20 : decode cJ7_fill_53178 20 = .ok (.return_, 1) := by decide +kernel
theorem dJ9_max_7cf53_0 : decode cJ9_max_7cf53 0 = .ok (.iload_n 0, 1) := by decide +kernel
theorem dJ9_max_7cf53_1 : decode cJ9_max_7cf53 1 = .ok (.iload_n 1, 1) := by decide +kernel
theorem dJ9_max_7cf53_2 : decode cJ9_max_7cf53 2 = .ok (.if_icmp .lt 7, 3) := by decide +kernel
theorem dJ9_max_7cf53_5 : decode cJ9_max_7cf53 5 = .ok (.iload_n 0, 1) := by decide +kernel
theorem dJ9_max_7cf53_6 : decode cJ9_max_7cf53 6 = .ok (.goto 4, 3) := by decide +kernel
theorem dJ9_max_7cf53_9 : decode cJ9_max_7cf53 9 = .ok (.iload_n 1, 1) := by decide +kernel
theorem dJ9_max_7cf53_10 : decode cJ9_max_7cf53 10 = .ok (.ireturn, 1) := by decide +kernel
theorem dJ9_min_7cf53_0 : decode cJ9_min_7cf53 0 = .ok (.iload_n 0, 1) := by decide +kernel
theorem dJ9_min_7cf53_1 : decode cJ9_min_7cf53 1 = .ok (.iload_n 1, 1) := by decide +kernel
theorem dJ9_min_7cf53_2 : decode cJ9_min_7cf53 2 = .ok (.if_icmp .gt 7, 3) := by decide +kernel
theorem dJ9_min_7cf53_5 : decode cJ9_min_7cf53 5 = .ok (.iload_n 0, 1) := by decide +kernel
theorem dJ9_min_7cf53_6 : decode cJ9_min_7cf53 6 = .ok (.goto 4, 3) := by decide +kernel
theorem dJ9_min_7cf53_9 : decode cJ9_min_7cf53 9 = .ok (.iload_n 1, 1) := by decide +kernel
theorem dJ9_min_7cf53_10 : decode cJ9_min_7cf53 10 = .ok (.ireturn, 1) := by decide +kernel
end
section
/-! THE LIGHT JUDGEMENT: cells by their places in a list, references by those places; the addresses are a function 'ad' of the places. -/
/-- the words that every method of ours may use: all good ones of the tables -/
def gw : List Cond := lw_tbl.filter goodWord
theorem gw_at {x : Cond} (i : Nat) (h : lw_tbl[i]? = some x) (hg : goodWord x = true) : x ∈ gw := List.mem_filter.mpr ⟨List.mem_of_getElem? h, hg⟩
theorem gw_in {cy : Cond} (hy : cy ∈ gw) : GoodIn gw (cy :: gw) := fun x hx => by
  rcases List.mem_cons.mp hx with h | h
  · subst h; exact ⟨hy, good_of_word (List.mem_filter.mp hy).2⟩
  · exact ⟨h, good_of_word (List.mem_filter.mp h).2⟩
def nwF : List (String × Nat × String × String × String × String) := [("ParishRaffle", 89, "ParishRaffle$Text", "length", "I", "ParishRaffle"), ("ParishRaffle$Stands", 38, "ParishRaffle$Stand", "cells", "[I", "ParishRaffle"), ("ParishRaffle", 164, "ParishRaffle$Stands", "size", "I", "ParishRaffle"), ("ParishRaffle", 213, "ParishRaffle$Notes", "size", "I", "ParishRaffle"), ("ParishRaffle$Stand", 15, "ParishRaffle$Parish", "tickets", "[I", "ParishRaffle"), ("ParishRaffle$Notes", 25, "ParishRaffle$Parish", "tickets", "[I", "ParishRaffle"), ("ParishRaffle", 105, "ParishRaffle$Parish", "tickets", "[I", "ParishRaffle"), ("ParishRaffle", 119, "ParishRaffle$Parish", "kinds", "[I", "ParishRaffle"), ("ParishRaffle", 122, "ParishRaffle$Parish", "worths", "[I", "ParishRaffle"), ("ParishRaffle$Barter", 48, "ParishRaffle$Parish", "persons", "I", "ParishRaffle"), ("ParishRaffle", 92, "ParishRaffle$Parish", "persons", "I", "ParishRaffle"), ("ParishRaffle$Barter", 21, "ParishRaffle$Parish", "things", "I", "ParishRaffle"), ("ParishRaffle", 140, "ParishRaffle$Parish", "things", "I", "ParishRaffle")]
def nwM : List (String × Nat × MethodName × String) := [("ParishRaffle", 9, ⟨"ParishRaffle$Text", "<init>", "()V"⟩, "ParishRaffle"), ("ParishRaffle", 18, ⟨"ParishRaffle$Stand", "<init>", "()V"⟩, "ParishRaffle"), ("ParishRaffle", 40, ⟨"ParishRaffle$Notes", "<init>", "()V"⟩, "ParishRaffle"), ("ParishRaffle", 47, ⟨"ParishRaffle$Barter", "<init>", "()V"⟩, "ParishRaffle"), ("ParishRaffle", 54, ⟨"ParishRaffle$Parish", "<init>", "()V"⟩, "ParishRaffle")]
def tysG (g : Nat → ClassId) : List (ClassId × FieldType) := [(g 0, .int), (g 1, .char), (g 2, .byte), (g 3, .long)]
def KK (D : va_G) (g : Nat → ClassId) (U : State) : Prop := va_K D vwCl (tysG g) U ∧ (∀ q ∈ nwF, va_Nw (.fieldLinkNest q.1 q.2.1 q.2.2.1 q.2.2.2.1 q.2.2.2.2.1 q.2.2.2.2.2) U) ∧ ∀ q ∈ nwM, va_Nw (.methodLinkNest q.1 q.2.1 q.2.2.1 q.2.2.2) U
theorem KK.warm {D : va_G} {g : Nat → ClassId} {s U : State} (hW : s.WarmedH U.vm) (h : KK D g s) : KK D g U := ⟨va_K.moved hW.alike h.1, fun q hq => va_Nw.warmF hW (h.2.1 q hq), fun q hq => va_Nw.warmM hW (h.2.2 q hq)⟩
theorem KK.same {D : va_G} {g : Nat → ClassId} {s U : State} (hv : s.vm = U.vm) (h : KK D g s) : KK D g U := ⟨va_K.moved (by rw [hv]; exact Vm.Alike.refl _) h.1, fun q hq => va_Nw.same rfl hv (h.2.1 q hq), fun q hq => va_Nw.same rfl hv (h.2.2 q hq)⟩

/-- from places to addresses -/
def cz (ad : Nat → Nat) : Value → Value
  | .ref k => .ref (ad k)
  | v => v
def ce (ad : Nat → Nat) : va_E → va_E
  | .inl a => .inl a
  | .inr q => .inr (q.1, q.2.map (cz ad))
def cw (ad : Nat → Nat) (w : List va_E) : va_W := w.mapIdx (fun k e => (ad k, ce ad e))
def cst (ad : Nat → Nat) (st : List Value) : List Value := st.map (cz ad)
def clv (ad : Nat → Nat) (lv : List (Nat × Value)) : List (Nat × Value) := lv.map (fun q => (q.1, cz ad q.2))
theorem cz_cat (ad : Nat → Nat) (v : Value) : (cz ad v).category = v.category := by cases v <;> rfl
theorem cw_get (ad : Nat → Nat) (w : List va_E) (k : Nat) : (cw ad w)[k]? = (w[k]?).map (fun e => (ad k, ce ad e)) := by simp [cw, List.getElem?_mapIdx]
theorem cw_at {ad : Nat → Nat} {w : List va_E} {k : Nat} {e : va_E} (h : w[k]? = some e) : (cw ad w)[k]? = some (ad k, ce ad e) := by rw [cw_get, h]; rfl
theorem cw_len (ad : Nat → Nat) (w : List va_E) : (cw ad w).length = w.length := by simp [cw]
theorem cw_set (ad : Nat → Nat) (w : List va_E) (k : Nat) (e : va_E) : cw ad (w.set k e) = (cw ad w).set k (ad k, ce ad e) := by
  apply List.ext_getElem?
  intro i
  rw [cw_get, List.getElem?_set, List.getElem?_set, cw_len, cw_get]
  by_cases h : k = i
  · subst h
    by_cases h2 : k < w.length
    · simp [h2]
    · simp [h2]
  · simp [h]
def lk : List (Nat × Value) → Nat → Option Value
  | [], _ => none
  | q :: t, k => cond (Nat.beq q.1 k) (some q.2) (lk t k)
theorem lk_mem {v : Value} {k : Nat} : ∀ {lv : List (Nat × Value)}, lk lv k = some v → (k, v) ∈ lv
  | [], h => by cases h
  | q :: t, h => by
    unfold lk at h
    cases hb : Nat.beq q.1 k with
    | true =>
      rw [hb] at h
      have e : q.1 = k := Nat.eq_of_beq_eq_true hb
      cases h
      rw [← e]
      exact List.mem_cons_self
    | false =>
      rw [hb] at h
      exact List.mem_cons_of_mem _ (lk_mem h)
theorem clv_lk {ad : Nat → Nat} {ls : Array Slot} {nL : Nat} {lv : List (Nat × Value)} {k : Nat} {v : Value} (hl : lv_has ls nL (clv ad lv)) (h : lk lv k = some v) : ls[k]? = some (.val (cz ad v)) := hl.2.2 (k, cz ad v) (List.mem_map.mpr ⟨(k, v), lk_mem h, rfl⟩)
def st1 (i : Nat) (lv : List (Nat × Value)) : List (Nat × Value) := lv.filter (fun q => !(q.1 == i) && !(q.1 + 1 == i && q.2.category == 2))
def st2 (i : Nat) (lv : List (Nat × Value)) : List (Nat × Value) := lv.filter (fun q => !(q.1 == i) && (!(q.1 == i + 1) && !(q.1 + 1 == i && q.2.category == 2)))
theorem clv_st1 (ad : Nat → Nat) (i : Nat) : ∀ lv : List (Nat × Value), clv ad (st1 i lv) = (clv ad lv).filter (fun q => !(q.1 == i) && !(q.1 + 1 == i && q.2.category == 2)) := fun lv => by
  unfold clv st1
  rw [List.filter_map]
  congr 1
  apply List.filter_congr
  intro q _
  simp [cz_cat]
theorem clv_st2 (ad : Nat → Nat) (i : Nat) : ∀ lv : List (Nat × Value), clv ad (st2 i lv) = (clv ad lv).filter (fun q => !(q.1 == i) && (!(q.1 == i + 1) && !(q.1 + 1 == i && q.2.category == 2))) := fun lv => by
  unfold clv st2
  rw [List.filter_map]
  congr 1
  apply List.filter_congr
  intro q _
  simp [cz_cat]
/-- the machine's part of a method's walk: program, launch, env, room, state, method, arguments, frames below, method, code, classes, what may change, the end -/
abbrev MC : Type := Program × Launch × Env × Room × State × MethodId × Array Value × List Frame × Method × Code × va_G × (Nat → Prop) × (State → Prop)
abbrev xp (X : MC) : Program := X.1
abbrev xl (X : MC) : Launch := X.2.1
abbrev xe (X : MC) : Env := X.2.2.1
abbrev xR (X : MC) : Room := X.2.2.2.1
abbrev xs (X : MC) : State := X.2.2.2.2.1
abbrev xm (X : MC) : MethodId := X.2.2.2.2.2.1
abbrev xa (X : MC) : Array Value := X.2.2.2.2.2.2.1
abbrev xb (X : MC) : List Frame := X.2.2.2.2.2.2.2.1
abbrev xh (X : MC) : Method := X.2.2.2.2.2.2.2.2.1
abbrev xc (X : MC) : Code := X.2.2.2.2.2.2.2.2.2.1
abbrev xD (X : MC) : va_G := X.2.2.2.2.2.2.2.2.2.2.1
abbrev xA (X : MC) : Nat → Prop := X.2.2.2.2.2.2.2.2.2.2.2.1
abbrev xQ (X : MC) : State → Prop := X.2.2.2.2.2.2.2.2.2.2.2.2
/-- what a method's walk stands on -/
def Cx (X : MC) (l : Launch) (D : va_G) (g : Nat → ClassId) (rm : Room) (cc : ByteArray) (nL : Nat) (own : String) : Prop :=
  (xp X).tables.exec = Jvm.exec ∧ (xc X).code = cc ∧ (xc X).maxLocals = nL ∧ (xs X).vm.findClass own = some (xm X).cls ∧ (∀ w ∈ gw, w.before (xa X) (xs X) = true) ∧ KK D g (xs X) ∧ (∀ q, (xs X).heap.size ≤ q → xA X q) ∧ xl X = l ∧ xD X = D ∧ xR X = rm
def Go (X : MC) (nL : Nat) (ad : Nat → Nat) (cu su pc : Nat) (lv : List (Nat × Value)) (st : List Value) (w : List va_E) : Prop :=
  ∀ (H : Heap) (locs : List Loc) (ls : Array Slot), va_P (xD X) vwCl (cw ad w) H → va_D (xA X) (cw ad w) → va_S (xA X) (xs X).heap H locs → lv_has ls nL (clv ad lv) →
    W (xp X) (xl X) (xe X) (xR X) (xs X) (xm X) (xa X) (xb X) (xh X) (xc X) H locs cu su (xQ X) (F0 (xm X) pc ls (cst ad st))
section GoRows
variable {X : MC} {l : Launch} {D : va_G} {g : Nat → ClassId} {rm : Room} {cc : ByteArray} {nL : Nat} {own : String} {ad : Nat → Nat} {cu su pc : Nat} {lv : List (Nat × Value)} {st : List Value} {w : List va_E}
/-- fewer locals, by their numbers -/
def subL : List (Nat × Value) → List (Nat × Value) → Prop
  | [], _ => True
  | q :: t, lv => lk lv q.1 = some q.2 ∧ subL t lv
theorem subL_mem : ∀ {lv' lv : List (Nat × Value)}, subL lv' lv → ∀ q ∈ lv', (q.1, q.2) ∈ lv
  | [], _, _, q, hq => by cases hq
  | a :: t, lv, h, q, hq => by
    rcases List.mem_cons.mp hq with e | e
    · subst e; exact lk_mem h.1
    · exact subL_mem h.2 q e
theorem gSub {lv' : List (Nat × Value)} (hs : subL lv' lv) (kk : Go X nL ad cu su pc lv' st w) : Go X nL ad cu su pc lv st w := fun H locs ls hP hD hS hl =>
  kk H locs ls hP hD hS ⟨hl.1, hl.2.1, fun q hq => by
    obtain ⟨q0, h1, h2⟩ := List.mem_map.mp hq
    subst h2
    exact hl.2.2 _ (List.mem_map.mpr ⟨(q0.1, q0.2), subL_mem hs q0 h1, rfl⟩)⟩
theorem gW {w' : List va_E} (he : w = w') (kk : Go X nL ad cu su pc lv st w') : Go X nL ad cu su pc lv st w := he ▸ kk
theorem gLV {lv' : List (Nat × Value)} (he : lv = lv') (kk : Go X nL ad cu su pc lv' st w) : Go X nL ad cu su pc lv st w := he ▸ kk
theorem gST {st' : List Value} (he : st = st') (kk : Go X nL ad cu su pc lv st' w) : Go X nL ad cu su pc lv st w := he ▸ kk

theorem gIconst (hC : Cx X l D g rm cc nL own) {n : Int} (v : Int32) (hd : decode cc pc = .ok (.iconst n, 1)) (hv : Int32.ofInt n = v) (kk : Go X nL ad cu su (pc + 1) lv (.int v :: st) w) : Go X nL ad cu su pc lv st w := fun H locs ls hP hD hS hl => lv_iconst hC.1 hC.2.1 hd hv (kk H locs ls hP hD hS hl)
theorem gBipush (hC : Cx X l D g rm cc nL own) {n : Int} (v : Int32) (hd : decode cc pc = .ok (.bipush n, 2)) (hv : (Int8.ofInt n).toInt32 = v) (kk : Go X nL ad cu su (pc + 2) lv (.int v :: st) w) : Go X nL ad cu su pc lv st w := fun H locs ls hP hD hS hl => lv_bipush hC.1 hC.2.1 hd hv (kk H locs ls hP hD hS hl)
theorem gSipush (hC : Cx X l D g rm cc nL own) {n : Int} (v : Int32) (hd : decode cc pc = .ok (.sipush n, 3)) (hv : (Int16.ofInt n).toInt32 = v) (kk : Go X nL ad cu su (pc + 3) lv (.int v :: st) w) : Go X nL ad cu su pc lv st w := fun H locs ls hP hD hS hl => lv_sipush hC.1 hC.2.1 hd hv (kk H locs ls hP hD hS hl)
theorem gLconst (hC : Cx X l D g rm cc nL own) {n : Fin 2} (v : Int64) (hd : decode cc pc = .ok (.lconst n, 1)) (hv : Int64.ofNat (n : Nat) = v) (kk : Go X nL ad cu su (pc + 1) lv (.long v :: st) w) : Go X nL ad cu su pc lv st w := fun H locs ls hP hD hS hl => lv_lconst hC.1 hC.2.1 hd hv (kk H locs ls hP hD hS hl)
theorem gLdc (hC : Cx X l D g rm cc nL own) {ix : Nat} {v : Int32} (hm : Cond.constant own ix v ∈ gw) (hd : decode cc pc = .ok (.ldc ix, 2)) (kk : Go X nL ad cu su (pc + 2) lv (.int v :: st) w) : Go X nL ad cu su pc lv st w := fun H locs ls hP hD hS hl => lv_ldc hC.1 hC.2.1 hC.2.2.2.1 (hC.2.2.2.2.1 _ hm) hd (kk H locs ls hP hD hS hl)
theorem gLdcw (hC : Cx X l D g rm cc nL own) {ix : Nat} {v : Int32} (hm : Cond.constant own ix v ∈ gw) (hd : decode cc pc = .ok (.ldc_w ix, 3)) (kk : Go X nL ad cu su (pc + 3) lv (.int v :: st) w) : Go X nL ad cu su pc lv st w := fun H locs ls hP hD hS hl => lv_ldcw hC.1 hC.2.1 hC.2.2.2.1 (hC.2.2.2.2.1 _ hm) hd (kk H locs ls hP hD hS hl)
theorem gLdc2 (hC : Cx X l D g rm cc nL own) {ix : Nat} {v : Int64} (hm : Cond.constantLong own ix v ∈ gw) (hd : decode cc pc = .ok (.ldc2_w ix, 3)) (kk : Go X nL ad cu su (pc + 3) lv (.long v :: st) w) : Go X nL ad cu su pc lv st w := fun H locs ls hP hD hS hl => lv_ldc2 hC.1 hC.2.1 hC.2.2.2.1 (hC.2.2.2.2.1 _ hm) hd (kk H locs ls hP hD hS hl)
theorem gIloadN (hC : Cx X l D g rm cc nL own) {k : Fin 4} {i : Nat} {x : Int32} (hd : decode cc pc = .ok (.iload_n k, 1)) (hi : (k : Nat) = i) (hv : lk lv i = some (.int x)) (kk : Go X nL ad cu su (pc + 1) lv (.int x :: st) w) : Go X nL ad cu su pc lv st w := fun H locs ls hP hD hS hl => lv_iload_n hC.1 hC.2.1 hd hi (clv_lk hl hv) (kk H locs ls hP hD hS hl)
theorem gIload (hC : Cx X l D g rm cc nL own) {i : Nat} {x : Int32} (hd : decode cc pc = .ok (.iload i, 2)) (hv : lk lv i = some (.int x)) (kk : Go X nL ad cu su (pc + 2) lv (.int x :: st) w) : Go X nL ad cu su pc lv st w := fun H locs ls hP hD hS hl => lv_iload hC.1 hC.2.1 hd (clv_lk hl hv) (kk H locs ls hP hD hS hl)
theorem gIstoreN (hC : Cx X l D g rm cc nL own) {k : Fin 4} {i : Nat} {x : Int32} (lv' : List (Nat × Value)) (hd : decode cc pc = .ok (.istore_n k, 1)) (hi : (k : Nat) = i) (hn : i < nL) (hv : (i, Value.int x) :: st1 i lv = lv') (kk : Go X nL ad cu su (pc + 1) lv' st w) : Go X nL ad cu su pc lv (.int x :: st) w := fun H locs ls hP hD hS hl => lv_istore_n hC.1 hC.2.1 hd hi hl hn (lv' := clv ad lv') (by rw [← hv]; show _ = (i, _) :: clv ad (st1 i lv); rw [clv_st1]; rfl) (fun ls' hl' => kk H locs ls' hP hD hS hl')
theorem gIstore (hC : Cx X l D g rm cc nL own) {i : Nat} {x : Int32} (lv' : List (Nat × Value)) (hd : decode cc pc = .ok (.istore i, 2)) (hn : i < nL) (hv : (i, Value.int x) :: st1 i lv = lv') (kk : Go X nL ad cu su (pc + 2) lv' st w) : Go X nL ad cu su pc lv (.int x :: st) w := fun H locs ls hP hD hS hl => lv_istore hC.1 hC.2.1 hd hl hn (lv' := clv ad lv') (by rw [← hv]; show _ = (i, _) :: clv ad (st1 i lv); rw [clv_st1]; rfl) (fun ls' hl' => kk H locs ls' hP hD hS hl')
theorem gLloadN (hC : Cx X l D g rm cc nL own) {k : Fin 4} {i : Nat} {x : Int64} (hd : decode cc pc = .ok (.lload_n k, 1)) (hi : (k : Nat) = i) (hv : lk lv i = some (.long x)) (kk : Go X nL ad cu su (pc + 1) lv (.long x :: st) w) : Go X nL ad cu su pc lv st w := fun H locs ls hP hD hS hl => lv_lload_n hC.1 hC.2.1 hd hi (clv_lk hl hv) (kk H locs ls hP hD hS hl)
theorem gLload (hC : Cx X l D g rm cc nL own) {i : Nat} {x : Int64} (hd : decode cc pc = .ok (.lload i, 2)) (hv : lk lv i = some (.long x)) (kk : Go X nL ad cu su (pc + 2) lv (.long x :: st) w) : Go X nL ad cu su pc lv st w := fun H locs ls hP hD hS hl => lv_lload hC.1 hC.2.1 hd (clv_lk hl hv) (kk H locs ls hP hD hS hl)
theorem gLstoreN (hC : Cx X l D g rm cc nL own) {k : Fin 4} {i : Nat} {x : Int64} (lv' : List (Nat × Value)) (hd : decode cc pc = .ok (.lstore_n k, 1)) (hi : (k : Nat) = i) (hn : i + 1 < nL) (hv : (i, Value.long x) :: st2 i lv = lv') (kk : Go X nL ad cu su (pc + 1) lv' st w) : Go X nL ad cu su pc lv (.long x :: st) w := fun H locs ls hP hD hS hl => lv_lstore_n hC.1 hC.2.1 hd hi hl hn (lv' := clv ad lv') (by rw [← hv]; show _ = (i, _) :: clv ad (st2 i lv); rw [clv_st2]; rfl) (fun ls' hl' => kk H locs ls' hP hD hS hl')
theorem gLstore (hC : Cx X l D g rm cc nL own) {i : Nat} {x : Int64} (lv' : List (Nat × Value)) (hd : decode cc pc = .ok (.lstore i, 2)) (hn : i + 1 < nL) (hv : (i, Value.long x) :: st2 i lv = lv') (kk : Go X nL ad cu su (pc + 2) lv' st w) : Go X nL ad cu su pc lv (.long x :: st) w := fun H locs ls hP hD hS hl => lv_lstore hC.1 hC.2.1 hd hl hn (lv' := clv ad lv') (by rw [← hv]; show _ = (i, _) :: clv ad (st2 i lv); rw [clv_st2]; rfl) (fun ls' hl' => kk H locs ls' hP hD hS hl')
theorem gAloadN (hC : Cx X l D g rm cc nL own) {k : Fin 4} {i : Nat} {x : Nat} (hd : decode cc pc = .ok (.aload_n k, 1)) (hi : (k : Nat) = i) (hv : lk lv i = some (.ref x)) (kk : Go X nL ad cu su (pc + 1) lv (.ref x :: st) w) : Go X nL ad cu su pc lv st w := fun H locs ls hP hD hS hl => lv_aload_n hC.1 hC.2.1 hd hi (clv_lk hl hv) (kk H locs ls hP hD hS hl)
theorem gAload (hC : Cx X l D g rm cc nL own) {i : Nat} {x : Nat} (hd : decode cc pc = .ok (.aload i, 2)) (hv : lk lv i = some (.ref x)) (kk : Go X nL ad cu su (pc + 2) lv (.ref x :: st) w) : Go X nL ad cu su pc lv st w := fun H locs ls hP hD hS hl => lv_aload hC.1 hC.2.1 hd (clv_lk hl hv) (kk H locs ls hP hD hS hl)
theorem gAstoreN (hC : Cx X l D g rm cc nL own) {k : Fin 4} {i : Nat} {x : Nat} (lv' : List (Nat × Value)) (hd : decode cc pc = .ok (.astore_n k, 1)) (hi : (k : Nat) = i) (hn : i < nL) (hv : (i, Value.ref x) :: st1 i lv = lv') (kk : Go X nL ad cu su (pc + 1) lv' st w) : Go X nL ad cu su pc lv (.ref x :: st) w := fun H locs ls hP hD hS hl => lv_astore_n hC.1 hC.2.1 hd hi hl hn (lv' := clv ad lv') (by rw [← hv]; show _ = (i, _) :: clv ad (st1 i lv); rw [clv_st1]; rfl) (fun ls' hl' => kk H locs ls' hP hD hS hl')
theorem gAstore (hC : Cx X l D g rm cc nL own) {i : Nat} {x : Nat} (lv' : List (Nat × Value)) (hd : decode cc pc = .ok (.astore i, 2)) (hn : i < nL) (hv : (i, Value.ref x) :: st1 i lv = lv') (kk : Go X nL ad cu su (pc + 2) lv' st w) : Go X nL ad cu su pc lv (.ref x :: st) w := fun H locs ls hP hD hS hl => lv_astore hC.1 hC.2.1 hd hl hn (lv' := clv ad lv') (by rw [← hv]; show _ = (i, _) :: clv ad (st1 i lv); rw [clv_st1]; rfl) (fun ls' hl' => kk H locs ls' hP hD hS hl')
theorem gIinc (hC : Cx X l D g rm cc nL own) {i : Nat} {n : Int} {x : Int32} (v : Int32) (lv' : List (Nat × Value)) (hd : decode cc pc = .ok (.iinc i n, 3)) (hx : lk lv i = some (.int x)) (hv : Int32.ofInt n = v) (hn : i < nL) (hl' : (i, Value.int (x + v)) :: st1 i lv = lv') (kk : Go X nL ad cu su (pc + 3) lv' st w) : Go X nL ad cu su pc lv st w := fun H locs ls hP hD hS hl => by
  obtain ⟨k, hk⟩ := List.getElem?_of_mem (List.mem_map.mpr ⟨(i, Value.int x), lk_mem hx, rfl⟩ : (i, cz ad (Value.int x)) ∈ clv ad lv)
  exact lv_iinc hC.1 hC.2.1 hd hl hk (by rw [hv]) hn (lv' := clv ad lv') (by rw [← hl']; show _ = (i, _) :: clv ad (st1 i lv); rw [clv_st1]; rfl) (fun ls' h' => kk H locs ls' hP hD hS h')
theorem g_iadd (hC : Cx X l D g rm cc nL own) {x y : Int32} (hd : decode cc pc = .ok (.iadd, 1)) (kk : Go X nL ad cu su (pc + 1) lv (.int (x + y) :: st) w) : Go X nL ad cu su pc lv (.int y :: .int x :: st) w := fun H locs ls hP hD hS hl => lv_iadd hC.1 hC.2.1 hd (kk H locs ls hP hD hS hl)
theorem g_isub (hC : Cx X l D g rm cc nL own) {x y : Int32} (hd : decode cc pc = .ok (.isub, 1)) (kk : Go X nL ad cu su (pc + 1) lv (.int (x - y) :: st) w) : Go X nL ad cu su pc lv (.int y :: .int x :: st) w := fun H locs ls hP hD hS hl => lv_isub hC.1 hC.2.1 hd (kk H locs ls hP hD hS hl)
theorem g_imul (hC : Cx X l D g rm cc nL own) {x y : Int32} (hd : decode cc pc = .ok (.imul, 1)) (kk : Go X nL ad cu su (pc + 1) lv (.int (x * y) :: st) w) : Go X nL ad cu su pc lv (.int y :: .int x :: st) w := fun H locs ls hP hD hS hl => lv_imul hC.1 hC.2.1 hd (kk H locs ls hP hD hS hl)
theorem g_iand (hC : Cx X l D g rm cc nL own) {x y : Int32} (hd : decode cc pc = .ok (.iand, 1)) (kk : Go X nL ad cu su (pc + 1) lv (.int (x &&& y) :: st) w) : Go X nL ad cu su pc lv (.int y :: .int x :: st) w := fun H locs ls hP hD hS hl => lv_iand hC.1 hC.2.1 hd (kk H locs ls hP hD hS hl)
theorem g_ior (hC : Cx X l D g rm cc nL own) {x y : Int32} (hd : decode cc pc = .ok (.ior, 1)) (kk : Go X nL ad cu su (pc + 1) lv (.int (x ||| y) :: st) w) : Go X nL ad cu su pc lv (.int y :: .int x :: st) w := fun H locs ls hP hD hS hl => lv_ior hC.1 hC.2.1 hd (kk H locs ls hP hD hS hl)
theorem g_ixor (hC : Cx X l D g rm cc nL own) {x y : Int32} (hd : decode cc pc = .ok (.ixor, 1)) (kk : Go X nL ad cu su (pc + 1) lv (.int (x ^^^ y) :: st) w) : Go X nL ad cu su pc lv (.int y :: .int x :: st) w := fun H locs ls hP hD hS hl => lv_ixor hC.1 hC.2.1 hd (kk H locs ls hP hD hS hl)
theorem g_ishl (hC : Cx X l D g rm cc nL own) {x y : Int32} (hd : decode cc pc = .ok (.ishl, 1)) (kk : Go X nL ad cu su (pc + 1) lv (.int (x <<< (y &&& 31)) :: st) w) : Go X nL ad cu su pc lv (.int y :: .int x :: st) w := fun H locs ls hP hD hS hl => lv_ishl hC.1 hC.2.1 hd (kk H locs ls hP hD hS hl)
theorem g_ishr (hC : Cx X l D g rm cc nL own) {x y : Int32} (hd : decode cc pc = .ok (.ishr, 1)) (kk : Go X nL ad cu su (pc + 1) lv (.int (x >>> (y &&& 31)) :: st) w) : Go X nL ad cu su pc lv (.int y :: .int x :: st) w := fun H locs ls hP hD hS hl => lv_ishr hC.1 hC.2.1 hd (kk H locs ls hP hD hS hl)
theorem g_iushr (hC : Cx X l D g rm cc nL own) {x y : Int32} (hd : decode cc pc = .ok (.iushr, 1)) (kk : Go X nL ad cu su (pc + 1) lv (.int (x.toUInt32 >>> (y.toUInt32 &&& Int32.toUInt32 31)).toInt32 :: st) w) : Go X nL ad cu su pc lv (.int y :: .int x :: st) w := fun H locs ls hP hD hS hl => lv_iushr hC.1 hC.2.1 hd rfl (kk H locs ls hP hD hS hl)
theorem g_idiv (hC : Cx X l D g rm cc nL own) {x y : Int32} (hd : decode cc pc = .ok (.idiv, 1)) (hy : ¬ y = 0) (kk : Go X nL ad cu su (pc + 1) lv (.int (x / y) :: st) w) : Go X nL ad cu su pc lv (.int y :: .int x :: st) w := fun H locs ls hP hD hS hl => lv_idiv hC.1 hC.2.1 hd hy (kk H locs ls hP hD hS hl)
theorem g_irem (hC : Cx X l D g rm cc nL own) {x y : Int32} (hd : decode cc pc = .ok (.irem, 1)) (hy : ¬ y = 0) (kk : Go X nL ad cu su (pc + 1) lv (.int (x - x / y * y) :: st) w) : Go X nL ad cu su pc lv (.int y :: .int x :: st) w := fun H locs ls hP hD hS hl => lv_irem hC.1 hC.2.1 hd hy (kk H locs ls hP hD hS hl)
theorem g_ineg (hC : Cx X l D g rm cc nL own) {x : Int32} (hd : decode cc pc = .ok (.ineg, 1)) (kk : Go X nL ad cu su (pc + 1) lv (.int (-x) :: st) w) : Go X nL ad cu su pc lv (.int x :: st) w := fun H locs ls hP hD hS hl => lv_ineg hC.1 hC.2.1 hd (kk H locs ls hP hD hS hl)
theorem g_i2l (hC : Cx X l D g rm cc nL own) {x : Int32} (hd : decode cc pc = .ok (.i2l, 1)) (kk : Go X nL ad cu su (pc + 1) lv (.long x.toInt64 :: st) w) : Go X nL ad cu su pc lv (.int x :: st) w := fun H locs ls hP hD hS hl => lv_i2l hC.1 hC.2.1 hd rfl (kk H locs ls hP hD hS hl)
theorem g_l2i (hC : Cx X l D g rm cc nL own) {x : Int64} (hd : decode cc pc = .ok (.l2i, 1)) (kk : Go X nL ad cu su (pc + 1) lv (.int x.toInt32 :: st) w) : Go X nL ad cu su pc lv (.long x :: st) w := fun H locs ls hP hD hS hl => lv_l2i hC.1 hC.2.1 hd rfl (kk H locs ls hP hD hS hl)
theorem g_i2b (hC : Cx X l D g rm cc nL own) {x : Int32} (hd : decode cc pc = .ok (.i2b, 1)) (kk : Go X nL ad cu su (pc + 1) lv (.int x.toInt8.toInt32 :: st) w) : Go X nL ad cu su pc lv (.int x :: st) w := fun H locs ls hP hD hS hl => lv_i2b hC.1 hC.2.1 hd rfl (kk H locs ls hP hD hS hl)
theorem g_i2c (hC : Cx X l D g rm cc nL own) {x : Int32} (hd : decode cc pc = .ok (.i2c, 1)) (kk : Go X nL ad cu su (pc + 1) lv (.int (x.toUInt32 % 65536).toInt32 :: st) w) : Go X nL ad cu su pc lv (.int x :: st) w := fun H locs ls hP hD hS hl => lv_i2c hC.1 hC.2.1 hd rfl (kk H locs ls hP hD hS hl)
theorem g_ladd (hC : Cx X l D g rm cc nL own) {x y : Int64} (hd : decode cc pc = .ok (.ladd, 1)) (kk : Go X nL ad cu su (pc + 1) lv (.long (x + y) :: st) w) : Go X nL ad cu su pc lv (.long y :: .long x :: st) w := fun H locs ls hP hD hS hl => lv_ladd hC.1 hC.2.1 hd (kk H locs ls hP hD hS hl)
theorem g_lsub (hC : Cx X l D g rm cc nL own) {x y : Int64} (hd : decode cc pc = .ok (.lsub, 1)) (kk : Go X nL ad cu su (pc + 1) lv (.long (x - y) :: st) w) : Go X nL ad cu su pc lv (.long y :: .long x :: st) w := fun H locs ls hP hD hS hl => lv_lsub hC.1 hC.2.1 hd (kk H locs ls hP hD hS hl)
theorem g_lmul (hC : Cx X l D g rm cc nL own) {x y : Int64} (hd : decode cc pc = .ok (.lmul, 1)) (kk : Go X nL ad cu su (pc + 1) lv (.long (x * y) :: st) w) : Go X nL ad cu su pc lv (.long y :: .long x :: st) w := fun H locs ls hP hD hS hl => lv_lmul hC.1 hC.2.1 hd (kk H locs ls hP hD hS hl)
theorem g_ldiv (hC : Cx X l D g rm cc nL own) {x y : Int64} (hd : decode cc pc = .ok (.ldiv, 1)) (hy : ¬ y = 0) (kk : Go X nL ad cu su (pc + 1) lv (.long (x / y) :: st) w) : Go X nL ad cu su pc lv (.long y :: .long x :: st) w := fun H locs ls hP hD hS hl => lv_ldiv hC.1 hC.2.1 hd hy (kk H locs ls hP hD hS hl)
theorem g_lrem (hC : Cx X l D g rm cc nL own) {x y : Int64} (hd : decode cc pc = .ok (.lrem, 1)) (hy : ¬ y = 0) (kk : Go X nL ad cu su (pc + 1) lv (.long (x - x / y * y) :: st) w) : Go X nL ad cu su pc lv (.long y :: .long x :: st) w := fun H locs ls hP hD hS hl => lv_lrem hC.1 hC.2.1 hd hy (kk H locs ls hP hD hS hl)
theorem g_lcmp (hC : Cx X l D g rm cc nL own) {x y : Int64} (hd : decode cc pc = .ok (.lcmp, 1)) (kk : Go X nL ad cu su (pc + 1) lv (.int (lg_cmp x y) :: st) w) : Go X nL ad cu su pc lv (.long y :: .long x :: st) w := fun H locs ls hP hD hS hl => W.lcmp hC.1 hC.2.1 hd (kk H locs ls hP hD hS hl)
theorem gDup (hC : Cx X l D g rm cc nL own) {v : Value} (hd : decode cc pc = .ok (.dup, 1)) (hv : v.category = 1) (kk : Go X nL ad cu su (pc + 1) lv (v :: v :: st) w) : Go X nL ad cu su pc lv (v :: st) w := fun H locs ls hP hD hS hl => lv_dup hC.1 hC.2.1 hd ((cz_cat ad v).trans hv) (kk H locs ls hP hD hS hl)
theorem gPop (hC : Cx X l D g rm cc nL own) {v : Value} (hd : decode cc pc = .ok (.pop, 1)) (hv : v.category = 1) (kk : Go X nL ad cu su (pc + 1) lv st w) : Go X nL ad cu su pc lv (v :: st) w := fun H locs ls hP hD hS hl => lv_pop hC.1 hC.2.1 hd ((cz_cat ad v).trans hv) (kk H locs ls hP hD hS hl)
theorem gDup2 (hC : Cx X l D g rm cc nL own) {u v : Value} (hd : decode cc pc = .ok (.dup2, 1)) (hu : u.category = 1) (hv : v.category = 1) (kk : Go X nL ad cu su (pc + 1) lv (u :: v :: u :: v :: st) w) : Go X nL ad cu su pc lv (u :: v :: st) w := fun H locs ls hP hD hS hl => lv_dup2_11 hC.1 hC.2.1 hd ((cz_cat ad u).trans hu) ((cz_cat ad v).trans hv) (kk H locs ls hP hD hS hl)
theorem gZ_eq (hC : Cx X l D g rm cc nL own) {x : Int32} {off : Int} (tgt : Nat) (hd : decode cc pc = .ok (.ifCond .eq off, 3)) (ht : (pc : Int) + off = (tgt : Int)) (kt : x = 0 → Go X nL ad cu su tgt lv st w) (kf : ¬ x = 0 → Go X nL ad cu su (pc + 3) lv st w) : Go X nL ad cu su pc lv (.int x :: st) w := fun H locs ls hP hD hS hl => lv_if_eq hC.1 hC.2.1 hd ht (fun h => kt h H locs ls hP hD hS hl) (fun h => kf h H locs ls hP hD hS hl)
theorem gC_eq (hC : Cx X l D g rm cc nL own) {x y : Int32} {off : Int} (tgt : Nat) (hd : decode cc pc = .ok (.if_icmp .eq off, 3)) (ht : (pc : Int) + off = (tgt : Int)) (kt : x = y → Go X nL ad cu su tgt lv st w) (kf : ¬ x = y → Go X nL ad cu su (pc + 3) lv st w) : Go X nL ad cu su pc lv (.int y :: .int x :: st) w := fun H locs ls hP hD hS hl => lv_icmp_eq hC.1 hC.2.1 hd ht (fun h => kt h H locs ls hP hD hS hl) (fun h => kf h H locs ls hP hD hS hl)
theorem gZ_ne (hC : Cx X l D g rm cc nL own) {x : Int32} {off : Int} (tgt : Nat) (hd : decode cc pc = .ok (.ifCond .ne off, 3)) (ht : (pc : Int) + off = (tgt : Int)) (kt : x = 0 → Go X nL ad cu su (pc + 3) lv st w) (kf : ¬ x = 0 → Go X nL ad cu su tgt lv st w) : Go X nL ad cu su pc lv (.int x :: st) w := fun H locs ls hP hD hS hl => lv_if_ne hC.1 hC.2.1 hd ht (fun h => kf h H locs ls hP hD hS hl) (fun h => kt h H locs ls hP hD hS hl)
theorem gC_ne (hC : Cx X l D g rm cc nL own) {x y : Int32} {off : Int} (tgt : Nat) (hd : decode cc pc = .ok (.if_icmp .ne off, 3)) (ht : (pc : Int) + off = (tgt : Int)) (kt : x = y → Go X nL ad cu su (pc + 3) lv st w) (kf : ¬ x = y → Go X nL ad cu su tgt lv st w) : Go X nL ad cu su pc lv (.int y :: .int x :: st) w := fun H locs ls hP hD hS hl => lv_icmp_ne hC.1 hC.2.1 hd ht (fun h => kf h H locs ls hP hD hS hl) (fun h => kt h H locs ls hP hD hS hl)
theorem gZ_lt (hC : Cx X l D g rm cc nL own) {x : Int32} {off : Int} (tgt : Nat) (hd : decode cc pc = .ok (.ifCond .lt off, 3)) (ht : (pc : Int) + off = (tgt : Int)) (kt : x < 0 → Go X nL ad cu su tgt lv st w) (kf : ¬ x < 0 → Go X nL ad cu su (pc + 3) lv st w) : Go X nL ad cu su pc lv (.int x :: st) w := fun H locs ls hP hD hS hl => lv_if_lt hC.1 hC.2.1 hd ht (fun h => kt h H locs ls hP hD hS hl) (fun h => kf h H locs ls hP hD hS hl)
theorem gC_lt (hC : Cx X l D g rm cc nL own) {x y : Int32} {off : Int} (tgt : Nat) (hd : decode cc pc = .ok (.if_icmp .lt off, 3)) (ht : (pc : Int) + off = (tgt : Int)) (kt : x < y → Go X nL ad cu su tgt lv st w) (kf : ¬ x < y → Go X nL ad cu su (pc + 3) lv st w) : Go X nL ad cu su pc lv (.int y :: .int x :: st) w := fun H locs ls hP hD hS hl => lv_icmp_lt hC.1 hC.2.1 hd ht (fun h => kt h H locs ls hP hD hS hl) (fun h => kf h H locs ls hP hD hS hl)
theorem gZ_ge (hC : Cx X l D g rm cc nL own) {x : Int32} {off : Int} (tgt : Nat) (hd : decode cc pc = .ok (.ifCond .ge off, 3)) (ht : (pc : Int) + off = (tgt : Int)) (kt : x < 0 → Go X nL ad cu su (pc + 3) lv st w) (kf : ¬ x < 0 → Go X nL ad cu su tgt lv st w) : Go X nL ad cu su pc lv (.int x :: st) w := fun H locs ls hP hD hS hl => lv_if_ge hC.1 hC.2.1 hd ht (fun h => kf (Int32.not_lt.mpr h) H locs ls hP hD hS hl) (fun h => kt (Int32.not_le.mp h) H locs ls hP hD hS hl)
theorem gC_ge (hC : Cx X l D g rm cc nL own) {x y : Int32} {off : Int} (tgt : Nat) (hd : decode cc pc = .ok (.if_icmp .ge off, 3)) (ht : (pc : Int) + off = (tgt : Int)) (kt : x < y → Go X nL ad cu su (pc + 3) lv st w) (kf : ¬ x < y → Go X nL ad cu su tgt lv st w) : Go X nL ad cu su pc lv (.int y :: .int x :: st) w := fun H locs ls hP hD hS hl => lv_icmp_ge hC.1 hC.2.1 hd ht (fun h => kf (Int32.not_lt.mpr h) H locs ls hP hD hS hl) (fun h => kt (Int32.not_le.mp h) H locs ls hP hD hS hl)
theorem gZ_gt (hC : Cx X l D g rm cc nL own) {x : Int32} {off : Int} (tgt : Nat) (hd : decode cc pc = .ok (.ifCond .gt off, 3)) (ht : (pc : Int) + off = (tgt : Int)) (kt : 0 < x → Go X nL ad cu su tgt lv st w) (kf : ¬ 0 < x → Go X nL ad cu su (pc + 3) lv st w) : Go X nL ad cu su pc lv (.int x :: st) w := fun H locs ls hP hD hS hl => lv_if_gt hC.1 hC.2.1 hd ht (fun h => kt h H locs ls hP hD hS hl) (fun h => kf h H locs ls hP hD hS hl)
theorem gC_gt (hC : Cx X l D g rm cc nL own) {x y : Int32} {off : Int} (tgt : Nat) (hd : decode cc pc = .ok (.if_icmp .gt off, 3)) (ht : (pc : Int) + off = (tgt : Int)) (kt : y < x → Go X nL ad cu su tgt lv st w) (kf : ¬ y < x → Go X nL ad cu su (pc + 3) lv st w) : Go X nL ad cu su pc lv (.int y :: .int x :: st) w := fun H locs ls hP hD hS hl => lv_icmp_gt hC.1 hC.2.1 hd ht (fun h => kt h H locs ls hP hD hS hl) (fun h => kf h H locs ls hP hD hS hl)
theorem gZ_le (hC : Cx X l D g rm cc nL own) {x : Int32} {off : Int} (tgt : Nat) (hd : decode cc pc = .ok (.ifCond .le off, 3)) (ht : (pc : Int) + off = (tgt : Int)) (kt : 0 < x → Go X nL ad cu su (pc + 3) lv st w) (kf : ¬ 0 < x → Go X nL ad cu su tgt lv st w) : Go X nL ad cu su pc lv (.int x :: st) w := fun H locs ls hP hD hS hl => lv_if_le hC.1 hC.2.1 hd ht (fun h => kf (Int32.not_lt.mpr h) H locs ls hP hD hS hl) (fun h => kt (Int32.not_le.mp h) H locs ls hP hD hS hl)
theorem gC_le (hC : Cx X l D g rm cc nL own) {x y : Int32} {off : Int} (tgt : Nat) (hd : decode cc pc = .ok (.if_icmp .le off, 3)) (ht : (pc : Int) + off = (tgt : Int)) (kt : y < x → Go X nL ad cu su (pc + 3) lv st w) (kf : ¬ y < x → Go X nL ad cu su tgt lv st w) : Go X nL ad cu su pc lv (.int y :: .int x :: st) w := fun H locs ls hP hD hS hl => lv_icmp_le hC.1 hC.2.1 hd ht (fun h => kf (Int32.not_lt.mpr h) H locs ls hP hD hS hl) (fun h => kt (Int32.not_le.mp h) H locs ls hP hD hS hl)
theorem gGoto (hC : Cx X l D g rm cc nL own) {off : Int} (tgt : Nat) (hd : decode cc pc = .ok (.goto off, 3)) (ht : (pc : Int) + off = (tgt : Int)) (kk : Go X nL ad cu su tgt lv st w) : Go X nL ad cu su pc lv st w := fun H locs ls hP hD hS hl => lv_goto hC.1 hC.2.1 hd ht (kk H locs ls hP hD hS hl)
/-- a table of places, from key k on; the rest -/
def swN (pc : Nat) (x : Int32) (K : Nat → Prop) (d : Int) : Nat → List Int → Prop
  | _, [] => K ((pc : Int) + d).toNat
  | k, v :: t => (x = Int32.ofNat k → K ((pc : Int) + v).toNat) ∧ (¬ x = Int32.ofNat k → swN pc x K d (k + 1) t)
theorem swN_in {pc : Nat} {x : Int32} {K : Nat → Prop} {d : Int} : ∀ (t : List Int) (k : Nat), swN pc x K d k t → k + t.length < 2 ^ 31 → (∀ (j : Nat) (v : Int), t[j]? = some v → x = Int32.ofNat (k + j) → K ((pc : Int) + v).toNat) ∧ ((∀ j : Nat, j < t.length → ¬ x = Int32.ofNat (k + j)) → K ((pc : Int) + d).toNat)
  | [], k, h, _ => ⟨fun j v hj => by simp at hj, fun _ => h⟩
  | a :: t, k, h, hb => by
    have hb' : k + 1 + t.length < 2 ^ 31 := by simp only [List.length_cons] at hb; omega
    refine ⟨fun j v hj hx => ?_, fun hn => ?_⟩
    · cases j with
      | zero =>
        simp only [List.getElem?_cons_zero] at hj
        cases hj
        exact h.1 hx
      | succ j =>
        simp only [List.getElem?_cons_succ] at hj
        have hne : ¬ x = Int32.ofNat k := by
          intro e
          have hl : j < t.length := (List.getElem?_eq_some_iff.mp hj).1
          have := (nI_eq (a := k + (j + 1)) (b := k) (by omega) (by omega)).mp (hx.symm.trans e)
          omega
        exact (swN_in t (k + 1) (h.2 hne) hb').1 j v hj (by rw [hx]; congr 1; omega)
    · have h0 := hn 0 (by simp)
      exact (swN_in t (k + 1) (h.2 (by simpa using h0)) hb').2 (fun j hj => by
        have := hn (j + 1) (by simp only [List.length_cons]; omega)
        rw [show k + 1 + j = k + (j + 1) by omega]
        exact this)
theorem gTab (hC : Cx X l D g rm cc nL own) {x : Int32} {d hi : Int} {offs : Array Int} {len : Nat} (hd : decode cc pc = .ok (.tableswitch d 0 hi offs, len)) (hhi : hi + 1 = (offs.size : Int)) (hsz : offs.size < 2 ^ 31) (hpos : ∀ v ∈ d :: offs.toList, 0 ≤ (pc : Int) + v) (kk : swN pc x (fun t => Go X nL ad cu su t lv st w) d 0 offs.toList) : Go X nL ad cu su pc lv (.int x :: st) w := fun H locs ls hP hD hS hl => by
  obtain ⟨k1, k2⟩ := swN_in offs.toList 0 kk (by simpa using hsz)
  by_cases hin : 0 ≤ x.toInt ∧ x.toInt < (offs.size : Int)
  · have hx : x = Int32.ofNat x.toInt.toNat := by
      apply Int32.toInt_inj.mp
      rw [show (Int32.ofNat x.toInt.toNat).toInt = ((x.toInt.toNat : Nat) : Int) from nI_toInt (by omega)]
      omega
    have hlt : x.toInt.toNat < offs.size := by omega
    have hof : offs.toList[x.toInt.toNat]? = some offs[x.toInt.toNat] := by simp [hlt]
    have hp := hpos offs[x.toInt.toNat] (List.mem_cons_of_mem _ (List.mem_of_getElem? hof))
    refine lv_tableIn hC.1 hC.2.1 hd (by omega) (by omega) (off := offs[x.toInt.toNat]) (tgt := ((pc : Int) + offs[x.toInt.toNat]).toNat) ?_ (by omega) (k1 _ _ hof (by rw [Nat.zero_add]; exact hx) H locs ls hP hD hS hl)
    rw [show (x.toInt - 0).toNat = x.toInt.toNat by omega]
    simp [hlt]
  · have hp := hpos d List.mem_cons_self
    refine lv_tableOut hC.1 hC.2.1 hd (by omega) (tgt := ((pc : Int) + d).toNat) (by omega) (k2 (fun j hj e => hin ?_) H locs ls hP hD hS hl)
    rw [e, show (Int32.ofNat (0 + j)).toInt = ((0 + j : Nat) : Int) from nI_toInt (by simp at hj; omega)]
    simp at hj
    omega
/-- keys and their places -/
def swL (pc : Nat) (x : Int32) (K : Nat → Prop) (d : Int) : List (Int × Int) → Prop
  | [] => K ((pc : Int) + d).toNat
  | a :: t => (x = Int32.ofInt a.1 → K ((pc : Int) + a.2).toNat) ∧ (¬ x = Int32.ofInt a.1 → swL pc x K d t)
theorem gLook (hC : Cx X l D g rm cc nL own) {x : Int32} {d : Int} {ps : Array (Int × Int)} {len : Nat} (hd : decode cc pc = .ok (.lookupswitch d ps, len)) (hp : (ps.toList.zip (ps.toList.drop 1)).all (fun (a, next) => a.1 < next.1) = true) (hpos : 0 ≤ (pc : Int) + d ∧ ∀ v ∈ ps.toList, 0 ≤ (pc : Int) + v.2 ∧ -2147483648 ≤ v.1 ∧ v.1 < 2147483648) (kk : swL pc x (fun t => Go X nL ad cu su t lv st w) d ps.toList) : Go X nL ad cu su pc lv (.int x :: st) w := fun H locs ls hP hD hS hl => by
  have key : ∀ t : List (Int × Int), (0 ≤ (pc : Int) + d ∧ ∀ v ∈ t, 0 ≤ (pc : Int) + v.2 ∧ -2147483648 ≤ v.1 ∧ v.1 < 2147483648) → swL pc x (fun t => Go X nL ad cu su t lv st w) d t → ∃ tgt : Nat, (pc : Int) + Op.lookupswitch.offset t d x.toInt = (tgt : Int) ∧ Go X nL ad cu su tgt lv st w := by
    intro t
    induction t with
    | nil => exact fun h k => ⟨((pc : Int) + d).toNat, by show (pc : Int) + d = _; have := h.1; omega, k⟩
    | cons a t ih =>
      intro h k
      have ha := h.2 a List.mem_cons_self
      have hk : (Int32.ofInt a.1).toInt = a.1 := by
        rw [Int32.toInt_ofInt]
        have hz : Int32.size = 4294967296 := rfl
        exact Int.bmod_eq_of_le (by omega) (by omega)
      by_cases hx : x = Int32.ofInt a.1
      · refine ⟨((pc : Int) + a.2).toNat, ?_, k.1 hx⟩
        have e1 : Op.lookupswitch.offset (a :: t) d x.toInt = a.2 := by
          rw [hx, hk]
          obtain ⟨a1, a2⟩ := a
          simp [Op.lookupswitch.offset]
        rw [e1]; omega
      · obtain ⟨tgt, e1, e2⟩ := ih ⟨h.1, fun v hv => h.2 v (List.mem_cons_of_mem _ hv)⟩ (k.2 hx)
        refine ⟨tgt, ?_, e2⟩
        obtain ⟨a1, a2⟩ := a
        rw [lv_osw hx hk]
        exact e1
  obtain ⟨tgt, e1, e2⟩ := key ps.toList hpos kk
  exact lv_lookup hC.1 hC.2.1 hd hp rfl e1 (e2 H locs ls hP hD hS hl)
/-- a field by its number in the class file: kind ci, slot k -/
def FLok (own : String) (ix ci k : Nat) : Prop := ∃ (C : String) (T : u_T) (N : Nat), vwCl[ci]? = some (C, T, N) ∧ k < N ∧ (∀ x ∈ u_ws C T N, x ∈ gw) ∧ (T k).1 = C ∧ (Cond.fieldLink own ix C (T k).2.1 (T k).2.2.1 ∈ gw ∨ ∃ host : String, (own, ix, C, (T k).2.1, (T k).2.2.1, host) ∈ nwF)
theorem gGet (hC : Cx X l D g rm cc nL own) {ix ci k q : Nat} {fs : List Value} {v : Value} (hd : decode cc pc = .ok (.getfield ix, 3)) (hf : FLok own ix ci k) (hw : w[q]? = some (.inr (ci, fs))) (hv : fs[k]? = some v) (kk : Go X nL ad cu su (pc + 3) lv (v :: st) w) : Go X nL ad cu su pc lv (.ref q :: st) w := fun H locs ls hP hD hS hl => by
  obtain ⟨cN, cT, cM, h1, h2, h3, h4, h5⟩ := hf
  have hv' : (fs.map (cz ad))[k]? = some (cz ad v) := by rw [List.getElem?_map, hv]; rfl
  have hKs : va_K (xD X) vwCl (tysG g) (xs X) := by rw [hC.2.2.2.2.2.2.2.2.1]; exact hC.2.2.2.2.2.1.1
  rcases h5 with h5 | ⟨host, h5⟩
  · exact va_get hC.1 hC.2.1 hC.2.2.2.2.1 h3 hC.2.2.2.1 hKs hP q (cw_at hw) h1 k h2 (hC.2.2.2.2.1 _ h5) (fun _ h9 => by rw [h4] at h9; exact h9) hv' hd (kk H locs ls hP hD hS hl)
  · exact va_getN hC.1 hC.2.1 hC.2.2.2.2.1 h3 hC.2.2.2.1 hKs hP q (cw_at hw) h1 k h2 (va_Nw.use rfl (hC.2.2.2.2.2.1.2.1 _ h5)) (fun _ h9 => by rw [h4] at h9; exact h9) hv' hd (kk H locs ls hP hD hS hl)
/-- a field that may be written: not final, its type -/
def PFok (own : String) (ix ci k : Nat) (ty : FieldType) : Prop := ∃ (C : String) (T : u_T) (N : Nat) (ty0 : Nat → FieldType), vwCl[ci]? = some (C, T, N) ∧ k < N ∧ (∀ x ∈ u_ws C T N, x ∈ gw) ∧ (T k).1 = C ∧ Cond.fieldLink own ix C (T k).2.1 (T k).2.2.1 ∈ gw ∧ (T k).2.2.2 = false ∧ (∀ j, j < N → parseFieldDescriptor (T j).2.2.1 = some (ty0 j)) ∧ (∀ a, a < N → ∀ b, b < N → a ≠ b → (T a).2.1 ≠ (T b).2.1) ∧ parseFieldDescriptor (T k).2.2.1 = some ty
theorem cz_nar {ad : Nat → Nat} {ty : FieldType} {v : Value} (h : narrow ty v = v) : narrow ty (cz ad v) = cz ad v := by
  cases v <;> first | exact h | (cases ty <;> rfl)
theorem cz_fit {ad : Nat → Nat} {ty : FieldType} {v : Value} (h : fits ty v = true) : fits ty (cz ad v) = true := by
  cases v <;> first | exact h | (cases ty <;> first | rfl | exact h)
theorem gPut (hC : Cx X l D g rm cc nL own) {ix ci k q : Nat} {ty : FieldType} {fs : List Value} {v : Value} (hd : decode cc pc = .ok (.putfield ix, 3)) (hf : PFok own ix ci k ty) (hw : w[q]? = some (.inr (ci, fs))) (hn : narrow ty v = v) (hft : fits ty v = true) (hk : k < fs.length) (kk : Go X nL ad cu su (pc + 3) lv st (w.set q (.inr (ci, fs.set k v)))) : Go X nL ad cu su pc lv (v :: .ref q :: st) w := fun H locs ls hP hD hS hl => by
  obtain ⟨cN, cT, cM, ty0, h1, h2, h3, h4, h5, h6, h7, h8, h9⟩ := hf
  have hKs : va_K (xD X) vwCl (tysG g) (xs X) := by rw [hC.2.2.2.2.2.2.2.2.1]; exact hC.2.2.2.2.2.1.1
  refine va_put hC.1 hC.2.1 hC.2.2.2.2.1 h3 ty0 h7 h8 hC.2.2.2.1 hKs hP hD hS q (cw_at hw) h1 k h2 (hC.2.2.2.2.1 _ h5) (fun _ h9 => by rw [h4] at h9; exact h9) h6 h9 (cz_nar hn) (cz_fit hft) (by rw [List.length_map]; exact hk) hd (fun H1 locs1 hP1 hD1 hS1 => ?_)
  have e : (cw ad w).set q (ad q, .inr (ci, (fs.map (cz ad)).set k (cz ad v))) = cw ad (w.set q (.inr (ci, fs.set k v))) := by
    rw [cw_set]
    show _ = (cw ad w).set q (ad q, .inr (ci, (fs.set k v).map (cz ad)))
    rw [List.map_set]
  rw [e] at hP1 hD1
  exact kk H1 locs1 ls hP1 hD1 hS1 hl
theorem gIald (hC : Cx X l D g rm cc nL own) {q n : Nat} {i : Int32} {f : Nat → Int32} (hd : decode cc pc = .ok (.iaload, 1)) (hw : w[q]? = some (.inl (g 0, n, .inl f))) (hin : vp_in i n) (kk : Go X nL ad cu su (pc + 1) lv (.int (f i.toNatClampNeg) :: st) w) : Go X nL ad cu su pc lv (.int i :: .ref q :: st) w := fun H locs ls hP hD hS hl =>
  va_iald hC.1 hC.2.1 (by rw [hC.2.2.2.2.2.2.2.2.1]; exact hC.2.2.2.2.2.1.1 : va_K (xD X) vwCl (tysG g) (xs X)) hP q 0 (cw_at hw) rfl hin hd (kk H locs ls hP hD hS hl)
theorem gCald (hC : Cx X l D g rm cc nL own) {q n : Nat} {i : Int32} {f : Nat → Int32} (hd : decode cc pc = .ok (.caload, 1)) (hw : w[q]? = some (.inl (g 1, n, .inl f))) (hin : vp_in i n) (kk : Go X nL ad cu su (pc + 1) lv (.int (f i.toNatClampNeg) :: st) w) : Go X nL ad cu su pc lv (.int i :: .ref q :: st) w := fun H locs ls hP hD hS hl =>
  va_cald hC.1 hC.2.1 (by rw [hC.2.2.2.2.2.2.2.2.1]; exact hC.2.2.2.2.2.1.1 : va_K (xD X) vwCl (tysG g) (xs X)) hP q 1 (cw_at hw) rfl hin hd (kk H locs ls hP hD hS hl)
theorem gBald (hC : Cx X l D g rm cc nL own) {q n : Nat} {i : Int32} {f : Nat → Int32} (hd : decode cc pc = .ok (.baload, 1)) (hw : w[q]? = some (.inl (g 2, n, .inl f))) (hin : vp_in i n) (kk : Go X nL ad cu su (pc + 1) lv (.int (f i.toNatClampNeg) :: st) w) : Go X nL ad cu su pc lv (.int i :: .ref q :: st) w := fun H locs ls hP hD hS hl =>
  va_bald hC.1 hC.2.1 (by rw [hC.2.2.2.2.2.2.2.2.1]; exact hC.2.2.2.2.2.1.1 : va_K (xD X) vwCl (tysG g) (xs X)) hP q 2 (cw_at hw) rfl hin hd (kk H locs ls hP hD hS hl)
theorem gLald (hC : Cx X l D g rm cc nL own) {q n : Nat} {i : Int32} {f : Nat → Int64} (hd : decode cc pc = .ok (.laload, 1)) (hw : w[q]? = some (.inl (g 3, n, .inr (.inl f)))) (hin : vp_in i n) (kk : Go X nL ad cu su (pc + 1) lv (.long (f i.toNatClampNeg) :: st) w) : Go X nL ad cu su pc lv (.int i :: .ref q :: st) w := fun H locs ls hP hD hS hl =>
  va_lald hC.1 hC.2.1 (by rw [hC.2.2.2.2.2.2.2.2.1]; exact hC.2.2.2.2.2.1.1 : va_K (xD X) vwCl (tysG g) (xs X)) hP q 3 (cw_at hw) rfl hin hd (kk H locs ls hP hD hS hl)
theorem gIast (hC : Cx X l D g rm cc nL own) {q n : Nat} {i : Int32} {x : Int32} {f : Nat → Int32} (hd : decode cc pc = .ok (.iastore, 1)) (hw : w[q]? = some (.inl (g 0, n, .inl f))) (hin : vp_in i n) (kk : Go X nL ad cu su (pc + 1) lv st (w.set q (.inl (g 0, n, .inl (upd f i.toNatClampNeg x))))) : Go X nL ad cu su pc lv (.int x :: .int i :: .ref q :: st) w := fun H locs ls hP hD hS hl =>
  va_iast hC.1 hC.2.1 (by rw [hC.2.2.2.2.2.2.2.2.1]; exact hC.2.2.2.2.2.1.1 : va_K (xD X) vwCl (tysG g) (xs X)) hP hD hS q 0 (cw_at hw) rfl hin hd (fun H1 locs1 hP1 hD1 hS1 => by
    have e := cw_set ad w q (.inl (g 0, n, .inl (upd f i.toNatClampNeg x)))
    exact kk H1 locs1 ls (by rw [e]; exact hP1) (by rw [e]; exact hD1) hS1 hl)
theorem gCast (hC : Cx X l D g rm cc nL own) {q n : Nat} {i : Int32} {x : Int32} {f : Nat → Int32} (hd : decode cc pc = .ok (.castore, 1)) (hw : w[q]? = some (.inl (g 1, n, .inl f))) (hin : vp_in i n) (kk : Go X nL ad cu su (pc + 1) lv st (w.set q (.inl (g 1, n, .inl (upd f i.toNatClampNeg (vp_nar .char x)))))) : Go X nL ad cu su pc lv (.int x :: .int i :: .ref q :: st) w := fun H locs ls hP hD hS hl =>
  va_cast hC.1 hC.2.1 (by rw [hC.2.2.2.2.2.2.2.2.1]; exact hC.2.2.2.2.2.1.1 : va_K (xD X) vwCl (tysG g) (xs X)) hP hD hS q 1 (cw_at hw) rfl hin hd (fun H1 locs1 hP1 hD1 hS1 => by
    have e := cw_set ad w q (.inl (g 1, n, .inl (upd f i.toNatClampNeg (vp_nar .char x))))
    exact kk H1 locs1 ls (by rw [e]; exact hP1) (by rw [e]; exact hD1) hS1 hl)
theorem gBast (hC : Cx X l D g rm cc nL own) {q n : Nat} {i : Int32} {x : Int32} {f : Nat → Int32} (hd : decode cc pc = .ok (.bastore, 1)) (hw : w[q]? = some (.inl (g 2, n, .inl f))) (hin : vp_in i n) (kk : Go X nL ad cu su (pc + 1) lv st (w.set q (.inl (g 2, n, .inl (upd f i.toNatClampNeg (vp_nar .byte x)))))) : Go X nL ad cu su pc lv (.int x :: .int i :: .ref q :: st) w := fun H locs ls hP hD hS hl =>
  va_bast hC.1 hC.2.1 (by rw [hC.2.2.2.2.2.2.2.2.1]; exact hC.2.2.2.2.2.1.1 : va_K (xD X) vwCl (tysG g) (xs X)) hP hD hS q 2 (cw_at hw) rfl hin hd (fun H1 locs1 hP1 hD1 hS1 => by
    have e := cw_set ad w q (.inl (g 2, n, .inl (upd f i.toNatClampNeg (vp_nar .byte x))))
    exact kk H1 locs1 ls (by rw [e]; exact hP1) (by rw [e]; exact hD1) hS1 hl)
theorem gLast (hC : Cx X l D g rm cc nL own) {q n : Nat} {i : Int32} {x : Int64} {f : Nat → Int64} (hd : decode cc pc = .ok (.lastore, 1)) (hw : w[q]? = some (.inl (g 3, n, .inr (.inl f)))) (hin : vp_in i n) (kk : Go X nL ad cu su (pc + 1) lv st (w.set q (.inl (g 3, n, .inr (.inl (vp_updL f i.toNatClampNeg x)))))) : Go X nL ad cu su pc lv (.long x :: .int i :: .ref q :: st) w := fun H locs ls hP hD hS hl =>
  va_last hC.1 hC.2.1 (by rw [hC.2.2.2.2.2.2.2.2.1]; exact hC.2.2.2.2.2.1.1 : va_K (xD X) vwCl (tysG g) (xs X)) hP hD hS q 3 (cw_at hw) rfl hin hd (fun H1 locs1 hP1 hD1 hS1 => by
    have e := cw_set ad w q (.inl (g 3, n, .inr (.inl (vp_updL f i.toNatClampNeg x))))
    exact kk H1 locs1 ls (by rw [e]; exact hP1) (by rw [e]; exact hD1) hS1 hl)
theorem gAlen (hC : Cx X l D g rm cc nL own) {q t : Nat} {ty : FieldType} {a : vp_A} (v : Int32) (hd : decode cc pc = .ok (.arraylength, 1)) (ht : (tysG g)[t]? = some (g t, ty)) (hw : w[q]? = some (.inl (g t, a))) (hv : Int32.ofNat a.1 = v) (kk : Go X nL ad cu su (pc + 1) lv (.int v :: st) w) : Go X nL ad cu su pc lv (.ref q :: st) w := fun H locs ls hP hD hS hl =>
  va_alen hC.1 hC.2.1 (by rw [hC.2.2.2.2.2.2.2.2.1]; exact hC.2.2.2.2.2.1.1 : va_K (xD X) vwCl (tysG g) (xs X)) hP q t (cw_at hw) ht hv hd (kk H locs ls hP hD hS hl)
end GoRows
end
section
/-! CONTRACTS AND CALLS in the light judgement -/
def rn (ks : List Nat) : Value → Value
  | .ref i => .ref (ks.getD i 0)
  | v => v
def rne (ks : List Nat) : va_E → va_E
  | .inl a => .inl a
  | .inr q => .inr (q.1, q.2.map (rn ks))
def adk (ad : Nat → Nat) (ks : List Nat) : Nat → Nat := fun i => ad (ks.getD i 0)
theorem cz_rn (ad : Nat → Nat) (ks : List Nat) (v : Value) : cz ad (rn ks v) = cz (adk ad ks) v := by cases v <;> rfl
theorem ce_rne (ad : Nat → Nat) (ks : List Nat) (e : va_E) : ce ad (rne ks e) = ce (adk ad ks) e := by
  cases e with
  | inl a => rfl
  | inr q =>
    show Sum.inr (q.1, (q.2.map (rn ks)).map (cz ad)) = Sum.inr (q.1, q.2.map (cz (adk ad ks)))
    rw [List.map_map]
    congr 2
    apply List.map_congr_left
    intro v _
    exact cz_rn ad ks v
theorem rn_cat (ks : List Nat) (v : Value) : (rn ks v).category = v.category := by cases v <;> rfl
/-- the callee's cells among the caller's -/
def subW (w : List va_E) (ks : List Nat) (wc : List va_E) : Prop := wc.map (fun e => some (rne ks e)) = (ks.take wc.length).map (fun k => w[k]?)
theorem subW_at {w : List va_E} {ks : List Nat} {wc : List va_E} (h : subW w ks wc) {i : Nat} {e : va_E} (he : wc[i]? = some e) : ∃ k, ks[i]? = some k ∧ w[k]? = some (rne ks e) ∧ ks.getD i 0 = k ∧ k ∈ ks.take wc.length := by
  have hi : i < wc.length := (List.getElem?_eq_some_iff.mp he).1
  have h1 : (wc.map (fun e => some (rne ks e)))[i]? = some (some (rne ks e)) := by rw [List.getElem?_map, he]; rfl
  rw [h, List.getElem?_map, List.getElem?_take, if_pos hi] at h1
  cases hk : ks[i]? with
  | none => rw [hk] at h1; cases h1
  | some k =>
    rw [hk] at h1
    refine ⟨k, rfl, Option.some.inj h1, by rw [List.getD_eq_getElem?_getD, hk]; rfl, ?_⟩
    refine List.mem_of_getElem? (i := i) ?_
    rw [List.getElem?_take, if_pos hi, hk]
theorem subW_of {w : List va_E} {ks : List Nat} {wc : List va_E} (h : subW w ks wc) {k : Nat} (hk : k ∈ ks.take wc.length) : ∃ (i : Nat) (e : va_E), i < wc.length ∧ ks[i]? = some k ∧ wc[i]? = some e ∧ w[k]? = some (rne ks e) := by
  obtain ⟨i, hi⟩ := List.getElem?_of_mem hk
  rw [List.getElem?_take] at hi
  by_cases hl : i < wc.length
  · rw [if_pos hl] at hi
    obtain ⟨k', a1, a2, -, -⟩ := subW_at h (List.getElem?_eq_getElem hl)
    cases hi.symm.trans a1
    exact ⟨i, wc[i], hl, hi, List.getElem?_eq_getElem hl, a2⟩
  · rw [if_neg hl] at hi; cases hi
/-- the callee's cells put back -/
def putR (ks0 : List Nat) : List va_E → List Nat → List va_E → List va_E
  | w, k :: ks, e :: es => putR ks0 (w.set k (rne ks0 e)) ks es
  | w, [], _ => w
  | w, _ :: _, [] => w
theorem putR_len (ks0 : List Nat) : ∀ (ks : List Nat) (es w : List va_E), (putR ks0 w ks es).length = w.length
  | [], es, w => by cases es <;> rfl
  | k :: ks, [], w => rfl
  | k :: ks, e :: es, w => by
    show (putR ks0 (w.set k (rne ks0 e)) ks es).length = w.length
    rw [putR_len ks0 ks es]; simp
theorem putR_out (ks0 : List Nat) : ∀ (ks : List Nat) (es w : List va_E) (j : Nat), j ∉ ks.take es.length → (putR ks0 w ks es)[j]? = w[j]?
  | [], es, w, j, _ => by cases es <;> rfl
  | k :: ks, [], w, j, _ => rfl
  | k :: ks, e :: es, w, j, h => by
    show (putR ks0 (w.set k (rne ks0 e)) ks es)[j]? = w[j]?
    simp only [List.length_cons, List.take_succ_cons, List.mem_cons, not_or] at h
    rw [putR_out ks0 ks es _ j h.2, List.getElem?_set_ne (Ne.symm h.1)]
theorem putR_in (ks0 : List Nat) : ∀ (ks : List Nat) (es w : List va_E) (i j : Nat) (e : va_E), va_nd (ks.take es.length) = true → ks[i]? = some j → es[i]? = some e → j < w.length → (putR ks0 w ks es)[j]? = some (rne ks0 e)
  | [], es, w, i, j, e, _, hk, _, _ => by simp at hk
  | k :: ks, [], w, i, j, e, _, _, he, _ => by simp at he
  | k :: ks, e0 :: es, w, i, j, e, hn, hk, he, hj => by
    show (putR ks0 (w.set k (rne ks0 e0)) ks es)[j]? = some (rne ks0 e)
    simp only [List.length_cons, List.take_succ_cons, va_nd, Bool.and_eq_true, decide_eq_true_eq] at hn
    cases i with
    | zero =>
      simp only [List.getElem?_cons_zero] at hk he
      cases hk; cases he
      rw [putR_out ks0 ks es _ _ hn.1, List.getElem?_set_self hj]
    | succ i =>
      simp only [List.getElem?_cons_succ] at hk he
      exact putR_in ks0 ks es _ i j e hn.2 hk he (by simpa using hj)
theorem putR_self {w : List va_E} {ks : List Nat} {wc : List va_E} (h : subW w ks wc) (hn : va_nd (ks.take wc.length) = true) : putR ks w ks wc = w := by
  apply List.ext_getElem?
  intro j
  by_cases hj : j ∈ ks.take wc.length
  · obtain ⟨i, e, h1, h2, h3, h4⟩ := subW_of h hj
    rw [putR_in ks ks wc w i j e hn h2 h3 (List.getElem?_eq_some_iff.mp h4).1, h4]
  · exact putR_out ks ks wc w j hj
theorem va_D_cw {A : Nat → Prop} {ad : Nat → Nat} {w w' : List va_E} (h : va_D A (cw ad w)) (hl : w'.length = w.length) : va_D A (cw ad w') := by
  have key : ∀ (k : Nat) (q : Nat × va_E), (cw ad w')[k]? = some q → ∃ q0, (cw ad w)[k]? = some q0 ∧ q0.1 = q.1 := by
    intro k q hk
    rw [cw_get] at hk
    cases hw : w'[k]? with
    | none => rw [hw] at hk; cases hk
    | some e =>
      rw [hw] at hk
      have hlt : k < w.length := by rw [← hl]; exact (List.getElem?_eq_some_iff.mp hw).1
      cases hk
      exact ⟨_, cw_at (List.getElem?_eq_getElem hlt), rfl⟩
  refine ⟨fun i j x y hi hj hxy => ?_, fun k q hk => ?_⟩
  · obtain ⟨x0, h1, h2⟩ := key i x hi
    obtain ⟨y0, h3, h4⟩ := key j y hj
    exact h.1 i j x0 y0 h1 h3 (h2.trans (hxy.trans h4.symm))
  · obtain ⟨q0, h1, h2⟩ := key k q hk
    rw [← h2]; exact h.2 k q0 h1
/-- a method's end -/
def QX (D : va_G) (A0 : Nat → Prop) (ad : Nat → Nat) (n0 : Nat) (Qa : Option Value → List va_E → Prop) : Array Value → State → Outcome → State → Prop := fun _ st oc t =>
  (∃ (ov : Option Value) (w' : List va_E), oc = .returned (ov.map (cz ad)) ∧ Qa ov w' ∧ w'.length = n0 ∧ va_P D vwCl (cw ad w') t.heap) ∧ va_F A0 st t
/-- a method's start -/
def PX (D : va_G) (g : Nat → ClassId) (ad : Nat → Nat) (sz : Nat) (av : List Value) (w : List va_E) : Array Value → State → Prop :=
  va_Pc (av.map (cz ad)) (fun U => U.heap.size = sz ∧ va_P D vwCl (cw ad w) U.heap ∧ KK D g U ∧ va_D (fun _ => True) (cw ad w))
/-- THE CONTRACT of a method that makes no cell: arguments av, cells w; answer and cells behind it by Qa -/
def CT (l : Launch) (D : va_G) (g : Nat → ClassId) (y : MethodName) (cc : ByteArray) (maxL : Nat) (ret : Option FieldType) (rm : Room) (av : List Value) (w : List va_E) (Qa : Option Value → List va_E → Prop) : Prop :=
  ∀ (ad : Nat → Nat) (sz : Nat), Met l y (Cond.code y cc maxL ret :: gw) rm (PX D g ad sz av w) (QX D (va_A (cw ad w) sz) ad w.length Qa) 0 0 (va_A (cw ad w) sz)
def Cr (X : MC) (ad : Nat → Nat) (n0 : Nat) (ret : Option FieldType) (Qa : Option Value → List va_E → Prop) : Prop :=
  xQ X = MQ (xb X) (QX (xD X) (xA X) ad n0 Qa) (xa X) (xs X) 0 0 (xA X) ∧ (xh X).sig.returnType = ret ∧ (xh X).locks = false
theorem lv_args_cz (ad : Nat → Nat) : ∀ (av : List Value) (i : Nat), lv_args i (av.map (cz ad)) = clv ad (lv_args i av)
  | [], _ => rfl
  | v :: t, i => by
    show (i, cz ad v) :: lv_args (if (cz ad v).category = 2 then i + 2 else i + 1) (t.map (cz ad)) = (i, cz ad v) :: clv ad (lv_args (if v.category = 2 then i + 2 else i + 1) t)
    rw [cz_cat, lv_args_cz ad t]
theorem lg_sl_cz (ad : Nat → Nat) : ∀ av : List Value, (lg_sl (av.map (cz ad))).length = (lg_sl av).length
  | [] => rfl
  | v :: t => by
    have ih := lg_sl_cz ad t
    unfold lg_sl at ih ⊢
    simp only [List.map_cons, List.flatMap_cons, List.length_append, cz_cat, ih]
    split <;> rfl
theorem CT.of {l : Launch} {D : va_G} {g : Nat → ClassId} {y : MethodName} {cc : ByteArray} {maxL : Nat} {ret : Option FieldType} {rm : Room} {av : List Value} {w : List va_E} {Qa : Option Value → List va_E → Prop} {own : String} (hy : plainName y.cls = true) (ho : y.cls = own) (hsl : (lg_sl av).length ≤ maxL) (lv0 : List (Nat × Value)) (hlv : lv_args 0 av = lv0)
    (body : ∀ (X : MC) (ad : Nat → Nat), Cx X l D g rm cc maxL own → Cr X ad w.length ret Qa → Go X maxL ad 0 0 0 lv0 [] w) : CT l D g y cc maxL ret rm av w Qa := by
  intro ad sz
  refine Met.ofW (cc := cc) (maxL := maxL) (ret := ret) hy rfl ?_
  intro p e s m args below meth c s₁ B hml hv
  obtain ⟨rfl, hsz, hP, hK, hD0⟩ := hv
  subst hsz
  have hD := hD0.self (sz := s.heap.size)
  have hts := atoms_spec (ws := Cond.code y cc maxL ret :: gw) B.pre
  have hl := lv_entry (av.map (cz ad)) (n := maxL) (by rw [lg_sl_cz]; exact hsl)
  rw [lg_entry_eq]
  rw [lv_args_cz, hlv] at hl
  exact body (p, l, e, rm, s, m, (av.map (cz ad)).toArray, below, meth, c, D, va_A (cw ad w) s.heap.size, MQ below (QX D (va_A (cw ad w) s.heap.size) ad w.length Qa) (av.map (cz ad)).toArray s 0 0 (va_A (cw ad w) s.heap.size)) ad
    ⟨B.exec, B.bytes, hml, by rw [← ho]; exact findClass_of_methodNamed B.named, fun x hx => hts x (List.mem_cons_of_mem _ hx), hK, fun q hq => Or.inr hq, rfl, rfl, rfl⟩ ⟨rfl, B.returns, B.notSynchronized⟩ s.heap [] _ hP hD va_S.rf hl
theorem CT.mono {l : Launch} {D : va_G} {g : Nat → ClassId} {y : MethodName} {cc : ByteArray} {maxL : Nat} {ret : Option FieldType} {rm : Room} {av : List Value} {w : List va_E} {Qa Qb : Option Value → List va_E → Prop} (h : CT l D g y cc maxL ret rm av w Qa) (hq : ∀ ov w', Qa ov w' → Qb ov w') : CT l D g y cc maxL ret rm av w Qb := by
  intro ad sz p e ha hc hk s m args below hf happ hpre hx
  obtain ⟨k, o, h1, h2, h3, ⟨⟨ov, w', e1, e2, e3, e4⟩, hF⟩, h5⟩ := h ad sz p e ha hc hk s m args below hf happ hpre hx
  exact ⟨k, o, h1, h2, h3, ⟨⟨ov, w', e1, hq _ _ e2, e3, e4⟩, hF⟩, h5⟩
/-- ends of a contract: nothing changed (p), or the cells by Q (m); the answer an int, a long, none -/
def QpI (wc : List va_E) (Q : Int32 → Prop) : Option Value → List va_E → Prop := fun ov w' => w' = wc ∧ ∃ r : Int32, ov = some (.int r) ∧ Q r
def QpL (wc : List va_E) (Q : Int64 → Prop) : Option Value → List va_E → Prop := fun ov w' => w' = wc ∧ ∃ r : Int64, ov = some (.long r) ∧ Q r
def QmI (Q : Int32 → List va_E → Prop) : Option Value → List va_E → Prop := fun ov w' => ∃ r : Int32, ov = some (.int r) ∧ Q r w'
def QmL (Q : Int64 → List va_E → Prop) : Option Value → List va_E → Prop := fun ov w' => ∃ r : Int64, ov = some (.long r) ∧ Q r w'
def QmV (Q : List va_E → Prop) : Option Value → List va_E → Prop := fun ov w' => ov = none ∧ Q w'
section GoCalls
variable {X : MC} {l : Launch} {D : va_G} {g : Nat → ClassId} {rm : Room} {cc : ByteArray} {nL : Nat} {own : String} {ad : Nat → Nat} {cu su pc n0 : Nat} {lv : List (Nat × Value)} {st : List Value} {w : List va_E} {Qa : Option Value → List va_E → Prop}
theorem gIret (hC : Cx X l D g rm cc nL own) (hr : Cr X ad n0 (some .int) Qa) {v : Int32} (hd : decode cc pc = .ok (.ireturn, 1)) (hn : w.length = n0) (hq : Qa (some (.int v)) w) : Go X nL ad 0 0 pc lv [.int v] w := fun H locs ls hP hD hS hl => by
  rw [hr.1]
  exact W.iret hC.1 hC.2.1 hr.2.1 (fun t ht hW => ⟨⟨some (.int v), w, rfl, hq, hn, by rw [ht]; exact hP⟩, hS.F ht⟩) hS.2.2 hd hr.2.2
theorem gZret (hC : Cx X l D g rm cc nL own) (hr : Cr X ad n0 (some .boolean) Qa) {v : Int32} (hd : decode cc pc = .ok (.ireturn, 1)) (hn : w.length = n0) (hb : narrow .boolean (.int v) = .int v) (hq : Qa (some (.int v)) w) : Go X nL ad 0 0 pc lv [.int v] w := fun H locs ls hP hD hS hl => by
  rw [hr.1]
  exact W.zret hC.1 hC.2.1 hr.2.1 hb (fun t ht hW => ⟨⟨some (.int v), w, rfl, hq, hn, by rw [ht]; exact hP⟩, hS.F ht⟩) hS.2.2 hd hr.2.2
theorem gLret (hC : Cx X l D g rm cc nL own) (hr : Cr X ad n0 (some .long) Qa) {v : Int64} (hd : decode cc pc = .ok (.lreturn, 1)) (hn : w.length = n0) (hq : Qa (some (.long v)) w) : Go X nL ad 0 0 pc lv [.long v] w := fun H locs ls hP hD hS hl => by
  rw [hr.1]
  exact W.lret hC.1 hC.2.1 hr.2.1 (fun t ht hW => ⟨⟨some (.long v), w, rfl, hq, hn, by rw [ht]; exact hP⟩, hS.F ht⟩) hS.2.2 hd hr.2.2
theorem gVret (hC : Cx X l D g rm cc nL own) (hr : Cr X ad n0 none Qa) (hd : decode cc pc = .ok (.return_, 1)) (hn : w.length = n0) (hq : Qa none w) : Go X nL ad 0 0 pc lv [] w := fun H locs ls hP hD hS hl => by
  rw [hr.1]
  exact W.vret hC.1 hC.2.1 hr.2.1 (fun t ht hW => ⟨⟨none, w, rfl, hq, hn, by rw [ht]; exact hP⟩, hS.F ht⟩) hS.2.2 hd hr.2.2
theorem PX.blind {ad : Nat → Nat} {sz : Nat} {av : List Value} {w : List va_E} : FrameBlind (PX D g ad sz av w) := fun a U fr mk q => by
  obtain ⟨h0, h1, h2, h3, h4⟩ := q
  exact ⟨h0, h1, h2, h3.same rfl, h4⟩
/-- the callee's cells in the caller's heap -/
theorem subW_P {H : Heap} {ks : List Nat} {wc : List va_E} (hs : subW w ks wc) (hP : va_P (xD X) vwCl (cw ad w) H) : va_P (xD X) vwCl (cw (adk ad ks) wc) H := by
  intro i q hq
  rw [cw_get] at hq
  cases he : wc[i]? with
  | none => rw [he] at hq; cases hq
  | some e =>
    rw [he] at hq
    cases hq
    obtain ⟨k, h1, h2, h3, -⟩ := subW_at hs he
    have h4 := hP k _ (cw_at h2)
    rw [ce_rne] at h4
    have : adk ad ks i = ad k := by unfold adk; rw [h3]
    rw [this]
    exact h4
theorem subW_D {A A' : Nat → Prop} {ks : List Nat} {wc : List va_E} (hs : subW w ks wc) (hn : va_nd (ks.take wc.length) = true) (hD : va_D A (cw ad w)) (hA : ∀ (i : Nat) (e : va_E), wc[i]? = some e → A' (adk ad ks i)) : va_D A' (cw (adk ad ks) wc) := by
  refine ⟨fun i j x y hi hj hxy => ?_, fun i q hq => ?_⟩
  · rw [cw_get] at hi hj
    cases hei : wc[i]? with
    | none => rw [hei] at hi; cases hi
    | some ei =>
      cases hej : wc[j]? with
      | none => rw [hej] at hj; cases hj
      | some ej =>
        rw [hei] at hi; rw [hej] at hj
        cases hi; cases hj
        obtain ⟨ki, h1, h2, h3, h4⟩ := subW_at hs hei
        obtain ⟨kj, g1, g2, g3, g4⟩ := subW_at hs hej
        have e1 : ad ki = ad kj := by
          have := hxy
          unfold adk at this
          rw [← h3, ← g3]; exact this
        have e2 := hD.1 ki kj _ _ (cw_at h2) (cw_at g2) e1
        subst e2
        exact va_nd_inj _ hn i j ki (by rw [List.getElem?_take, if_pos (List.getElem?_eq_some_iff.mp hei).1]; exact h1) (by rw [List.getElem?_take, if_pos (List.getElem?_eq_some_iff.mp hej).1]; exact g1)
  · rw [cw_get] at hq
    cases he : wc[i]? with
    | none => rw [he] at hq; cases hq
    | some e => rw [he] at hq; cases hq; exact hA i e he
theorem subW_A {ks : List Nat} {wc : List va_E} {A : Nat → Prop} {H0 H : Heap} {locs : List Loc} (hs : subW w ks wc) (hD : va_D A (cw ad w)) (hS : va_S A H0 H locs) (hA : ∀ q, H0.size ≤ q → A q) : ∀ q, va_A (cw (adk ad ks) wc) H.size q → A q := by
  intro q h
  rcases h with ⟨i, e, h⟩ | h
  · rw [cw_get] at h
    cases he : wc[i]? with
    | none => rw [he] at h; cases h
    | some e0 =>
      rw [he] at h
      obtain ⟨k, h1, h2, h3, -⟩ := subW_at hs he
      have h5 := hD.2 k _ (cw_at h2)
      cases h
      unfold adk
      rw [h3]; exact h5
  · exact hA q (Nat.le_trans hS.1 h)
/-- behind a call: the callee's cells are put back, nothing else has changed -/
theorem gTail (hC : Cx X l D g rm cc nL own) {H : Heap} {locs : List Loc} {ls : Array Slot} {ks : List Nat} {wc : List va_E} {Qy : Option Value → List va_E → Prop} {st0 : List Value} {a : Array Value} (hP : va_P (xD X) vwCl (cw ad w) H) (hD : va_D (xA X) (cw ad w)) (hS : va_S (xA X) (xs X).heap H locs) (hl : lv_has ls nL (clv ad lv))
    (hs : subW w ks wc) (hn : va_nd (ks.take wc.length) = true)
    (hrun : va_Run (xp X) (xl X) (xe X) (xR X) (xs X) (xm X) (xa X) (xb X) (xh X) (xc X) H locs cu su 0 0 (F0 (xm X) pc ls st0) (cst ad st) (QX D (va_A (cw (adk ad ks) wc) H.size) (adk ad ks) wc.length Qy a) (va_A (cw (adk ad ks) wc) H.size))
    (kk : ∀ (ov : Option Value) (wc' : List va_E), Qy ov wc' → wc'.length = wc.length → Go X nL ad cu su (pc + 3) lv ((ov.map (rn ks)).toList ++ st) (putR ks w ks wc')) :
    W (xp X) (xl X) (xe X) (xR X) (xs X) (xm X) (xa X) (xb X) (xh X) (xc X) H locs cu su (xQ X) (F0 (xm X) pc ls st0) := by
  intro T hT XX
  obtain ⟨v, st₀, t, T', L, h0, X', hL, e1, e2, ⟨⟨ov, wc', hv, hQ, hlen, hP1⟩, hz, hk⟩, stp⟩ := hrun T hT XX
  cases hv
  rw [h0] at hz hk
  have hfree := subW_A hs hD hS hC.2.2.2.2.2.2.1
  have hDD : xD X = D := hC.2.2.2.2.2.2.2.2.1
  rw [← hDD] at hP1
  have hn' : va_nd (ks.take wc'.length) = true := by rw [hlen]; exact hn
  have hP' : va_P (xD X) vwCl (cw ad (putR ks w ks wc')) t.heap := by
    intro k q hq
    rw [cw_get] at hq
    cases he : (putR ks w ks wc')[k]? with
    | none => rw [he] at hq; cases hq
    | some e =>
      rw [he] at hq
      cases hq
      by_cases hmem : k ∈ ks.take wc.length
      · obtain ⟨i, e0, a1, a2, a3, a4⟩ := subW_of hs hmem
        have hi' : i < wc'.length := by rw [hlen]; exact a1
        have b1 := putR_in ks ks wc' w i k wc'[i] hn' a2 (List.getElem?_eq_getElem hi') (List.getElem?_eq_some_iff.mp a4).1
        rw [b1] at he
        cases he
        have b2 := hP1 i _ (cw_at (List.getElem?_eq_getElem hi'))
        show va_at (xD X) vwCl (ad k, ce ad (rne ks wc'[i])) t.heap
        rw [ce_rne]
        have b3 : adk ad ks i = ad k := by unfold adk; rw [List.getD_eq_getElem?_getD, a2]; rfl
        rw [b3] at b2
        exact b2
      · rw [putR_out ks ks wc' w k (by rw [hlen]; exact hmem)] at he
        have b0 := hP k _ (cw_at he)
        have hlt : ad k < H.size := b0.lt
        refine b0.kept (hk _ hlt (fun hA => ?_))
        rcases hA with ⟨i, ee, hh⟩ | hh
        · rw [cw_get] at hh
          cases hwi : wc[i]? with
          | none => rw [hwi] at hh; cases hh
          | some e0 =>
            rw [hwi] at hh
            obtain ⟨k2, c1, c2, c3, c4⟩ := subW_at hs hwi
            have c5 : ad k2 = ad k := by
              have := congrArg Prod.fst (Option.some.inj hh)
              unfold adk at this
              rw [← c3]; exact this
            have c6 := hD.1 k2 k _ _ (cw_at c2) (cw_at he) c5
            subst c6
            exact hmem c4
        · exact absurd hlt (Nat.not_lt.mpr hh)
  have hS' : va_S (xA X) (xs X).heap t.heap (locs ++ L) := ⟨Nat.le_trans hS.1 hz, fun q h1 h2 => by rw [hk q (Nat.lt_of_lt_of_le h1 hS.1) (fun z => h2 (hfree q z))]; exact hS.2.1 q h1 h2, fun q hq => by
      rcases List.mem_append.mp hq with h | h
      · exact hS.2.2 q h
      · exact hfree _ (hL q h)⟩
  obtain ⟨t2, a1, b1⟩ := kk ov wc' hQ hlen t.heap (locs ++ L) ls hP' (va_D_cw hD (putR_len ks ks wc' w)) hS' hl T' e1 X'
  refine ⟨t2, stp t2 ?_, b1⟩
  have es : (ov.map (cz (adk ad ks))).toList ++ cst ad st = cst ad ((ov.map (rn ks)).toList ++ st) := by
    cases ov with
    | none => rfl
    | some v => show cz (adk ad ks) v :: cst ad st = cz ad (rn ks v) :: cst ad st; rw [cz_rn]
  show Steps _ _ _ (T'.setTop { method := xm X, pc := pc + 3, locals := ls, stack := (ov.map (cz (adk ad ks))).toList ++ cst ad st, locked := none }) t2
  rw [es]
  exact a1
/-- a method that may be called on an object of its class -/
def MVok (y : MethodName) (ccy : ByteArray) (mLy : Nat) (rety : Option FieldType) (n : Nat) : Prop := Cond.instanceMethod y ∈ gw ∧ Cond.selects y.cls y y ∈ gw ∧ Cond.initialized y.cls ∈ gw ∧ Cond.code y ccy mLy rety ∈ gw ∧ (y.cls ≠ "java/lang/invoke/MethodHandle" ∧ y.cls ≠ "java/lang/invoke/VarHandle") ∧ (parseMethodDescriptor y.desc).map (fun d => d.parameters.length) = some n
def MSok (y : MethodName) (ccy : ByteArray) (mLy : Nat) (rety : Option FieldType) (n : Nat) : Prop := Cond.static y ∈ gw ∧ Cond.initialized y.cls ∈ gw ∧ Cond.code y ccy mLy rety ∈ gw ∧ (y.cls ≠ "java/lang/invoke/MethodHandle" ∧ y.cls ≠ "java/lang/invoke/VarHandle") ∧ (parseMethodDescriptor y.desc).map (fun d => d.parameters.length) = some n
def RMok (rmy : Room) (mLy : Nat) (rm : Room) : Prop := rmy.cells = 0 ∧ rmy.slots = 0 ∧ rmy.frames + 1 ≤ rm.frames ∧ 8 + (mLy + 11) + rmy.locals ≤ rm.locals
theorem cat_cst (ad : Nat → Nat) (st : List Value) : ((cst ad st).map fun v => v.category) = st.map fun v => v.category := by
  unfold cst
  rw [List.map_map]
  apply List.map_congr_left
  intro v _
  exact cz_cat ad v
theorem gCallV (hC : Cx X l D g rm cc nL own) {y : MethodName} {ccy : ByteArray} {mLy n ix ci : Nat} {rety : Option FieldType} {rmy : Room} {av : List Value} {wc : List va_E} {Qy : Option Value → List va_E → Prop} {fs : List Value} {T : u_T} {N : Nat} (ks : List Nat) {st0 : List Value} (hcu : cu ≤ rm.cells ∧ su ≤ rm.slots)
    (hd : decode cc pc = .ok (.invokevirtual ix, 3)) (hlk : Cond.methodLink own ix y ∈ gw) (hy : MVok y ccy mLy rety n) (hrm : RMok rmy mLy rm) (hn : av.length = n) (hst : st0 = (av.map (rn ks)).reverse ++ .ref (ks.getD 0 0) :: st) (hcat : (st.map fun v => v.category).sum ≤ 8) (hs : subW w ks wc) (hnd : va_nd (ks.take wc.length) = true) (hrc : wc[0]? = some (.inr (ci, fs))) (hcl : vwCl[ci]? = some (y.cls, T, N))
    (hM : CT l D g y ccy mLy rety rmy (.ref 0 :: av) wc Qy) (kk : ∀ (ov : Option Value) (wc' : List va_E), Qy ov wc' → wc'.length = wc.length → Go X nL ad cu su (pc + 3) lv ((ov.map (rn ks)).toList ++ st) (putR ks w ks wc')) : Go X nL ad cu su pc lv st0 w := fun H locs ls hP hD hS hl => by
  obtain ⟨m1, m2, m3, m4, m5, m6⟩ := hy
  obtain ⟨r1, r2, r3, r4⟩ := hrm
  have hts := hC.2.2.2.2.1
  have hl' : xl X = l := hC.2.2.2.2.2.2.2.1
  have hDD : xD X = D := hC.2.2.2.2.2.2.2.2.1
  have hRR : xR X = rm := hC.2.2.2.2.2.2.2.2.2
  have hPc := subW_P (X := X) hs hP
  have hDc := subW_D hs hnd hD (A' := fun _ => True) (fun _ _ _ => trivial)
  have hM1 := hM (adk ad ks) H.size
  rw [← hl'] at hM1
  have hsz : ls.size = nL := hl.1
  refine gTail hC (a := (Value.ref (adk ad ks 0) :: av.map (cz (adk ad ks))).toArray) hP hD hS hl hs hnd ?_ kk
  have cw1 : CallW (xR X) (xs X) (xa X) own y.cls ix y ccy mLy rety (Cond.code y ccy mLy rety :: gw) rmy 0 0 n := by
    refine ⟨callB_of n hts (gw_in m4) rfl r1 r2 (hts _ m3) (hts _ hlk) ⟨m5.1, m5.2, m6⟩ (by rw [hRR]; exact ⟨r3, r4⟩), hts _ m1, hts _ m2⟩
  have hKs : KK (xD X) g (xs X) := by rw [hDD]; exact hC.2.2.2.2.2.1
  have hk0 : ∃ k0, ks.getD 0 0 = k0 ∧ adk ad ks 0 = ad k0 := ⟨_, rfl, rfl⟩
  have := va_runV (l := xl X) (e := xe X) (R := xR X) (below := xb X) (meth := xh X) (H := H) (locs := locs) (cells := cu) (slots := su) (C := y.cls) (b := adk ad ks 0) (As := av.map (cz (adk ad ks))) (rest := cst ad st) (g := F0 (xm X) pc ls (cst ad st0)) (nL := nL) (Ts := gw) ⟨hC.1, hC.2.1, hC.2.2.1, hC.2.2.2.1, hts⟩ hM1 cw1
    ⟨PX.blind, va_recv hKs.1 hPc hcl (cw_at hrc), fun U hU hW => ⟨rfl, by rw [hU], by rw [hU, ← hDD]; exact hPc, by rw [← hDD]; exact hKs.warm hW, hDc⟩⟩ rfl (by rw [List.length_map]; exact hn) hsz ?_ (lv_room (by rw [cat_cst]; exact hcat)) hd (by rw [hRR]; exact hcu)
  · exact this
  · show cst ad st0 = _
    rw [hst]
    unfold cst
    rw [List.map_append, List.map_reverse, List.map_map, List.map_cons]
    congr 2
    apply List.map_congr_left
    intro v _
    exact cz_rn ad ks v
theorem gCallS (hC : Cx X l D g rm cc nL own) {y : MethodName} {ccy : ByteArray} {mLy n ix : Nat} {rety : Option FieldType} {rmy : Room} {av : List Value} {wc : List va_E} {Qy : Option Value → List va_E → Prop} (ks : List Nat) {st0 : List Value} (hcu : cu ≤ rm.cells ∧ su ≤ rm.slots)
    (hd : decode cc pc = .ok (.invokestatic ix, 3)) (hlk : Cond.methodLink own ix y ∈ gw) (hy : MSok y ccy mLy rety n) (hrm : RMok rmy mLy rm) (hn : av.length = n) (hst : st0 = (av.map (rn ks)).reverse ++ st) (hcat : (st.map fun v => v.category).sum ≤ 8) (hs : subW w ks wc) (hnd : va_nd (ks.take wc.length) = true)
    (hM : CT l D g y ccy mLy rety rmy av wc Qy) (kk : ∀ (ov : Option Value) (wc' : List va_E), Qy ov wc' → wc'.length = wc.length → Go X nL ad cu su (pc + 3) lv ((ov.map (rn ks)).toList ++ st) (putR ks w ks wc')) : Go X nL ad cu su pc lv st0 w := fun H locs ls hP hD hS hl => by
  obtain ⟨m2, m3, m4, m5, m6⟩ := hy
  obtain ⟨r1, r2, r3, r4⟩ := hrm
  have hts := hC.2.2.2.2.1
  have hl' : xl X = l := hC.2.2.2.2.2.2.2.1
  have hDD : xD X = D := hC.2.2.2.2.2.2.2.2.1
  have hRR : xR X = rm := hC.2.2.2.2.2.2.2.2.2
  have hPc := subW_P (X := X) hs hP
  have hDc := subW_D hs hnd hD (A' := fun _ => True) (fun _ _ _ => trivial)
  have hM1 := hM (adk ad ks) H.size
  rw [← hl'] at hM1
  have hsz : ls.size = nL := hl.1
  refine gTail hC (a := (av.map (cz (adk ad ks))).toArray) hP hD hS hl hs hnd ?_ kk
  have cw1 : CallB (xR X) (xs X) (xa X) own ix y ccy mLy rety (Cond.code y ccy mLy rety :: gw) rmy 0 0 n ∧ (Cond.static y).before (xa X) (xs X) = true := by
    refine ⟨callB_of n hts (gw_in m4) rfl r1 r2 (hts _ m3) (hts _ hlk) ⟨m5.1, m5.2, m6⟩ (by rw [hRR]; exact ⟨r3, r4⟩), hts _ m2⟩
  have hKs : KK (xD X) g (xs X) := by rw [hDD]; exact hC.2.2.2.2.2.1
  have := va_runS (l := xl X) (e := xe X) (R := xR X) (below := xb X) (meth := xh X) (H := H) (locs := locs) (cells := cu) (slots := su) (As := av.map (cz (adk ad ks))) (rest := cst ad st) (g := F0 (xm X) pc ls (cst ad st0)) (nL := nL) (Ts := gw) ⟨hC.1, hC.2.1, hC.2.2.1, hC.2.2.2.1, hts⟩ hM1 cw1
    ⟨PX.blind, fun U hU hW => ⟨rfl, by rw [hU], by rw [hU, ← hDD]; exact hPc, by rw [← hDD]; exact hKs.warm hW, hDc⟩⟩ rfl (by rw [List.length_map]; exact hn) hsz ?_ (lv_room (by rw [cat_cst]; exact hcat)) hd (by rw [hRR]; exact hcu)
  · exact this
  · show cst ad st0 = _
    rw [hst]
    unfold cst
    rw [List.map_append, List.map_reverse, List.map_map]
    congr 2
    apply List.map_congr_left
    intro v _
    exact cz_rn ad ks v
theorem gCallVpI (hC : Cx X l D g rm cc nL own) {y : MethodName} {ccy : ByteArray} {mLy n ix ci : Nat} {rety : Option FieldType} {rmy : Room} {av : List Value} {wc : List va_E} {Q : Int32 → Prop} {st0 : List Value} {fs : List Value} {T : u_T} {N : Nat} (hM : CT l D g y ccy mLy rety rmy (.ref 0 :: av) wc (QpI wc Q)) (ks : List Nat) (hcu : cu ≤ rm.cells ∧ su ≤ rm.slots)
    (hd : decode cc pc = .ok (.invokevirtual ix, 3)) (hlk : Cond.methodLink own ix y ∈ gw) (hy : MVok y ccy mLy rety n) (hrm : RMok rmy mLy rm) (hn : av.length = n) (hst : st0 = (av.map (rn ks)).reverse ++ .ref (ks.getD 0 0) :: st) (hcat : (st.map fun v => v.category).sum ≤ 8) (hs : subW w ks wc) (hnd : va_nd (ks.take wc.length) = true) (hrc : wc[0]? = some (.inr (ci, fs))) (hcl : vwCl[ci]? = some (y.cls, T, N))
    (kk : ∀ r : Int32, Q r → Go X nL ad cu su (pc + 3) lv (.int r :: st) w) : Go X nL ad cu su pc lv st0 w :=
  gCallV hC ks hcu hd hlk hy hrm hn hst hcat hs hnd hrc hcl hM (fun ov wc2 hq hlen => by
    obtain ⟨rfl, r, rfl, hQ⟩ := hq
    rw [putR_self hs hnd]
    exact kk r hQ)
theorem gCallVpL (hC : Cx X l D g rm cc nL own) {y : MethodName} {ccy : ByteArray} {mLy n ix ci : Nat} {rety : Option FieldType} {rmy : Room} {av : List Value} {wc : List va_E} {Q : Int64 → Prop} {st0 : List Value} {fs : List Value} {T : u_T} {N : Nat} (hM : CT l D g y ccy mLy rety rmy (.ref 0 :: av) wc (QpL wc Q)) (ks : List Nat) (hcu : cu ≤ rm.cells ∧ su ≤ rm.slots)
    (hd : decode cc pc = .ok (.invokevirtual ix, 3)) (hlk : Cond.methodLink own ix y ∈ gw) (hy : MVok y ccy mLy rety n) (hrm : RMok rmy mLy rm) (hn : av.length = n) (hst : st0 = (av.map (rn ks)).reverse ++ .ref (ks.getD 0 0) :: st) (hcat : (st.map fun v => v.category).sum ≤ 8) (hs : subW w ks wc) (hnd : va_nd (ks.take wc.length) = true) (hrc : wc[0]? = some (.inr (ci, fs))) (hcl : vwCl[ci]? = some (y.cls, T, N))
    (kk : ∀ r : Int64, Q r → Go X nL ad cu su (pc + 3) lv (.long r :: st) w) : Go X nL ad cu su pc lv st0 w :=
  gCallV hC ks hcu hd hlk hy hrm hn hst hcat hs hnd hrc hcl hM (fun ov wc2 hq hlen => by
    obtain ⟨rfl, r, rfl, hQ⟩ := hq
    rw [putR_self hs hnd]
    exact kk r hQ)
theorem gCallVmI (hC : Cx X l D g rm cc nL own) {y : MethodName} {ccy : ByteArray} {mLy n ix ci : Nat} {rety : Option FieldType} {rmy : Room} {av : List Value} {wc : List va_E} {Q : Int32 → List va_E → Prop} {st0 : List Value} {fs : List Value} {T : u_T} {N : Nat} (hM : CT l D g y ccy mLy rety rmy (.ref 0 :: av) wc (QmI Q)) (ks : List Nat) (hcu : cu ≤ rm.cells ∧ su ≤ rm.slots)
    (hd : decode cc pc = .ok (.invokevirtual ix, 3)) (hlk : Cond.methodLink own ix y ∈ gw) (hy : MVok y ccy mLy rety n) (hrm : RMok rmy mLy rm) (hn : av.length = n) (hst : st0 = (av.map (rn ks)).reverse ++ .ref (ks.getD 0 0) :: st) (hcat : (st.map fun v => v.category).sum ≤ 8) (hs : subW w ks wc) (hnd : va_nd (ks.take wc.length) = true) (hrc : wc[0]? = some (.inr (ci, fs))) (hcl : vwCl[ci]? = some (y.cls, T, N))
    (kk : ∀ (r : Int32) (wc2 : List va_E), Q r wc2 → wc2.length = wc.length → Go X nL ad cu su (pc + 3) lv (.int r :: st) (putR ks w ks wc2)) : Go X nL ad cu su pc lv st0 w :=
  gCallV hC ks hcu hd hlk hy hrm hn hst hcat hs hnd hrc hcl hM (fun ov wc2 hq hlen => by
    obtain ⟨r, rfl, hQ⟩ := hq
    exact kk r wc2 hQ hlen)
theorem gCallVmL (hC : Cx X l D g rm cc nL own) {y : MethodName} {ccy : ByteArray} {mLy n ix ci : Nat} {rety : Option FieldType} {rmy : Room} {av : List Value} {wc : List va_E} {Q : Int64 → List va_E → Prop} {st0 : List Value} {fs : List Value} {T : u_T} {N : Nat} (hM : CT l D g y ccy mLy rety rmy (.ref 0 :: av) wc (QmL Q)) (ks : List Nat) (hcu : cu ≤ rm.cells ∧ su ≤ rm.slots)
    (hd : decode cc pc = .ok (.invokevirtual ix, 3)) (hlk : Cond.methodLink own ix y ∈ gw) (hy : MVok y ccy mLy rety n) (hrm : RMok rmy mLy rm) (hn : av.length = n) (hst : st0 = (av.map (rn ks)).reverse ++ .ref (ks.getD 0 0) :: st) (hcat : (st.map fun v => v.category).sum ≤ 8) (hs : subW w ks wc) (hnd : va_nd (ks.take wc.length) = true) (hrc : wc[0]? = some (.inr (ci, fs))) (hcl : vwCl[ci]? = some (y.cls, T, N))
    (kk : ∀ (r : Int64) (wc2 : List va_E), Q r wc2 → wc2.length = wc.length → Go X nL ad cu su (pc + 3) lv (.long r :: st) (putR ks w ks wc2)) : Go X nL ad cu su pc lv st0 w :=
  gCallV hC ks hcu hd hlk hy hrm hn hst hcat hs hnd hrc hcl hM (fun ov wc2 hq hlen => by
    obtain ⟨r, rfl, hQ⟩ := hq
    exact kk r wc2 hQ hlen)
theorem gCallVmV (hC : Cx X l D g rm cc nL own) {y : MethodName} {ccy : ByteArray} {mLy n ix ci : Nat} {rety : Option FieldType} {rmy : Room} {av : List Value} {wc : List va_E} {Q : List va_E → Prop} {st0 : List Value} {fs : List Value} {T : u_T} {N : Nat} (hM : CT l D g y ccy mLy rety rmy (.ref 0 :: av) wc (QmV Q)) (ks : List Nat) (hcu : cu ≤ rm.cells ∧ su ≤ rm.slots)
    (hd : decode cc pc = .ok (.invokevirtual ix, 3)) (hlk : Cond.methodLink own ix y ∈ gw) (hy : MVok y ccy mLy rety n) (hrm : RMok rmy mLy rm) (hn : av.length = n) (hst : st0 = (av.map (rn ks)).reverse ++ .ref (ks.getD 0 0) :: st) (hcat : (st.map fun v => v.category).sum ≤ 8) (hs : subW w ks wc) (hnd : va_nd (ks.take wc.length) = true) (hrc : wc[0]? = some (.inr (ci, fs))) (hcl : vwCl[ci]? = some (y.cls, T, N))
    (kk : ∀ (wc2 : List va_E), Q wc2 → wc2.length = wc.length → Go X nL ad cu su (pc + 3) lv st (putR ks w ks wc2)) : Go X nL ad cu su pc lv st0 w :=
  gCallV hC ks hcu hd hlk hy hrm hn hst hcat hs hnd hrc hcl hM (fun ov wc2 hq hlen => by
    obtain ⟨rfl, hQ⟩ := hq
    exact kk wc2 hQ hlen)
theorem gCallSpI (hC : Cx X l D g rm cc nL own) {y : MethodName} {ccy : ByteArray} {mLy n ix : Nat} {rety : Option FieldType} {rmy : Room} {av : List Value} {wc : List va_E} {Q : Int32 → Prop} {st0 : List Value} (hM : CT l D g y ccy mLy rety rmy av wc (QpI wc Q)) (ks : List Nat) (hcu : cu ≤ rm.cells ∧ su ≤ rm.slots)
    (hd : decode cc pc = .ok (.invokestatic ix, 3)) (hlk : Cond.methodLink own ix y ∈ gw) (hy : MSok y ccy mLy rety n) (hrm : RMok rmy mLy rm) (hn : av.length = n) (hst : st0 = (av.map (rn ks)).reverse ++ st) (hcat : (st.map fun v => v.category).sum ≤ 8) (hs : subW w ks wc) (hnd : va_nd (ks.take wc.length) = true)
    (kk : ∀ r : Int32, Q r → Go X nL ad cu su (pc + 3) lv (.int r :: st) w) : Go X nL ad cu su pc lv st0 w :=
  gCallS hC ks hcu hd hlk hy hrm hn hst hcat hs hnd hM (fun ov wc2 hq hlen => by
    obtain ⟨rfl, r, rfl, hQ⟩ := hq
    rw [putR_self hs hnd]
    exact kk r hQ)
theorem gCallSpL (hC : Cx X l D g rm cc nL own) {y : MethodName} {ccy : ByteArray} {mLy n ix : Nat} {rety : Option FieldType} {rmy : Room} {av : List Value} {wc : List va_E} {Q : Int64 → Prop} {st0 : List Value} (hM : CT l D g y ccy mLy rety rmy av wc (QpL wc Q)) (ks : List Nat) (hcu : cu ≤ rm.cells ∧ su ≤ rm.slots)
    (hd : decode cc pc = .ok (.invokestatic ix, 3)) (hlk : Cond.methodLink own ix y ∈ gw) (hy : MSok y ccy mLy rety n) (hrm : RMok rmy mLy rm) (hn : av.length = n) (hst : st0 = (av.map (rn ks)).reverse ++ st) (hcat : (st.map fun v => v.category).sum ≤ 8) (hs : subW w ks wc) (hnd : va_nd (ks.take wc.length) = true)
    (kk : ∀ r : Int64, Q r → Go X nL ad cu su (pc + 3) lv (.long r :: st) w) : Go X nL ad cu su pc lv st0 w :=
  gCallS hC ks hcu hd hlk hy hrm hn hst hcat hs hnd hM (fun ov wc2 hq hlen => by
    obtain ⟨rfl, r, rfl, hQ⟩ := hq
    rw [putR_self hs hnd]
    exact kk r hQ)
theorem gCallSmI (hC : Cx X l D g rm cc nL own) {y : MethodName} {ccy : ByteArray} {mLy n ix : Nat} {rety : Option FieldType} {rmy : Room} {av : List Value} {wc : List va_E} {Q : Int32 → List va_E → Prop} {st0 : List Value} (hM : CT l D g y ccy mLy rety rmy av wc (QmI Q)) (ks : List Nat) (hcu : cu ≤ rm.cells ∧ su ≤ rm.slots)
    (hd : decode cc pc = .ok (.invokestatic ix, 3)) (hlk : Cond.methodLink own ix y ∈ gw) (hy : MSok y ccy mLy rety n) (hrm : RMok rmy mLy rm) (hn : av.length = n) (hst : st0 = (av.map (rn ks)).reverse ++ st) (hcat : (st.map fun v => v.category).sum ≤ 8) (hs : subW w ks wc) (hnd : va_nd (ks.take wc.length) = true)
    (kk : ∀ (r : Int32) (wc2 : List va_E), Q r wc2 → wc2.length = wc.length → Go X nL ad cu su (pc + 3) lv (.int r :: st) (putR ks w ks wc2)) : Go X nL ad cu su pc lv st0 w :=
  gCallS hC ks hcu hd hlk hy hrm hn hst hcat hs hnd hM (fun ov wc2 hq hlen => by
    obtain ⟨r, rfl, hQ⟩ := hq
    exact kk r wc2 hQ hlen)
theorem gCallSmL (hC : Cx X l D g rm cc nL own) {y : MethodName} {ccy : ByteArray} {mLy n ix : Nat} {rety : Option FieldType} {rmy : Room} {av : List Value} {wc : List va_E} {Q : Int64 → List va_E → Prop} {st0 : List Value} (hM : CT l D g y ccy mLy rety rmy av wc (QmL Q)) (ks : List Nat) (hcu : cu ≤ rm.cells ∧ su ≤ rm.slots)
    (hd : decode cc pc = .ok (.invokestatic ix, 3)) (hlk : Cond.methodLink own ix y ∈ gw) (hy : MSok y ccy mLy rety n) (hrm : RMok rmy mLy rm) (hn : av.length = n) (hst : st0 = (av.map (rn ks)).reverse ++ st) (hcat : (st.map fun v => v.category).sum ≤ 8) (hs : subW w ks wc) (hnd : va_nd (ks.take wc.length) = true)
    (kk : ∀ (r : Int64) (wc2 : List va_E), Q r wc2 → wc2.length = wc.length → Go X nL ad cu su (pc + 3) lv (.long r :: st) (putR ks w ks wc2)) : Go X nL ad cu su pc lv st0 w :=
  gCallS hC ks hcu hd hlk hy hrm hn hst hcat hs hnd hM (fun ov wc2 hq hlen => by
    obtain ⟨r, rfl, hQ⟩ := hq
    exact kk r wc2 hQ hlen)
theorem gCallSmV (hC : Cx X l D g rm cc nL own) {y : MethodName} {ccy : ByteArray} {mLy n ix : Nat} {rety : Option FieldType} {rmy : Room} {av : List Value} {wc : List va_E} {Q : List va_E → Prop} {st0 : List Value} (hM : CT l D g y ccy mLy rety rmy av wc (QmV Q)) (ks : List Nat) (hcu : cu ≤ rm.cells ∧ su ≤ rm.slots)
    (hd : decode cc pc = .ok (.invokestatic ix, 3)) (hlk : Cond.methodLink own ix y ∈ gw) (hy : MSok y ccy mLy rety n) (hrm : RMok rmy mLy rm) (hn : av.length = n) (hst : st0 = (av.map (rn ks)).reverse ++ st) (hcat : (st.map fun v => v.category).sum ≤ 8) (hs : subW w ks wc) (hnd : va_nd (ks.take wc.length) = true)
    (kk : ∀ (wc2 : List va_E), Q wc2 → wc2.length = wc.length → Go X nL ad cu su (pc + 3) lv st (putR ks w ks wc2)) : Go X nL ad cu su pc lv st0 w :=
  gCallS hC ks hcu hd hlk hy hrm hn hst hcat hs hnd hM (fun ov wc2 hq hlen => by
    obtain ⟨rfl, hQ⟩ := hq
    exact kk wc2 hQ hlen)
end GoCalls
end
section
/-! the words by their places in the tables -/
set_option maxRecDepth 100000 in
theorem inG_X0 : ∀ x ∈ u_ws RX0 TX0 3, x ∈ gw := (show ∀ x ∈ [u_lay RX0 TX0 0, u_lay RX0 TX0 1, u_lay RX0 TX0 2], x ∈ gw from List.forall_mem_cons.mpr ⟨gw_at 146 rfl rfl, List.forall_mem_cons.mpr ⟨gw_at 148 rfl rfl, List.forall_mem_cons.mpr ⟨gw_at 150 rfl rfl, fun _ h => absurd h List.not_mem_nil⟩⟩⟩)
set_option maxRecDepth 100000 in
theorem inG_X1 : ∀ x ∈ u_ws RX1 TX1 2, x ∈ gw := (show ∀ x ∈ [u_lay RX1 TX1 0, u_lay RX1 TX1 1], x ∈ gw from List.forall_mem_cons.mpr ⟨gw_at 132 rfl rfl, List.forall_mem_cons.mpr ⟨gw_at 134 rfl rfl, fun _ h => absurd h List.not_mem_nil⟩⟩)
set_option maxRecDepth 100000 in
theorem inG_X2 : ∀ x ∈ u_ws RX2 TX2 7, x ∈ gw := (show ∀ x ∈ [u_lay RX2 TX2 0, u_lay RX2 TX2 1, u_lay RX2 TX2 2, u_lay RX2 TX2 3, u_lay RX2 TX2 4, u_lay RX2 TX2 5, u_lay RX2 TX2 6], x ∈ gw from List.forall_mem_cons.mpr ⟨gw_at 175 rfl rfl, List.forall_mem_cons.mpr ⟨gw_at 177 rfl rfl, List.forall_mem_cons.mpr ⟨gw_at 179 rfl rfl, List.forall_mem_cons.mpr ⟨gw_at 181 rfl rfl, List.forall_mem_cons.mpr ⟨gw_at 183 rfl rfl, List.forall_mem_cons.mpr ⟨gw_at 185 rfl rfl, List.forall_mem_cons.mpr ⟨gw_at 187 rfl rfl, fun _ h => absurd h List.not_mem_nil⟩⟩⟩⟩⟩⟩⟩)
set_option maxRecDepth 100000 in
theorem inG_X3 : ∀ x ∈ u_ws RX3 TX3 1, x ∈ gw := (show ∀ x ∈ [u_lay RX3 TX3 0], x ∈ gw from List.forall_mem_cons.mpr ⟨gw_at 100 rfl rfl, fun _ h => absurd h List.not_mem_nil⟩)
set_option maxRecDepth 100000 in
theorem inG_X4 : ∀ x ∈ u_ws RX4 TX4 3, x ∈ gw := (show ∀ x ∈ [u_lay RX4 TX4 0, u_lay RX4 TX4 1, u_lay RX4 TX4 2], x ∈ gw from List.forall_mem_cons.mpr ⟨gw_at 116 rfl rfl, List.forall_mem_cons.mpr ⟨gw_at 118 rfl rfl, List.forall_mem_cons.mpr ⟨gw_at 120 rfl rfl, fun _ h => absurd h List.not_mem_nil⟩⟩⟩)
set_option maxRecDepth 100000 in
theorem inG_X5 : ∀ x ∈ u_ws RX5 TX5 4, x ∈ gw := (show ∀ x ∈ [u_lay RX5 TX5 0, u_lay RX5 TX5 1, u_lay RX5 TX5 2, u_lay RX5 TX5 3], x ∈ gw from List.forall_mem_cons.mpr ⟨gw_at 81 rfl rfl, List.forall_mem_cons.mpr ⟨gw_at 83 rfl rfl, List.forall_mem_cons.mpr ⟨gw_at 85 rfl rfl, List.forall_mem_cons.mpr ⟨gw_at 87 rfl rfl, fun _ h => absurd h List.not_mem_nil⟩⟩⟩⟩)
set_option maxRecDepth 100000 in
theorem inG_X6 : ∀ x ∈ u_ws RX6 TX6 9, x ∈ gw := (show ∀ x ∈ [u_lay RX6 TX6 0, u_lay RX6 TX6 1, u_lay RX6 TX6 2, u_lay RX6 TX6 3, u_lay RX6 TX6 4, u_lay RX6 TX6 5, u_lay RX6 TX6 6, u_lay RX6 TX6 7, u_lay RX6 TX6 8], x ∈ gw from List.forall_mem_cons.mpr ⟨gw_at 308 rfl rfl, List.forall_mem_cons.mpr ⟨gw_at 310 rfl rfl, List.forall_mem_cons.mpr ⟨gw_at 312 rfl rfl, List.forall_mem_cons.mpr ⟨gw_at 314 rfl rfl, List.forall_mem_cons.mpr ⟨gw_at 316 rfl rfl, List.forall_mem_cons.mpr ⟨gw_at 318 rfl rfl, List.forall_mem_cons.mpr ⟨gw_at 320 rfl rfl, List.forall_mem_cons.mpr ⟨gw_at 322 rfl rfl, List.forall_mem_cons.mpr ⟨gw_at 324 rfl rfl, fun _ h => absurd h List.not_mem_nil⟩⟩⟩⟩⟩⟩⟩⟩⟩)
set_option maxRecDepth 100000 in
theorem inG_X7 : ∀ x ∈ u_ws RX7 TX7 20, x ∈ gw := (show ∀ x ∈ [u_lay RX7 TX7 0, u_lay RX7 TX7 1, u_lay RX7 TX7 2, u_lay RX7 TX7 3, u_lay RX7 TX7 4, u_lay RX7 TX7 5, u_lay RX7 TX7 6, u_lay RX7 TX7 7, u_lay RX7 TX7 8, u_lay RX7 TX7 9, u_lay RX7 TX7 10, u_lay RX7 TX7 11, u_lay RX7 TX7 12, u_lay RX7 TX7 13, u_lay RX7 TX7 14, u_lay RX7 TX7 15, u_lay RX7 TX7 16, u_lay RX7 TX7 17, u_lay RX7 TX7 18, u_lay RX7 TX7 19], x ∈ gw from List.forall_mem_cons.mpr ⟨gw_at 753 rfl rfl, List.forall_mem_cons.mpr ⟨gw_at 755 rfl rfl, List.forall_mem_cons.mpr ⟨gw_at 757 rfl rfl, List.forall_mem_cons.mpr ⟨gw_at 759 rfl rfl, List.forall_mem_cons.mpr ⟨gw_at 761 rfl rfl, List.forall_mem_cons.mpr ⟨gw_at 763 rfl rfl, List.forall_mem_cons.mpr ⟨gw_at 765 rfl rfl, List.forall_mem_cons.mpr ⟨gw_at 767 rfl rfl, List.forall_mem_cons.mpr ⟨gw_at 769 rfl rfl, List.forall_mem_cons.mpr ⟨gw_at 771 rfl rfl, List.forall_mem_cons.mpr ⟨gw_at 773 rfl rfl, List.forall_mem_cons.mpr ⟨gw_at 775 rfl rfl, List.forall_mem_cons.mpr ⟨gw_at 777 rfl rfl, List.forall_mem_cons.mpr ⟨gw_at 779 rfl rfl, List.forall_mem_cons.mpr ⟨gw_at 781 rfl rfl, List.forall_mem_cons.mpr ⟨gw_at 783 rfl rfl, List.forall_mem_cons.mpr ⟨gw_at 785 rfl rfl, List.forall_mem_cons.mpr ⟨gw_at 787 rfl rfl, List.forall_mem_cons.mpr ⟨gw_at 789 rfl rfl, List.forall_mem_cons.mpr ⟨gw_at 791 rfl rfl, fun _ h => absurd h List.not_mem_nil⟩⟩⟩⟩⟩⟩⟩⟩⟩⟩⟩⟩⟩⟩⟩⟩⟩⟩⟩⟩)
set_option maxRecDepth 100000 in
theorem ml_X6_28 : Cond.methodLink RX6 28 yX4_init ∈ gw := gw_at 105 rfl rfl
set_option maxRecDepth 100000 in
theorem ml_X6_64 : Cond.methodLink RX6 64 yJ0_length_8abf5 ∈ gw := gw_at 192 rfl rfl
set_option maxRecDepth 100000 in
theorem ml_X6_70 : Cond.methodLink RX6 70 yJ0_charAt_5068e ∈ gw := gw_at 202 rfl rfl
set_option maxRecDepth 100000 in
theorem ml_X6_74 : Cond.methodLink RX6 74 yX5_append ∈ gw := gw_at 240 rfl rfl
set_option maxRecDepth 100000 in
theorem ml_X6_78 : Cond.methodLink RX6 78 yX5_tell ∈ gw := gw_at 244 rfl rfl
set_option maxRecDepth 100000 in
theorem ml_X6_82 : Cond.methodLink RX6 82 yX5_clear ∈ gw := gw_at 291 rfl rfl
set_option maxRecDepth 100000 in
theorem ml_X6_85 : Cond.methodLink RX6 85 yX3_start ∈ gw := gw_at 295 rfl rfl
set_option maxRecDepth 100000 in
theorem ml_X6_95 : Cond.methodLink RX6 95 yX4_clear ∈ gw := gw_at 344 rfl rfl
set_option maxRecDepth 100000 in
theorem ml_X6_96 : Cond.methodLink RX6 96 yX1_clear ∈ gw := gw_at 348 rfl rfl
set_option maxRecDepth 100000 in
theorem ml_X6_97 : Cond.methodLink RX6 97 yX2_isPerson ∈ gw := gw_at 357 rfl rfl
set_option maxRecDepth 100000 in
theorem ml_X6_101 : Cond.methodLink RX6 101 yX3_ticketsOf ∈ gw := gw_at 358 rfl rfl
set_option maxRecDepth 100000 in
theorem ml_X6_109 : Cond.methodLink RX6 109 yX3_setOf ∈ gw := gw_at 362 rfl rfl
set_option maxRecDepth 100000 in
theorem ml_X6_112 : Cond.methodLink RX6 112 yX2_worthTo ∈ gw := gw_at 370 rfl rfl
set_option maxRecDepth 100000 in
theorem ml_X6_116 : Cond.methodLink RX6 116 yX2_isThing ∈ gw := gw_at 390 rfl rfl
set_option maxRecDepth 100000 in
theorem ml_X6_125 : Cond.methodLink RX6 125 yX3_ownerOf ∈ gw := gw_at 391 rfl rfl
set_option maxRecDepth 100000 in
theorem ml_X6_128 : Cond.methodLink RX6 128 yX3_next ∈ gw := gw_at 392 rfl rfl
set_option maxRecDepth 100000 in
theorem ml_X6_131 : Cond.methodLink RX6 131 yX3_refusable ∈ gw := gw_at 396 rfl rfl
set_option maxRecDepth 100000 in
theorem ml_X6_134 : Cond.methodLink RX6 134 yX2_likingOf ∈ gw := gw_at 404 rfl rfl
set_option maxRecDepth 100000 in
theorem ml_X6_137 : Cond.methodLink RX6 137 yX3_ticketHolder ∈ gw := gw_at 409 rfl rfl
set_option maxRecDepth 100000 in
theorem ml_X6_143 : Cond.methodLink RX6 143 yX4_push ∈ gw := gw_at 413 rfl rfl
set_option maxRecDepth 100000 in
theorem ml_X6_147 : Cond.methodLink RX6 147 yX3_takeNext ∈ gw := gw_at 424 rfl rfl
set_option maxRecDepth 100000 in
theorem ml_X6_150 : Cond.methodLink RX6 150 yX3_putBack ∈ gw := gw_at 432 rfl rfl
set_option maxRecDepth 100000 in
theorem ml_X6_153 : Cond.methodLink RX6 153 yX3_addTickets ∈ gw := gw_at 440 rfl rfl
set_option maxRecDepth 100000 in
theorem ml_X6_157 : Cond.methodLink RX6 157 yX3_pass ∈ gw := gw_at 452 rfl rfl
set_option maxRecDepth 100000 in
theorem ml_X6_160 : Cond.methodLink RX6 160 yX4_pop ∈ gw := gw_at 464 rfl rfl
set_option maxRecDepth 100000 in
theorem ml_X6_167 : Cond.methodLink RX6 167 yX6_isPart ∈ gw := gw_at 472 rfl rfl
set_option maxRecDepth 100000 in
theorem ml_X6_170 : Cond.methodLink RX6 170 yX3_tickets ∈ gw := gw_at 475 rfl rfl
set_option maxRecDepth 100000 in
theorem ml_X6_172 : Cond.methodLink RX6 172 yX6_drawsAhead ∈ gw := gw_at 479 rfl rfl
set_option maxRecDepth 100000 in
theorem ml_X6_175 : Cond.methodLink RX6 175 yX6_falling ∈ gw := gw_at 486 rfl rfl
set_option maxRecDepth 100000 in
theorem ml_X6_179 : Cond.methodLink RX6 179 yX6_lowest ∈ gw := gw_at 489 rfl rfl
set_option maxRecDepth 100000 in
theorem ml_X6_187 : Cond.methodLink RX6 187 yX6_worthOverWays ∈ gw := gw_at 501 rfl rfl
set_option maxRecDepth 100000 in
theorem ml_X6_193 : Cond.methodLink RX6 193 yX0_firstSwap ∈ gw := gw_at 520 rfl rfl
set_option maxRecDepth 100000 in
theorem ml_X6_197 : Cond.methodLink RX6 197 yX0_firstGift ∈ gw := gw_at 537 rfl rfl
set_option maxRecDepth 100000 in
theorem ml_X6_200 : Cond.methodLink RX6 200 yX0_bestSum ∈ gw := gw_at 548 rfl rfl
set_option maxRecDepth 100000 in
theorem ml_X6_203 : Cond.methodLink RX6 203 yX0_bestOwner ∈ gw := gw_at 576 rfl rfl
set_option maxRecDepth 100000 in
theorem ml_X6_207 : Cond.methodLink RX6 207 yX0_firstEnvy ∈ gw := gw_at 584 rfl rfl
set_option maxRecDepth 100000 in
theorem ml_X6_210 : Cond.methodLink RX6 210 yX0_shortestRing ∈ gw := gw_at 595 rfl rfl
set_option maxRecDepth 100000 in
theorem ml_X6_214 : Cond.methodLink RX6 214 yX1_add ∈ gw := gw_at 611 rfl rfl
set_option maxRecDepth 100000 in
theorem ml_X6_217 : Cond.methodLink RX6 217 yX1_canBe ∈ gw := gw_at 623 rfl rfl
set_option maxRecDepth 100000 in
theorem ml_X6_223 : Cond.methodLink RX6 223 yX1_loadedWeight ∈ gw := gw_at 628 rfl rfl
set_option maxRecDepth 100000 in
theorem ml_X6_227 : Cond.methodLink RX6 227 yX1_evenWeight ∈ gw := gw_at 640 rfl rfl
set_option maxRecDepth 100000 in
theorem ml_X6_230 : Cond.methodLink RX6 230 yX2_rowsOf ∈ gw := gw_at 648 rfl rfl
set_option maxRecDepth 100000 in
theorem ml_X6_234 : Cond.methodLink RX6 234 yX3_copy ∈ gw := gw_at 656 rfl rfl
set_option maxRecDepth 100000 in
theorem ml_X6_243 : Cond.methodLink RX6 243 yX6_takeTurn ∈ gw := gw_at 664 rfl rfl
set_option maxRecDepth 100000 in
theorem ml_X6_246 : Cond.methodLink RX6 246 yX3_ownedThings ∈ gw := gw_at 680 rfl rfl
set_option maxRecDepth 100000 in
theorem ml_X6_249 : Cond.methodLink RX6 249 yX6_worthOfAll ∈ gw := gw_at 686 rfl rfl
set_option maxRecDepth 100000 in
theorem ml_X6_253 : Cond.methodLink RX6 253 yX4_isFull ∈ gw := gw_at 694 rfl rfl
set_option maxRecDepth 100000 in
theorem ml_X6_257 : Cond.methodLink RX6 257 yJ9_min_7cf53 ∈ gw := gw_at 483 rfl rfl
set_option maxRecDepth 100000 in
theorem ml_X6_262 : Cond.methodLink RX6 262 yJ6_bitCount_0f7a4 ∈ gw := gw_at 505 rfl rfl
set_option maxRecDepth 100000 in
theorem ml_X6_267 : Cond.methodLink RX6 267 yX6_tryDraw ∈ gw := gw_at 668 rfl rfl
set_option maxRecDepth 100000 in
theorem ml_X6_270 : Cond.methodLink RX6 270 yX6_tryBuy ∈ gw := gw_at 672 rfl rfl
set_option maxRecDepth 100000 in
theorem ml_X6_273 : Cond.methodLink RX6 273 yX6_tryGive ∈ gw := gw_at 676 rfl rfl
set_option maxRecDepth 100000 in
theorem ml_X6_276 : Cond.methodLink RX6 276 yX6_commonDivisor ∈ gw := gw_at 492 rfl rfl
set_option maxRecDepth 100000 in
theorem ml_X0_27 : Cond.methodLink RX0 27 yX0_bothGain ∈ gw := gw_at 524 rfl rfl
set_option maxRecDepth 100000 in
theorem ml_X0_31 : Cond.methodLink RX0 31 yX3_ownerOf ∈ gw := gw_at 527 rfl rfl
set_option maxRecDepth 100000 in
theorem ml_X0_37 : Cond.methodLink RX0 37 yX0_change ∈ gw := gw_at 528 rfl rfl
set_option maxRecDepth 100000 in
theorem ml_X0_41 : Cond.methodLink RX0 41 yX3_setOf ∈ gw := gw_at 531 rfl rfl
set_option maxRecDepth 100000 in
theorem ml_X0_44 : Cond.methodLink RX0 44 yX2_worthTo ∈ gw := gw_at 532 rfl rfl
set_option maxRecDepth 100000 in
theorem ml_X0_51 : Cond.methodLink RX0 51 yX0_isGoodGift ∈ gw := gw_at 541 rfl rfl
set_option maxRecDepth 100000 in
theorem ml_X0_54 : Cond.methodLink RX0 54 yX3_ownedSet ∈ gw := gw_at 552 rfl rfl
set_option maxRecDepth 100000 in
theorem ml_X0_58 : Cond.methodLink RX0 58 yX0_bestSharing ∈ gw := gw_at 556 rfl rfl
set_option maxRecDepth 100000 in
theorem ml_X0_62 : Cond.methodLink RX0 62 yX0_sumIn ∈ gw := gw_at 572 rfl rfl
set_option maxRecDepth 100000 in
theorem ml_X0_65 : Cond.methodLink RX0 65 yX0_placeOf ∈ gw := gw_at 564 rfl rfl
set_option maxRecDepth 100000 in
theorem ml_X0_68 : Cond.methodLink RX0 68 yX0_tellGains ∈ gw := gw_at 560 rfl rfl
set_option maxRecDepth 100000 in
theorem ml_X0_72 : Cond.methodLink RX0 72 yX0_bestWith ∈ gw := gw_at 567 rfl rfl
set_option maxRecDepth 100000 in
theorem ml_X0_75 : Cond.methodLink RX0 75 yJ9_max_7cf53 ∈ gw := gw_at 571 rfl rfl
set_option maxRecDepth 100000 in
theorem ml_X0_81 : Cond.methodLink RX0 81 yX0_envies ∈ gw := gw_at 588 rfl rfl
set_option maxRecDepth 100000 in
theorem ml_X0_84 : Cond.methodLink RX0 84 yX0_tellEnvied ∈ gw := gw_at 599 rfl rfl
set_option maxRecDepth 100000 in
theorem ml_X0_88 : Cond.methodLink RX0 88 yX0_comesBack ∈ gw := gw_at 603 rfl rfl
set_option maxRecDepth 100000 in
theorem ml_X1_19 : Cond.methodLink RX1 19 yJ7_fill_53178 ∈ gw := gw_at 352 rfl rfl
set_option maxRecDepth 100000 in
theorem ml_X1_32 : Cond.methodLink RX1 32 yX1_power ∈ gw := gw_at 633 rfl rfl
set_option maxRecDepth 100000 in
theorem ml_X1_36 : Cond.methodLink RX1 36 yX2_allTickets ∈ gw := gw_at 636 rfl rfl
set_option maxRecDepth 100000 in
theorem ml_X2_35 : Cond.methodLink RX2 35 yJ7_fill_53178 ∈ gw := gw_at 252 rfl rfl
set_option maxRecDepth 100000 in
theorem ml_X2_41 : Cond.methodLink RX2 41 yX2_isPerson ∈ gw := gw_at 283 rfl rfl
set_option maxRecDepth 100000 in
theorem ml_X2_45 : Cond.methodLink RX2 45 yX2_isThing ∈ gw := gw_at 287 rfl rfl
set_option maxRecDepth 100000 in
theorem ml_X2_48 : Cond.methodLink RX2 48 yX2_countOf ∈ gw := gw_at 374 rfl rfl
set_option maxRecDepth 100000 in
theorem ml_X2_52 : Cond.methodLink RX2 52 yX2_likingOf ∈ gw := gw_at 378 rfl rfl
set_option maxRecDepth 100000 in
theorem ml_X2_55 : Cond.methodLink RX2 55 yX2_ownWorth ∈ gw := gw_at 382 rfl rfl
set_option maxRecDepth 100000 in
theorem ml_X3_26 : Cond.methodLink RX3 26 yX3_ownerOf ∈ gw := gw_at 366 rfl rfl
set_option maxRecDepth 100000 in
theorem ml_X3_30 : Cond.methodLink RX3 30 yX3_ownedSet ∈ gw := gw_at 684 rfl rfl
set_option maxRecDepth 100000 in
theorem ml_X3_34 : Cond.methodLink RX3 34 yJ6_bitCount_0f7a4 ∈ gw := gw_at 685 rfl rfl
set_option maxRecDepth 100000 in
theorem ml_X4_7 : Cond.methodLink RX4 7 yJ9_max_7cf53 ∈ gw := gw_at 109 rfl rfl
set_option maxRecDepth 100000 in
theorem ml_X4_28 : Cond.methodLink RX4 28 yX4_isFull ∈ gw := gw_at 417 rfl rfl
set_option maxRecDepth 100000 in
theorem ml_X5_23 : Cond.methodLink RX5 23 yX2_clear ∈ gw := gw_at 248 rfl rfl
set_option maxRecDepth 100000 in
theorem ml_X5_31 : Cond.methodLink RX5 31 yX5_tellItem ∈ gw := gw_at 255 rfl rfl
set_option maxRecDepth 100000 in
theorem ml_X5_35 : Cond.methodLink RX5 35 yX5_nextLetter ∈ gw := gw_at 259 rfl rfl
set_option maxRecDepth 100000 in
theorem ml_X5_39 : Cond.methodLink RX5 39 yX5_readNumbers ∈ gw := gw_at 263 rfl rfl
set_option maxRecDepth 100000 in
theorem ml_X5_43 : Cond.methodLink RX5 43 yX2_addPerson ∈ gw := gw_at 271 rfl rfl
set_option maxRecDepth 100000 in
theorem ml_X5_46 : Cond.methodLink RX5 46 yX2_addThing ∈ gw := gw_at 275 rfl rfl
set_option maxRecDepth 100000 in
theorem ml_X5_50 : Cond.methodLink RX5 50 yX2_addLiking ∈ gw := gw_at 279 rfl rfl
set_option maxRecDepth 100000 in
theorem ml_X5_54 : Cond.methodLink RX5 54 yX5_isFigure ∈ gw := gw_at 267 rfl rfl
set_option maxRecDepth 100000 in
theorem ml_L_9 : Cond.methodLink RL 9 yX6_init ∈ gw := gw_at 64 rfl rfl
set_option maxRecDepth 100000 in
theorem ml_L_12 : Cond.methodLink RL 12 yX7_init ∈ gw := gw_at 705 rfl rfl
set_option maxRecDepth 100000 in
theorem ml_L_13 : Cond.methodLink RL 13 yX6_write ∈ gw := gw_at 328 rfl rfl
set_option maxRecDepth 100000 in
theorem ml_L_17 : Cond.methodLink RL 17 yX7_write ∈ gw := gw_at 794 rfl rfl
set_option maxRecDepth 100000 in
theorem ml_L_18 : Cond.methodLink RL 18 yX6_wipe ∈ gw := gw_at 332 rfl rfl
set_option maxRecDepth 100000 in
theorem ml_L_22 : Cond.methodLink RL 22 yX7_wipe ∈ gw := gw_at 801 rfl rfl
set_option maxRecDepth 100000 in
theorem ml_L_23 : Cond.methodLink RL 23 yX6_fault ∈ gw := gw_at 336 rfl rfl
set_option maxRecDepth 100000 in
theorem ml_L_26 : Cond.methodLink RL 26 yX7_fault ∈ gw := gw_at 805 rfl rfl
set_option maxRecDepth 100000 in
theorem ml_L_27 : Cond.methodLink RL 27 yX6_lay ∈ gw := gw_at 340 rfl rfl
set_option maxRecDepth 100000 in
theorem ml_L_30 : Cond.methodLink RL 30 yX7_lay ∈ gw := gw_at 845 rfl rfl
set_option maxRecDepth 100000 in
theorem ml_L_31 : Cond.methodLink RL 31 yX6_person ∈ gw := gw_at 353 rfl rfl
set_option maxRecDepth 100000 in
theorem ml_L_35 : Cond.methodLink RL 35 yX7_person ∈ gw := gw_at 849 rfl rfl
set_option maxRecDepth 100000 in
theorem ml_L_36 : Cond.methodLink RL 36 yX6_thing ∈ gw := gw_at 386 rfl rfl
set_option maxRecDepth 100000 in
theorem ml_L_39 : Cond.methodLink RL 39 yX7_thing ∈ gw := gw_at 868 rfl rfl
set_option maxRecDepth 100000 in
theorem ml_L_40 : Cond.methodLink RL 40 yX6_likes ∈ gw := gw_at 400 rfl rfl
set_option maxRecDepth 100000 in
theorem ml_L_43 : Cond.methodLink RL 43 yX7_likes ∈ gw := gw_at 876 rfl rfl
set_option maxRecDepth 100000 in
theorem ml_L_44 : Cond.methodLink RL 44 yX6_draw ∈ gw := gw_at 405 rfl rfl
set_option maxRecDepth 100000 in
theorem ml_L_47 : Cond.methodLink RL 47 yX7_draw ∈ gw := gw_at 880 rfl rfl
set_option maxRecDepth 100000 in
theorem ml_L_48 : Cond.methodLink RL 48 yX6_refuse ∈ gw := gw_at 428 rfl rfl
set_option maxRecDepth 100000 in
theorem ml_L_51 : Cond.methodLink RL 51 yX7_refuse ∈ gw := gw_at 894 rfl rfl
set_option maxRecDepth 100000 in
theorem ml_L_52 : Cond.methodLink RL 52 yX6_buy ∈ gw := gw_at 436 rfl rfl
set_option maxRecDepth 100000 in
theorem ml_L_55 : Cond.methodLink RL 55 yX7_buy ∈ gw := gw_at 898 rfl rfl
set_option maxRecDepth 100000 in
theorem ml_L_56 : Cond.methodLink RL 56 yX6_hand ∈ gw := gw_at 444 rfl rfl
set_option maxRecDepth 100000 in
theorem ml_L_59 : Cond.methodLink RL 59 yX7_hand ∈ gw := gw_at 902 rfl rfl
set_option maxRecDepth 100000 in
theorem ml_L_60 : Cond.methodLink RL 60 yX6_swap ∈ gw := gw_at 448 rfl rfl
set_option maxRecDepth 100000 in
theorem ml_L_63 : Cond.methodLink RL 63 yX7_swap ∈ gw := gw_at 906 rfl rfl
set_option maxRecDepth 100000 in
theorem ml_L_64 : Cond.methodLink RL 64 yX6_give ∈ gw := gw_at 456 rfl rfl
set_option maxRecDepth 100000 in
theorem ml_L_67 : Cond.methodLink RL 67 yX7_give ∈ gw := gw_at 913 rfl rfl
set_option maxRecDepth 100000 in
theorem ml_L_68 : Cond.methodLink RL 68 yX6_undo ∈ gw := gw_at 460 rfl rfl
set_option maxRecDepth 100000 in
theorem ml_L_71 : Cond.methodLink RL 71 yX7_undo ∈ gw := gw_at 917 rfl rfl
set_option maxRecDepth 100000 in
theorem ml_L_72 : Cond.methodLink RL 72 yX6_wins ∈ gw := gw_at 468 rfl rfl
set_option maxRecDepth 100000 in
theorem ml_L_76 : Cond.methodLink RL 76 yX7_wins ∈ gw := gw_at 921 rfl rfl
set_option maxRecDepth 100000 in
theorem ml_L_77 : Cond.methodLink RL 77 yX6_mean ∈ gw := gw_at 495 rfl rfl
set_option maxRecDepth 100000 in
theorem ml_L_81 : Cond.methodLink RL 81 yX7_mean ∈ gw := gw_at 935 rfl rfl
set_option maxRecDepth 100000 in
theorem ml_L_82 : Cond.methodLink RL 82 yX6_needs ∈ gw := gw_at 511 rfl rfl
set_option maxRecDepth 100000 in
theorem ml_L_85 : Cond.methodLink RL 85 yX7_needs ∈ gw := gw_at 943 rfl rfl
set_option maxRecDepth 100000 in
theorem ml_L_86 : Cond.methodLink RL 86 yX6_swaps ∈ gw := gw_at 516 rfl rfl
set_option maxRecDepth 100000 in
theorem ml_L_89 : Cond.methodLink RL 89 yX7_swaps ∈ gw := gw_at 948 rfl rfl
set_option maxRecDepth 100000 in
theorem ml_L_90 : Cond.methodLink RL 90 yX6_gives ∈ gw := gw_at 533 rfl rfl
set_option maxRecDepth 100000 in
theorem ml_L_93 : Cond.methodLink RL 93 yX7_gives ∈ gw := gw_at 952 rfl rfl
set_option maxRecDepth 100000 in
theorem ml_L_94 : Cond.methodLink RL 94 yX6_share ∈ gw := gw_at 544 rfl rfl
set_option maxRecDepth 100000 in
theorem ml_L_97 : Cond.methodLink RL 97 yX7_share ∈ gw := gw_at 956 rfl rfl
set_option maxRecDepth 100000 in
theorem ml_L_98 : Cond.methodLink RL 98 yX6_envy ∈ gw := gw_at 580 rfl rfl
set_option maxRecDepth 100000 in
theorem ml_L_101 : Cond.methodLink RL 101 yX7_envy ∈ gw := gw_at 976 rfl rfl
set_option maxRecDepth 100000 in
theorem ml_L_102 : Cond.methodLink RL 102 yX6_ring ∈ gw := gw_at 591 rfl rfl
set_option maxRecDepth 100000 in
theorem ml_L_105 : Cond.methodLink RL 105 yX7_ring ∈ gw := gw_at 984 rfl rfl
set_option maxRecDepth 100000 in
theorem ml_L_106 : Cond.methodLink RL 106 yX6_note ∈ gw := gw_at 607 rfl rfl
set_option maxRecDepth 100000 in
theorem ml_L_109 : Cond.methodLink RL 109 yX7_note ∈ gw := gw_at 988 rfl rfl
set_option maxRecDepth 100000 in
theorem ml_L_110 : Cond.methodLink RL 110 yX6_forget ∈ gw := gw_at 615 rfl rfl
set_option maxRecDepth 100000 in
theorem ml_L_113 : Cond.methodLink RL 113 yX7_forget ∈ gw := gw_at 992 rfl rfl
set_option maxRecDepth 100000 in
theorem ml_L_114 : Cond.methodLink RL 114 yX6_fair ∈ gw := gw_at 619 rfl rfl
set_option maxRecDepth 100000 in
theorem ml_L_118 : Cond.methodLink RL 118 yX7_fair ∈ gw := gw_at 996 rfl rfl
set_option maxRecDepth 100000 in
theorem ml_L_119 : Cond.methodLink RL 119 yX6_seats ∈ gw := gw_at 644 rfl rfl
set_option maxRecDepth 100000 in
theorem ml_L_123 : Cond.methodLink RL 123 yX7_seats ∈ gw := gw_at 1002 rfl rfl
set_option maxRecDepth 100000 in
theorem ml_L_124 : Cond.methodLink RL 124 yX6_year ∈ gw := gw_at 652 rfl rfl
set_option maxRecDepth 100000 in
theorem ml_L_127 : Cond.methodLink RL 127 yX7_year ∈ gw := gw_at 1006 rfl rfl
set_option maxRecDepth 100000 in
theorem ml_L_128 : Cond.methodLink RL 128 yX6_keep ∈ gw := gw_at 690 rfl rfl
set_option maxRecDepth 100000 in
theorem ml_L_131 : Cond.methodLink RL 131 yX7_keep ∈ gw := gw_at 1017 rfl rfl
set_option maxRecDepth 100000 in
theorem ml_L_132 : Cond.methodLink RL 132 yX6_back ∈ gw := gw_at 695 rfl rfl
set_option maxRecDepth 100000 in
theorem ml_L_135 : Cond.methodLink RL 135 yX7_back ∈ gw := gw_at 1021 rfl rfl
set_option maxRecDepth 100000 in
theorem ml_L_136 : Cond.methodLink RL 136 yX6_count ∈ gw := gw_at 699 rfl rfl
set_option maxRecDepth 100000 in
theorem ml_L_139 : Cond.methodLink RL 139 yX7_count ∈ gw := gw_at 1025 rfl rfl
set_option maxRecDepth 100000 in
theorem ml_X7_54 : Cond.methodLink RX7 54 yX7_first ∈ gw := gw_at 709 rfl rfl
set_option maxRecDepth 100000 in
theorem ml_X7_57 : Cond.methodLink RX7 57 yX7_takeDraft ∈ gw := gw_at 729 rfl rfl
set_option maxRecDepth 100000 in
theorem ml_X7_60 : Cond.methodLink RX7 60 yX7_in ∈ gw := gw_at 798 rfl rfl
set_option maxRecDepth 100000 in
theorem ml_X7_71 : Cond.methodLink RX7 71 yX7_here ∈ gw := gw_at 817 rfl rfl
set_option maxRecDepth 100000 in
theorem ml_X7_79 : Cond.methodLink RX7 79 yX7_isFigure ∈ gw := gw_at 829 rfl rfl
set_option maxRecDepth 100000 in
theorem ml_X7_83 : Cond.methodLink RX7 83 yX7_number ∈ gw := gw_at 825 rfl rfl
set_option maxRecDepth 100000 in
theorem ml_X7_87 : Cond.methodLink RX7 87 yX7_due ∈ gw := gw_at 837 rfl rfl
set_option maxRecDepth 100000 in
theorem ml_X7_91 : Cond.methodLink RX7 91 yX7_readPerson ∈ gw := gw_at 821 rfl rfl
set_option maxRecDepth 100000 in
theorem ml_X7_94 : Cond.methodLink RX7 94 yX7_readThing ∈ gw := gw_at 833 rfl rfl
set_option maxRecDepth 100000 in
theorem ml_X7_97 : Cond.methodLink RX7 97 yX7_readLike ∈ gw := gw_at 841 rfl rfl
set_option maxRecDepth 100000 in
theorem ml_X7_100 : Cond.methodLink RX7 100 yX7_begin ∈ gw := gw_at 713 rfl rfl
set_option maxRecDepth 100000 in
theorem ml_X7_103 : Cond.methodLink RX7 103 yX7_readItem ∈ gw := gw_at 813 rfl rfl
set_option maxRecDepth 100000 in
theorem ml_X7_106 : Cond.methodLink RX7 106 yX7_read ∈ gw := gw_at 809 rfl rfl
set_option maxRecDepth 100000 in
theorem ml_X7_109 : Cond.methodLink RX7 109 yX7_tellPerson ∈ gw := gw_at 717 rfl rfl
set_option maxRecDepth 100000 in
theorem ml_X7_112 : Cond.methodLink RX7 112 yX7_tellThing ∈ gw := gw_at 721 rfl rfl
set_option maxRecDepth 100000 in
theorem ml_X7_116 : Cond.methodLink RX7 116 yX7_tellLike ∈ gw := gw_at 725 rfl rfl
set_option maxRecDepth 100000 in
theorem ml_X7_129 : Cond.methodLink RX7 129 yX7_has ∈ gw := gw_at 865 rfl rfl
set_option maxRecDepth 100000 in
theorem ml_X7_133 : Cond.methodLink RX7 133 yX7_hadBy ∈ gw := gw_at 857 rfl rfl
set_option maxRecDepth 100000 in
theorem ml_X7_137 : Cond.methodLink RX7 137 yX7_worthOf ∈ gw := gw_at 861 rfl rfl
set_option maxRecDepth 100000 in
theorem ml_X7_140 : Cond.methodLink RX7 140 yX7_isPerson ∈ gw := gw_at 853 rfl rfl
set_option maxRecDepth 100000 in
theorem ml_X7_144 : Cond.methodLink RX7 144 yX7_isThing ∈ gw := gw_at 872 rfl rfl
set_option maxRecDepth 100000 in
theorem ml_X7_147 : Cond.methodLink RX7 147 yX7_hatOf ∈ gw := gw_at 884 rfl rfl
set_option maxRecDepth 100000 in
theorem ml_X7_151 : Cond.methodLink RX7 151 yX7_know ∈ gw := gw_at 887 rfl rfl
set_option maxRecDepth 100000 in
theorem ml_X7_154 : Cond.methodLink RX7 154 yX7_drawOn ∈ gw := gw_at 891 rfl rfl
set_option maxRecDepth 100000 in
theorem ml_X7_157 : Cond.methodLink RX7 157 yX7_touch ∈ gw := gw_at 910 rfl rfl
set_option maxRecDepth 100000 in
theorem ml_X7_161 : Cond.methodLink RX7 161 yX7_drawn ∈ gw := gw_at 925 rfl rfl
set_option maxRecDepth 100000 in
theorem ml_X7_164 : Cond.methodLink RX7 164 yX7_rows ∈ gw := gw_at 929 rfl rfl
set_option maxRecDepth 100000 in
theorem ml_X7_168 : Cond.methodLink RX7 168 yX7_common ∈ gw := gw_at 932 rfl rfl
set_option maxRecDepth 100000 in
theorem ml_X7_174 : Cond.methodLink RX7 174 yX7_bitsOf ∈ gw := gw_at 940 rfl rfl
set_option maxRecDepth 100000 in
theorem ml_X7_180 : Cond.methodLink RX7 180 yX7_thingsHad ∈ gw := gw_at 960 rfl rfl
set_option maxRecDepth 100000 in
theorem ml_X7_183 : Cond.methodLink RX7 183 yX7_take ∈ gw := gw_at 964 rfl rfl
set_option maxRecDepth 100000 in
theorem ml_X7_186 : Cond.methodLink RX7 186 yX7_dealBy ∈ gw := gw_at 968 rfl rfl
set_option maxRecDepth 100000 in
theorem ml_X7_189 : Cond.methodLink RX7 189 yX7_worthOfAll ∈ gw := gw_at 972 rfl rfl
set_option maxRecDepth 100000 in
theorem ml_X7_192 : Cond.methodLink RX7 192 yX7_envies ∈ gw := gw_at 980 rfl rfl
set_option maxRecDepth 100000 in
theorem ml_X7_205 : Cond.methodLink RX7 205 yX7_turn ∈ gw := gw_at 1013 rfl rfl
set_option maxRecDepth 100000 in
theorem ml_J0_335 : Cond.methodLink RJ0 335 yJ0_coder_7d493 ∈ gw := gw_at 196 rfl rfl
set_option maxRecDepth 100000 in
theorem ml_J0_492 : Cond.methodLink RJ0 492 yJ0_isLatin1_aae02 ∈ gw := gw_at 206 rfl rfl
set_option maxRecDepth 100000 in
theorem ml_J0_495 : Cond.methodLink RJ0 495 yJ1_charAt_3b067 ∈ gw := gw_at 210 rfl rfl
set_option maxRecDepth 100000 in
theorem ml_J0_498 : Cond.methodLink RJ0 498 yJ2_charAt_3b067 ∈ gw := gw_at 221 rfl rfl
set_option maxRecDepth 100000 in
theorem ml_J0_1059 : Cond.methodLink RJ0 1059 yJ3_checkIndex_8e157 ∈ gw := gw_at 218 rfl rfl
set_option maxRecDepth 100000 in
theorem ml_J1_9 : Cond.methodLink RJ1 9 yJ0_checkIndex_df160 ∈ gw := gw_at 213 rfl rfl
set_option maxRecDepth 100000 in
theorem ml_J2_48 : Cond.methodLink RJ2 48 yJ2_length_9d52b ∈ gw := gw_at 227 rfl rfl
set_option maxRecDepth 100000 in
theorem ml_J2_67 : Cond.methodLink RJ2 67 yJ2_checkIndex_2214a ∈ gw := gw_at 224 rfl rfl
set_option maxRecDepth 100000 in
theorem ml_J2_71 : Cond.methodLink RJ2 71 yJ2_getChar_3b067 ∈ gw := gw_at 231 rfl rfl
set_option maxRecDepth 100000 in
theorem ml_J2_414 : Cond.methodLink RJ2 414 yJ0_checkIndex_df160 ∈ gw := gw_at 230 rfl rfl
set_option maxRecDepth 100000 in
theorem mv_X6_back : MVok yX6_back cX6_back 1 (some .int) 0 := ⟨gw_at 696 rfl rfl, gw_at 697 rfl rfl, gw_at 46 rfl rfl, gw_at 698 rfl rfl, ⟨by decide, by decide⟩, by decide +kernel⟩
set_option maxRecDepth 100000 in
theorem mv_X6_buy : MVok yX6_buy cX6_buy 3 (some .int) 2 := ⟨gw_at 437 rfl rfl, gw_at 438 rfl rfl, gw_at 46 rfl rfl, gw_at 439 rfl rfl, ⟨by decide, by decide⟩, by decide +kernel⟩
set_option maxRecDepth 100000 in
theorem ms_X6_commonDivisor : MSok yX6_commonDivisor cX6_commonDivisor 11 (some .long) 2 := ⟨gw_at 493 rfl rfl, gw_at 46 rfl rfl, gw_at 494 rfl rfl, ⟨by decide, by decide⟩, by decide +kernel⟩
set_option maxRecDepth 100000 in
theorem mv_X6_count : MVok yX6_count cX6_count 2 (some .int) 1 := ⟨gw_at 700 rfl rfl, gw_at 701 rfl rfl, gw_at 46 rfl rfl, gw_at 702 rfl rfl, ⟨by decide, by decide⟩, by decide +kernel⟩
set_option maxRecDepth 100000 in
theorem mv_X6_draw : MVok yX6_draw cX6_draw 3 (some .int) 1 := ⟨gw_at 406 rfl rfl, gw_at 407 rfl rfl, gw_at 46 rfl rfl, gw_at 408 rfl rfl, ⟨by decide, by decide⟩, by decide +kernel⟩
set_option maxRecDepth 100000 in
theorem mv_X6_drawsAhead : MVok yX6_drawsAhead cX6_drawsAhead 3 (some .int) 2 := ⟨gw_at 481 rfl rfl, gw_at 6 rfl rfl, gw_at 46 rfl rfl, gw_at 482 rfl rfl, ⟨by decide, by decide⟩, by decide +kernel⟩
set_option maxRecDepth 100000 in
theorem mv_X6_envy : MVok yX6_envy cX6_envy 1 (some .int) 0 := ⟨gw_at 581 rfl rfl, gw_at 582 rfl rfl, gw_at 46 rfl rfl, gw_at 583 rfl rfl, ⟨by decide, by decide⟩, by decide +kernel⟩
set_option maxRecDepth 100000 in
theorem mv_X6_fair : MVok yX6_fair cX6_fair 8 (some .long) 3 := ⟨gw_at 620 rfl rfl, gw_at 621 rfl rfl, gw_at 46 rfl rfl, gw_at 622 rfl rfl, ⟨by decide, by decide⟩, by decide +kernel⟩
set_option maxRecDepth 100000 in
theorem ms_X6_falling : MSok yX6_falling cX6_falling 5 (some .long) 2 := ⟨gw_at 487 rfl rfl, gw_at 46 rfl rfl, gw_at 488 rfl rfl, ⟨by decide, by decide⟩, by decide +kernel⟩
set_option maxRecDepth 100000 in
theorem mv_X6_fault : MVok yX6_fault cX6_fault 1 (some .int) 0 := ⟨gw_at 337 rfl rfl, gw_at 338 rfl rfl, gw_at 46 rfl rfl, gw_at 339 rfl rfl, ⟨by decide, by decide⟩, by decide +kernel⟩
set_option maxRecDepth 100000 in
theorem mv_X6_forget : MVok yX6_forget cX6_forget 2 (some .int) 0 := ⟨gw_at 616 rfl rfl, gw_at 617 rfl rfl, gw_at 46 rfl rfl, gw_at 618 rfl rfl, ⟨by decide, by decide⟩, by decide +kernel⟩
set_option maxRecDepth 100000 in
theorem mv_X6_give : MVok yX6_give cX6_give 4 (some .int) 2 := ⟨gw_at 457 rfl rfl, gw_at 458 rfl rfl, gw_at 46 rfl rfl, gw_at 459 rfl rfl, ⟨by decide, by decide⟩, by decide +kernel⟩
set_option maxRecDepth 100000 in
theorem mv_X6_gives : MVok yX6_gives cX6_gives 1 (some .int) 0 := ⟨gw_at 534 rfl rfl, gw_at 535 rfl rfl, gw_at 46 rfl rfl, gw_at 536 rfl rfl, ⟨by decide, by decide⟩, by decide +kernel⟩
set_option maxRecDepth 100000 in
theorem mv_X6_hand : MVok yX6_hand cX6_hand 3 (some .int) 2 := ⟨gw_at 445 rfl rfl, gw_at 446 rfl rfl, gw_at 46 rfl rfl, gw_at 447 rfl rfl, ⟨by decide, by decide⟩, by decide +kernel⟩
set_option maxRecDepth 100000 in
theorem ms_X6_isPart : MSok yX6_isPart cX6_isPart 1 (some .boolean) 1 := ⟨gw_at 473 rfl rfl, gw_at 46 rfl rfl, gw_at 474 rfl rfl, ⟨by decide, by decide⟩, by decide +kernel⟩
set_option maxRecDepth 100000 in
theorem mv_X6_keep : MVok yX6_keep cX6_keep 1 (some .int) 0 := ⟨gw_at 691 rfl rfl, gw_at 692 rfl rfl, gw_at 46 rfl rfl, gw_at 693 rfl rfl, ⟨by decide, by decide⟩, by decide +kernel⟩
set_option maxRecDepth 100000 in
theorem mv_X6_lay : MVok yX6_lay cX6_lay 2 (some .int) 0 := ⟨gw_at 341 rfl rfl, gw_at 342 rfl rfl, gw_at 46 rfl rfl, gw_at 343 rfl rfl, ⟨by decide, by decide⟩, by decide +kernel⟩
set_option maxRecDepth 100000 in
theorem mv_X6_likes : MVok yX6_likes cX6_likes 3 (some .int) 2 := ⟨gw_at 401 rfl rfl, gw_at 402 rfl rfl, gw_at 46 rfl rfl, gw_at 403 rfl rfl, ⟨by decide, by decide⟩, by decide +kernel⟩
set_option maxRecDepth 100000 in
theorem ms_X6_lowest : MSok yX6_lowest cX6_lowest 7 (some .long) 3 := ⟨gw_at 490 rfl rfl, gw_at 46 rfl rfl, gw_at 491 rfl rfl, ⟨by decide, by decide⟩, by decide +kernel⟩
set_option maxRecDepth 100000 in
theorem mv_X6_mean : MVok yX6_mean cX6_mean 7 (some .long) 2 := ⟨gw_at 496 rfl rfl, gw_at 497 rfl rfl, gw_at 46 rfl rfl, gw_at 498 rfl rfl, ⟨by decide, by decide⟩, by decide +kernel⟩
set_option maxRecDepth 100000 in
theorem mv_X6_needs : MVok yX6_needs cX6_needs 11 (some .int) 3 := ⟨gw_at 512 rfl rfl, gw_at 513 rfl rfl, gw_at 46 rfl rfl, gw_at 514 rfl rfl, ⟨by decide, by decide⟩, by decide +kernel⟩
set_option maxRecDepth 100000 in
theorem mv_X6_note : MVok yX6_note cX6_note 2 (some .int) 1 := ⟨gw_at 608 rfl rfl, gw_at 609 rfl rfl, gw_at 46 rfl rfl, gw_at 610 rfl rfl, ⟨by decide, by decide⟩, by decide +kernel⟩
set_option maxRecDepth 100000 in
theorem mv_X6_person : MVok yX6_person cX6_person 3 (some .int) 2 := ⟨gw_at 354 rfl rfl, gw_at 355 rfl rfl, gw_at 46 rfl rfl, gw_at 356 rfl rfl, ⟨by decide, by decide⟩, by decide +kernel⟩
set_option maxRecDepth 100000 in
theorem mv_X6_refuse : MVok yX6_refuse cX6_refuse 2 (some .int) 0 := ⟨gw_at 429 rfl rfl, gw_at 430 rfl rfl, gw_at 46 rfl rfl, gw_at 431 rfl rfl, ⟨by decide, by decide⟩, by decide +kernel⟩
set_option maxRecDepth 100000 in
theorem mv_X6_ring : MVok yX6_ring cX6_ring 1 (some .int) 0 := ⟨gw_at 592 rfl rfl, gw_at 593 rfl rfl, gw_at 46 rfl rfl, gw_at 594 rfl rfl, ⟨by decide, by decide⟩, by decide +kernel⟩
set_option maxRecDepth 100000 in
theorem mv_X6_seats : MVok yX6_seats cX6_seats 2 (some .long) 1 := ⟨gw_at 645 rfl rfl, gw_at 646 rfl rfl, gw_at 46 rfl rfl, gw_at 647 rfl rfl, ⟨by decide, by decide⟩, by decide +kernel⟩
set_option maxRecDepth 100000 in
theorem mv_X6_share : MVok yX6_share cX6_share 2 (some .int) 1 := ⟨gw_at 545 rfl rfl, gw_at 546 rfl rfl, gw_at 46 rfl rfl, gw_at 547 rfl rfl, ⟨by decide, by decide⟩, by decide +kernel⟩
set_option maxRecDepth 100000 in
theorem mv_X6_swap : MVok yX6_swap cX6_swap 5 (some .int) 2 := ⟨gw_at 449 rfl rfl, gw_at 450 rfl rfl, gw_at 46 rfl rfl, gw_at 451 rfl rfl, ⟨by decide, by decide⟩, by decide +kernel⟩
set_option maxRecDepth 100000 in
theorem mv_X6_swaps : MVok yX6_swaps cX6_swaps 1 (some .int) 0 := ⟨gw_at 517 rfl rfl, gw_at 518 rfl rfl, gw_at 46 rfl rfl, gw_at 519 rfl rfl, ⟨by decide, by decide⟩, by decide +kernel⟩
set_option maxRecDepth 100000 in
theorem mv_X6_takeTurn : MVok yX6_takeTurn cX6_takeTurn 4 none 1 := ⟨gw_at 666 rfl rfl, gw_at 13 rfl rfl, gw_at 46 rfl rfl, gw_at 667 rfl rfl, ⟨by decide, by decide⟩, by decide +kernel⟩
set_option maxRecDepth 100000 in
theorem mv_X6_thing : MVok yX6_thing cX6_thing 3 (some .int) 2 := ⟨gw_at 387 rfl rfl, gw_at 388 rfl rfl, gw_at 46 rfl rfl, gw_at 389 rfl rfl, ⟨by decide, by decide⟩, by decide +kernel⟩
set_option maxRecDepth 100000 in
theorem mv_X6_tryBuy : MVok yX6_tryBuy cX6_tryBuy 4 none 2 := ⟨gw_at 674 rfl rfl, gw_at 15 rfl rfl, gw_at 46 rfl rfl, gw_at 675 rfl rfl, ⟨by decide, by decide⟩, by decide +kernel⟩
set_option maxRecDepth 100000 in
theorem mv_X6_tryDraw : MVok yX6_tryDraw cX6_tryDraw 3 none 1 := ⟨gw_at 670 rfl rfl, gw_at 14 rfl rfl, gw_at 46 rfl rfl, gw_at 671 rfl rfl, ⟨by decide, by decide⟩, by decide +kernel⟩
set_option maxRecDepth 100000 in
theorem mv_X6_tryGive : MVok yX6_tryGive cX6_tryGive 4 none 2 := ⟨gw_at 678 rfl rfl, gw_at 16 rfl rfl, gw_at 46 rfl rfl, gw_at 679 rfl rfl, ⟨by decide, by decide⟩, by decide +kernel⟩
set_option maxRecDepth 100000 in
theorem mv_X6_undo : MVok yX6_undo cX6_undo 1 (some .int) 0 := ⟨gw_at 461 rfl rfl, gw_at 462 rfl rfl, gw_at 46 rfl rfl, gw_at 463 rfl rfl, ⟨by decide, by decide⟩, by decide +kernel⟩
set_option maxRecDepth 100000 in
theorem mv_X6_wins : MVok yX6_wins cX6_wins 10 (some .int) 3 := ⟨gw_at 469 rfl rfl, gw_at 470 rfl rfl, gw_at 46 rfl rfl, gw_at 471 rfl rfl, ⟨by decide, by decide⟩, by decide +kernel⟩
set_option maxRecDepth 100000 in
theorem mv_X6_wipe : MVok yX6_wipe cX6_wipe 2 (some .int) 0 := ⟨gw_at 333 rfl rfl, gw_at 334 rfl rfl, gw_at 46 rfl rfl, gw_at 335 rfl rfl, ⟨by decide, by decide⟩, by decide +kernel⟩
set_option maxRecDepth 100000 in
theorem mv_X6_worthOfAll : MVok yX6_worthOfAll cX6_worthOfAll 4 (some .int) 1 := ⟨gw_at 688 rfl rfl, gw_at 17 rfl rfl, gw_at 46 rfl rfl, gw_at 689 rfl rfl, ⟨by decide, by decide⟩, by decide +kernel⟩
set_option maxRecDepth 100000 in
theorem mv_X6_worthOverWays : MVok yX6_worthOverWays cX6_worthOverWays 12 (some .long) 3 := ⟨gw_at 503 rfl rfl, gw_at 7 rfl rfl, gw_at 46 rfl rfl, gw_at 504 rfl rfl, ⟨by decide, by decide⟩, by decide +kernel⟩
set_option maxRecDepth 100000 in
theorem mv_X6_write : MVok yX6_write cX6_write 2 (some .int) 1 := ⟨gw_at 329 rfl rfl, gw_at 330 rfl rfl, gw_at 46 rfl rfl, gw_at 331 rfl rfl, ⟨by decide, by decide⟩, by decide +kernel⟩
set_option maxRecDepth 100000 in
theorem mv_X6_year : MVok yX6_year cX6_year 7 (some .int) 3 := ⟨gw_at 653 rfl rfl, gw_at 654 rfl rfl, gw_at 46 rfl rfl, gw_at 655 rfl rfl, ⟨by decide, by decide⟩, by decide +kernel⟩
set_option maxRecDepth 100000 in
theorem mv_X0_bestOwner : MVok yX0_bestOwner cX0_bestOwner 6 (some .int) 3 := ⟨gw_at 577 rfl rfl, gw_at 578 rfl rfl, gw_at 52 rfl rfl, gw_at 579 rfl rfl, ⟨by decide, by decide⟩, by decide +kernel⟩
set_option maxRecDepth 100000 in
theorem mv_X0_bestSharing : MVok yX0_bestSharing cX0_bestSharing 5 (some .int) 2 := ⟨gw_at 558 rfl rfl, gw_at 8 rfl rfl, gw_at 52 rfl rfl, gw_at 559 rfl rfl, ⟨by decide, by decide⟩, by decide +kernel⟩
set_option maxRecDepth 100000 in
theorem mv_X0_bestSum : MVok yX0_bestSum cX0_bestSum 3 (some .int) 2 := ⟨gw_at 549 rfl rfl, gw_at 550 rfl rfl, gw_at 52 rfl rfl, gw_at 551 rfl rfl, ⟨by decide, by decide⟩, by decide +kernel⟩
set_option maxRecDepth 100000 in
theorem mv_X0_bestWith : MVok yX0_bestWith cX0_bestWith 4 (some .int) 1 := ⟨gw_at 569 rfl rfl, gw_at 10 rfl rfl, gw_at 52 rfl rfl, gw_at 570 rfl rfl, ⟨by decide, by decide⟩, by decide +kernel⟩
set_option maxRecDepth 100000 in
theorem ms_X0_bothGain : MSok yX0_bothGain cX0_bothGain 7 (some .boolean) 4 := ⟨gw_at 525 rfl rfl, gw_at 52 rfl rfl, gw_at 526 rfl rfl, ⟨by decide, by decide⟩, by decide +kernel⟩
set_option maxRecDepth 100000 in
theorem ms_X0_change : MSok yX0_change cX0_change 5 (some .int) 4 := ⟨gw_at 529 rfl rfl, gw_at 52 rfl rfl, gw_at 530 rfl rfl, ⟨by decide, by decide⟩, by decide +kernel⟩
set_option maxRecDepth 100000 in
theorem mv_X0_comesBack : MVok yX0_comesBack cX0_comesBack 8 (some .boolean) 3 := ⟨gw_at 605 rfl rfl, gw_at 12 rfl rfl, gw_at 52 rfl rfl, gw_at 606 rfl rfl, ⟨by decide, by decide⟩, by decide +kernel⟩
set_option maxRecDepth 100000 in
theorem ms_X0_envies : MSok yX0_envies cX0_envies 4 (some .boolean) 4 := ⟨gw_at 589 rfl rfl, gw_at 52 rfl rfl, gw_at 590 rfl rfl, ⟨by decide, by decide⟩, by decide +kernel⟩
set_option maxRecDepth 100000 in
theorem mv_X0_firstEnvy : MVok yX0_firstEnvy cX0_firstEnvy 5 (some .int) 2 := ⟨gw_at 585 rfl rfl, gw_at 586 rfl rfl, gw_at 52 rfl rfl, gw_at 587 rfl rfl, ⟨by decide, by decide⟩, by decide +kernel⟩
set_option maxRecDepth 100000 in
theorem mv_X0_firstGift : MVok yX0_firstGift cX0_firstGift 5 (some .int) 2 := ⟨gw_at 538 rfl rfl, gw_at 539 rfl rfl, gw_at 52 rfl rfl, gw_at 540 rfl rfl, ⟨by decide, by decide⟩, by decide +kernel⟩
set_option maxRecDepth 100000 in
theorem mv_X0_firstSwap : MVok yX0_firstSwap cX0_firstSwap 5 (some .int) 2 := ⟨gw_at 521 rfl rfl, gw_at 522 rfl rfl, gw_at 52 rfl rfl, gw_at 523 rfl rfl, ⟨by decide, by decide⟩, by decide +kernel⟩
set_option maxRecDepth 100000 in
theorem ms_X0_isGoodGift : MSok yX0_isGoodGift cX0_isGoodGift 7 (some .boolean) 4 := ⟨gw_at 542 rfl rfl, gw_at 52 rfl rfl, gw_at 543 rfl rfl, ⟨by decide, by decide⟩, by decide +kernel⟩
set_option maxRecDepth 100000 in
theorem ms_X0_placeOf : MSok yX0_placeOf cX0_placeOf 1 (some .int) 1 := ⟨gw_at 565 rfl rfl, gw_at 52 rfl rfl, gw_at 566 rfl rfl, ⟨by decide, by decide⟩, by decide +kernel⟩
set_option maxRecDepth 100000 in
theorem mv_X0_shortestRing : MVok yX0_shortestRing cX0_shortestRing 5 (some .int) 2 := ⟨gw_at 596 rfl rfl, gw_at 597 rfl rfl, gw_at 52 rfl rfl, gw_at 598 rfl rfl, ⟨by decide, by decide⟩, by decide +kernel⟩
set_option maxRecDepth 100000 in
theorem ms_X0_sumIn : MSok yX0_sumIn cX0_sumIn 1 (some .int) 1 := ⟨gw_at 573 rfl rfl, gw_at 52 rfl rfl, gw_at 574 rfl rfl, ⟨by decide, by decide⟩, by decide +kernel⟩
set_option maxRecDepth 100000 in
theorem mv_X0_tellEnvied : MVok yX0_tellEnvied cX0_tellEnvied 5 none 2 := ⟨gw_at 601 rfl rfl, gw_at 11 rfl rfl, gw_at 52 rfl rfl, gw_at 602 rfl rfl, ⟨by decide, by decide⟩, by decide +kernel⟩
set_option maxRecDepth 100000 in
theorem mv_X0_tellGains : MVok yX0_tellGains cX0_tellGains 7 none 3 := ⟨gw_at 562 rfl rfl, gw_at 9 rfl rfl, gw_at 52 rfl rfl, gw_at 563 rfl rfl, ⟨by decide, by decide⟩, by decide +kernel⟩
set_option maxRecDepth 100000 in
theorem mv_X1_add : MVok yX1_add cX1_add 2 none 1 := ⟨gw_at 612 rfl rfl, gw_at 613 rfl rfl, gw_at 51 rfl rfl, gw_at 614 rfl rfl, ⟨by decide, by decide⟩, by decide +kernel⟩
set_option maxRecDepth 100000 in
theorem mv_X1_canBe : MVok yX1_canBe cX1_canBe 3 (some .boolean) 1 := ⟨gw_at 624 rfl rfl, gw_at 625 rfl rfl, gw_at 51 rfl rfl, gw_at 626 rfl rfl, ⟨by decide, by decide⟩, by decide +kernel⟩
set_option maxRecDepth 100000 in
theorem mv_X1_clear : MVok yX1_clear cX1_clear 1 none 0 := ⟨gw_at 349 rfl rfl, gw_at 350 rfl rfl, gw_at 51 rfl rfl, gw_at 351 rfl rfl, ⟨by decide, by decide⟩, by decide +kernel⟩
set_option maxRecDepth 100000 in
theorem mv_X1_evenWeight : MVok yX1_evenWeight cX1_evenWeight 3 (some .long) 2 := ⟨gw_at 641 rfl rfl, gw_at 642 rfl rfl, gw_at 51 rfl rfl, gw_at 643 rfl rfl, ⟨by decide, by decide⟩, by decide +kernel⟩
set_option maxRecDepth 100000 in
theorem mv_X1_loadedWeight : MVok yX1_loadedWeight cX1_loadedWeight 3 (some .long) 2 := ⟨gw_at 629 rfl rfl, gw_at 630 rfl rfl, gw_at 51 rfl rfl, gw_at 631 rfl rfl, ⟨by decide, by decide⟩, by decide +kernel⟩
set_option maxRecDepth 100000 in
theorem ms_X1_power : MSok yX1_power cX1_power 6 (some .long) 2 := ⟨gw_at 634 rfl rfl, gw_at 51 rfl rfl, gw_at 635 rfl rfl, ⟨by decide, by decide⟩, by decide +kernel⟩
set_option maxRecDepth 100000 in
theorem mv_X2_addLiking : MVok yX2_addLiking cX2_addLiking 4 (some .boolean) 3 := ⟨gw_at 280 rfl rfl, gw_at 281 rfl rfl, gw_at 53 rfl rfl, gw_at 282 rfl rfl, ⟨by decide, by decide⟩, by decide +kernel⟩
set_option maxRecDepth 100000 in
theorem mv_X2_addPerson : MVok yX2_addPerson cX2_addPerson 2 (some .boolean) 1 := ⟨gw_at 272 rfl rfl, gw_at 273 rfl rfl, gw_at 53 rfl rfl, gw_at 274 rfl rfl, ⟨by decide, by decide⟩, by decide +kernel⟩
set_option maxRecDepth 100000 in
theorem mv_X2_addThing : MVok yX2_addThing cX2_addThing 3 (some .boolean) 2 := ⟨gw_at 276 rfl rfl, gw_at 277 rfl rfl, gw_at 53 rfl rfl, gw_at 278 rfl rfl, ⟨by decide, by decide⟩, by decide +kernel⟩
set_option maxRecDepth 100000 in
theorem mv_X2_allTickets : MVok yX2_allTickets cX2_allTickets 3 (some .int) 0 := ⟨gw_at 637 rfl rfl, gw_at 638 rfl rfl, gw_at 53 rfl rfl, gw_at 639 rfl rfl, ⟨by decide, by decide⟩, by decide +kernel⟩
set_option maxRecDepth 100000 in
theorem mv_X2_clear : MVok yX2_clear cX2_clear 1 none 0 := ⟨gw_at 249 rfl rfl, gw_at 250 rfl rfl, gw_at 53 rfl rfl, gw_at 251 rfl rfl, ⟨by decide, by decide⟩, by decide +kernel⟩
set_option maxRecDepth 100000 in
theorem mv_X2_countOf : MVok yX2_countOf cX2_countOf 5 (some .int) 2 := ⟨gw_at 376 rfl rfl, gw_at 4 rfl rfl, gw_at 53 rfl rfl, gw_at 377 rfl rfl, ⟨by decide, by decide⟩, by decide +kernel⟩
set_option maxRecDepth 100000 in
theorem mv_X2_isPerson : MVok yX2_isPerson cX2_isPerson 2 (some .boolean) 1 := ⟨gw_at 284 rfl rfl, gw_at 285 rfl rfl, gw_at 53 rfl rfl, gw_at 286 rfl rfl, ⟨by decide, by decide⟩, by decide +kernel⟩
set_option maxRecDepth 100000 in
theorem mv_X2_isThing : MVok yX2_isThing cX2_isThing 2 (some .boolean) 1 := ⟨gw_at 288 rfl rfl, gw_at 289 rfl rfl, gw_at 53 rfl rfl, gw_at 290 rfl rfl, ⟨by decide, by decide⟩, by decide +kernel⟩
set_option maxRecDepth 100000 in
theorem mv_X2_likingOf : MVok yX2_likingOf cX2_likingOf 3 (some .int) 2 := ⟨gw_at 379 rfl rfl, gw_at 380 rfl rfl, gw_at 53 rfl rfl, gw_at 381 rfl rfl, ⟨by decide, by decide⟩, by decide +kernel⟩
set_option maxRecDepth 100000 in
theorem mv_X2_ownWorth : MVok yX2_ownWorth cX2_ownWorth 4 (some .int) 3 := ⟨gw_at 384 rfl rfl, gw_at 5 rfl rfl, gw_at 53 rfl rfl, gw_at 385 rfl rfl, ⟨by decide, by decide⟩, by decide +kernel⟩
set_option maxRecDepth 100000 in
theorem mv_X2_rowsOf : MVok yX2_rowsOf cX2_rowsOf 8 (some .long) 1 := ⟨gw_at 649 rfl rfl, gw_at 650 rfl rfl, gw_at 53 rfl rfl, gw_at 651 rfl rfl, ⟨by decide, by decide⟩, by decide +kernel⟩
set_option maxRecDepth 100000 in
theorem mv_X2_worthTo : MVok yX2_worthTo cX2_worthTo 7 (some .int) 2 := ⟨gw_at 371 rfl rfl, gw_at 372 rfl rfl, gw_at 53 rfl rfl, gw_at 373 rfl rfl, ⟨by decide, by decide⟩, by decide +kernel⟩
set_option maxRecDepth 100000 in
theorem mv_X3_addTickets : MVok yX3_addTickets cX3_addTickets 3 none 2 := ⟨gw_at 441 rfl rfl, gw_at 442 rfl rfl, gw_at 48 rfl rfl, gw_at 443 rfl rfl, ⟨by decide, by decide⟩, by decide +kernel⟩
set_option maxRecDepth 100000 in
theorem mv_X3_copy : MVok yX3_copy cX3_copy 2 none 1 := ⟨gw_at 657 rfl rfl, gw_at 658 rfl rfl, gw_at 48 rfl rfl, gw_at 659 rfl rfl, ⟨by decide, by decide⟩, by decide +kernel⟩
set_option maxRecDepth 100000 in
theorem mv_X3_next : MVok yX3_next cX3_next 1 (some .int) 0 := ⟨gw_at 393 rfl rfl, gw_at 394 rfl rfl, gw_at 48 rfl rfl, gw_at 395 rfl rfl, ⟨by decide, by decide⟩, by decide +kernel⟩
set_option maxRecDepth 100000 in
theorem mv_X3_ownedSet : MVok yX3_ownedSet cX3_ownedSet 3 (some .int) 0 := ⟨gw_at 553 rfl rfl, gw_at 554 rfl rfl, gw_at 48 rfl rfl, gw_at 555 rfl rfl, ⟨by decide, by decide⟩, by decide +kernel⟩
set_option maxRecDepth 100000 in
theorem mv_X3_ownedThings : MVok yX3_ownedThings cX3_ownedThings 1 (some .int) 0 := ⟨gw_at 681 rfl rfl, gw_at 682 rfl rfl, gw_at 48 rfl rfl, gw_at 683 rfl rfl, ⟨by decide, by decide⟩, by decide +kernel⟩
set_option maxRecDepth 100000 in
theorem mv_X3_ownerOf : MVok yX3_ownerOf cX3_ownerOf 2 (some .int) 1 := ⟨gw_at 367 rfl rfl, gw_at 368 rfl rfl, gw_at 48 rfl rfl, gw_at 369 rfl rfl, ⟨by decide, by decide⟩, by decide +kernel⟩
set_option maxRecDepth 100000 in
theorem mv_X3_pass : MVok yX3_pass cX3_pass 3 none 2 := ⟨gw_at 453 rfl rfl, gw_at 454 rfl rfl, gw_at 48 rfl rfl, gw_at 455 rfl rfl, ⟨by decide, by decide⟩, by decide +kernel⟩
set_option maxRecDepth 100000 in
theorem mv_X3_putBack : MVok yX3_putBack cX3_putBack 2 none 1 := ⟨gw_at 433 rfl rfl, gw_at 434 rfl rfl, gw_at 48 rfl rfl, gw_at 435 rfl rfl, ⟨by decide, by decide⟩, by decide +kernel⟩
set_option maxRecDepth 100000 in
theorem mv_X3_refusable : MVok yX3_refusable cX3_refusable 1 (some .int) 0 := ⟨gw_at 397 rfl rfl, gw_at 398 rfl rfl, gw_at 48 rfl rfl, gw_at 399 rfl rfl, ⟨by decide, by decide⟩, by decide +kernel⟩
set_option maxRecDepth 100000 in
theorem mv_X3_setOf : MVok yX3_setOf cX3_setOf 4 (some .int) 1 := ⟨gw_at 363 rfl rfl, gw_at 364 rfl rfl, gw_at 48 rfl rfl, gw_at 365 rfl rfl, ⟨by decide, by decide⟩, by decide +kernel⟩
set_option maxRecDepth 100000 in
theorem mv_X3_start : MVok yX3_start cX3_start 3 none 1 := ⟨gw_at 296 rfl rfl, gw_at 297 rfl rfl, gw_at 48 rfl rfl, gw_at 298 rfl rfl, ⟨by decide, by decide⟩, by decide +kernel⟩
set_option maxRecDepth 100000 in
theorem mv_X3_takeNext : MVok yX3_takeNext cX3_takeNext 3 none 1 := ⟨gw_at 425 rfl rfl, gw_at 426 rfl rfl, gw_at 48 rfl rfl, gw_at 427 rfl rfl, ⟨by decide, by decide⟩, by decide +kernel⟩
set_option maxRecDepth 100000 in
theorem mv_X3_ticketHolder : MVok yX3_ticketHolder cX3_ticketHolder 4 (some .int) 1 := ⟨gw_at 410 rfl rfl, gw_at 411 rfl rfl, gw_at 48 rfl rfl, gw_at 412 rfl rfl, ⟨by decide, by decide⟩, by decide +kernel⟩
set_option maxRecDepth 100000 in
theorem mv_X3_tickets : MVok yX3_tickets cX3_tickets 3 (some .int) 0 := ⟨gw_at 476 rfl rfl, gw_at 477 rfl rfl, gw_at 48 rfl rfl, gw_at 478 rfl rfl, ⟨by decide, by decide⟩, by decide +kernel⟩
set_option maxRecDepth 100000 in
theorem mv_X3_ticketsOf : MVok yX3_ticketsOf cX3_ticketsOf 2 (some .int) 1 := ⟨gw_at 359 rfl rfl, gw_at 360 rfl rfl, gw_at 48 rfl rfl, gw_at 361 rfl rfl, ⟨by decide, by decide⟩, by decide +kernel⟩
set_option maxRecDepth 100000 in
theorem mv_X4_clear : MVok yX4_clear cX4_clear 1 none 0 := ⟨gw_at 345 rfl rfl, gw_at 346 rfl rfl, gw_at 49 rfl rfl, gw_at 347 rfl rfl, ⟨by decide, by decide⟩, by decide +kernel⟩
set_option maxRecDepth 100000 in
theorem mv_X4_isFull : MVok yX4_isFull cX4_isFull 1 (some .boolean) 0 := ⟨gw_at 418 rfl rfl, gw_at 419 rfl rfl, gw_at 49 rfl rfl, gw_at 420 rfl rfl, ⟨by decide, by decide⟩, by decide +kernel⟩
set_option maxRecDepth 100000 in
theorem mv_X4_pop : MVok yX4_pop cX4_pop 2 (some .boolean) 1 := ⟨gw_at 465 rfl rfl, gw_at 466 rfl rfl, gw_at 49 rfl rfl, gw_at 467 rfl rfl, ⟨by decide, by decide⟩, by decide +kernel⟩
set_option maxRecDepth 100000 in
theorem mv_X4_push : MVok yX4_push cX4_push 2 none 1 := ⟨gw_at 414 rfl rfl, gw_at 415 rfl rfl, gw_at 49 rfl rfl, gw_at 416 rfl rfl, ⟨by decide, by decide⟩, by decide +kernel⟩
set_option maxRecDepth 100000 in
theorem mv_X5_append : MVok yX5_append cX5_append 2 (some .boolean) 1 := ⟨gw_at 241 rfl rfl, gw_at 242 rfl rfl, gw_at 47 rfl rfl, gw_at 243 rfl rfl, ⟨by decide, by decide⟩, by decide +kernel⟩
set_option maxRecDepth 100000 in
theorem mv_X5_clear : MVok yX5_clear cX5_clear 1 none 0 := ⟨gw_at 292 rfl rfl, gw_at 293 rfl rfl, gw_at 47 rfl rfl, gw_at 294 rfl rfl, ⟨by decide, by decide⟩, by decide +kernel⟩
set_option maxRecDepth 100000 in
theorem mv_X5_isFigure : MVok yX5_isFigure cX5_isFigure 1 (some .boolean) 0 := ⟨gw_at 269 rfl rfl, gw_at 3 rfl rfl, gw_at 47 rfl rfl, gw_at 270 rfl rfl, ⟨by decide, by decide⟩, by decide +kernel⟩
set_option maxRecDepth 100000 in
theorem mv_X5_nextLetter : MVok yX5_nextLetter cX5_nextLetter 2 (some .int) 0 := ⟨gw_at 261 rfl rfl, gw_at 1 rfl rfl, gw_at 47 rfl rfl, gw_at 262 rfl rfl, ⟨by decide, by decide⟩, by decide +kernel⟩
set_option maxRecDepth 100000 in
theorem mv_X5_readNumbers : MVok yX5_readNumbers cX5_readNumbers 4 (some .boolean) 1 := ⟨gw_at 265 rfl rfl, gw_at 2 rfl rfl, gw_at 47 rfl rfl, gw_at 266 rfl rfl, ⟨by decide, by decide⟩, by decide +kernel⟩
set_option maxRecDepth 100000 in
theorem mv_X5_tell : MVok yX5_tell cX5_tell 4 (some .int) 1 := ⟨gw_at 245 rfl rfl, gw_at 246 rfl rfl, gw_at 47 rfl rfl, gw_at 247 rfl rfl, ⟨by decide, by decide⟩, by decide +kernel⟩
set_option maxRecDepth 100000 in
theorem mv_X5_tellItem : MVok yX5_tellItem cX5_tellItem 2 (some .boolean) 1 := ⟨gw_at 257 rfl rfl, gw_at 0 rfl rfl, gw_at 47 rfl rfl, gw_at 258 rfl rfl, ⟨by decide, by decide⟩, by decide +kernel⟩
set_option maxRecDepth 100000 in
theorem mv_X7_back : MVok yX7_back cX7_back 2 (some .int) 0 := ⟨gw_at 1022 rfl rfl, gw_at 1023 rfl rfl, gw_at 59 rfl rfl, gw_at 1024 rfl rfl, ⟨by decide, by decide⟩, by decide +kernel⟩
set_option maxRecDepth 100000 in
theorem mv_X7_begin : MVok yX7_begin cX7_begin 2 none 0 := ⟨gw_at 715 rfl rfl, gw_at 19 rfl rfl, gw_at 59 rfl rfl, gw_at 716 rfl rfl, ⟨by decide, by decide⟩, by decide +kernel⟩
set_option maxRecDepth 100000 in
theorem ms_X7_bitsOf : MSok yX7_bitsOf cX7_bitsOf 3 (some .int) 1 := ⟨gw_at 941 rfl rfl, gw_at 59 rfl rfl, gw_at 942 rfl rfl, ⟨by decide, by decide⟩, by decide +kernel⟩
set_option maxRecDepth 100000 in
theorem mv_X7_buy : MVok yX7_buy cX7_buy 3 (some .int) 2 := ⟨gw_at 899 rfl rfl, gw_at 900 rfl rfl, gw_at 59 rfl rfl, gw_at 901 rfl rfl, ⟨by decide, by decide⟩, by decide +kernel⟩
set_option maxRecDepth 100000 in
theorem ms_X7_common : MSok yX7_common cX7_common 10 (some .long) 2 := ⟨gw_at 933 rfl rfl, gw_at 59 rfl rfl, gw_at 934 rfl rfl, ⟨by decide, by decide⟩, by decide +kernel⟩
set_option maxRecDepth 100000 in
theorem mv_X7_count : MVok yX7_count cX7_count 2 (some .int) 1 := ⟨gw_at 1026 rfl rfl, gw_at 1027 rfl rfl, gw_at 59 rfl rfl, gw_at 1028 rfl rfl, ⟨by decide, by decide⟩, by decide +kernel⟩
set_option maxRecDepth 100000 in
theorem mv_X7_dealBy : MVok yX7_dealBy cX7_dealBy 4 none 1 := ⟨gw_at 970 rfl rfl, gw_at 41 rfl rfl, gw_at 59 rfl rfl, gw_at 971 rfl rfl, ⟨by decide, by decide⟩, by decide +kernel⟩
set_option maxRecDepth 100000 in
theorem mv_X7_draw : MVok yX7_draw cX7_draw 2 (some .int) 1 := ⟨gw_at 881 rfl rfl, gw_at 882 rfl rfl, gw_at 59 rfl rfl, gw_at 883 rfl rfl, ⟨by decide, by decide⟩, by decide +kernel⟩
set_option maxRecDepth 100000 in
theorem ms_X7_drawOn : MSok yX7_drawOn cX7_drawOn 4 (some .int) 2 := ⟨gw_at 892 rfl rfl, gw_at 59 rfl rfl, gw_at 893 rfl rfl, ⟨by decide, by decide⟩, by decide +kernel⟩
set_option maxRecDepth 100000 in
theorem mv_X7_drawn : MVok yX7_drawn cX7_drawn 4 (some .int) 2 := ⟨gw_at 927 rfl rfl, gw_at 38 rfl rfl, gw_at 59 rfl rfl, gw_at 928 rfl rfl, ⟨by decide, by decide⟩, by decide +kernel⟩
set_option maxRecDepth 100000 in
theorem mv_X7_due : MVok yX7_due cX7_due 2 none 1 := ⟨gw_at 839 rfl rfl, gw_at 31 rfl rfl, gw_at 59 rfl rfl, gw_at 840 rfl rfl, ⟨by decide, by decide⟩, by decide +kernel⟩
set_option maxRecDepth 100000 in
theorem mv_X7_envies : MVok yX7_envies cX7_envies 3 (some .boolean) 2 := ⟨gw_at 982 rfl rfl, gw_at 43 rfl rfl, gw_at 59 rfl rfl, gw_at 983 rfl rfl, ⟨by decide, by decide⟩, by decide +kernel⟩
set_option maxRecDepth 100000 in
theorem mv_X7_envy : MVok yX7_envy cX7_envy 3 (some .int) 0 := ⟨gw_at 977 rfl rfl, gw_at 978 rfl rfl, gw_at 59 rfl rfl, gw_at 979 rfl rfl, ⟨by decide, by decide⟩, by decide +kernel⟩
set_option maxRecDepth 100000 in
theorem mv_X7_fair : MVok yX7_fair cX7_fair 11 (some .long) 3 := ⟨gw_at 997 rfl rfl, gw_at 998 rfl rfl, gw_at 59 rfl rfl, gw_at 999 rfl rfl, ⟨by decide, by decide⟩, by decide +kernel⟩
set_option maxRecDepth 100000 in
theorem mv_X7_fault : MVok yX7_fault cX7_fault 1 (some .int) 0 := ⟨gw_at 806 rfl rfl, gw_at 807 rfl rfl, gw_at 59 rfl rfl, gw_at 808 rfl rfl, ⟨by decide, by decide⟩, by decide +kernel⟩
set_option maxRecDepth 100000 in
theorem mv_X7_first : MVok yX7_first cX7_first 1 none 0 := ⟨gw_at 711 rfl rfl, gw_at 18 rfl rfl, gw_at 59 rfl rfl, gw_at 712 rfl rfl, ⟨by decide, by decide⟩, by decide +kernel⟩
set_option maxRecDepth 100000 in
theorem mv_X7_forget : MVok yX7_forget cX7_forget 2 (some .int) 0 := ⟨gw_at 993 rfl rfl, gw_at 994 rfl rfl, gw_at 59 rfl rfl, gw_at 995 rfl rfl, ⟨by decide, by decide⟩, by decide +kernel⟩
set_option maxRecDepth 100000 in
theorem mv_X7_give : MVok yX7_give cX7_give 4 (some .int) 2 := ⟨gw_at 914 rfl rfl, gw_at 915 rfl rfl, gw_at 59 rfl rfl, gw_at 916 rfl rfl, ⟨by decide, by decide⟩, by decide +kernel⟩
set_option maxRecDepth 100000 in
theorem mv_X7_gives : MVok yX7_gives cX7_gives 6 (some .int) 0 := ⟨gw_at 953 rfl rfl, gw_at 954 rfl rfl, gw_at 59 rfl rfl, gw_at 955 rfl rfl, ⟨by decide, by decide⟩, by decide +kernel⟩
set_option maxRecDepth 100000 in
theorem mv_X7_hadBy : MVok yX7_hadBy cX7_hadBy 5 (some .int) 2 := ⟨gw_at 859 rfl rfl, gw_at 34 rfl rfl, gw_at 59 rfl rfl, gw_at 860 rfl rfl, ⟨by decide, by decide⟩, by decide +kernel⟩
set_option maxRecDepth 100000 in
theorem mv_X7_hand : MVok yX7_hand cX7_hand 3 (some .int) 2 := ⟨gw_at 903 rfl rfl, gw_at 904 rfl rfl, gw_at 59 rfl rfl, gw_at 905 rfl rfl, ⟨by decide, by decide⟩, by decide +kernel⟩
set_option maxRecDepth 100000 in
theorem ms_X7_has : MSok yX7_has cX7_has 2 (some .boolean) 2 := ⟨gw_at 866 rfl rfl, gw_at 59 rfl rfl, gw_at 867 rfl rfl, ⟨by decide, by decide⟩, by decide +kernel⟩
set_option maxRecDepth 100000 in
theorem ms_X7_hatOf : MSok yX7_hatOf cX7_hatOf 3 (some .int) 1 := ⟨gw_at 885 rfl rfl, gw_at 59 rfl rfl, gw_at 886 rfl rfl, ⟨by decide, by decide⟩, by decide +kernel⟩
set_option maxRecDepth 100000 in
theorem mv_X7_here : MVok yX7_here cX7_here 1 (some .int) 0 := ⟨gw_at 819 rfl rfl, gw_at 26 rfl rfl, gw_at 59 rfl rfl, gw_at 820 rfl rfl, ⟨by decide, by decide⟩, by decide +kernel⟩
set_option maxRecDepth 100000 in
theorem ms_X7_in : MSok yX7_in cX7_in 3 (some .boolean) 3 := ⟨gw_at 799 rfl rfl, gw_at 59 rfl rfl, gw_at 800 rfl rfl, ⟨by decide, by decide⟩, by decide +kernel⟩
set_option maxRecDepth 100000 in
theorem mv_X7_isFigure : MVok yX7_isFigure cX7_isFigure 1 (some .boolean) 0 := ⟨gw_at 831 rfl rfl, gw_at 29 rfl rfl, gw_at 59 rfl rfl, gw_at 832 rfl rfl, ⟨by decide, by decide⟩, by decide +kernel⟩
set_option maxRecDepth 100000 in
theorem mv_X7_isPerson : MVok yX7_isPerson cX7_isPerson 2 (some .boolean) 1 := ⟨gw_at 855 rfl rfl, gw_at 33 rfl rfl, gw_at 59 rfl rfl, gw_at 856 rfl rfl, ⟨by decide, by decide⟩, by decide +kernel⟩
set_option maxRecDepth 100000 in
theorem mv_X7_isThing : MVok yX7_isThing cX7_isThing 2 (some .boolean) 1 := ⟨gw_at 874 rfl rfl, gw_at 36 rfl rfl, gw_at 59 rfl rfl, gw_at 875 rfl rfl, ⟨by decide, by decide⟩, by decide +kernel⟩
set_option maxRecDepth 100000 in
theorem mv_X7_keep : MVok yX7_keep cX7_keep 2 (some .int) 0 := ⟨gw_at 1018 rfl rfl, gw_at 1019 rfl rfl, gw_at 59 rfl rfl, gw_at 1020 rfl rfl, ⟨by decide, by decide⟩, by decide +kernel⟩
set_option maxRecDepth 100000 in
theorem mv_X7_know : MVok yX7_know cX7_know 2 none 0 := ⟨gw_at 889 rfl rfl, gw_at 37 rfl rfl, gw_at 59 rfl rfl, gw_at 890 rfl rfl, ⟨by decide, by decide⟩, by decide +kernel⟩
set_option maxRecDepth 100000 in
theorem mv_X7_lay : MVok yX7_lay cX7_lay 1 (some .int) 0 := ⟨gw_at 846 rfl rfl, gw_at 847 rfl rfl, gw_at 59 rfl rfl, gw_at 848 rfl rfl, ⟨by decide, by decide⟩, by decide +kernel⟩
set_option maxRecDepth 100000 in
theorem mv_X7_likes : MVok yX7_likes cX7_likes 3 (some .int) 2 := ⟨gw_at 877 rfl rfl, gw_at 878 rfl rfl, gw_at 59 rfl rfl, gw_at 879 rfl rfl, ⟨by decide, by decide⟩, by decide +kernel⟩
set_option maxRecDepth 100000 in
theorem mv_X7_mean : MVok yX7_mean cX7_mean 13 (some .long) 2 := ⟨gw_at 936 rfl rfl, gw_at 937 rfl rfl, gw_at 59 rfl rfl, gw_at 938 rfl rfl, ⟨by decide, by decide⟩, by decide +kernel⟩
set_option maxRecDepth 100000 in
theorem mv_X7_needs : MVok yX7_needs cX7_needs 9 (some .int) 3 := ⟨gw_at 944 rfl rfl, gw_at 945 rfl rfl, gw_at 59 rfl rfl, gw_at 946 rfl rfl, ⟨by decide, by decide⟩, by decide +kernel⟩
set_option maxRecDepth 100000 in
theorem mv_X7_note : MVok yX7_note cX7_note 2 (some .int) 1 := ⟨gw_at 989 rfl rfl, gw_at 990 rfl rfl, gw_at 59 rfl rfl, gw_at 991 rfl rfl, ⟨by decide, by decide⟩, by decide +kernel⟩
set_option maxRecDepth 100000 in
theorem mv_X7_number : MVok yX7_number cX7_number 5 (some .int) 2 := ⟨gw_at 827 rfl rfl, gw_at 28 rfl rfl, gw_at 59 rfl rfl, gw_at 828 rfl rfl, ⟨by decide, by decide⟩, by decide +kernel⟩
set_option maxRecDepth 100000 in
theorem mv_X7_person : MVok yX7_person cX7_person 3 (some .int) 2 := ⟨gw_at 850 rfl rfl, gw_at 851 rfl rfl, gw_at 59 rfl rfl, gw_at 852 rfl rfl, ⟨by decide, by decide⟩, by decide +kernel⟩
set_option maxRecDepth 100000 in
theorem mv_X7_read : MVok yX7_read cX7_read 2 (some .int) 0 := ⟨gw_at 811 rfl rfl, gw_at 24 rfl rfl, gw_at 59 rfl rfl, gw_at 812 rfl rfl, ⟨by decide, by decide⟩, by decide +kernel⟩
set_option maxRecDepth 100000 in
theorem mv_X7_readItem : MVok yX7_readItem cX7_readItem 2 none 0 := ⟨gw_at 815 rfl rfl, gw_at 25 rfl rfl, gw_at 59 rfl rfl, gw_at 816 rfl rfl, ⟨by decide, by decide⟩, by decide +kernel⟩
set_option maxRecDepth 100000 in
theorem mv_X7_readLike : MVok yX7_readLike cX7_readLike 4 none 0 := ⟨gw_at 843 rfl rfl, gw_at 32 rfl rfl, gw_at 59 rfl rfl, gw_at 844 rfl rfl, ⟨by decide, by decide⟩, by decide +kernel⟩
set_option maxRecDepth 100000 in
theorem mv_X7_readPerson : MVok yX7_readPerson cX7_readPerson 1 none 0 := ⟨gw_at 823 rfl rfl, gw_at 27 rfl rfl, gw_at 59 rfl rfl, gw_at 824 rfl rfl, ⟨by decide, by decide⟩, by decide +kernel⟩
set_option maxRecDepth 100000 in
theorem mv_X7_readThing : MVok yX7_readThing cX7_readThing 1 none 0 := ⟨gw_at 835 rfl rfl, gw_at 30 rfl rfl, gw_at 59 rfl rfl, gw_at 836 rfl rfl, ⟨by decide, by decide⟩, by decide +kernel⟩
set_option maxRecDepth 100000 in
theorem mv_X7_refuse : MVok yX7_refuse cX7_refuse 2 (some .int) 0 := ⟨gw_at 895 rfl rfl, gw_at 896 rfl rfl, gw_at 59 rfl rfl, gw_at 897 rfl rfl, ⟨by decide, by decide⟩, by decide +kernel⟩
set_option maxRecDepth 100000 in
theorem mv_X7_ring : MVok yX7_ring cX7_ring 8 (some .int) 0 := ⟨gw_at 985 rfl rfl, gw_at 986 rfl rfl, gw_at 59 rfl rfl, gw_at 987 rfl rfl, ⟨by decide, by decide⟩, by decide +kernel⟩
set_option maxRecDepth 100000 in
theorem ms_X7_rows : MSok yX7_rows cX7_rows 5 (some .long) 2 := ⟨gw_at 930 rfl rfl, gw_at 59 rfl rfl, gw_at 931 rfl rfl, ⟨by decide, by decide⟩, by decide +kernel⟩
set_option maxRecDepth 100000 in
theorem mv_X7_seats : MVok yX7_seats cX7_seats 8 (some .long) 1 := ⟨gw_at 1003 rfl rfl, gw_at 1004 rfl rfl, gw_at 59 rfl rfl, gw_at 1005 rfl rfl, ⟨by decide, by decide⟩, by decide +kernel⟩
set_option maxRecDepth 100000 in
theorem mv_X7_share : MVok yX7_share cX7_share 7 (some .int) 1 := ⟨gw_at 957 rfl rfl, gw_at 958 rfl rfl, gw_at 59 rfl rfl, gw_at 959 rfl rfl, ⟨by decide, by decide⟩, by decide +kernel⟩
set_option maxRecDepth 100000 in
theorem mv_X7_swap : MVok yX7_swap cX7_swap 5 (some .int) 2 := ⟨gw_at 907 rfl rfl, gw_at 908 rfl rfl, gw_at 59 rfl rfl, gw_at 909 rfl rfl, ⟨by decide, by decide⟩, by decide +kernel⟩
set_option maxRecDepth 100000 in
theorem mv_X7_swaps : MVok yX7_swaps cX7_swaps 8 (some .int) 0 := ⟨gw_at 949 rfl rfl, gw_at 950 rfl rfl, gw_at 59 rfl rfl, gw_at 951 rfl rfl, ⟨by decide, by decide⟩, by decide +kernel⟩
set_option maxRecDepth 100000 in
theorem mv_X7_take : MVok yX7_take cX7_take 2 none 0 := ⟨gw_at 966 rfl rfl, gw_at 40 rfl rfl, gw_at 59 rfl rfl, gw_at 967 rfl rfl, ⟨by decide, by decide⟩, by decide +kernel⟩
set_option maxRecDepth 100000 in
theorem mv_X7_takeDraft : MVok yX7_takeDraft cX7_takeDraft 2 none 0 := ⟨gw_at 731 rfl rfl, gw_at 23 rfl rfl, gw_at 59 rfl rfl, gw_at 732 rfl rfl, ⟨by decide, by decide⟩, by decide +kernel⟩
set_option maxRecDepth 100000 in
theorem mv_X7_tellLike : MVok yX7_tellLike cX7_tellLike 4 none 3 := ⟨gw_at 727 rfl rfl, gw_at 22 rfl rfl, gw_at 59 rfl rfl, gw_at 728 rfl rfl, ⟨by decide, by decide⟩, by decide +kernel⟩
set_option maxRecDepth 100000 in
theorem mv_X7_tellPerson : MVok yX7_tellPerson cX7_tellPerson 2 none 1 := ⟨gw_at 719 rfl rfl, gw_at 20 rfl rfl, gw_at 59 rfl rfl, gw_at 720 rfl rfl, ⟨by decide, by decide⟩, by decide +kernel⟩
set_option maxRecDepth 100000 in
theorem mv_X7_tellThing : MVok yX7_tellThing cX7_tellThing 3 none 2 := ⟨gw_at 723 rfl rfl, gw_at 21 rfl rfl, gw_at 59 rfl rfl, gw_at 724 rfl rfl, ⟨by decide, by decide⟩, by decide +kernel⟩
set_option maxRecDepth 100000 in
theorem mv_X7_thing : MVok yX7_thing cX7_thing 3 (some .int) 2 := ⟨gw_at 869 rfl rfl, gw_at 870 rfl rfl, gw_at 59 rfl rfl, gw_at 871 rfl rfl, ⟨by decide, by decide⟩, by decide +kernel⟩
set_option maxRecDepth 100000 in
theorem mv_X7_thingsHad : MVok yX7_thingsHad cX7_thingsHad 4 (some .int) 1 := ⟨gw_at 962 rfl rfl, gw_at 39 rfl rfl, gw_at 59 rfl rfl, gw_at 963 rfl rfl, ⟨by decide, by decide⟩, by decide +kernel⟩
set_option maxRecDepth 100000 in
theorem ms_X7_touch : MSok yX7_touch cX7_touch 2 none 2 := ⟨gw_at 911 rfl rfl, gw_at 59 rfl rfl, gw_at 912 rfl rfl, ⟨by decide, by decide⟩, by decide +kernel⟩
set_option maxRecDepth 100000 in
theorem mv_X7_turn : MVok yX7_turn cX7_turn 6 none 1 := ⟨gw_at 1015 rfl rfl, gw_at 44 rfl rfl, gw_at 59 rfl rfl, gw_at 1016 rfl rfl, ⟨by decide, by decide⟩, by decide +kernel⟩
set_option maxRecDepth 100000 in
theorem mv_X7_undo : MVok yX7_undo cX7_undo 2 (some .int) 0 := ⟨gw_at 918 rfl rfl, gw_at 919 rfl rfl, gw_at 59 rfl rfl, gw_at 920 rfl rfl, ⟨by decide, by decide⟩, by decide +kernel⟩
set_option maxRecDepth 100000 in
theorem mv_X7_wins : MVok yX7_wins cX7_wins 12 (some .int) 3 := ⟨gw_at 922 rfl rfl, gw_at 923 rfl rfl, gw_at 59 rfl rfl, gw_at 924 rfl rfl, ⟨by decide, by decide⟩, by decide +kernel⟩
set_option maxRecDepth 100000 in
theorem mv_X7_wipe : MVok yX7_wipe cX7_wipe 2 (some .int) 0 := ⟨gw_at 802 rfl rfl, gw_at 803 rfl rfl, gw_at 59 rfl rfl, gw_at 804 rfl rfl, ⟨by decide, by decide⟩, by decide +kernel⟩
set_option maxRecDepth 100000 in
theorem mv_X7_worthOf : MVok yX7_worthOf cX7_worthOf 9 (some .int) 2 := ⟨gw_at 863 rfl rfl, gw_at 35 rfl rfl, gw_at 59 rfl rfl, gw_at 864 rfl rfl, ⟨by decide, by decide⟩, by decide +kernel⟩
set_option maxRecDepth 100000 in
theorem mv_X7_worthOfAll : MVok yX7_worthOfAll cX7_worthOfAll 4 (some .int) 1 := ⟨gw_at 974 rfl rfl, gw_at 42 rfl rfl, gw_at 59 rfl rfl, gw_at 975 rfl rfl, ⟨by decide, by decide⟩, by decide +kernel⟩
set_option maxRecDepth 100000 in
theorem mv_X7_write : MVok yX7_write cX7_write 2 (some .int) 1 := ⟨gw_at 795 rfl rfl, gw_at 796 rfl rfl, gw_at 59 rfl rfl, gw_at 797 rfl rfl, ⟨by decide, by decide⟩, by decide +kernel⟩
set_option maxRecDepth 100000 in
theorem mv_X7_year : MVok yX7_year cX7_year 7 (some .int) 3 := ⟨gw_at 1007 rfl rfl, gw_at 1008 rfl rfl, gw_at 59 rfl rfl, gw_at 1009 rfl rfl, ⟨by decide, by decide⟩, by decide +kernel⟩
set_option maxRecDepth 100000 in
theorem ms_J6_bitCount_0f7a4 : MSok yJ6_bitCount_0f7a4 cJ6_bitCount_0f7a4 1 (some .int) 1 := ⟨gw_at 506 rfl rfl, gw_at 61 rfl rfl, gw_at 507 rfl rfl, ⟨by decide, by decide⟩, by decide +kernel⟩
set_option maxRecDepth 100000 in
theorem ms_J9_max_7cf53 : MSok yJ9_max_7cf53 cJ9_max_7cf53 2 (some .int) 2 := ⟨gw_at 110 rfl rfl, gw_at 50 rfl rfl, gw_at 111 rfl rfl, ⟨by decide, by decide⟩, by decide +kernel⟩
set_option maxRecDepth 100000 in
theorem ms_J9_min_7cf53 : MSok yJ9_min_7cf53 cJ9_min_7cf53 2 (some .int) 2 := ⟨gw_at 484 rfl rfl, gw_at 50 rfl rfl, gw_at 485 rfl rfl, ⟨by decide, by decide⟩, by decide +kernel⟩
set_option maxRecDepth 100000 in
theorem mv_J0_charAt_5068e : MVok yJ0_charAt_5068e cJ0_charAt_5068e 2 (some .char) 1 := ⟨gw_at 203 rfl rfl, gw_at 204 rfl rfl, gw_at 54 rfl rfl, gw_at 205 rfl rfl, ⟨by decide, by decide⟩, by decide +kernel⟩
set_option maxRecDepth 100000 in
theorem ms_J0_checkIndex_df160 : MSok yJ0_checkIndex_df160 cJ0_checkIndex_df160 2 none 2 := ⟨gw_at 214 rfl rfl, gw_at 54 rfl rfl, gw_at 215 rfl rfl, ⟨by decide, by decide⟩, by decide +kernel⟩
set_option maxRecDepth 100000 in
theorem mv_J0_coder_7d493 : MVok yJ0_coder_7d493 cJ0_coder_7d493 1 (some .byte) 0 := ⟨gw_at 197 rfl rfl, gw_at 198 rfl rfl, gw_at 54 rfl rfl, gw_at 199 rfl rfl, ⟨by decide, by decide⟩, by decide +kernel⟩
set_option maxRecDepth 100000 in
theorem mv_J0_isLatin1_aae02 : MVok yJ0_isLatin1_aae02 cJ0_isLatin1_aae02 1 (some .boolean) 0 := ⟨gw_at 207 rfl rfl, gw_at 208 rfl rfl, gw_at 54 rfl rfl, gw_at 209 rfl rfl, ⟨by decide, by decide⟩, by decide +kernel⟩
set_option maxRecDepth 100000 in
theorem mv_J0_length_8abf5 : MVok yJ0_length_8abf5 cJ0_length_8abf5 1 (some .int) 0 := ⟨gw_at 193 rfl rfl, gw_at 194 rfl rfl, gw_at 54 rfl rfl, gw_at 195 rfl rfl, ⟨by decide, by decide⟩, by decide +kernel⟩
set_option maxRecDepth 100000 in
theorem ms_J1_charAt_3b067 : MSok yJ1_charAt_3b067 cJ1_charAt_3b067 2 (some .char) 2 := ⟨gw_at 211 rfl rfl, gw_at 55 rfl rfl, gw_at 212 rfl rfl, ⟨by decide, by decide⟩, by decide +kernel⟩
set_option maxRecDepth 100000 in
theorem ms_J2_charAt_3b067 : MSok yJ2_charAt_3b067 cJ2_charAt_3b067 2 (some .char) 2 := ⟨gw_at 222 rfl rfl, gw_at 57 rfl rfl, gw_at 223 rfl rfl, ⟨by decide, by decide⟩, by decide +kernel⟩
set_option maxRecDepth 100000 in
theorem ms_J2_checkIndex_2214a : MSok yJ2_checkIndex_2214a cJ2_checkIndex_2214a 2 none 2 := ⟨gw_at 225 rfl rfl, gw_at 57 rfl rfl, gw_at 226 rfl rfl, ⟨by decide, by decide⟩, by decide +kernel⟩
set_option maxRecDepth 100000 in
theorem ms_J2_getChar_3b067 : MSok yJ2_getChar_3b067 cJ2_getChar_3b067 2 (some .char) 2 := ⟨gw_at 232 rfl rfl, gw_at 57 rfl rfl, gw_at 233 rfl rfl, ⟨by decide, by decide⟩, by decide +kernel⟩
set_option maxRecDepth 100000 in
theorem ms_J2_length_9d52b : MSok yJ2_length_9d52b cJ2_length_9d52b 1 (some .int) 1 := ⟨gw_at 228 rfl rfl, gw_at 57 rfl rfl, gw_at 229 rfl rfl, ⟨by decide, by decide⟩, by decide +kernel⟩
set_option maxRecDepth 100000 in
theorem ms_J7_fill_53178 : MSok yJ7_fill_53178 cJ7_fill_53178 4 none 2 := ⟨gw_at 253 rfl rfl, gw_at 58 rfl rfl, gw_at 254 rfl rfl, ⟨by decide, by decide⟩, by decide +kernel⟩
set_option maxRecDepth 100000 in
theorem ms_J3_checkIndex_8e157 : MSok yJ3_checkIndex_8e157 cJ3_checkIndex_8e157 3 (some .int) 3 := ⟨gw_at 219 rfl rfl, gw_at 56 rfl rfl, gw_at 220 rfl rfl, ⟨by decide, by decide⟩, by decide +kernel⟩
set_option maxRecDepth 100000 in
theorem fl_X6_10 : FLok RX6 10 6 0 := ⟨RX6, TX6, 9, rfl, by decide, inG_X6, rfl, Or.inl (gw_at 299 rfl rfl)⟩
set_option maxRecDepth 100000 in
theorem fl_X6_19 : FLok RX6 19 6 1 := ⟨RX6, TX6, 9, rfl, by decide, inG_X6, rfl, Or.inl (gw_at 300 rfl rfl)⟩
set_option maxRecDepth 100000 in
theorem fl_X6_23 : FLok RX6 23 6 2 := ⟨RX6, TX6, 9, rfl, by decide, inG_X6, rfl, Or.inl (gw_at 301 rfl rfl)⟩
set_option maxRecDepth 100000 in
theorem fl_X6_31 : FLok RX6 31 6 3 := ⟨RX6, TX6, 9, rfl, by decide, inG_X6, rfl, Or.inl (gw_at 302 rfl rfl)⟩
set_option maxRecDepth 100000 in
theorem fl_X6_35 : FLok RX6 35 6 4 := ⟨RX6, TX6, 9, rfl, by decide, inG_X6, rfl, Or.inl (gw_at 303 rfl rfl)⟩
set_option maxRecDepth 100000 in
theorem fl_X6_41 : FLok RX6 41 6 5 := ⟨RX6, TX6, 9, rfl, by decide, inG_X6, rfl, Or.inl (gw_at 304 rfl rfl)⟩
set_option maxRecDepth 100000 in
theorem fl_X6_48 : FLok RX6 48 6 6 := ⟨RX6, TX6, 9, rfl, by decide, inG_X6, rfl, Or.inl (gw_at 305 rfl rfl)⟩
set_option maxRecDepth 100000 in
theorem fl_X6_55 : FLok RX6 55 6 7 := ⟨RX6, TX6, 9, rfl, by decide, inG_X6, rfl, Or.inl (gw_at 306 rfl rfl)⟩
set_option maxRecDepth 100000 in
theorem pf_X6_55 : PFok RX6 55 6 7 (.object "ParishRaffle$Parish") := ⟨RX6, TX6, 9, tyX6, rfl, by decide, inG_X6, rfl, gw_at 306 rfl rfl, rfl, tyX6_ok, nmX6, by decide +kernel⟩
set_option maxRecDepth 100000 in
theorem fl_X6_59 : FLok RX6 59 6 8 := ⟨RX6, TX6, 9, rfl, by decide, inG_X6, rfl, Or.inl (gw_at 307 rfl rfl)⟩
set_option maxRecDepth 100000 in
theorem pf_X6_59 : PFok RX6 59 6 8 (.object "ParishRaffle$Parish") := ⟨RX6, TX6, 9, tyX6, rfl, by decide, inG_X6, rfl, gw_at 307 rfl rfl, rfl, tyX6_ok, nmX6, by decide +kernel⟩
set_option maxRecDepth 100000 in
theorem fl_X0_11 : FLok RX0 11 0 0 := ⟨RX0, TX0, 3, rfl, by decide, inG_X0, rfl, Or.inl (gw_at 143 rfl rfl)⟩
set_option maxRecDepth 100000 in
theorem fl_X0_15 : FLok RX0 15 0 1 := ⟨RX0, TX0, 3, rfl, by decide, inG_X0, rfl, Or.inl (gw_at 144 rfl rfl)⟩
set_option maxRecDepth 100000 in
theorem fl_X0_18 : FLok RX0 18 0 2 := ⟨RX0, TX0, 3, rfl, by decide, inG_X0, rfl, Or.inl (gw_at 145 rfl rfl)⟩
set_option maxRecDepth 100000 in
theorem fl_X1_9 : FLok RX1 9 1 0 := ⟨RX1, TX1, 2, rfl, by decide, inG_X1, rfl, Or.inl (gw_at 129 rfl rfl)⟩
set_option maxRecDepth 100000 in
theorem fl_X1_15 : FLok RX1 15 1 1 := ⟨RX1, TX1, 2, rfl, by decide, inG_X1, rfl, Or.inl (gw_at 130 rfl rfl)⟩
set_option maxRecDepth 100000 in
theorem pf_X1_15 : PFok RX1 15 1 1 .int := ⟨RX1, TX1, 2, tyX1, rfl, by decide, inG_X1, rfl, gw_at 130 rfl rfl, rfl, tyX1_ok, nmX1, by decide +kernel⟩
set_option maxRecDepth 100000 in
theorem fl_X2_9 : FLok RX2 9 2 0 := ⟨RX2, TX2, 7, rfl, by decide, inG_X2, rfl, Or.inl (gw_at 159 rfl rfl)⟩
set_option maxRecDepth 100000 in
theorem fl_X2_15 : FLok RX2 15 2 1 := ⟨RX2, TX2, 7, rfl, by decide, inG_X2, rfl, Or.inl (gw_at 163 rfl rfl)⟩
set_option maxRecDepth 100000 in
theorem fl_X2_18 : FLok RX2 18 2 2 := ⟨RX2, TX2, 7, rfl, by decide, inG_X2, rfl, Or.inl (gw_at 165 rfl rfl)⟩
set_option maxRecDepth 100000 in
theorem fl_X2_21 : FLok RX2 21 2 3 := ⟨RX2, TX2, 7, rfl, by decide, inG_X2, rfl, Or.inl (gw_at 167 rfl rfl)⟩
set_option maxRecDepth 100000 in
theorem fl_X2_24 : FLok RX2 24 2 4 := ⟨RX2, TX2, 7, rfl, by decide, inG_X2, rfl, Or.inl (gw_at 168 rfl rfl)⟩
set_option maxRecDepth 100000 in
theorem fl_X2_28 : FLok RX2 28 2 5 := ⟨RX2, TX2, 7, rfl, by decide, inG_X2, rfl, Or.inl (gw_at 169 rfl rfl)⟩
set_option maxRecDepth 100000 in
theorem pf_X2_28 : PFok RX2 28 2 5 .int := ⟨RX2, TX2, 7, tyX2, rfl, by decide, inG_X2, rfl, gw_at 169 rfl rfl, rfl, tyX2_ok, nmX2, by decide +kernel⟩
set_option maxRecDepth 100000 in
theorem fl_X2_32 : FLok RX2 32 2 6 := ⟨RX2, TX2, 7, rfl, by decide, inG_X2, rfl, Or.inl (gw_at 173 rfl rfl)⟩
set_option maxRecDepth 100000 in
theorem pf_X2_32 : PFok RX2 32 2 6 .int := ⟨RX2, TX2, 7, tyX2, rfl, by decide, inG_X2, rfl, gw_at 173 rfl rfl, rfl, tyX2_ok, nmX2, by decide +kernel⟩
set_option maxRecDepth 100000 in
theorem fl_X3_11 : FLok RX3 11 3 0 := ⟨RX3, TX3, 1, rfl, by decide, inG_X3, rfl, Or.inl (gw_at 98 rfl rfl)⟩
set_option maxRecDepth 100000 in
theorem fl_X4_13 : FLok RX4 13 4 1 := ⟨RX4, TX4, 3, rfl, by decide, inG_X4, rfl, Or.inl (gw_at 113 rfl rfl)⟩
set_option maxRecDepth 100000 in
theorem fl_X4_21 : FLok RX4 21 4 0 := ⟨RX4, TX4, 3, rfl, by decide, inG_X4, rfl, Or.inl (gw_at 112 rfl rfl)⟩
set_option maxRecDepth 100000 in
theorem fl_X4_25 : FLok RX4 25 4 2 := ⟨RX4, TX4, 3, rfl, by decide, inG_X4, rfl, Or.inl (gw_at 114 rfl rfl)⟩
set_option maxRecDepth 100000 in
theorem pf_X4_25 : PFok RX4 25 4 2 .int := ⟨RX4, TX4, 3, tyX4, rfl, by decide, inG_X4, rfl, gw_at 114 rfl rfl, rfl, tyX4_ok, nmX4, by decide +kernel⟩
set_option maxRecDepth 100000 in
theorem fl_X5_9 : FLok RX5 9 5 0 := ⟨RX5, TX5, 4, rfl, by decide, inG_X5, rfl, Or.inl (gw_at 76 rfl rfl)⟩
set_option maxRecDepth 100000 in
theorem fl_X5_15 : FLok RX5 15 5 1 := ⟨RX5, TX5, 4, rfl, by decide, inG_X5, rfl, Or.inl (gw_at 77 rfl rfl)⟩
set_option maxRecDepth 100000 in
theorem fl_X5_19 : FLok RX5 19 5 2 := ⟨RX5, TX5, 4, rfl, by decide, inG_X5, rfl, Or.inl (gw_at 78 rfl rfl)⟩
set_option maxRecDepth 100000 in
theorem pf_X5_19 : PFok RX5 19 5 2 .int := ⟨RX5, TX5, 4, tyX5, rfl, by decide, inG_X5, rfl, gw_at 78 rfl rfl, rfl, tyX5_ok, nmX5, by decide +kernel⟩
set_option maxRecDepth 100000 in
theorem fl_X5_28 : FLok RX5 28 5 3 := ⟨RX5, TX5, 4, rfl, by decide, inG_X5, rfl, Or.inl (gw_at 80 rfl rfl)⟩
set_option maxRecDepth 100000 in
theorem pf_X5_28 : PFok RX5 28 5 3 .int := ⟨RX5, TX5, 4, tyX5, rfl, by decide, inG_X5, rfl, gw_at 80 rfl rfl, rfl, tyX5_ok, nmX5, by decide +kernel⟩
set_option maxRecDepth 100000 in
theorem fl_X7_7 : FLok RX7 7 7 0 := ⟨RX7, TX7, 20, rfl, by decide, inG_X7, rfl, Or.inl (gw_at 733 rfl rfl)⟩
set_option maxRecDepth 100000 in
theorem fl_X7_13 : FLok RX7 13 7 2 := ⟨RX7, TX7, 20, rfl, by decide, inG_X7, rfl, Or.inl (gw_at 735 rfl rfl)⟩
set_option maxRecDepth 100000 in
theorem fl_X7_17 : FLok RX7 17 7 3 := ⟨RX7, TX7, 20, rfl, by decide, inG_X7, rfl, Or.inl (gw_at 736 rfl rfl)⟩
set_option maxRecDepth 100000 in
theorem fl_X7_20 : FLok RX7 20 7 4 := ⟨RX7, TX7, 20, rfl, by decide, inG_X7, rfl, Or.inl (gw_at 737 rfl rfl)⟩
set_option maxRecDepth 100000 in
theorem fl_X7_23 : FLok RX7 23 7 5 := ⟨RX7, TX7, 20, rfl, by decide, inG_X7, rfl, Or.inl (gw_at 738 rfl rfl)⟩
set_option maxRecDepth 100000 in
theorem fl_X7_26 : FLok RX7 26 7 6 := ⟨RX7, TX7, 20, rfl, by decide, inG_X7, rfl, Or.inl (gw_at 739 rfl rfl)⟩
set_option maxRecDepth 100000 in
theorem fl_X7_29 : FLok RX7 29 7 7 := ⟨RX7, TX7, 20, rfl, by decide, inG_X7, rfl, Or.inl (gw_at 740 rfl rfl)⟩
set_option maxRecDepth 100000 in
theorem fl_X7_32 : FLok RX7 32 7 10 := ⟨RX7, TX7, 20, rfl, by decide, inG_X7, rfl, Or.inl (gw_at 743 rfl rfl)⟩
set_option maxRecDepth 100000 in
theorem fl_X7_35 : FLok RX7 35 7 11 := ⟨RX7, TX7, 20, rfl, by decide, inG_X7, rfl, Or.inl (gw_at 744 rfl rfl)⟩
set_option maxRecDepth 100000 in
theorem fl_X7_38 : FLok RX7 38 7 13 := ⟨RX7, TX7, 20, rfl, by decide, inG_X7, rfl, Or.inl (gw_at 746 rfl rfl)⟩
set_option maxRecDepth 100000 in
theorem fl_X7_41 : FLok RX7 41 7 15 := ⟨RX7, TX7, 20, rfl, by decide, inG_X7, rfl, Or.inl (gw_at 748 rfl rfl)⟩
set_option maxRecDepth 100000 in
theorem fl_X7_44 : FLok RX7 44 7 16 := ⟨RX7, TX7, 20, rfl, by decide, inG_X7, rfl, Or.inl (gw_at 749 rfl rfl)⟩
set_option maxRecDepth 100000 in
theorem fl_X7_47 : FLok RX7 47 7 18 := ⟨RX7, TX7, 20, rfl, by decide, inG_X7, rfl, Or.inl (gw_at 751 rfl rfl)⟩
set_option maxRecDepth 100000 in
theorem fl_X7_51 : FLok RX7 51 7 19 := ⟨RX7, TX7, 20, rfl, by decide, inG_X7, rfl, Or.inl (gw_at 752 rfl rfl)⟩
set_option maxRecDepth 100000 in
theorem fl_X7_64 : FLok RX7 64 7 1 := ⟨RX7, TX7, 20, rfl, by decide, inG_X7, rfl, Or.inl (gw_at 734 rfl rfl)⟩
set_option maxRecDepth 100000 in
theorem pf_X7_64 : PFok RX7 64 7 1 .int := ⟨RX7, TX7, 20, tyX7, rfl, by decide, inG_X7, rfl, gw_at 734 rfl rfl, rfl, tyX7_ok, nmX7, by decide +kernel⟩
set_option maxRecDepth 100000 in
theorem fl_X7_68 : FLok RX7 68 7 8 := ⟨RX7, TX7, 20, rfl, by decide, inG_X7, rfl, Or.inl (gw_at 741 rfl rfl)⟩
set_option maxRecDepth 100000 in
theorem pf_X7_68 : PFok RX7 68 7 8 .int := ⟨RX7, TX7, 20, tyX7, rfl, by decide, inG_X7, rfl, gw_at 741 rfl rfl, rfl, tyX7_ok, nmX7, by decide +kernel⟩
set_option maxRecDepth 100000 in
theorem fl_X7_75 : FLok RX7 75 7 9 := ⟨RX7, TX7, 20, rfl, by decide, inG_X7, rfl, Or.inl (gw_at 742 rfl rfl)⟩
set_option maxRecDepth 100000 in
theorem pf_X7_75 : PFok RX7 75 7 9 .boolean := ⟨RX7, TX7, 20, tyX7, rfl, by decide, inG_X7, rfl, gw_at 742 rfl rfl, rfl, tyX7_ok, nmX7, by decide +kernel⟩
set_option maxRecDepth 100000 in
theorem fl_X7_120 : FLok RX7 120 7 12 := ⟨RX7, TX7, 20, rfl, by decide, inG_X7, rfl, Or.inl (gw_at 745 rfl rfl)⟩
set_option maxRecDepth 100000 in
theorem pf_X7_120 : PFok RX7 120 7 12 .int := ⟨RX7, TX7, 20, tyX7, rfl, by decide, inG_X7, rfl, gw_at 745 rfl rfl, rfl, tyX7_ok, nmX7, by decide +kernel⟩
set_option maxRecDepth 100000 in
theorem fl_X7_123 : FLok RX7 123 7 14 := ⟨RX7, TX7, 20, rfl, by decide, inG_X7, rfl, Or.inl (gw_at 747 rfl rfl)⟩
set_option maxRecDepth 100000 in
theorem pf_X7_123 : PFok RX7 123 7 14 .int := ⟨RX7, TX7, 20, tyX7, rfl, by decide, inG_X7, rfl, gw_at 747 rfl rfl, rfl, tyX7_ok, nmX7, by decide +kernel⟩
set_option maxRecDepth 100000 in
theorem fl_X7_126 : FLok RX7 126 7 17 := ⟨RX7, TX7, 20, rfl, by decide, inG_X7, rfl, Or.inl (gw_at 750 rfl rfl)⟩
set_option maxRecDepth 100000 in
theorem pf_X7_126 : PFok RX7 126 7 17 .int := ⟨RX7, TX7, 20, tyX7, rfl, by decide, inG_X7, rfl, gw_at 750 rfl rfl, rfl, tyX7_ok, nmX7, by decide +kernel⟩
set_option maxRecDepth 100000 in
theorem fl_X6_89 : FLok RX6 89 5 2 := ⟨RX5, TX5, 4, rfl, by decide, inG_X5, rfl, Or.inr ⟨"ParishRaffle", List.mem_of_getElem? (i := 0) rfl⟩⟩
set_option maxRecDepth 100000 in
theorem fl_X4_38 : FLok RX4 38 3 0 := ⟨RX3, TX3, 1, rfl, by decide, inG_X3, rfl, Or.inr ⟨"ParishRaffle", List.mem_of_getElem? (i := 1) rfl⟩⟩
set_option maxRecDepth 100000 in
theorem fl_X6_164 : FLok RX6 164 4 2 := ⟨RX4, TX4, 3, rfl, by decide, inG_X4, rfl, Or.inr ⟨"ParishRaffle", List.mem_of_getElem? (i := 2) rfl⟩⟩
set_option maxRecDepth 100000 in
theorem fl_X6_213 : FLok RX6 213 1 1 := ⟨RX1, TX1, 2, rfl, by decide, inG_X1, rfl, Or.inr ⟨"ParishRaffle", List.mem_of_getElem? (i := 3) rfl⟩⟩
set_option maxRecDepth 100000 in
theorem fl_X3_15 : FLok RX3 15 2 0 := ⟨RX2, TX2, 7, rfl, by decide, inG_X2, rfl, Or.inr ⟨"ParishRaffle", List.mem_of_getElem? (i := 4) rfl⟩⟩
set_option maxRecDepth 100000 in
theorem fl_X1_25 : FLok RX1 25 2 0 := ⟨RX2, TX2, 7, rfl, by decide, inG_X2, rfl, Or.inr ⟨"ParishRaffle", List.mem_of_getElem? (i := 5) rfl⟩⟩
set_option maxRecDepth 100000 in
theorem fl_X6_105 : FLok RX6 105 2 0 := ⟨RX2, TX2, 7, rfl, by decide, inG_X2, rfl, Or.inr ⟨"ParishRaffle", List.mem_of_getElem? (i := 6) rfl⟩⟩
set_option maxRecDepth 100000 in
theorem fl_X6_119 : FLok RX6 119 2 1 := ⟨RX2, TX2, 7, rfl, by decide, inG_X2, rfl, Or.inr ⟨"ParishRaffle", List.mem_of_getElem? (i := 7) rfl⟩⟩
set_option maxRecDepth 100000 in
theorem fl_X6_122 : FLok RX6 122 2 2 := ⟨RX2, TX2, 7, rfl, by decide, inG_X2, rfl, Or.inr ⟨"ParishRaffle", List.mem_of_getElem? (i := 8) rfl⟩⟩
set_option maxRecDepth 100000 in
theorem fl_X0_48 : FLok RX0 48 2 5 := ⟨RX2, TX2, 7, rfl, by decide, inG_X2, rfl, Or.inr ⟨"ParishRaffle", List.mem_of_getElem? (i := 9) rfl⟩⟩
set_option maxRecDepth 100000 in
theorem fl_X6_92 : FLok RX6 92 2 5 := ⟨RX2, TX2, 7, rfl, by decide, inG_X2, rfl, Or.inr ⟨"ParishRaffle", List.mem_of_getElem? (i := 10) rfl⟩⟩
set_option maxRecDepth 100000 in
theorem fl_X0_21 : FLok RX0 21 2 6 := ⟨RX2, TX2, 7, rfl, by decide, inG_X2, rfl, Or.inr ⟨"ParishRaffle", List.mem_of_getElem? (i := 11) rfl⟩⟩
set_option maxRecDepth 100000 in
theorem fl_X6_140 : FLok RX6 140 2 6 := ⟨RX2, TX2, 7, rfl, by decide, inG_X2, rfl, Or.inr ⟨"ParishRaffle", List.mem_of_getElem? (i := 12) rfl⟩⟩
set_option maxRecDepth 100000 in
theorem kc_X0_80 : Cond.constant RX0 80 (262144) ∈ gw := gw_at 575 rfl rfl
set_option maxRecDepth 100000 in
theorem kc_J6_265 : Cond.constant RJ6 265 (1431655765) ∈ gw := gw_at 508 rfl rfl
set_option maxRecDepth 100000 in
theorem kc_J6_266 : Cond.constant RJ6 266 (858993459) ∈ gw := gw_at 509 rfl rfl
set_option maxRecDepth 100000 in
theorem kc_J6_267 : Cond.constant RJ6 267 (252645135) ∈ gw := gw_at 510 rfl rfl
set_option maxRecDepth 100000 in
theorem kl_X6_183 : Cond.constantLong RX6 183 (-1) ∈ gw := gw_at 499 rfl rfl
set_option maxRecDepth 100000 in
theorem kl_X6_185 : Cond.constantLong RX6 185 (1000) ∈ gw := gw_at 500 rfl rfl
set_option maxRecDepth 100000 in
theorem kl_X6_191 : Cond.constantLong RX6 191 (10) ∈ gw := gw_at 515 rfl rfl
set_option maxRecDepth 100000 in
theorem kl_X6_221 : Cond.constantLong RX6 221 (-4) ∈ gw := gw_at 627 rfl rfl
set_option maxRecDepth 100000 in
theorem kl_X6_237 : Cond.constantLong RX6 237 (7919) ∈ gw := gw_at 661 rfl rfl
set_option maxRecDepth 100000 in
theorem kl_X6_239 : Cond.constantLong RX6 239 (6151) ∈ gw := gw_at 662 rfl rfl
set_option maxRecDepth 100000 in
theorem kl_X6_241 : Cond.constantLong RX6 241 (65521) ∈ gw := gw_at 663 rfl rfl
set_option maxRecDepth 100000 in
theorem kl_X1_30 : Cond.constantLong RX1 30 (2) ∈ gw := gw_at 632 rfl rfl
set_option maxRecDepth 100000 in
theorem kl_X7_172 : Cond.constantLong RX7 172 (-1) ∈ gw := gw_at 939 rfl rfl
set_option maxRecDepth 100000 in
theorem kl_X7_178 : Cond.constantLong RX7 178 (10) ∈ gw := gw_at 947 rfl rfl
set_option maxRecDepth 100000 in
theorem kl_X7_195 : Cond.constantLong RX7 195 (-4) ∈ gw := gw_at 1000 rfl rfl
set_option maxRecDepth 100000 in
theorem kl_X7_197 : Cond.constantLong RX7 197 (2) ∈ gw := gw_at 1001 rfl rfl
set_option maxRecDepth 100000 in
theorem kl_X7_199 : Cond.constantLong RX7 199 (7919) ∈ gw := gw_at 1010 rfl rfl
set_option maxRecDepth 100000 in
theorem kl_X7_201 : Cond.constantLong RX7 201 (6151) ∈ gw := gw_at 1011 rfl rfl
set_option maxRecDepth 100000 in
theorem kl_X7_203 : Cond.constantLong RX7 203 (65521) ∈ gw := gw_at 1012 rfl rfl
set_option maxRecDepth 100000 in
theorem rmk {rmy : Room} {mLy : Nat} {rm : Room} (h : (Nat.beq rmy.cells 0 && Nat.beq rmy.slots 0 && Nat.ble (rmy.frames + 1) rm.frames && Nat.ble (8 + (mLy + 11) + rmy.locals) rm.locals) = true) : RMok rmy mLy rm := by
  simp only [Bool.and_eq_true] at h
  exact ⟨Nat.eq_of_beq_eq_true h.1.1.1, Nat.eq_of_beq_eq_true h.1.1.2, Nat.le_of_ble_eq_true h.1.2, Nat.le_of_ble_eq_true h.2⟩
theorem gSub2 {X : MC} {nL : Nat} {ad : Nat → Nat} {cu su pc : Nat} {lv lv' : List (Nat × Value)} {st : List Value} {w : List va_E} (kk : Go X nL ad cu su pc lv' st w) (hs : subL lv' lv) : Go X nL ad cu su pc lv st w := gSub hs kk
end
section
/-! Math.max, Math.min, System.arraycopy in the light judgement -/
/-- the copy is in range -/
def cpOK (sp dp n : Int32) (n0 n1 : Nat) : Prop := ¬ sp < 0 ∧ ¬ dp < 0 ∧ ¬ n < 0 ∧ sp.toNatClampNeg + n.toNatClampNeg ≤ n0 ∧ dp.toNatClampNeg + n.toNatClampNeg ≤ n1
/-- a boolean answer, a boolean field -/
def zb (r : Int32) : Prop := narrow .boolean (.int r) = .int r
def zf (r : Int32) : Prop := narrow .boolean (.int r) = .int r ∧ fits .boolean (.int r) = true
theorem zb_if (c : Prop) [Decidable c] : zb (if c then 1 else 0) := by by_cases h : c <;> simp [h, zb] <;> rfl
theorem zf_if (c : Prop) [Decidable c] : zf (if c then 1 else 0) := by by_cases h : c <;> simp [h, zf] <;> exact ⟨rfl, rfl⟩
section GoMore
variable {X : MC} {l : Launch} {D : va_G} {g : Nat → ClassId} {rm : Room} {cc : ByteArray} {nL : Nat} {own : String} {ad : Nat → Nat} {cu su pc : Nat} {lv : List (Nat × Value)} {st : List Value} {w : List va_E}
set_option maxRecDepth 100000 in
theorem gMax (hC : Cx X l D g rm cc nL own) {x y : Int32} {ix : Nat} (hd : decode cc pc = .ok (.invokestatic ix, 3)) (hlk : Cond.methodLink own ix yJ9_max_7cf53 ∈ gw) (hrm : 1 ≤ rm.frames ∧ (st.map fun v => v.category).sum + 13 ≤ rm.locals) (hcu : cu ≤ rm.cells ∧ su ≤ rm.slots) (kk : Go X nL ad cu su (pc + 3) lv (.int (if x < y then y else x) :: st) w) : Go X nL ad cu su pc lv (.int y :: .int x :: st) w := fun H locs ls hP hD hS hl => by
  have hRR : xR X = rm := hC.2.2.2.2.2.2.2.2.2
  exact va_mmax hC.1 hC.2.1 (hC.2.2.1.trans hl.1.symm) hC.2.2.2.1 (hC.2.2.2.2.1 _ hlk) (hC.2.2.2.2.1 _ ms_J9_max_7cf53.1) (hC.2.2.2.2.1 _ ms_J9_max_7cf53.2.1) (hC.2.2.2.2.1 _ ms_J9_max_7cf53.2.2.1) (by rw [hRR]; exact hrm.1) (by show ((cst ad st).map fun v => v.category).sum + 13 ≤ _; rw [cat_cst, hRR]; exact hrm.2) (by rw [hRR]; exact hcu.1) (by rw [hRR]; exact hcu.2) hd (kk H locs ls hP hD hS hl)
set_option maxRecDepth 100000 in
theorem gMin (hC : Cx X l D g rm cc nL own) {x y : Int32} {ix : Nat} (hd : decode cc pc = .ok (.invokestatic ix, 3)) (hlk : Cond.methodLink own ix yJ9_min_7cf53 ∈ gw) (hrm : 1 ≤ rm.frames ∧ (st.map fun v => v.category).sum + 13 ≤ rm.locals) (hcu : cu ≤ rm.cells ∧ su ≤ rm.slots) (kk : Go X nL ad cu su (pc + 3) lv (.int (if y < x then y else x) :: st) w) : Go X nL ad cu su pc lv (.int y :: .int x :: st) w := fun H locs ls hP hD hS hl => by
  have hRR : xR X = rm := hC.2.2.2.2.2.2.2.2.2
  exact va_mmin hC.1 hC.2.1 (hC.2.2.1.trans hl.1.symm) hC.2.2.2.1 (hC.2.2.2.2.1 _ hlk) (hC.2.2.2.2.1 _ ms_J9_min_7cf53.1) (hC.2.2.2.2.1 _ ms_J9_min_7cf53.2.1) (hC.2.2.2.2.1 _ ms_J9_min_7cf53.2.2.1) (by rw [hRR]; exact hrm.1) (by show ((cst ad st).map fun v => v.category).sum + 13 ≤ _; rw [cat_cst, hRR]; exact hrm.2) (by rw [hRR]; exact hcu.1) (by rw [hRR]; exact hcu.2) hd (kk H locs ls hP hD hS hl)
set_option maxRecDepth 100000 in
theorem cpN : Cond.native arraycopyName ∈ gw := gw_at 423 rfl rfl
set_option maxRecDepth 100000 in
theorem cpS : Cond.static arraycopyName ∈ gw := gw_at 422 rfl rfl
set_option maxRecDepth 100000 in
theorem cpI : Cond.initialized "java/lang/System" ∈ gw := gw_at 60 rfl rfl
set_option maxRecDepth 100000 in
theorem ml_cp_X4 : Cond.methodLink RX4 32 arraycopyName ∈ gw := gw_at 421 rfl rfl
set_option maxRecDepth 100000 in
theorem ml_cp_X3 : Cond.methodLink RX3 20 arraycopyName ∈ gw := gw_at 660 rfl rfl
theorem gCopy (hC : Cx X l D g rm cc nL own) {sp dp n : Int32} {ix q0 q1 n0 n1 : Nat} {f h : Nat → Int32} (hd : decode cc pc = .ok (.invokestatic ix, 3)) (hlk : Cond.methodLink own ix arraycopyName ∈ gw) (hw0 : w[q0]? = some (.inl (g 0, n0, .inl f))) (hw1 : w[q1]? = some (.inl (g 0, n1, .inl h))) (hok : cpOK sp dp n n0 n1) (hrm : 1 ≤ rm.frames ∧ (st.map fun v => v.category).sum + (nativeFrameWords "java/lang/System" "arraycopy" 5 + 11) ≤ rm.locals)
    (kk : Go X nL ad cu su (pc + 3) lv st (w.set q1 (.inl (g 0, n1, .inl (va_cpy f h sp.toNatClampNeg dp.toNatClampNeg n.toNatClampNeg))))) : Go X nL ad cu su pc lv (.int n :: .int dp :: .ref q1 :: .int sp :: .ref q0 :: st) w := fun H locs ls hP hD hS hl => by
  have hRR : xR X = rm := hC.2.2.2.2.2.2.2.2.2
  obtain ⟨c1, c2, c3, c4, c5⟩ := hok
  refine va_copyi hC.1 hC.2.1 (hC.2.2.1.trans hl.1.symm) hC.2.2.2.1 (hC.2.2.2.2.1 _ hlk) (hC.2.2.2.2.1 _ cpN) (hC.2.2.2.2.1 _ cpS) (hC.2.2.2.2.1 _ cpI) (by rw [hC.2.2.2.2.2.2.2.2.1]; exact hC.2.2.2.2.2.1.1 : va_K (xD X) vwCl (tysG g) (xs X)) hP hD hS q0 q1 0 0 (cw_at hw0) (cw_at hw1) rfl rfl rfl c1 c2 c3 c4 c5 (fun _ _ => rfl) (by rw [hRR]; exact hrm.1) (by show ((cst ad st).map fun v => v.category).sum + _ ≤ _; rw [cat_cst, hRR]; exact hrm.2) hd (fun H1 locs1 hP1 hD1 hS1 => ?_)
  have e := cw_set ad w q1 (.inl (g 0, n1, .inl (va_cpy f h sp.toNatClampNeg dp.toNatClampNeg n.toNatClampNeg)))
  exact kk H1 locs1 ls (by rw [e]; exact hP1) (by rw [e]; exact hD1) hS1 hl
end GoMore
end
