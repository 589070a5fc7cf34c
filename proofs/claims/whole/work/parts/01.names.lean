-- ===== PART A: goes FIRST, ahead of the names: the tables' words, and 'selects' of the private methods out of them =====
theorem q1_in : ∀ w ∈ tables_1_1, w ∈ tables_1 := fun _ h => List.mem_append_left _ h
theorem q2_in : ∀ w ∈ tables_1_2, w ∈ tables_1 := fun _ h => List.mem_append_right _ (List.mem_append_left _ h)
theorem q3_in : ∀ w ∈ tables_1_3, w ∈ tables_1 := fun _ h => List.mem_append_right _ (List.mem_append_right _ (List.mem_append_left _ h))
theorem q4_in : ∀ w ∈ tables_1_4, w ∈ tables_1 := fun _ h => List.mem_append_right _ (List.mem_append_right _ (List.mem_append_right _ (List.mem_append_left _ h)))
theorem q5_in : ∀ w ∈ tables_1_5, w ∈ tables_1 := fun _ h => List.mem_append_right _ (List.mem_append_right _ (List.mem_append_right _ (List.mem_append_right _ h)))
/-- a private method of a class that the tables say can be made, by its rows of tables_1 -/
def lw_okq (q : MethodName × Nat) : Prop := (q.1.cls ≠ "java/lang/invoke/MethodHandle" ∧ q.1.cls ≠ "java/lang/invoke/VarHandle") ∧ Cond.instantiable q.1.cls q.2 ∈ tables_1 ∧ Cond.privateMethod q.1 ∈ tables_1 ∧ Cond.instanceMethod q.1 ∈ tables_1
theorem lw_p0 : lw_okq (⟨"FlotsamWill$Sea", "empty", "()V"⟩, 7) := ⟨⟨by decide +kernel, by decide +kernel⟩, q1_in _ (List.mem_of_getElem? (i := 60) rfl), q1_in _ (List.mem_of_getElem? (i := 66) rfl), q1_in _ (List.mem_of_getElem? (i := 67) rfl)⟩
theorem lw_p1 : lw_okq (⟨"FlotsamWill$Tape", "add", "(I)Z"⟩, 6) := ⟨⟨by decide +kernel, by decide +kernel⟩, q1_in _ (List.mem_of_getElem? (i := 30) rfl), q2_in _ (List.mem_of_getElem? (i := 4) rfl), q2_in _ (List.mem_of_getElem? (i := 5) rfl)⟩
theorem lw_p2 : lw_okq (⟨"FlotsamWill$Reader", "readAll", "()I"⟩, 7) := ⟨⟨by decide +kernel, by decide +kernel⟩, q1_in _ (List.mem_of_getElem? (i := 24) rfl), q2_in _ (List.mem_of_getElem? (i := 16) rfl), q2_in _ (List.mem_of_getElem? (i := 17) rfl)⟩
theorem lw_p3 : lw_okq (⟨"FlotsamWill$Tape", "rewind", "()V"⟩, 6) := ⟨⟨by decide +kernel, by decide +kernel⟩, q1_in _ (List.mem_of_getElem? (i := 30) rfl), q2_in _ (List.mem_of_getElem? (i := 21) rfl), q2_in _ (List.mem_of_getElem? (i := 22) rfl)⟩
theorem lw_p4 : lw_okq (⟨"FlotsamWill$Tape", "take", "()V"⟩, 6) := ⟨⟨by decide +kernel, by decide +kernel⟩, q1_in _ (List.mem_of_getElem? (i := 30) rfl), q2_in _ (List.mem_of_getElem? (i := 25) rfl), q2_in _ (List.mem_of_getElem? (i := 26) rfl)⟩
theorem lw_p5 : lw_okq (⟨"FlotsamWill$Tape", "weighNumber", "()V"⟩, 6) := ⟨⟨by decide +kernel, by decide +kernel⟩, q1_in _ (List.mem_of_getElem? (i := 30) rfl), q2_in _ (List.mem_of_getElem? (i := 32) rfl), q2_in _ (List.mem_of_getElem? (i := 33) rfl)⟩
theorem lw_p6 : lw_okq (⟨"FlotsamWill$Reader", "readLine", "()V"⟩, 7) := ⟨⟨by decide +kernel, by decide +kernel⟩, q1_in _ (List.mem_of_getElem? (i := 24) rfl), q2_in _ (List.mem_of_getElem? (i := 36) rfl), q2_in _ (List.mem_of_getElem? (i := 37) rfl)⟩
theorem lw_p7 : lw_okq (⟨"FlotsamWill$Tape", "isWord", "(Ljava/lang/String;)Z"⟩, 6) := ⟨⟨by decide +kernel, by decide +kernel⟩, q1_in _ (List.mem_of_getElem? (i := 30) rfl), q2_in _ (List.mem_of_getElem? (i := 41) rfl), q2_in _ (List.mem_of_getElem? (i := 42) rfl)⟩
theorem lw_p8 : lw_okq (⟨"FlotsamWill$Reader", "readTub", "(I)V"⟩, 7) := ⟨⟨by decide +kernel, by decide +kernel⟩, q1_in _ (List.mem_of_getElem? (i := 24) rfl), q2_in _ (List.mem_of_getElem? (i := 93) rfl), q2_in _ (List.mem_of_getElem? (i := 94) rfl)⟩
theorem lw_p9 : lw_okq (⟨"FlotsamWill$Reader", "fail", "(I)V"⟩, 7) := ⟨⟨by decide +kernel, by decide +kernel⟩, q1_in _ (List.mem_of_getElem? (i := 24) rfl), q2_in _ (List.mem_of_getElem? (i := 97) rfl), q2_in _ (List.mem_of_getElem? (i := 98) rfl)⟩
theorem lw_p10 : lw_okq (⟨"FlotsamWill$Sea", "putTub", "(III)V"⟩, 7) := ⟨⟨by decide +kernel, by decide +kernel⟩, q1_in _ (List.mem_of_getElem? (i := 60) rfl), q2_in _ (List.mem_of_getElem? (i := 101) rfl), q2_in _ (List.mem_of_getElem? (i := 102) rfl)⟩
theorem lw_p11 : lw_okq (⟨"FlotsamWill$Reader", "readNumber", "(II)I"⟩, 7) := ⟨⟨by decide +kernel, by decide +kernel⟩, q1_in _ (List.mem_of_getElem? (i := 24) rfl), q2_in _ (List.mem_of_getElem? (i := 109) rfl), q2_in _ (List.mem_of_getElem? (i := 110) rfl)⟩
theorem lw_p12 : lw_okq (⟨"FlotsamWill$Reader", "failToken", "()V"⟩, 7) := ⟨⟨by decide +kernel, by decide +kernel⟩, q1_in _ (List.mem_of_getElem? (i := 24) rfl), q2_in _ (List.mem_of_getElem? (i := 113) rfl), q2_in _ (List.mem_of_getElem? (i := 114) rfl)⟩
theorem lw_p13 : lw_okq (⟨"FlotsamWill$Reader", "readHeir", "()V"⟩, 7) := ⟨⟨by decide +kernel, by decide +kernel⟩, q1_in _ (List.mem_of_getElem? (i := 24) rfl), q2_in _ (List.mem_of_getElem? (i := 122) rfl), q2_in _ (List.mem_of_getElem? (i := 123) rfl)⟩
theorem lw_p14 : lw_okq (⟨"FlotsamWill$Sea", "ofHeir", "(II)I"⟩, 7) := ⟨⟨by decide +kernel, by decide +kernel⟩, q1_in _ (List.mem_of_getElem? (i := 60) rfl), q2_in _ (List.mem_of_getElem? (i := 126) rfl), q2_in _ (List.mem_of_getElem? (i := 127) rfl)⟩
theorem lw_p15 : lw_okq (⟨"FlotsamWill$Sea", "putHeir", "(III)V"⟩, 7) := ⟨⟨by decide +kernel, by decide +kernel⟩, q1_in _ (List.mem_of_getElem? (i := 60) rfl), q2_in _ (List.mem_of_getElem? (i := 132) rfl), q2_in _ (List.mem_of_getElem? (i := 133) rfl)⟩
def lw_privs_1 : List (MethodName × Nat) := [(⟨"FlotsamWill$Sea", "empty", "()V"⟩, 7), (⟨"FlotsamWill$Tape", "add", "(I)Z"⟩, 6), (⟨"FlotsamWill$Reader", "readAll", "()I"⟩, 7), (⟨"FlotsamWill$Tape", "rewind", "()V"⟩, 6), (⟨"FlotsamWill$Tape", "take", "()V"⟩, 6), (⟨"FlotsamWill$Tape", "weighNumber", "()V"⟩, 6), (⟨"FlotsamWill$Reader", "readLine", "()V"⟩, 7), (⟨"FlotsamWill$Tape", "isWord", "(Ljava/lang/String;)Z"⟩, 6), (⟨"FlotsamWill$Reader", "readTub", "(I)V"⟩, 7), (⟨"FlotsamWill$Reader", "fail", "(I)V"⟩, 7), (⟨"FlotsamWill$Sea", "putTub", "(III)V"⟩, 7), (⟨"FlotsamWill$Reader", "readNumber", "(II)I"⟩, 7), (⟨"FlotsamWill$Reader", "failToken", "()V"⟩, 7), (⟨"FlotsamWill$Reader", "readHeir", "()V"⟩, 7), (⟨"FlotsamWill$Sea", "ofHeir", "(II)I"⟩, 7), (⟨"FlotsamWill$Sea", "putHeir", "(III)V"⟩, 7)]
theorem lw_r1 : ∀ q ∈ lw_privs_1, lw_okq q := List.forall_mem_cons.mpr ⟨lw_p0, List.forall_mem_cons.mpr ⟨lw_p1, List.forall_mem_cons.mpr ⟨lw_p2, List.forall_mem_cons.mpr ⟨lw_p3, List.forall_mem_cons.mpr ⟨lw_p4, List.forall_mem_cons.mpr ⟨lw_p5, List.forall_mem_cons.mpr ⟨lw_p6, List.forall_mem_cons.mpr ⟨lw_p7, List.forall_mem_cons.mpr ⟨lw_p8, List.forall_mem_cons.mpr ⟨lw_p9, List.forall_mem_cons.mpr ⟨lw_p10, List.forall_mem_cons.mpr ⟨lw_p11, List.forall_mem_cons.mpr ⟨lw_p12, List.forall_mem_cons.mpr ⟨lw_p13, List.forall_mem_cons.mpr ⟨lw_p14, List.forall_mem_cons.mpr ⟨lw_p15, fun _ h => absurd h List.not_mem_nil⟩⟩⟩⟩⟩⟩⟩⟩⟩⟩⟩⟩⟩⟩⟩⟩
theorem lw_p16 : lw_okq (⟨"FlotsamWill$Reader", "readCurrent", "()V"⟩, 7) := ⟨⟨by decide +kernel, by decide +kernel⟩, q1_in _ (List.mem_of_getElem? (i := 24) rfl), q2_in _ (List.mem_of_getElem? (i := 137) rfl), q2_in _ (List.mem_of_getElem? (i := 138) rfl)⟩
theorem lw_p17 : lw_okq (⟨"FlotsamWill$Reader", "readWind", "()V"⟩, 7) := ⟨⟨by decide +kernel, by decide +kernel⟩, q1_in _ (List.mem_of_getElem? (i := 24) rfl), q2_in _ (List.mem_of_getElem? (i := 142) rfl), q2_in _ (List.mem_of_getElem? (i := 143) rfl)⟩
theorem lw_p18 : lw_okq (⟨"FlotsamWill$Reader", "readPhase", "()V"⟩, 7) := ⟨⟨by decide +kernel, by decide +kernel⟩, q1_in _ (List.mem_of_getElem? (i := 24) rfl), q2_in _ (List.mem_of_getElem? (i := 147) rfl), q2_in _ (List.mem_of_getElem? (i := 148) rfl)⟩
theorem lw_p19 : lw_okq (⟨"FlotsamWill$Sea", "become", "(LFlotsamWill$Sea;)V"⟩, 7) := ⟨⟨by decide +kernel, by decide +kernel⟩, q1_in _ (List.mem_of_getElem? (i := 60) rfl), q2_in _ (List.mem_of_getElem? (i := 151) rfl), q2_in _ (List.mem_of_getElem? (i := 152) rfl)⟩
theorem lw_p20 : lw_okq (⟨"FlotsamWill$Sea", "estates", "()I"⟩, 7) := ⟨⟨by decide +kernel, by decide +kernel⟩, q1_in _ (List.mem_of_getElem? (i := 60) rfl), q2_in _ (List.mem_of_getElem? (i := 167) rfl), q2_in _ (List.mem_of_getElem? (i := 168) rfl)⟩
theorem lw_p21 : lw_okq (⟨"FlotsamWill$Sea", "ofTub", "(II)I"⟩, 7) := ⟨⟨by decide +kernel, by decide +kernel⟩, q1_in _ (List.mem_of_getElem? (i := 60) rfl), q2_in _ (List.mem_of_getElem? (i := 171) rfl), q2_in _ (List.mem_of_getElem? (i := 172) rfl)⟩
theorem lw_p22 : lw_okq (⟨"FlotsamWill", "listWindyHours", "()I"⟩, 17) := ⟨⟨by decide +kernel, by decide +kernel⟩, q1_in _ (List.mem_of_getElem? (i := 16) rfl), q2_in _ (List.mem_of_getElem? (i := 175) rfl), q2_in _ (List.mem_of_getElem? (i := 176) rfl)⟩
theorem lw_p23 : lw_okq (⟨"FlotsamWill$Sea", "isTub", "(I)Z"⟩, 7) := ⟨⟨by decide +kernel, by decide +kernel⟩, q1_in _ (List.mem_of_getElem? (i := 60) rfl), q2_in _ (List.mem_of_getElem? (i := 183) rfl), q2_in _ (List.mem_of_getElem? (i := 184) rfl)⟩
theorem lw_p24 : lw_okq (⟨"FlotsamWill$Sea", "isHeir", "(I)Z"⟩, 7) := ⟨⟨by decide +kernel, by decide +kernel⟩, q1_in _ (List.mem_of_getElem? (i := 60) rfl), q2_in _ (List.mem_of_getElem? (i := 194) rfl), q2_in _ (List.mem_of_getElem? (i := 195) rfl)⟩
theorem lw_p25 : lw_okq (⟨"FlotsamWill", "putIn", "(III)I"⟩, 17) := ⟨⟨by decide +kernel, by decide +kernel⟩, q1_in _ (List.mem_of_getElem? (i := 16) rfl), q3_in _ (List.mem_of_getElem? (i := 2) rfl), q3_in _ (List.mem_of_getElem? (i := 3) rfl)⟩
theorem lw_p26 : lw_okq (⟨"FlotsamWill$Sea", "moveTub", "(III)V"⟩, 7) := ⟨⟨by decide +kernel, by decide +kernel⟩, q1_in _ (List.mem_of_getElem? (i := 60) rfl), q3_in _ (List.mem_of_getElem? (i := 6) rfl), q3_in _ (List.mem_of_getElem? (i := 7) rfl)⟩
theorem lw_p27 : lw_okq (⟨"FlotsamWill$Day", "runTub", "(LFlotsamWill$Sea;II)V"⟩, 6) := ⟨⟨by decide +kernel, by decide +kernel⟩, q1_in _ (List.mem_of_getElem? (i := 156) rfl), q3_in _ (List.mem_of_getElem? (i := 19) rfl), q3_in _ (List.mem_of_getElem? (i := 20) rfl)⟩
theorem lw_p28 : lw_okq (⟨"FlotsamWill$Day", "sailTub", "(LFlotsamWill$Sea;II)V"⟩, 6) := ⟨⟨by decide +kernel, by decide +kernel⟩, q1_in _ (List.mem_of_getElem? (i := 156) rfl), q3_in _ (List.mem_of_getElem? (i := 23) rfl), q3_in _ (List.mem_of_getElem? (i := 24) rfl)⟩
theorem lw_p29 : lw_okq (⟨"FlotsamWill$Day", "sailHour", "(LFlotsamWill$Sea;II)V"⟩, 6) := ⟨⟨by decide +kernel, by decide +kernel⟩, q1_in _ (List.mem_of_getElem? (i := 156) rfl), q3_in _ (List.mem_of_getElem? (i := 28) rfl), q3_in _ (List.mem_of_getElem? (i := 29) rfl)⟩
theorem lw_p30 : lw_okq (⟨"FlotsamWill$Sea", "tideAt", "(I)I"⟩, 7) := ⟨⟨by decide +kernel, by decide +kernel⟩, q1_in _ (List.mem_of_getElem? (i := 60) rfl), q3_in _ (List.mem_of_getElem? (i := 35) rfl), q3_in _ (List.mem_of_getElem? (i := 36) rfl)⟩
theorem lw_p31 : lw_okq (⟨"FlotsamWill$Day", "meetTub", "(LFlotsamWill$Sea;II)V"⟩, 6) := ⟨⟨by decide +kernel, by decide +kernel⟩, q1_in _ (List.mem_of_getElem? (i := 156) rfl), q3_in _ (List.mem_of_getElem? (i := 48) rfl), q3_in _ (List.mem_of_getElem? (i := 49) rfl)⟩
def lw_privs_2 : List (MethodName × Nat) := [(⟨"FlotsamWill$Reader", "readCurrent", "()V"⟩, 7), (⟨"FlotsamWill$Reader", "readWind", "()V"⟩, 7), (⟨"FlotsamWill$Reader", "readPhase", "()V"⟩, 7), (⟨"FlotsamWill$Sea", "become", "(LFlotsamWill$Sea;)V"⟩, 7), (⟨"FlotsamWill$Sea", "estates", "()I"⟩, 7), (⟨"FlotsamWill$Sea", "ofTub", "(II)I"⟩, 7), (⟨"FlotsamWill", "listWindyHours", "()I"⟩, 17), (⟨"FlotsamWill$Sea", "isTub", "(I)Z"⟩, 7), (⟨"FlotsamWill$Sea", "isHeir", "(I)Z"⟩, 7), (⟨"FlotsamWill", "putIn", "(III)I"⟩, 17), (⟨"FlotsamWill$Sea", "moveTub", "(III)V"⟩, 7), (⟨"FlotsamWill$Day", "runTub", "(LFlotsamWill$Sea;II)V"⟩, 6), (⟨"FlotsamWill$Day", "sailTub", "(LFlotsamWill$Sea;II)V"⟩, 6), (⟨"FlotsamWill$Day", "sailHour", "(LFlotsamWill$Sea;II)V"⟩, 6), (⟨"FlotsamWill$Sea", "tideAt", "(I)I"⟩, 7), (⟨"FlotsamWill$Day", "meetTub", "(LFlotsamWill$Sea;II)V"⟩, 6)]
theorem lw_r2 : ∀ q ∈ lw_privs_2, lw_okq q := List.forall_mem_cons.mpr ⟨lw_p16, List.forall_mem_cons.mpr ⟨lw_p17, List.forall_mem_cons.mpr ⟨lw_p18, List.forall_mem_cons.mpr ⟨lw_p19, List.forall_mem_cons.mpr ⟨lw_p20, List.forall_mem_cons.mpr ⟨lw_p21, List.forall_mem_cons.mpr ⟨lw_p22, List.forall_mem_cons.mpr ⟨lw_p23, List.forall_mem_cons.mpr ⟨lw_p24, List.forall_mem_cons.mpr ⟨lw_p25, List.forall_mem_cons.mpr ⟨lw_p26, List.forall_mem_cons.mpr ⟨lw_p27, List.forall_mem_cons.mpr ⟨lw_p28, List.forall_mem_cons.mpr ⟨lw_p29, List.forall_mem_cons.mpr ⟨lw_p30, List.forall_mem_cons.mpr ⟨lw_p31, fun _ h => absurd h List.not_mem_nil⟩⟩⟩⟩⟩⟩⟩⟩⟩⟩⟩⟩⟩⟩⟩⟩
theorem lw_p32 : lw_okq (⟨"FlotsamWill$Day", "wayOf", "(I)I"⟩, 6) := ⟨⟨by decide +kernel, by decide +kernel⟩, q1_in _ (List.mem_of_getElem? (i := 156) rfl), q3_in _ (List.mem_of_getElem? (i := 56) rfl), q3_in _ (List.mem_of_getElem? (i := 57) rfl)⟩
theorem lw_p33 : lw_okq (⟨"FlotsamWill$Day", "eastOf", "(I)I"⟩, 6) := ⟨⟨by decide +kernel, by decide +kernel⟩, q1_in _ (List.mem_of_getElem? (i := 156) rfl), q3_in _ (List.mem_of_getElem? (i := 64) rfl), q3_in _ (List.mem_of_getElem? (i := 65) rfl)⟩
theorem lw_p34 : lw_okq (⟨"FlotsamWill$Day", "run", "(LFlotsamWill$Sea;)V"⟩, 6) := ⟨⟨by decide +kernel, by decide +kernel⟩, q1_in _ (List.mem_of_getElem? (i := 156) rfl), q3_in _ (List.mem_of_getElem? (i := 72) rfl), q3_in _ (List.mem_of_getElem? (i := 73) rfl)⟩
theorem lw_p35 : lw_okq (⟨"FlotsamWill$Day", "estatesOf", "(LFlotsamWill$Sea;I)I"⟩, 6) := ⟨⟨by decide +kernel, by decide +kernel⟩, q1_in _ (List.mem_of_getElem? (i := 156) rfl), q3_in _ (List.mem_of_getElem? (i := 77) rfl), q3_in _ (List.mem_of_getElem? (i := 78) rfl)⟩
theorem lw_p36 : lw_okq (⟨"FlotsamWill$Day", "tubsOf", "(LFlotsamWill$Sea;I)I"⟩, 6) := ⟨⟨by decide +kernel, by decide +kernel⟩, q1_in _ (List.mem_of_getElem? (i := 156) rfl), q3_in _ (List.mem_of_getElem? (i := 81) rfl), q3_in _ (List.mem_of_getElem? (i := 82) rfl)⟩
theorem lw_p37 : lw_okq (⟨"FlotsamWill$Day", "estatesHooked", "(LFlotsamWill$Sea;)I"⟩, 6) := ⟨⟨by decide +kernel, by decide +kernel⟩, q1_in _ (List.mem_of_getElem? (i := 156) rfl), q3_in _ (List.mem_of_getElem? (i := 89) rfl), q3_in _ (List.mem_of_getElem? (i := 90) rfl)⟩
theorem lw_p38 : lw_okq (⟨"FlotsamWill$Day", "tubsOfWay", "(LFlotsamWill$Sea;I)I"⟩, 6) := ⟨⟨by decide +kernel, by decide +kernel⟩, q1_in _ (List.mem_of_getElem? (i := 156) rfl), q3_in _ (List.mem_of_getElem? (i := 93) rfl), q3_in _ (List.mem_of_getElem? (i := 94) rfl)⟩
theorem lw_p39 : lw_okq (⟨"FlotsamWill$Day", "gives", "(LFlotsamWill$Sea;II)Z"⟩, 6) := ⟨⟨by decide +kernel, by decide +kernel⟩, q1_in _ (List.mem_of_getElem? (i := 156) rfl), q3_in _ (List.mem_of_getElem? (i := 102) rfl), q3_in _ (List.mem_of_getElem? (i := 103) rfl)⟩
theorem lw_p40 : lw_okq (⟨"FlotsamWill$Day", "sail", "(LFlotsamWill$Sea;)V"⟩, 6) := ⟨⟨by decide +kernel, by decide +kernel⟩, q1_in _ (List.mem_of_getElem? (i := 156) rfl), q3_in _ (List.mem_of_getElem? (i := 118) rfl), q3_in _ (List.mem_of_getElem? (i := 119) rfl)⟩
theorem lw_p41 : lw_okq (⟨"FlotsamWill$Day", "meet", "(LFlotsamWill$Sea;)V"⟩, 6) := ⟨⟨by decide +kernel, by decide +kernel⟩, q1_in _ (List.mem_of_getElem? (i := 156) rfl), q3_in _ (List.mem_of_getElem? (i := 122) rfl), q3_in _ (List.mem_of_getElem? (i := 123) rfl)⟩
theorem lw_p42 : lw_okq (⟨"FlotsamWill", "weighPairs", "(II)V"⟩, 17) := ⟨⟨by decide +kernel, by decide +kernel⟩, q1_in _ (List.mem_of_getElem? (i := 16) rfl), q3_in _ (List.mem_of_getElem? (i := 142) rfl), q3_in _ (List.mem_of_getElem? (i := 143) rfl)⟩
theorem lw_p43 : lw_okq (⟨"FlotsamWill", "neitherWouldGo", "(II)Z"⟩, 17) := ⟨⟨by decide +kernel, by decide +kernel⟩, q1_in _ (List.mem_of_getElem? (i := 16) rfl), q3_in _ (List.mem_of_getElem? (i := 146) rfl), q3_in _ (List.mem_of_getElem? (i := 147) rfl)⟩
theorem lw_p44 : lw_okq (⟨"FlotsamWill", "dropWinds", "(III)J"⟩, 17) := ⟨⟨by decide +kernel, by decide +kernel⟩, q1_in _ (List.mem_of_getElem? (i := 16) rfl), q3_in _ (List.mem_of_getElem? (i := 156) rfl), q3_in _ (List.mem_of_getElem? (i := 157) rfl)⟩
theorem lw_p45 : lw_okq (⟨"FlotsamWill", "kindsAsSeen", "(I)I"⟩, 17) := ⟨⟨by decide +kernel, by decide +kernel⟩, q1_in _ (List.mem_of_getElem? (i := 16) rfl), q3_in _ (List.mem_of_getElem? (i := 186) rfl), q3_in _ (List.mem_of_getElem? (i := 187) rfl)⟩
theorem lw_p46 : lw_okq (⟨"FlotsamWill", "isAsSeen", "(LFlotsamWill$Sea;)Z"⟩, 17) := ⟨⟨by decide +kernel, by decide +kernel⟩, q1_in _ (List.mem_of_getElem? (i := 16) rfl), q3_in _ (List.mem_of_getElem? (i := 190) rfl), q3_in _ (List.mem_of_getElem? (i := 191) rfl)⟩
theorem lw_p47 : lw_okq (⟨"FlotsamWill", "leftAtWorst", "(III)I"⟩, 17) := ⟨⟨by decide +kernel, by decide +kernel⟩, q1_in _ (List.mem_of_getElem? (i := 16) rfl), q3_in _ (List.mem_of_getElem? (i := 209) rfl), q3_in _ (List.mem_of_getElem? (i := 210) rfl)⟩
def lw_privs_3 : List (MethodName × Nat) := [(⟨"FlotsamWill$Day", "wayOf", "(I)I"⟩, 6), (⟨"FlotsamWill$Day", "eastOf", "(I)I"⟩, 6), (⟨"FlotsamWill$Day", "run", "(LFlotsamWill$Sea;)V"⟩, 6), (⟨"FlotsamWill$Day", "estatesOf", "(LFlotsamWill$Sea;I)I"⟩, 6), (⟨"FlotsamWill$Day", "tubsOf", "(LFlotsamWill$Sea;I)I"⟩, 6), (⟨"FlotsamWill$Day", "estatesHooked", "(LFlotsamWill$Sea;)I"⟩, 6), (⟨"FlotsamWill$Day", "tubsOfWay", "(LFlotsamWill$Sea;I)I"⟩, 6), (⟨"FlotsamWill$Day", "gives", "(LFlotsamWill$Sea;II)Z"⟩, 6), (⟨"FlotsamWill$Day", "sail", "(LFlotsamWill$Sea;)V"⟩, 6), (⟨"FlotsamWill$Day", "meet", "(LFlotsamWill$Sea;)V"⟩, 6), (⟨"FlotsamWill", "weighPairs", "(II)V"⟩, 17), (⟨"FlotsamWill", "neitherWouldGo", "(II)Z"⟩, 17), (⟨"FlotsamWill", "dropWinds", "(III)J"⟩, 17), (⟨"FlotsamWill", "kindsAsSeen", "(I)I"⟩, 17), (⟨"FlotsamWill", "isAsSeen", "(LFlotsamWill$Sea;)Z"⟩, 17), (⟨"FlotsamWill", "leftAtWorst", "(III)I"⟩, 17)]
theorem lw_r3 : ∀ q ∈ lw_privs_3, lw_okq q := List.forall_mem_cons.mpr ⟨lw_p32, List.forall_mem_cons.mpr ⟨lw_p33, List.forall_mem_cons.mpr ⟨lw_p34, List.forall_mem_cons.mpr ⟨lw_p35, List.forall_mem_cons.mpr ⟨lw_p36, List.forall_mem_cons.mpr ⟨lw_p37, List.forall_mem_cons.mpr ⟨lw_p38, List.forall_mem_cons.mpr ⟨lw_p39, List.forall_mem_cons.mpr ⟨lw_p40, List.forall_mem_cons.mpr ⟨lw_p41, List.forall_mem_cons.mpr ⟨lw_p42, List.forall_mem_cons.mpr ⟨lw_p43, List.forall_mem_cons.mpr ⟨lw_p44, List.forall_mem_cons.mpr ⟨lw_p45, List.forall_mem_cons.mpr ⟨lw_p46, List.forall_mem_cons.mpr ⟨lw_p47, fun _ h => absurd h List.not_mem_nil⟩⟩⟩⟩⟩⟩⟩⟩⟩⟩⟩⟩⟩⟩⟩⟩
theorem lw_p48 : lw_okq (⟨"FlotsamWill$Sheet", "renew", "(II)V"⟩, 3) := ⟨⟨by decide +kernel, by decide +kernel⟩, q1_in _ (List.mem_of_getElem? (i := 136) rfl), q3_in _ (List.mem_of_getElem? (i := 231) rfl), q3_in _ (List.mem_of_getElem? (i := 232) rfl)⟩
theorem lw_p49 : lw_okq (⟨"FlotsamWill$Sheet", "faultOf", "(III)I"⟩, 3) := ⟨⟨by decide +kernel, by decide +kernel⟩, q1_in _ (List.mem_of_getElem? (i := 136) rfl), q3_in _ (List.mem_of_getElem? (i := 239) rfl), q4_in _ (List.mem_of_getElem? (i := 0) rfl)⟩
theorem lw_p50 : lw_okq (⟨"FlotsamWill$Sheet", "put", "(II)V"⟩, 3) := ⟨⟨by decide +kernel, by decide +kernel⟩, q1_in _ (List.mem_of_getElem? (i := 136) rfl), q4_in _ (List.mem_of_getElem? (i := 3) rfl), q4_in _ (List.mem_of_getElem? (i := 4) rfl)⟩
theorem lw_p51 : lw_okq (⟨"FlotsamWill$Sea", "hooks", "()I"⟩, 7) := ⟨⟨by decide +kernel, by decide +kernel⟩, q1_in _ (List.mem_of_getElem? (i := 60) rfl), q4_in _ (List.mem_of_getElem? (i := 19) rfl), q4_in _ (List.mem_of_getElem? (i := 20) rfl)⟩
theorem lw_p52 : lw_okq (⟨"FlotsamWill$Sea", "moving", "()I"⟩, 7) := ⟨⟨by decide +kernel, by decide +kernel⟩, q1_in _ (List.mem_of_getElem? (i := 60) rfl), q4_in _ (List.mem_of_getElem? (i := 24) rfl), q4_in _ (List.mem_of_getElem? (i := 25) rfl)⟩
theorem lw_p53 : lw_okq (⟨"FlotsamWillModel", "step", "()V"⟩, 36) := ⟨⟨by decide +kernel, by decide +kernel⟩, q4_in _ (List.mem_of_getElem? (i := 28) rfl), q4_in _ (List.mem_of_getElem? (i := 159) rfl), q4_in _ (List.mem_of_getElem? (i := 160) rfl)⟩
theorem lw_p54 : lw_okq (⟨"FlotsamWillModel", "byteAt", "(I)I"⟩, 36) := ⟨⟨by decide +kernel, by decide +kernel⟩, q4_in _ (List.mem_of_getElem? (i := 28) rfl), q4_in _ (List.mem_of_getElem? (i := 163) rfl), q4_in _ (List.mem_of_getElem? (i := 164) rfl)⟩
theorem lw_p55 : lw_okq (⟨"FlotsamWillModel", "fails", "(I)V"⟩, 36) := ⟨⟨by decide +kernel, by decide +kernel⟩, q4_in _ (List.mem_of_getElem? (i := 28) rfl), q4_in _ (List.mem_of_getElem? (i := 171) rfl), q4_in _ (List.mem_of_getElem? (i := 172) rfl)⟩
theorem lw_p56 : lw_okq (⟨"FlotsamWillModel", "readLine", "()V"⟩, 36) := ⟨⟨by decide +kernel, by decide +kernel⟩, q4_in _ (List.mem_of_getElem? (i := 28) rfl), q4_in _ (List.mem_of_getElem? (i := 175) rfl), q4_in _ (List.mem_of_getElem? (i := 176) rfl)⟩
theorem lw_p57 : lw_okq (⟨"FlotsamWillModel", "nameHere", "()I"⟩, 36) := ⟨⟨by decide +kernel, by decide +kernel⟩, q4_in _ (List.mem_of_getElem? (i := 28) rfl), q4_in _ (List.mem_of_getElem? (i := 179) rfl), q4_in _ (List.mem_of_getElem? (i := 180) rfl)⟩
theorem lw_p58 : lw_okq (⟨"FlotsamWillModel", "readMore", "(I)V"⟩, 36) := ⟨⟨by decide +kernel, by decide +kernel⟩, q4_in _ (List.mem_of_getElem? (i := 28) rfl), q4_in _ (List.mem_of_getElem? (i := 184) rfl), q4_in _ (List.mem_of_getElem? (i := 185) rfl)⟩
theorem lw_p59 : lw_okq (⟨"FlotsamWillModel", "readTub", "(I)V"⟩, 36) := ⟨⟨by decide +kernel, by decide +kernel⟩, q4_in _ (List.mem_of_getElem? (i := 28) rfl), q4_in _ (List.mem_of_getElem? (i := 188) rfl), q4_in _ (List.mem_of_getElem? (i := 189) rfl)⟩
theorem lw_p60 : lw_okq (⟨"FlotsamWillModel", "other", "(III)I"⟩, 36) := ⟨⟨by decide +kernel, by decide +kernel⟩, q4_in _ (List.mem_of_getElem? (i := 28) rfl), q4_in _ (List.mem_of_getElem? (i := 192) rfl), q4_in _ (List.mem_of_getElem? (i := 193) rfl)⟩
theorem lw_p61 : lw_okq (⟨"FlotsamWillModel", "readHeir", "()V"⟩, 36) := ⟨⟨by decide +kernel, by decide +kernel⟩, q4_in _ (List.mem_of_getElem? (i := 28) rfl), q4_in _ (List.mem_of_getElem? (i := 196) rfl), q4_in _ (List.mem_of_getElem? (i := 197) rfl)⟩
theorem lw_p62 : lw_okq (⟨"FlotsamWillModel", "estates", "()I"⟩, 36) := ⟨⟨by decide +kernel, by decide +kernel⟩, q4_in _ (List.mem_of_getElem? (i := 28) rfl), q4_in _ (List.mem_of_getElem? (i := 208) rfl), q4_in _ (List.mem_of_getElem? (i := 209) rfl)⟩
theorem lw_p63 : lw_okq (⟨"FlotsamWillModel", "windyHours", "()I"⟩, 36) := ⟨⟨by decide +kernel, by decide +kernel⟩, q4_in _ (List.mem_of_getElem? (i := 28) rfl), q4_in _ (List.mem_of_getElem? (i := 212) rfl), q4_in _ (List.mem_of_getElem? (i := 213) rfl)⟩
def lw_privs_4 : List (MethodName × Nat) := [(⟨"FlotsamWill$Sheet", "renew", "(II)V"⟩, 3), (⟨"FlotsamWill$Sheet", "faultOf", "(III)I"⟩, 3), (⟨"FlotsamWill$Sheet", "put", "(II)V"⟩, 3), (⟨"FlotsamWill$Sea", "hooks", "()I"⟩, 7), (⟨"FlotsamWill$Sea", "moving", "()I"⟩, 7), (⟨"FlotsamWillModel", "step", "()V"⟩, 36), (⟨"FlotsamWillModel", "byteAt", "(I)I"⟩, 36), (⟨"FlotsamWillModel", "fails", "(I)V"⟩, 36), (⟨"FlotsamWillModel", "readLine", "()V"⟩, 36), (⟨"FlotsamWillModel", "nameHere", "()I"⟩, 36), (⟨"FlotsamWillModel", "readMore", "(I)V"⟩, 36), (⟨"FlotsamWillModel", "readTub", "(I)V"⟩, 36), (⟨"FlotsamWillModel", "other", "(III)I"⟩, 36), (⟨"FlotsamWillModel", "readHeir", "()V"⟩, 36), (⟨"FlotsamWillModel", "estates", "()I"⟩, 36), (⟨"FlotsamWillModel", "windyHours", "()I"⟩, 36)]
theorem lw_r4 : ∀ q ∈ lw_privs_4, lw_okq q := List.forall_mem_cons.mpr ⟨lw_p48, List.forall_mem_cons.mpr ⟨lw_p49, List.forall_mem_cons.mpr ⟨lw_p50, List.forall_mem_cons.mpr ⟨lw_p51, List.forall_mem_cons.mpr ⟨lw_p52, List.forall_mem_cons.mpr ⟨lw_p53, List.forall_mem_cons.mpr ⟨lw_p54, List.forall_mem_cons.mpr ⟨lw_p55, List.forall_mem_cons.mpr ⟨lw_p56, List.forall_mem_cons.mpr ⟨lw_p57, List.forall_mem_cons.mpr ⟨lw_p58, List.forall_mem_cons.mpr ⟨lw_p59, List.forall_mem_cons.mpr ⟨lw_p60, List.forall_mem_cons.mpr ⟨lw_p61, List.forall_mem_cons.mpr ⟨lw_p62, List.forall_mem_cons.mpr ⟨lw_p63, fun _ h => absurd h List.not_mem_nil⟩⟩⟩⟩⟩⟩⟩⟩⟩⟩⟩⟩⟩⟩⟩⟩
theorem lw_p64 : lw_okq (⟨"FlotsamWillModel", "isTub", "(I)Z"⟩, 36) := ⟨⟨by decide +kernel, by decide +kernel⟩, q4_in _ (List.mem_of_getElem? (i := 28) rfl), q4_in _ (List.mem_of_getElem? (i := 223) rfl), q4_in _ (List.mem_of_getElem? (i := 224) rfl)⟩
theorem lw_p65 : lw_okq (⟨"FlotsamWillModel", "isHeir", "(I)Z"⟩, 36) := ⟨⟨by decide +kernel, by decide +kernel⟩, q4_in _ (List.mem_of_getElem? (i := 28) rfl), q4_in _ (List.mem_of_getElem? (i := 232) rfl), q4_in _ (List.mem_of_getElem? (i := 233) rfl)⟩
theorem lw_p66 : lw_okq (⟨"FlotsamWillModel", "puts", "(ZIII)I"⟩, 36) := ⟨⟨by decide +kernel, by decide +kernel⟩, q4_in _ (List.mem_of_getElem? (i := 28) rfl), q5_in _ (List.mem_of_getElem? (i := 15) rfl), q5_in _ (List.mem_of_getElem? (i := 16) rfl)⟩
theorem lw_p67 : lw_okq (⟨"FlotsamWillModel", "casts", "(III)I"⟩, 36) := ⟨⟨by decide +kernel, by decide +kernel⟩, q4_in _ (List.mem_of_getElem? (i := 28) rfl), q5_in _ (List.mem_of_getElem? (i := 39) rfl), q5_in _ (List.mem_of_getElem? (i := 40) rfl)⟩
theorem lw_p68 : lw_okq (⟨"FlotsamWillModel", "dayGoes", "(II)V"⟩, 36) := ⟨⟨by decide +kernel, by decide +kernel⟩, q4_in _ (List.mem_of_getElem? (i := 28) rfl), q5_in _ (List.mem_of_getElem? (i := 51) rfl), q5_in _ (List.mem_of_getElem? (i := 52) rfl)⟩
theorem lw_p69 : lw_okq (⟨"FlotsamWillModel", "drifts", "(III)V"⟩, 36) := ⟨⟨by decide +kernel, by decide +kernel⟩, q4_in _ (List.mem_of_getElem? (i := 28) rfl), q5_in _ (List.mem_of_getElem? (i := 55) rfl), q5_in _ (List.mem_of_getElem? (i := 56) rfl)⟩
theorem lw_p70 : lw_okq (⟨"FlotsamWillModel", "hooks", "(III)V"⟩, 36) := ⟨⟨by decide +kernel, by decide +kernel⟩, q4_in _ (List.mem_of_getElem? (i := 28) rfl), q5_in _ (List.mem_of_getElem? (i := 59) rfl), q5_in _ (List.mem_of_getElem? (i := 60) rfl)⟩
theorem lw_p71 : lw_okq (⟨"FlotsamWillModel", "worth", "(II)I"⟩, 36) := ⟨⟨by decide +kernel, by decide +kernel⟩, q4_in _ (List.mem_of_getElem? (i := 28) rfl), q5_in _ (List.mem_of_getElem? (i := 73) rfl), q5_in _ (List.mem_of_getElem? (i := 74) rfl)⟩
theorem lw_p72 : lw_okq (⟨"FlotsamWillModel", "estatesOf", "(II)I"⟩, 36) := ⟨⟨by decide +kernel, by decide +kernel⟩, q4_in _ (List.mem_of_getElem? (i := 28) rfl), q5_in _ (List.mem_of_getElem? (i := 77) rfl), q5_in _ (List.mem_of_getElem? (i := 78) rfl)⟩
theorem lw_p73 : lw_okq (⟨"FlotsamWillModel", "tubsOf", "(II)I"⟩, 36) := ⟨⟨by decide +kernel, by decide +kernel⟩, q4_in _ (List.mem_of_getElem? (i := 28) rfl), q5_in _ (List.mem_of_getElem? (i := 81) rfl), q5_in _ (List.mem_of_getElem? (i := 82) rfl)⟩
theorem lw_p74 : lw_okq (⟨"FlotsamWillModel", "copies", "(II)V"⟩, 36) := ⟨⟨by decide +kernel, by decide +kernel⟩, q4_in _ (List.mem_of_getElem? (i := 28) rfl), q5_in _ (List.mem_of_getElem? (i := 93) rfl), q5_in _ (List.mem_of_getElem? (i := 94) rfl)⟩
theorem lw_p75 : lw_okq (⟨"FlotsamWillModel", "isHooked", "(II)Z"⟩, 36) := ⟨⟨by decide +kernel, by decide +kernel⟩, q4_in _ (List.mem_of_getElem? (i := 28) rfl), q5_in _ (List.mem_of_getElem? (i := 97) rfl), q5_in _ (List.mem_of_getElem? (i := 98) rfl)⟩
theorem lw_p76 : lw_okq (⟨"FlotsamWillModel", "isRest", "(II)Z"⟩, 36) := ⟨⟨by decide +kernel, by decide +kernel⟩, q4_in _ (List.mem_of_getElem? (i := 28) rfl), q5_in _ (List.mem_of_getElem? (i := 130) rfl), q5_in _ (List.mem_of_getElem? (i := 131) rfl)⟩
theorem lw_p77 : lw_okq (⟨"FlotsamWillModel", "byDrops", "(IIII)J"⟩, 36) := ⟨⟨by decide +kernel, by decide +kernel⟩, q4_in _ (List.mem_of_getElem? (i := 28) rfl), q5_in _ (List.mem_of_getElem? (i := 141) rfl), q5_in _ (List.mem_of_getElem? (i := 142) rfl)⟩
theorem lw_p78 : lw_okq (⟨"FlotsamWillModel", "kindsOf", "(I)I"⟩, 36) := ⟨⟨by decide +kernel, by decide +kernel⟩, q4_in _ (List.mem_of_getElem? (i := 28) rfl), q5_in _ (List.mem_of_getElem? (i := 165) rfl), q5_in _ (List.mem_of_getElem? (i := 166) rfl)⟩
theorem lw_p79 : lw_okq (⟨"FlotsamWillModel", "isAsSeen", "()Z"⟩, 36) := ⟨⟨by decide +kernel, by decide +kernel⟩, q4_in _ (List.mem_of_getElem? (i := 28) rfl), q5_in _ (List.mem_of_getElem? (i := 169) rfl), q5_in _ (List.mem_of_getElem? (i := 170) rfl)⟩
def lw_privs_5 : List (MethodName × Nat) := [(⟨"FlotsamWillModel", "isTub", "(I)Z"⟩, 36), (⟨"FlotsamWillModel", "isHeir", "(I)Z"⟩, 36), (⟨"FlotsamWillModel", "puts", "(ZIII)I"⟩, 36), (⟨"FlotsamWillModel", "casts", "(III)I"⟩, 36), (⟨"FlotsamWillModel", "dayGoes", "(II)V"⟩, 36), (⟨"FlotsamWillModel", "drifts", "(III)V"⟩, 36), (⟨"FlotsamWillModel", "hooks", "(III)V"⟩, 36), (⟨"FlotsamWillModel", "worth", "(II)I"⟩, 36), (⟨"FlotsamWillModel", "estatesOf", "(II)I"⟩, 36), (⟨"FlotsamWillModel", "tubsOf", "(II)I"⟩, 36), (⟨"FlotsamWillModel", "copies", "(II)V"⟩, 36), (⟨"FlotsamWillModel", "isHooked", "(II)Z"⟩, 36), (⟨"FlotsamWillModel", "isRest", "(II)Z"⟩, 36), (⟨"FlotsamWillModel", "byDrops", "(IIII)J"⟩, 36), (⟨"FlotsamWillModel", "kindsOf", "(I)I"⟩, 36), (⟨"FlotsamWillModel", "isAsSeen", "()Z"⟩, 36)]
theorem lw_r5 : ∀ q ∈ lw_privs_5, lw_okq q := List.forall_mem_cons.mpr ⟨lw_p64, List.forall_mem_cons.mpr ⟨lw_p65, List.forall_mem_cons.mpr ⟨lw_p66, List.forall_mem_cons.mpr ⟨lw_p67, List.forall_mem_cons.mpr ⟨lw_p68, List.forall_mem_cons.mpr ⟨lw_p69, List.forall_mem_cons.mpr ⟨lw_p70, List.forall_mem_cons.mpr ⟨lw_p71, List.forall_mem_cons.mpr ⟨lw_p72, List.forall_mem_cons.mpr ⟨lw_p73, List.forall_mem_cons.mpr ⟨lw_p74, List.forall_mem_cons.mpr ⟨lw_p75, List.forall_mem_cons.mpr ⟨lw_p76, List.forall_mem_cons.mpr ⟨lw_p77, List.forall_mem_cons.mpr ⟨lw_p78, List.forall_mem_cons.mpr ⟨lw_p79, fun _ h => absurd h List.not_mem_nil⟩⟩⟩⟩⟩⟩⟩⟩⟩⟩⟩⟩⟩⟩⟩⟩
def lw_privs : List (MethodName × Nat) := lw_privs_1 ++ (lw_privs_2 ++ (lw_privs_3 ++ (lw_privs_4 ++ (lw_privs_5))))
def lw_tbl : List Cond := k2_sels lw_privs ++ tables_1
theorem lw_privs_ok : ∀ q ∈ lw_privs, lw_okq q := by
  show ∀ q ∈ lw_privs_1 ++ (lw_privs_2 ++ (lw_privs_3 ++ (lw_privs_4 ++ (lw_privs_5)))), lw_okq q
  exact List.forall_mem_append.mpr ⟨lw_r1, List.forall_mem_append.mpr ⟨lw_r2, List.forall_mem_append.mpr ⟨lw_r3, List.forall_mem_append.mpr ⟨lw_r4, lw_r5⟩⟩⟩⟩
-- ===== end of PART A; then your names; then what follows =====

/-! ===== BEGIN printed: names, fields, word lists, decode rows ===== -/
def RX0 : String := "FlotsamWill$Day"
def TX0 : u_T := fun k => match k with
  | 0 => ("FlotsamWill$Day", "x", "[I", true)
  | 1 => ("FlotsamWill$Day", "y", "[I", true)
  | 2 => ("FlotsamWill$Day", "course", "[I", true)
  | 3 => ("FlotsamWill$Day", "over", "[I", true)
  | 4 => ("FlotsamWill$Day", "hooker", "[I", true)
  | _ => ("FlotsamWill$Day", "hooked", "[I", true)
def tyX0 : Nat → FieldType := fun k => match k with
  | 0 => .array .int
  | 1 => .array .int
  | 2 => .array .int
  | 3 => .array .int
  | 4 => .array .int
  | _ => .array .int
abbrev wsX00 : List Cond := u_ws RX0 TX0 6
theorem nmX0 : ∀ a, a < 6 → ∀ b, b < 6 → a ≠ b → (TX0 a).2.1 ≠ (TX0 b).2.1 := by decide +kernel
theorem tyX0_ok : ∀ k, k < 6 → parseFieldDescriptor (TX0 k).2.2.1 = some (tyX0 k) := by decide +kernel
abbrev cX0_init : ByteArray := prog_2_method_1_code
def yX0_init : MethodName := ⟨RX0, "<init>", "()V"⟩
abbrev cX0_run : ByteArray := prog_2_method_2_code
def yX0_run : MethodName := ⟨RX0, "run", "(LFlotsamWill$Sea;)V"⟩
abbrev cX0_sail : ByteArray := prog_2_method_3_code
def yX0_sail : MethodName := ⟨RX0, "sail", "(LFlotsamWill$Sea;)V"⟩
abbrev cX0_meet : ByteArray := prog_2_method_4_code
def yX0_meet : MethodName := ⟨RX0, "meet", "(LFlotsamWill$Sea;)V"⟩
abbrev cX0_runTub : ByteArray := prog_2_method_5_code
def yX0_runTub : MethodName := ⟨RX0, "runTub", "(LFlotsamWill$Sea;II)V"⟩
abbrev cX0_sailTub : ByteArray := prog_2_method_6_code
def yX0_sailTub : MethodName := ⟨RX0, "sailTub", "(LFlotsamWill$Sea;II)V"⟩
abbrev cX0_sailHour : ByteArray := prog_2_method_7_code
def yX0_sailHour : MethodName := ⟨RX0, "sailHour", "(LFlotsamWill$Sea;II)V"⟩
abbrev cX0_meetTub : ByteArray := prog_2_method_8_code
def yX0_meetTub : MethodName := ⟨RX0, "meetTub", "(LFlotsamWill$Sea;II)V"⟩
abbrev cX0_gives : ByteArray := prog_2_method_9_code
def yX0_gives : MethodName := ⟨RX0, "gives", "(LFlotsamWill$Sea;II)Z"⟩
abbrev cX0_wayOf : ByteArray := prog_2_method_10_code
def yX0_wayOf : MethodName := ⟨RX0, "wayOf", "(I)I"⟩
abbrev cX0_eastOf : ByteArray := prog_2_method_11_code
def yX0_eastOf : MethodName := ⟨RX0, "eastOf", "(I)I"⟩
abbrev cX0_estatesOf : ByteArray := prog_2_method_12_code
def yX0_estatesOf : MethodName := ⟨RX0, "estatesOf", "(LFlotsamWill$Sea;I)I"⟩
abbrev cX0_tubsOf : ByteArray := prog_2_method_13_code
def yX0_tubsOf : MethodName := ⟨RX0, "tubsOf", "(LFlotsamWill$Sea;I)I"⟩
abbrev cX0_estatesHooked : ByteArray := prog_2_method_14_code
def yX0_estatesHooked : MethodName := ⟨RX0, "estatesHooked", "(LFlotsamWill$Sea;)I"⟩
abbrev cX0_tubsOfWay : ByteArray := prog_2_method_15_code
def yX0_tubsOfWay : MethodName := ⟨RX0, "tubsOfWay", "(LFlotsamWill$Sea;I)I"⟩
def RX1 : String := "FlotsamWill$Reader"
def TX1 : u_T := fun k => match k with
  | 0 => ("FlotsamWill$Reader", "tape", "LFlotsamWill$Tape;", true)
  | 1 => ("FlotsamWill$Reader", "told", "LFlotsamWill$Sea;", true)
  | 2 => ("FlotsamWill$Reader", "fault", "I", false)
  | 3 => ("FlotsamWill$Reader", "faultAt", "I", false)
  | 4 => ("FlotsamWill$Reader", "rowsTold", "I", false)
  | 5 => ("FlotsamWill$Reader", "hoursTold", "I", false)
  | _ => ("FlotsamWill$Reader", "phaseTold", "Z", false)
def tyX1 : Nat → FieldType := fun k => match k with
  | 0 => .object "FlotsamWill$Tape"
  | 1 => .object "FlotsamWill$Sea"
  | 2 => .int
  | 3 => .int
  | 4 => .int
  | 5 => .int
  | _ => .boolean
abbrev wsX10 : List Cond := u_ws RX1 TX1 7
theorem nmX1 : ∀ a, a < 7 → ∀ b, b < 7 → a ≠ b → (TX1 a).2.1 ≠ (TX1 b).2.1 := by decide +kernel
theorem tyX1_ok : ∀ k, k < 7 → parseFieldDescriptor (TX1 k).2.2.1 = some (tyX1 k) := by decide +kernel
abbrev cX1_init : ByteArray := prog_3_method_1_code
def yX1_init : MethodName := ⟨RX1, "<init>", "()V"⟩
abbrev cX1_readAll : ByteArray := prog_3_method_2_code
def yX1_readAll : MethodName := ⟨RX1, "readAll", "()I"⟩
abbrev cX1_readLine : ByteArray := prog_3_method_3_code
def yX1_readLine : MethodName := ⟨RX1, "readLine", "()V"⟩
abbrev cX1_readTub : ByteArray := prog_3_method_4_code
def yX1_readTub : MethodName := ⟨RX1, "readTub", "(I)V"⟩
abbrev cX1_readHeir : ByteArray := prog_3_method_5_code
def yX1_readHeir : MethodName := ⟨RX1, "readHeir", "()V"⟩
abbrev cX1_readCurrent : ByteArray := prog_3_method_6_code
def yX1_readCurrent : MethodName := ⟨RX1, "readCurrent", "()V"⟩
abbrev cX1_readWind : ByteArray := prog_3_method_7_code
def yX1_readWind : MethodName := ⟨RX1, "readWind", "()V"⟩
abbrev cX1_readPhase : ByteArray := prog_3_method_8_code
def yX1_readPhase : MethodName := ⟨RX1, "readPhase", "()V"⟩
abbrev cX1_readNumber : ByteArray := prog_3_method_9_code
def yX1_readNumber : MethodName := ⟨RX1, "readNumber", "(II)I"⟩
abbrev cX1_failToken : ByteArray := prog_3_method_10_code
def yX1_failToken : MethodName := ⟨RX1, "failToken", "()V"⟩
abbrev cX1_fail : ByteArray := prog_3_method_11_code
def yX1_fail : MethodName := ⟨RX1, "fail", "(I)V"⟩
def RX2 : String := "FlotsamWill$Sea"
def TX2 : u_T := fun k => match k with
  | 0 => ("FlotsamWill$Sea", "tubParts", "[I", true)
  | 1 => ("FlotsamWill$Sea", "heirParts", "[I", true)
  | 2 => ("FlotsamWill$Sea", "currents", "[I", true)
  | 3 => ("FlotsamWill$Sea", "winds", "[I", true)
  | 4 => ("FlotsamWill$Sea", "tubs", "I", false)
  | 5 => ("FlotsamWill$Sea", "heirs", "I", false)
  | _ => ("FlotsamWill$Sea", "phase", "I", false)
def tyX2 : Nat → FieldType := fun k => match k with
  | 0 => .array .int
  | 1 => .array .int
  | 2 => .array .int
  | 3 => .array .int
  | 4 => .int
  | 5 => .int
  | _ => .int
abbrev wsX20 : List Cond := u_ws RX2 TX2 7
theorem nmX2 : ∀ a, a < 7 → ∀ b, b < 7 → a ≠ b → (TX2 a).2.1 ≠ (TX2 b).2.1 := by decide +kernel
theorem tyX2_ok : ∀ k, k < 7 → parseFieldDescriptor (TX2 k).2.2.1 = some (tyX2 k) := by decide +kernel
abbrev cX2_init : ByteArray := prog_4_method_1_code
def yX2_init : MethodName := ⟨RX2, "<init>", "()V"⟩
abbrev cX2_empty : ByteArray := prog_4_method_2_code
def yX2_empty : MethodName := ⟨RX2, "empty", "()V"⟩
abbrev cX2_become : ByteArray := prog_4_method_3_code
def yX2_become : MethodName := ⟨RX2, "become", "(LFlotsamWill$Sea;)V"⟩
abbrev cX2_isTub : ByteArray := prog_4_method_4_code
def yX2_isTub : MethodName := ⟨RX2, "isTub", "(I)Z"⟩
abbrev cX2_isHeir : ByteArray := prog_4_method_5_code
def yX2_isHeir : MethodName := ⟨RX2, "isHeir", "(I)Z"⟩
abbrev cX2_ofTub : ByteArray := prog_4_method_6_code
def yX2_ofTub : MethodName := ⟨RX2, "ofTub", "(II)I"⟩
abbrev cX2_putTub : ByteArray := prog_4_method_7_code
def yX2_putTub : MethodName := ⟨RX2, "putTub", "(III)V"⟩
abbrev cX2_moveTub : ByteArray := prog_4_method_8_code
def yX2_moveTub : MethodName := ⟨RX2, "moveTub", "(III)V"⟩
abbrev cX2_ofHeir : ByteArray := prog_4_method_9_code
def yX2_ofHeir : MethodName := ⟨RX2, "ofHeir", "(II)I"⟩
abbrev cX2_putHeir : ByteArray := prog_4_method_10_code
def yX2_putHeir : MethodName := ⟨RX2, "putHeir", "(III)V"⟩
abbrev cX2_estates : ByteArray := prog_4_method_11_code
def yX2_estates : MethodName := ⟨RX2, "estates", "()I"⟩
abbrev cX2_hooks : ByteArray := prog_4_method_12_code
def yX2_hooks : MethodName := ⟨RX2, "hooks", "()I"⟩
abbrev cX2_moving : ByteArray := prog_4_method_13_code
def yX2_moving : MethodName := ⟨RX2, "moving", "()I"⟩
abbrev cX2_tideAt : ByteArray := prog_4_method_14_code
def yX2_tideAt : MethodName := ⟨RX2, "tideAt", "(I)I"⟩
def RX3 : String := "FlotsamWill$Sheet"
def TX3 : u_T := fun k => match k with
  | 0 => ("FlotsamWill$Sheet", "cells", "[I", true)
  | 1 => ("FlotsamWill$Sheet", "lane", "I", false)
  | _ => ("FlotsamWill$Sheet", "size", "I", false)
def tyX3 : Nat → FieldType := fun k => match k with
  | 0 => .array .int
  | 1 => .int
  | _ => .int
abbrev wsX30 : List Cond := u_ws RX3 TX3 3
theorem nmX3 : ∀ a, a < 3 → ∀ b, b < 3 → a ≠ b → (TX3 a).2.1 ≠ (TX3 b).2.1 := by decide +kernel
theorem tyX3_ok : ∀ k, k < 3 → parseFieldDescriptor (TX3 k).2.2.1 = some (tyX3 k) := by decide +kernel
abbrev cX3_init : ByteArray := prog_5_method_1_code
def yX3_init : MethodName := ⟨RX3, "<init>", "()V"⟩
abbrev cX3_renew : ByteArray := prog_5_method_2_code
def yX3_renew : MethodName := ⟨RX3, "renew", "(II)V"⟩
abbrev cX3_faultOf : ByteArray := prog_5_method_3_code
def yX3_faultOf : MethodName := ⟨RX3, "faultOf", "(III)I"⟩
abbrev cX3_put : ByteArray := prog_5_method_4_code
def yX3_put : MethodName := ⟨RX3, "put", "(II)V"⟩
def RX4 : String := "FlotsamWill$Tape"
def TX4 : u_T := fun k => match k with
  | 0 => ("FlotsamWill$Tape", "bytes", "[I", true)
  | 1 => ("FlotsamWill$Tape", "length", "I", false)
  | 2 => ("FlotsamWill$Tape", "at", "I", false)
  | 3 => ("FlotsamWill$Tape", "token", "I", false)
  | 4 => ("FlotsamWill$Tape", "start", "I", false)
  | _ => ("FlotsamWill$Tape", "value", "I", false)
def tyX4 : Nat → FieldType := fun k => match k with
  | 0 => .array .int
  | 1 => .int
  | 2 => .int
  | 3 => .int
  | 4 => .int
  | _ => .int
abbrev wsX40 : List Cond := u_ws RX4 TX4 6
theorem nmX4 : ∀ a, a < 6 → ∀ b, b < 6 → a ≠ b → (TX4 a).2.1 ≠ (TX4 b).2.1 := by decide +kernel
theorem tyX4_ok : ∀ k, k < 6 → parseFieldDescriptor (TX4 k).2.2.1 = some (tyX4 k) := by decide +kernel
abbrev cX4_init : ByteArray := prog_6_method_1_code
def yX4_init : MethodName := ⟨RX4, "<init>", "()V"⟩
abbrev cX4_add : ByteArray := prog_6_method_2_code
def yX4_add : MethodName := ⟨RX4, "add", "(I)Z"⟩
abbrev cX4_rewind : ByteArray := prog_6_method_3_code
def yX4_rewind : MethodName := ⟨RX4, "rewind", "()V"⟩
abbrev cX4_take : ByteArray := prog_6_method_4_code
def yX4_take : MethodName := ⟨RX4, "take", "()V"⟩
abbrev cX4_weighNumber : ByteArray := prog_6_method_5_code
def yX4_weighNumber : MethodName := ⟨RX4, "weighNumber", "()V"⟩
abbrev cX4_isWord : ByteArray := prog_6_method_6_code
def yX4_isWord : MethodName := ⟨RX4, "isWord", "(Ljava/lang/String;)Z"⟩
abbrev cX4_sortOf : ByteArray := prog_6_method_7_code
def yX4_sortOf : MethodName := ⟨RX4, "sortOf", "(I)I"⟩
def RX5 : String := "FlotsamWill"
def TX5 : u_T := fun k => match k with
  | 0 => ("FlotsamWill", "reader", "LFlotsamWill$Reader;", true)
  | 1 => ("FlotsamWill", "tape", "LFlotsamWill$Tape;", true)
  | 2 => ("FlotsamWill", "now", "LFlotsamWill$Sea;", true)
  | 3 => ("FlotsamWill", "trial", "LFlotsamWill$Sea;", true)
  | 4 => ("FlotsamWill", "images", "[LFlotsamWill$Sea;", true)
  | 5 => ("FlotsamWill", "kept", "[Z", true)
  | 6 => ("FlotsamWill", "sheets", "[LFlotsamWill$Sheet;", true)
  | 7 => ("FlotsamWill", "day", "LFlotsamWill$Day;", true)
  | 8 => ("FlotsamWill", "seenTub", "[I", true)
  | 9 => ("FlotsamWill", "seenBehind", "[I", true)
  | 10 => ("FlotsamWill", "seenEast", "[I", true)
  | 11 => ("FlotsamWill", "windy", "[I", true)
  | 12 => ("FlotsamWill", "kindEast", "[I", true)
  | 13 => ("FlotsamWill", "mine", "[I", true)
  | 14 => ("FlotsamWill", "others", "[I", true)
  | 15 => ("FlotsamWill", "seen", "I", false)
  | _ => ("FlotsamWill", "tornBy", "I", false)
def tyX5 : Nat → FieldType := fun k => match k with
  | 0 => .object "FlotsamWill$Reader"
  | 1 => .object "FlotsamWill$Tape"
  | 2 => .object "FlotsamWill$Sea"
  | 3 => .object "FlotsamWill$Sea"
  | 4 => .array (.object "FlotsamWill$Sea")
  | 5 => .array .boolean
  | 6 => .array (.object "FlotsamWill$Sheet")
  | 7 => .object "FlotsamWill$Day"
  | 8 => .array .int
  | 9 => .array .int
  | 10 => .array .int
  | 11 => .array .int
  | 12 => .array .int
  | 13 => .array .int
  | 14 => .array .int
  | 15 => .int
  | _ => .int
abbrev wsX50 : List Cond := u_ws RX5 TX5 17
theorem nmX5 : ∀ a, a < 17 → ∀ b, b < 17 → a ≠ b → (TX5 a).2.1 ≠ (TX5 b).2.1 := by decide +kernel
theorem tyX5_ok : ∀ k, k < 17 → parseFieldDescriptor (TX5 k).2.2.1 = some (tyX5 k) := by decide +kernel
abbrev cX5_init : ByteArray := prog_1_method_1_code
def yX5_init : MethodName := ⟨RX5, "<init>", "()V"⟩
abbrev cX5_feed : ByteArray := prog_1_method_2_code
def yX5_feed : MethodName := ⟨RX5, "feed", "(I)I"⟩
abbrev cX5_end : ByteArray := prog_1_method_3_code
def yX5_end : MethodName := ⟨RX5, "end", "(I)I"⟩
abbrev cX5_text : ByteArray := prog_1_method_4_code
def yX5_text : MethodName := ⟨RX5, "text", "()I"⟩
abbrev cX5_fault : ByteArray := prog_1_method_5_code
def yX5_fault : MethodName := ⟨RX5, "fault", "()I"⟩
abbrev cX5_rule : ByteArray := prog_1_method_6_code
def yX5_rule : MethodName := ⟨RX5, "rule", "(I)I"⟩
abbrev cX5_tub : ByteArray := prog_1_method_7_code
def yX5_tub : MethodName := ⟨RX5, "tub", "(II)I"⟩
abbrev cX5_heir : ByteArray := prog_1_method_8_code
def yX5_heir : MethodName := ⟨RX5, "heir", "(II)I"⟩
abbrev cX5_current : ByteArray := prog_1_method_9_code
def yX5_current : MethodName := ⟨RX5, "current", "(I)I"⟩
abbrev cX5_wind : ByteArray := prog_1_method_10_code
def yX5_wind : MethodName := ⟨RX5, "wind", "(I)I"⟩
abbrev cX5_alter : ByteArray := prog_1_method_11_code
def yX5_alter : MethodName := ⟨RX5, "alter", "(III)I"⟩
abbrev cX5_stand : ByteArray := prog_1_method_12_code
def yX5_stand : MethodName := ⟨RX5, "stand", "(III)I"⟩
abbrev cX5_set : ByteArray := prog_1_method_13_code
def yX5_set : MethodName := ⟨RX5, "set", "(II)I"⟩
abbrev cX5_blow : ByteArray := prog_1_method_14_code
def yX5_blow : MethodName := ⟨RX5, "blow", "(II)I"⟩
abbrev cX5_phase : ByteArray := prog_1_method_15_code
def yX5_phase : MethodName := ⟨RX5, "phase", "(I)I"⟩
abbrev cX5_cast : ByteArray := prog_1_method_16_code
def yX5_cast : MethodName := ⟨RX5, "cast", "(III)I"⟩
abbrev cX5_sink : ByteArray := prog_1_method_17_code
def yX5_sink : MethodName := ⟨RX5, "sink", "(I)I"⟩
abbrev cX5_fate : ByteArray := prog_1_method_18_code
def yX5_fate : MethodName := ⟨RX5, "fate", "(II)I"⟩
abbrev cX5_where : ByteArray := prog_1_method_19_code
def yX5_where : MethodName := ⟨RX5, "where", "(III)I"⟩
abbrev cX5_has : ByteArray := prog_1_method_20_code
def yX5_has : MethodName := ⟨RX5, "has", "(II)I"⟩
abbrev cX5_all : ByteArray := prog_1_method_21_code
def yX5_all : MethodName := ⟨RX5, "all", "(I)I"⟩
abbrev cX5_when : ByteArray := prog_1_method_22_code
def yX5_when : MethodName := ⟨RX5, "when", "(II)I"⟩
abbrev cX5_aim : ByteArray := prog_1_method_23_code
def yX5_aim : MethodName := ⟨RX5, "aim", "(II)I"⟩
abbrev cX5_ways : ByteArray := prog_1_method_24_code
def yX5_ways : MethodName := ⟨RX5, "ways", "(II)I"⟩
abbrev cX5_place : ByteArray := prog_1_method_25_code
def yX5_place : MethodName := ⟨RX5, "place", "(II)I"⟩
abbrev cX5_hook : ByteArray := prog_1_method_26_code
def yX5_hook : MethodName := ⟨RX5, "hook", "(II)I"⟩
abbrev cX5_fire : ByteArray := prog_1_method_27_code
def yX5_fire : MethodName := ⟨RX5, "fire", "(II)I"⟩
abbrev cX5_moon : ByteArray := prog_1_method_28_code
def yX5_moon : MethodName := ⟨RX5, "moon", "(I)I"⟩
abbrev cX5_rest : ByteArray := prog_1_method_29_code
def yX5_rest : MethodName := ⟨RX5, "rest", "(III)I"⟩
abbrev cX5_luck : ByteArray := prog_1_method_30_code
def yX5_luck : MethodName := ⟨RX5, "luck", "(IIII)J"⟩
abbrev cX5_mean : ByteArray := prog_1_method_31_code
def yX5_mean : MethodName := ⟨RX5, "mean", "(III)J"⟩
abbrev cX5_see : ByteArray := prog_1_method_32_code
def yX5_see : MethodName := ⟨RX5, "see", "(III)I"⟩
abbrev cX5_forget : ByteArray := prog_1_method_33_code
def yX5_forget : MethodName := ⟨RX5, "forget", "(I)I"⟩
abbrev cX5_kinds : ByteArray := prog_1_method_34_code
def yX5_kinds : MethodName := ⟨RX5, "kinds", "(I)I"⟩
abbrev cX5_sets : ByteArray := prog_1_method_35_code
def yX5_sets : MethodName := ⟨RX5, "sets", "(I)I"⟩
abbrev cX5_look : ByteArray := prog_1_method_36_code
def yX5_look : MethodName := ⟨RX5, "look", "(II)I"⟩
abbrev cX5_drift : ByteArray := prog_1_method_37_code
def yX5_drift : MethodName := ⟨RX5, "drift", "(III)I"⟩
abbrev cX5_keep : ByteArray := prog_1_method_38_code
def yX5_keep : MethodName := ⟨RX5, "keep", "(I)I"⟩
abbrev cX5_back : ByteArray := prog_1_method_39_code
def yX5_back : MethodName := ⟨RX5, "back", "(I)I"⟩
abbrev cX5_sheet : ByteArray := prog_1_method_40_code
def yX5_sheet : MethodName := ⟨RX5, "sheet", "(III)I"⟩
abbrev cX5_lay : ByteArray := prog_1_method_41_code
def yX5_lay : MethodName := ⟨RX5, "lay", "(III)I"⟩
abbrev cX5_read : ByteArray := prog_1_method_42_code
def yX5_read : MethodName := ⟨RX5, "read", "(IIII)I"⟩
abbrev cX5_torn : ByteArray := prog_1_method_43_code
def yX5_torn : MethodName := ⟨RX5, "torn", "()I"⟩
abbrev cX5_count : ByteArray := prog_1_method_44_code
def yX5_count : MethodName := ⟨RX5, "count", "(I)I"⟩
abbrev cX5_within : ByteArray := prog_1_method_45_code
def yX5_within : MethodName := ⟨RX5, "within", "(III)Z"⟩
abbrev cX5_fitsTub : ByteArray := prog_1_method_46_code
def yX5_fitsTub : MethodName := ⟨RX5, "fitsTub", "(II)Z"⟩
abbrev cX5_fitsHeir : ByteArray := prog_1_method_47_code
def yX5_fitsHeir : MethodName := ⟨RX5, "fitsHeir", "(II)Z"⟩
abbrev cX5_putIn : ByteArray := prog_1_method_48_code
def yX5_putIn : MethodName := ⟨RX5, "putIn", "(III)I"⟩
abbrev cX5_listWindyHours : ByteArray := prog_1_method_49_code
def yX5_listWindyHours : MethodName := ⟨RX5, "listWindyHours", "()I"⟩
abbrev cX5_dropWinds : ByteArray := prog_1_method_50_code
def yX5_dropWinds : MethodName := ⟨RX5, "dropWinds", "(III)J"⟩
abbrev cX5_allOdds : ByteArray := prog_1_method_51_code
def yX5_allOdds : MethodName := ⟨RX5, "allOdds", "(I)J"⟩
abbrev cX5_partOfFraction : ByteArray := prog_1_method_52_code
def yX5_partOfFraction : MethodName := ⟨RX5, "partOfFraction", "(JJI)J"⟩
abbrev cX5_commonDivisor : ByteArray := prog_1_method_53_code
def yX5_commonDivisor : MethodName := ⟨RX5, "commonDivisor", "(JJ)J"⟩
abbrev cX5_weighPairs : ByteArray := prog_1_method_54_code
def yX5_weighPairs : MethodName := ⟨RX5, "weighPairs", "(II)V"⟩
abbrev cX5_neitherWouldGo : ByteArray := prog_1_method_55_code
def yX5_neitherWouldGo : MethodName := ⟨RX5, "neitherWouldGo", "(II)Z"⟩
abbrev cX5_isAsSeen : ByteArray := prog_1_method_56_code
def yX5_isAsSeen : MethodName := ⟨RX5, "isAsSeen", "(LFlotsamWill$Sea;)Z"⟩
abbrev cX5_kindsAsSeen : ByteArray := prog_1_method_57_code
def yX5_kindsAsSeen : MethodName := ⟨RX5, "kindsAsSeen", "(I)I"⟩
abbrev cX5_leftAtWorst : ByteArray := prog_1_method_58_code
def yX5_leftAtWorst : MethodName := ⟨RX5, "leftAtWorst", "(III)I"⟩
def RX6 : String := "FlotsamWillModel"
def TX6 : u_T := fun k => match k with
  | 0 => ("FlotsamWillModel", "state", "[I", true)
  | 1 => ("FlotsamWillModel", "windages", "[I", true)
  | 2 => ("FlotsamWillModel", "heirMany", "I", false)
  | 3 => ("FlotsamWillModel", "readPage", "[I", true)
  | 4 => ("FlotsamWillModel", "readHeirs", "I", false)
  | 5 => ("FlotsamWillModel", "rowsTold", "I", false)
  | 6 => ("FlotsamWillModel", "hoursTold", "I", false)
  | 7 => ("FlotsamWillModel", "isPhaseTold", "Z", false)
  | 8 => ("FlotsamWillModel", "tape", "[I", true)
  | 9 => ("FlotsamWillModel", "taped", "I", false)
  | 10 => ("FlotsamWillModel", "fault", "I", false)
  | 11 => ("FlotsamWillModel", "broken", "I", false)
  | 12 => ("FlotsamWillModel", "brokenAt", "I", false)
  | 13 => ("FlotsamWillModel", "spot", "I", false)
  | 14 => ("FlotsamWillModel", "here", "I", false)
  | 15 => ("FlotsamWillModel", "token", "I", false)
  | 16 => ("FlotsamWillModel", "value", "I", false)
  | 17 => ("FlotsamWillModel", "cuts", "[I", true)
  | 18 => ("FlotsamWillModel", "letters", "[I", true)
  | 19 => ("FlotsamWillModel", "x", "[I", true)
  | 20 => ("FlotsamWillModel", "y", "[I", true)
  | 21 => ("FlotsamWillModel", "way", "[I", true)
  | 22 => ("FlotsamWillModel", "came", "[I", true)
  | 23 => ("FlotsamWillModel", "whose", "[I", true)
  | 24 => ("FlotsamWillModel", "hookedAt", "[I", true)
  | 25 => ("FlotsamWillModel", "dropped", "I", false)
  | 26 => ("FlotsamWillModel", "firsts", "[I", true)
  | 27 => ("FlotsamWillModel", "seconds", "[I", true)
  | 28 => ("FlotsamWillModel", "seen", "[I", true)
  | 29 => ("FlotsamWillModel", "seenMany", "I", false)
  | 30 => ("FlotsamWillModel", "eastBy", "[I", true)
  | 31 => ("FlotsamWillModel", "isKept", "[Z", true)
  | 32 => ("FlotsamWillModel", "lanes", "[I", true)
  | 33 => ("FlotsamWillModel", "lengths", "[I", true)
  | 34 => ("FlotsamWillModel", "cells", "[I", true)
  | _ => ("FlotsamWillModel", "torn", "I", false)
def tyX6 : Nat → FieldType := fun k => match k with
  | 0 => .array .int
  | 1 => .array .int
  | 2 => .int
  | 3 => .array .int
  | 4 => .int
  | 5 => .int
  | 6 => .int
  | 7 => .boolean
  | 8 => .array .int
  | 9 => .int
  | 10 => .int
  | 11 => .int
  | 12 => .int
  | 13 => .int
  | 14 => .int
  | 15 => .int
  | 16 => .int
  | 17 => .array .int
  | 18 => .array .int
  | 19 => .array .int
  | 20 => .array .int
  | 21 => .array .int
  | 22 => .array .int
  | 23 => .array .int
  | 24 => .array .int
  | 25 => .int
  | 26 => .array .int
  | 27 => .array .int
  | 28 => .array .int
  | 29 => .int
  | 30 => .array .int
  | 31 => .array .boolean
  | 32 => .array .int
  | 33 => .array .int
  | 34 => .array .int
  | _ => .int
abbrev wsX60 : List Cond := u_ws RX6 TX6 36
theorem nmX6 : ∀ a, a < 36 → ∀ b, b < 36 → a ≠ b → (TX6 a).2.1 ≠ (TX6 b).2.1 := by decide +kernel
theorem tyX6_ok : ∀ k, k < 36 → parseFieldDescriptor (TX6 k).2.2.1 = some (tyX6 k) := by decide +kernel
abbrev cX6_init : ByteArray := prog_8_method_1_code
def yX6_init : MethodName := ⟨RX6, "<init>", "()V"⟩
abbrev cX6_in : ByteArray := prog_8_method_3_code
def yX6_in : MethodName := ⟨RX6, "in", "(JJJ)Z"⟩
abbrev cX6_feed : ByteArray := prog_8_method_4_code
def yX6_feed : MethodName := ⟨RX6, "feed", "(I)I"⟩
abbrev cX6_end : ByteArray := prog_8_method_5_code
def yX6_end : MethodName := ⟨RX6, "end", "(I)I"⟩
abbrev cX6_byteAt : ByteArray := prog_8_method_6_code
def yX6_byteAt : MethodName := ⟨RX6, "byteAt", "(I)I"⟩
abbrev cX6_fails : ByteArray := prog_8_method_7_code
def yX6_fails : MethodName := ⟨RX6, "fails", "(I)V"⟩
abbrev cX6_nameHere : ByteArray := prog_8_method_8_code
def yX6_nameHere : MethodName := ⟨RX6, "nameHere", "()I"⟩
abbrev cX6_step : ByteArray := prog_8_method_9_code
def yX6_step : MethodName := ⟨RX6, "step", "()V"⟩
abbrev cX6_other : ByteArray := prog_8_method_10_code
def yX6_other : MethodName := ⟨RX6, "other", "(III)I"⟩
abbrev cX6_readTub : ByteArray := prog_8_method_11_code
def yX6_readTub : MethodName := ⟨RX6, "readTub", "(I)V"⟩
abbrev cX6_readHeir : ByteArray := prog_8_method_12_code
def yX6_readHeir : MethodName := ⟨RX6, "readHeir", "()V"⟩
abbrev cX6_readMore : ByteArray := prog_8_method_13_code
def yX6_readMore : MethodName := ⟨RX6, "readMore", "(I)V"⟩
abbrev cX6_readLine : ByteArray := prog_8_method_14_code
def yX6_readLine : MethodName := ⟨RX6, "readLine", "()V"⟩
abbrev cX6_text : ByteArray := prog_8_method_15_code
def yX6_text : MethodName := ⟨RX6, "text", "()I"⟩
abbrev cX6_fault : ByteArray := prog_8_method_16_code
def yX6_fault : MethodName := ⟨RX6, "fault", "()I"⟩
abbrev cX6_isTub : ByteArray := prog_8_method_17_code
def yX6_isTub : MethodName := ⟨RX6, "isTub", "(I)Z"⟩
abbrev cX6_isHeir : ByteArray := prog_8_method_18_code
def yX6_isHeir : MethodName := ⟨RX6, "isHeir", "(I)Z"⟩
abbrev cX6_isHour : ByteArray := prog_8_method_19_code
def yX6_isHour : MethodName := ⟨RX6, "isHour", "(I)Z"⟩
abbrev cX6_estates : ByteArray := prog_8_method_20_code
def yX6_estates : MethodName := ⟨RX6, "estates", "()I"⟩
abbrev cX6_windyHours : ByteArray := prog_8_method_21_code
def yX6_windyHours : MethodName := ⟨RX6, "windyHours", "()I"⟩
abbrev cX6_bitsOf : ByteArray := prog_8_method_22_code
def yX6_bitsOf : MethodName := ⟨RX6, "bitsOf", "(I)I"⟩
abbrev cX6_rule : ByteArray := prog_8_method_23_code
def yX6_rule : MethodName := ⟨RX6, "rule", "(I)I"⟩
abbrev cX6_tub : ByteArray := prog_8_method_24_code
def yX6_tub : MethodName := ⟨RX6, "tub", "(II)I"⟩
abbrev cX6_heir : ByteArray := prog_8_method_25_code
def yX6_heir : MethodName := ⟨RX6, "heir", "(II)I"⟩
abbrev cX6_current : ByteArray := prog_8_method_26_code
def yX6_current : MethodName := ⟨RX6, "current", "(I)I"⟩
abbrev cX6_wind : ByteArray := prog_8_method_27_code
def yX6_wind : MethodName := ⟨RX6, "wind", "(I)I"⟩
abbrev cX6_puts : ByteArray := prog_8_method_28_code
def yX6_puts : MethodName := ⟨RX6, "puts", "(ZIII)I"⟩
abbrev cX6_alter : ByteArray := prog_8_method_29_code
def yX6_alter : MethodName := ⟨RX6, "alter", "(III)I"⟩
abbrev cX6_stand : ByteArray := prog_8_method_30_code
def yX6_stand : MethodName := ⟨RX6, "stand", "(III)I"⟩
abbrev cX6_set : ByteArray := prog_8_method_31_code
def yX6_set : MethodName := ⟨RX6, "set", "(II)I"⟩
abbrev cX6_blow : ByteArray := prog_8_method_32_code
def yX6_blow : MethodName := ⟨RX6, "blow", "(II)I"⟩
abbrev cX6_phase : ByteArray := prog_8_method_33_code
def yX6_phase : MethodName := ⟨RX6, "phase", "(I)I"⟩
abbrev cX6_casts : ByteArray := prog_8_method_34_code
def yX6_casts : MethodName := ⟨RX6, "casts", "(III)I"⟩
abbrev cX6_cast : ByteArray := prog_8_method_35_code
def yX6_cast : MethodName := ⟨RX6, "cast", "(III)I"⟩
abbrev cX6_sink : ByteArray := prog_8_method_36_code
def yX6_sink : MethodName := ⟨RX6, "sink", "(I)I"⟩
abbrev cX6_drifts : ByteArray := prog_8_method_37_code
def yX6_drifts : MethodName := ⟨RX6, "drifts", "(III)V"⟩
abbrev cX6_hooks : ByteArray := prog_8_method_38_code
def yX6_hooks : MethodName := ⟨RX6, "hooks", "(III)V"⟩
abbrev cX6_dayGoes : ByteArray := prog_8_method_39_code
def yX6_dayGoes : MethodName := ⟨RX6, "dayGoes", "(II)V"⟩
abbrev cX6_estatesOf : ByteArray := prog_8_method_40_code
def yX6_estatesOf : MethodName := ⟨RX6, "estatesOf", "(II)I"⟩
abbrev cX6_worth : ByteArray := prog_8_method_41_code
def yX6_worth : MethodName := ⟨RX6, "worth", "(II)I"⟩
abbrev cX6_tubsOf : ByteArray := prog_8_method_42_code
def yX6_tubsOf : MethodName := ⟨RX6, "tubsOf", "(II)I"⟩
abbrev cX6_fate : ByteArray := prog_8_method_43_code
def yX6_fate : MethodName := ⟨RX6, "fate", "(II)I"⟩
abbrev cX6_where : ByteArray := prog_8_method_44_code
def yX6_where : MethodName := ⟨RX6, "where", "(III)I"⟩
abbrev cX6_has : ByteArray := prog_8_method_45_code
def yX6_has : MethodName := ⟨RX6, "has", "(II)I"⟩
abbrev cX6_all : ByteArray := prog_8_method_46_code
def yX6_all : MethodName := ⟨RX6, "all", "(I)I"⟩
abbrev cX6_copies : ByteArray := prog_8_method_47_code
def yX6_copies : MethodName := ⟨RX6, "copies", "(II)V"⟩
abbrev cX6_isHooked : ByteArray := prog_8_method_48_code
def yX6_isHooked : MethodName := ⟨RX6, "isHooked", "(II)Z"⟩
abbrev cX6_when : ByteArray := prog_8_method_49_code
def yX6_when : MethodName := ⟨RX6, "when", "(II)I"⟩
abbrev cX6_aim : ByteArray := prog_8_method_50_code
def yX6_aim : MethodName := ⟨RX6, "aim", "(II)I"⟩
abbrev cX6_ways : ByteArray := prog_8_method_51_code
def yX6_ways : MethodName := ⟨RX6, "ways", "(II)I"⟩
abbrev cX6_place : ByteArray := prog_8_method_52_code
def yX6_place : MethodName := ⟨RX6, "place", "(II)I"⟩
abbrev cX6_hook : ByteArray := prog_8_method_53_code
def yX6_hook : MethodName := ⟨RX6, "hook", "(II)I"⟩
abbrev cX6_fire : ByteArray := prog_8_method_54_code
def yX6_fire : MethodName := ⟨RX6, "fire", "(II)I"⟩
abbrev cX6_moon : ByteArray := prog_8_method_55_code
def yX6_moon : MethodName := ⟨RX6, "moon", "(I)I"⟩
abbrev cX6_isRest : ByteArray := prog_8_method_56_code
def yX6_isRest : MethodName := ⟨RX6, "isRest", "(II)Z"⟩
abbrev cX6_rest : ByteArray := prog_8_method_57_code
def yX6_rest : MethodName := ⟨RX6, "rest", "(III)I"⟩
abbrev cX6_lowest : ByteArray := prog_8_method_58_code
def yX6_lowest : MethodName := ⟨RX6, "lowest", "(JJI)J"⟩
abbrev cX6_byDrops : ByteArray := prog_8_method_59_code
def yX6_byDrops : MethodName := ⟨RX6, "byDrops", "(IIII)J"⟩
abbrev cX6_luck : ByteArray := prog_8_method_60_code
def yX6_luck : MethodName := ⟨RX6, "luck", "(IIII)J"⟩
abbrev cX6_mean : ByteArray := prog_8_method_61_code
def yX6_mean : MethodName := ⟨RX6, "mean", "(III)J"⟩
abbrev cX6_see : ByteArray := prog_8_method_62_code
def yX6_see : MethodName := ⟨RX6, "see", "(III)I"⟩
abbrev cX6_forget : ByteArray := prog_8_method_63_code
def yX6_forget : MethodName := ⟨RX6, "forget", "(I)I"⟩
abbrev cX6_isAsSeen : ByteArray := prog_8_method_64_code
def yX6_isAsSeen : MethodName := ⟨RX6, "isAsSeen", "()Z"⟩
abbrev cX6_kindsOf : ByteArray := prog_8_method_65_code
def yX6_kindsOf : MethodName := ⟨RX6, "kindsOf", "(I)I"⟩
abbrev cX6_kinds : ByteArray := prog_8_method_66_code
def yX6_kinds : MethodName := ⟨RX6, "kinds", "(I)I"⟩
abbrev cX6_sets : ByteArray := prog_8_method_67_code
def yX6_sets : MethodName := ⟨RX6, "sets", "(I)I"⟩
abbrev cX6_look : ByteArray := prog_8_method_68_code
def yX6_look : MethodName := ⟨RX6, "look", "(II)I"⟩
abbrev cX6_drift : ByteArray := prog_8_method_69_code
def yX6_drift : MethodName := ⟨RX6, "drift", "(III)I"⟩
abbrev cX6_keep : ByteArray := prog_8_method_70_code
def yX6_keep : MethodName := ⟨RX6, "keep", "(I)I"⟩
abbrev cX6_back : ByteArray := prog_8_method_71_code
def yX6_back : MethodName := ⟨RX6, "back", "(I)I"⟩
abbrev cX6_sheet : ByteArray := prog_8_method_72_code
def yX6_sheet : MethodName := ⟨RX6, "sheet", "(III)I"⟩
abbrev cX6_lay : ByteArray := prog_8_method_73_code
def yX6_lay : MethodName := ⟨RX6, "lay", "(III)I"⟩
abbrev cX6_read : ByteArray := prog_8_method_74_code
def yX6_read : MethodName := ⟨RX6, "read", "(IIII)I"⟩
abbrev cX6_torn : ByteArray := prog_8_method_75_code
def yX6_torn : MethodName := ⟨RX6, "torn", "()I"⟩
abbrev cX6_count : ByteArray := prog_8_method_76_code
def yX6_count : MethodName := ⟨RX6, "count", "(I)I"⟩
def RJ6 : String := "java/lang/Integer"
def TJ6 : u_T := fun k => match k with
  | _ => ("", "", "", false)
def tyJ6 : Nat → FieldType := fun k => match k with
  | _ => .int
abbrev wsJ60 : List Cond := u_ws RJ6 TJ6 0
theorem nmJ6 : ∀ a, a < 0 → ∀ b, b < 0 → a ≠ b → (TJ6 a).2.1 ≠ (TJ6 b).2.1 := by decide +kernel
theorem tyJ6_ok : ∀ k, k < 0 → parseFieldDescriptor (TJ6 k).2.2.1 = some (tyJ6 k) := by decide +kernel
abbrev cJ6_bitCount_0f7a4 : ByteArray := prog_9_method_49_code
def yJ6_bitCount_0f7a4 : MethodName := ⟨RJ6, "bitCount", "(I)I"⟩
def RJ9 : String := "java/lang/Math"
def TJ9 : u_T := fun k => match k with
  | _ => ("", "", "", false)
def tyJ9 : Nat → FieldType := fun k => match k with
  | _ => .int
abbrev wsJ90 : List Cond := u_ws RJ9 TJ9 0
theorem nmJ9 : ∀ a, a < 0 → ∀ b, b < 0 → a ≠ b → (TJ9 a).2.1 ≠ (TJ9 b).2.1 := by decide +kernel
theorem tyJ9_ok : ∀ k, k < 0 → parseFieldDescriptor (TJ9 k).2.2.1 = some (tyJ9 k) := by decide +kernel
abbrev cJ9_abs_0f7a4 : ByteArray := prog_10_method_59_code
def yJ9_abs_0f7a4 : MethodName := ⟨RJ9, "abs", "(I)I"⟩
abbrev cJ9_max_7cf53 : ByteArray := prog_10_method_65_code
def yJ9_max_7cf53 : MethodName := ⟨RJ9, "max", "(II)I"⟩
abbrev cJ9_min_7cf53 : ByteArray := prog_10_method_69_code
def yJ9_min_7cf53 : MethodName := ⟨RJ9, "min", "(II)I"⟩
def RJ0 : String := "java/lang/String"
def TJ0 : u_T := fun k => match k with
  | _ => ("", "", "", false)
def tyJ0 : Nat → FieldType := fun k => match k with
  | _ => .int
abbrev wsJ00 : List Cond := u_ws RJ0 TJ0 0
theorem nmJ0 : ∀ a, a < 0 → ∀ b, b < 0 → a ≠ b → (TJ0 a).2.1 ≠ (TJ0 b).2.1 := by decide +kernel
theorem tyJ0_ok : ∀ k, k < 0 → parseFieldDescriptor (TJ0 k).2.2.1 = some (tyJ0 k) := by decide +kernel
abbrev cJ0_length_8abf5 : ByteArray := prog_11_method_54_code
def yJ0_length_8abf5 : MethodName := ⟨RJ0, "length", "()I"⟩
abbrev cJ0_charAt_5068e : ByteArray := prog_11_method_56_code
def yJ0_charAt_5068e : MethodName := ⟨RJ0, "charAt", "(I)C"⟩
abbrev cJ0_coder_7d493 : ByteArray := prog_11_method_152_code
def yJ0_coder_7d493 : MethodName := ⟨RJ0, "coder", "()B"⟩
abbrev cJ0_isLatin1_aae02 : ByteArray := prog_11_method_154_code
def yJ0_isLatin1_aae02 : MethodName := ⟨RJ0, "isLatin1", "()Z"⟩
abbrev cJ0_checkIndex_df160 : ByteArray := prog_11_method_155_code
def yJ0_checkIndex_df160 : MethodName := ⟨RJ0, "checkIndex", "(II)V"⟩
def RJ1 : String := "java/lang/StringLatin1"
def TJ1 : u_T := fun k => match k with
  | _ => ("", "", "", false)
def tyJ1 : Nat → FieldType := fun k => match k with
  | _ => .int
abbrev wsJ10 : List Cond := u_ws RJ1 TJ1 0
theorem nmJ1 : ∀ a, a < 0 → ∀ b, b < 0 → a ≠ b → (TJ1 a).2.1 ≠ (TJ1 b).2.1 := by decide +kernel
theorem tyJ1_ok : ∀ k, k < 0 → parseFieldDescriptor (TJ1 k).2.2.1 = some (tyJ1 k) := by decide +kernel
abbrev cJ1_charAt_3b067 : ByteArray := prog_12_method_2_code
def yJ1_charAt_3b067 : MethodName := ⟨RJ1, "charAt", "([BI)C"⟩
def RJ2 : String := "java/lang/StringUTF16"
def TJ2 : u_T := fun k => match k with
  | _ => ("", "", "", false)
def tyJ2 : Nat → FieldType := fun k => match k with
  | _ => .int
abbrev wsJ20 : List Cond := u_ws RJ2 TJ2 0
theorem nmJ2 : ∀ a, a < 0 → ∀ b, b < 0 → a ≠ b → (TJ2 a).2.1 ≠ (TJ2 b).2.1 := by decide +kernel
theorem tyJ2_ok : ∀ k, k < 0 → parseFieldDescriptor (TJ2 k).2.2.1 = some (tyJ2 k) := by decide +kernel
abbrev cJ2_getChar_3b067 : ByteArray := prog_13_method_5_code
def yJ2_getChar_3b067 : MethodName := ⟨RJ2, "getChar", "([BI)C"⟩
abbrev cJ2_length_9d52b : ByteArray := prog_13_method_6_code
def yJ2_length_9d52b : MethodName := ⟨RJ2, "length", "([B)I"⟩
abbrev cJ2_charAt_3b067 : ByteArray := prog_13_method_83_code
def yJ2_charAt_3b067 : MethodName := ⟨RJ2, "charAt", "([BI)C"⟩
abbrev cJ2_checkIndex_2214a : ByteArray := prog_13_method_91_code
def yJ2_checkIndex_2214a : MethodName := ⟨RJ2, "checkIndex", "(I[B)V"⟩
def RJ10 : String := "java/lang/System"
def TJ10 : u_T := fun k => match k with
  | _ => ("", "", "", false)
def tyJ10 : Nat → FieldType := fun k => match k with
  | _ => .int
abbrev wsJ100 : List Cond := u_ws RJ10 TJ10 0
theorem nmJ10 : ∀ a, a < 0 → ∀ b, b < 0 → a ≠ b → (TJ10 a).2.1 ≠ (TJ10 b).2.1 := by decide +kernel
theorem tyJ10_ok : ∀ k, k < 0 → parseFieldDescriptor (TJ10 k).2.2.1 = some (tyJ10 k) := by decide +kernel
def RJ3 : String := "jdk/internal/util/Preconditions"
def TJ3 : u_T := fun k => match k with
  | _ => ("", "", "", false)
def tyJ3 : Nat → FieldType := fun k => match k with
  | _ => .int
abbrev wsJ30 : List Cond := u_ws RJ3 TJ3 0
theorem nmJ3 : ∀ a, a < 0 → ∀ b, b < 0 → a ≠ b → (TJ3 a).2.1 ≠ (TJ3 b).2.1 := by decide +kernel
theorem tyJ3_ok : ∀ k, k < 0 → parseFieldDescriptor (TJ3 k).2.2.1 = some (tyJ3 k) := by decide +kernel
abbrev cJ3_checkIndex_8e157 : ByteArray := prog_15_method_11_code
def yJ3_checkIndex_8e157 : MethodName := ⟨RJ3, "checkIndex", "(IILjava/util/function/BiFunction;)I"⟩
def RL : String := "FlotsamWillLaw"
abbrev cL_law : ByteArray := code
def yL_law : MethodName := ⟨RL, "law", "([I)Z"⟩
abbrev vwCl : List vw_C := [(RX0, TX0, 6), (RX1, TX1, 7), (RX2, TX2, 7), (RX3, TX3, 3), (RX4, TX4, 6), (RX5, TX5, 17), (RX6, TX6, 36)]
